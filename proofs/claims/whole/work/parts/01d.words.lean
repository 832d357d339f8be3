/-! THE WORDS that every method here has: the tables' own, by their places -/
def u_big : List Cond := lw_tbl.filter goodWord
theorem u_t1 {i : Nat} {w : Cond} (h : tables_1_1[i]? = some w) (hg : goodWord w = true) : w ∈ u_big := by
  have h := List.mem_of_getElem? h
  exact List.mem_filter.mpr ⟨List.mem_append_right _ (List.mem_append_left _ h), hg⟩
theorem u_t2 {i : Nat} {w : Cond} (h : tables_1_2[i]? = some w) (hg : goodWord w = true) : w ∈ u_big := by
  have h := List.mem_of_getElem? h
  exact List.mem_filter.mpr ⟨List.mem_append_right _ (List.mem_append_right _ (List.mem_append_left _ h)), hg⟩
theorem u_t3 {i : Nat} {w : Cond} (h : tables_1_3[i]? = some w) (hg : goodWord w = true) : w ∈ u_big := by
  have h := List.mem_of_getElem? h
  exact List.mem_filter.mpr ⟨List.mem_append_right _ (List.mem_append_right _ (List.mem_append_right _ (List.mem_append_left _ h))), hg⟩
theorem u_t4 {i : Nat} {w : Cond} (h : tables_1_4[i]? = some w) (hg : goodWord w = true) : w ∈ u_big := by
  have h := List.mem_of_getElem? h
  exact List.mem_filter.mpr ⟨List.mem_append_right _ (List.mem_append_right _ (List.mem_append_right _ (List.mem_append_right _ (List.mem_append_left _ h)))), hg⟩
theorem u_t5 {i : Nat} {w : Cond} (h : tables_1_5[i]? = some w) (hg : goodWord w = true) : w ∈ u_big := by
  have h := List.mem_of_getElem? h
  exact List.mem_filter.mpr ⟨List.mem_append_right _ (List.mem_append_right _ (List.mem_append_right _ (List.mem_append_right _ (List.mem_append_right _ (List.mem_append_left _ h))))), hg⟩
theorem u_t6 {i : Nat} {w : Cond} (h : tables_1_6[i]? = some w) (hg : goodWord w = true) : w ∈ u_big := by
  have h := List.mem_of_getElem? h
  exact List.mem_filter.mpr ⟨List.mem_append_right _ (List.mem_append_right _ (List.mem_append_right _ (List.mem_append_right _ (List.mem_append_right _ (List.mem_append_right _ (List.mem_append_left _ h)))))), hg⟩
theorem u_t7 {i : Nat} {w : Cond} (h : tables_1_7[i]? = some w) (hg : goodWord w = true) : w ∈ u_big := by
  have h := List.mem_of_getElem? h
  exact List.mem_filter.mpr ⟨List.mem_append_right _ (List.mem_append_right _ (List.mem_append_right _ (List.mem_append_right _ (List.mem_append_right _ (List.mem_append_right _ (List.mem_append_right _ (h))))))), hg⟩
theorem u_tp {i : Nat} {w : Cond} (h : (k2_sels lw_privs)[i]? = some w) (hg : goodWord w = true) : w ∈ u_big := List.mem_filter.mpr ⟨List.mem_append_left _ (List.mem_of_getElem? h), hg⟩
theorem q_0 : (Jvm.Cond.initialized "RopeRemembersLaw") ∈ u_big := u_t1 (i := 0) rfl rfl
theorem q_1 : (Jvm.Cond.initialized "RopeRemembers") ∈ u_big := u_t1 (i := 1) rfl rfl
theorem q_2 : (Jvm.Cond.initialized "RopeRemembers$Words") ∈ u_big := u_t1 (i := 2) rfl rfl
theorem q_3 : (Jvm.Cond.initialized "RopeRemembers$Told") ∈ u_big := u_t1 (i := 3) rfl rfl
theorem q_4 : (Jvm.Cond.initialized "RopeRemembers$State") ∈ u_big := u_t1 (i := 4) rfl rfl
theorem q_5 : (Jvm.Cond.initialized "RopeRemembers$Past") ∈ u_big := u_t1 (i := 5) rfl rfl
theorem q_6 : (Jvm.Cond.initialized "RopeRemembers$Digs") ∈ u_big := u_t1 (i := 6) rfl rfl
theorem q_7 : (Jvm.Cond.initialized "RopeRemembers$Reader") ∈ u_big := u_t1 (i := 7) rfl rfl
theorem q_8 : (Jvm.Cond.initialized "RopeRemembers$FieldReader") ∈ u_big := u_t1 (i := 8) rfl rfl
theorem q_9 : (Jvm.Cond.initialized "RopeRemembers$PeopleReader") ∈ u_big := u_t1 (i := 9) rfl rfl
theorem q_10 : (Jvm.Cond.initialized "RopeRemembers$WeekReader") ∈ u_big := u_t1 (i := 10) rfl rfl
theorem q_11 : (Jvm.Cond.initialized "RopeRemembers$Draws") ∈ u_big := u_t1 (i := 11) rfl rfl
theorem q_12 : (Jvm.Cond.initialized "RopeRemembers$Rule") ∈ u_big := u_t1 (i := 12) rfl rfl
theorem q_13 : (Jvm.Cond.initialized "RopeRemembersModel") ∈ u_big := u_t1 (i := 13) rfl rfl
theorem q_14 : (Jvm.Cond.initialized "java/lang/Math") ∈ u_big := u_t1 (i := 14) rfl rfl
theorem q_15 : (Jvm.Cond.initialized "java/lang/Throwable") ∈ u_big := u_t1 (i := 15) rfl rfl
theorem q_16 : (Jvm.Cond.initialized "java/lang/Exception") ∈ u_big := u_t1 (i := 16) rfl rfl
theorem q_17 : (Jvm.Cond.initialized "java/lang/RuntimeException") ∈ u_big := u_t1 (i := 17) rfl rfl
theorem q_18 : (Jvm.Cond.initialized "java/util/NoSuchElementException") ∈ u_big := u_t1 (i := 18) rfl rfl
theorem q_19 : (Jvm.Cond.initialized "java/lang/Integer") ∈ u_big := u_t1 (i := 19) rfl rfl
theorem q_20 : (Jvm.Cond.initialized "java/lang/System") ∈ u_big := u_t1 (i := 20) rfl rfl
theorem q_21 : (Jvm.Cond.classLink "RopeRemembersLaw" (8 : Nat) "RopeRemembers") ∈ u_big := u_t1 (i := 21) rfl rfl
theorem q_22 : (Jvm.Cond.instantiable "RopeRemembers" (15 : Nat)) ∈ u_big := u_t1 (i := 22) rfl rfl
theorem q_23 : (Jvm.Cond.methodLink "RopeRemembersLaw" (22 : Nat) ({ cls := "RopeRemembers", name := "<init>", desc := "()V" } : Jvm.MethodName)) ∈ u_big := u_t1 (i := 23) rfl rfl
theorem q_24 : (Jvm.Cond.instanceMethod ({ cls := "RopeRemembers", name := "<init>", desc := "()V" } : Jvm.MethodName)) ∈ u_big := u_t1 (i := 24) rfl rfl
theorem q_25 : (Jvm.Cond.code ({ cls := "RopeRemembers", name := "<init>", desc := "()V" } : Jvm.MethodName) prog_1_method_1_code (1 : Nat) (Option.none : Option Jvm.ClassFile.FieldType)) ∈ u_big := u_t1 (i := 25) rfl rfl
theorem q_26 : (Jvm.Cond.methodLink "RopeRemembers" (1 : Nat) ({ cls := "java/lang/Object", name := "<init>", desc := "()V" } : Jvm.MethodName)) ∈ u_big := u_t1 (i := 26) rfl rfl
theorem q_27 : (Jvm.Cond.instanceMethod ({ cls := "java/lang/Object", name := "<init>", desc := "()V" } : Jvm.MethodName)) ∈ u_big := u_t1 (i := 27) rfl rfl
theorem q_28 : (Jvm.Cond.code ({ cls := "java/lang/Object", name := "<init>", desc := "()V" } : Jvm.MethodName) object_method_1_code (1 : Nat) (Option.none : Option Jvm.ClassFile.FieldType)) ∈ u_big := u_t1 (i := 28) rfl rfl
theorem q_29 : (Jvm.Cond.classLink "RopeRemembers" (7 : Nat) "RopeRemembers$Words") ∈ u_big := u_t1 (i := 29) rfl rfl
theorem q_30 : (Jvm.Cond.instantiable "RopeRemembers$Words" (2 : Nat)) ∈ u_big := u_t1 (i := 30) rfl rfl
theorem q_32 : (Jvm.Cond.instanceMethod ({ cls := "RopeRemembers$Words", name := "<init>", desc := "()V" } : Jvm.MethodName)) ∈ u_big := u_t1 (i := 32) rfl rfl
theorem q_33 : (Jvm.Cond.code ({ cls := "RopeRemembers$Words", name := "<init>", desc := "()V" } : Jvm.MethodName) prog_12_method_1_code (1 : Nat) (Option.none : Option Jvm.ClassFile.FieldType)) ∈ u_big := u_t1 (i := 33) rfl rfl
theorem q_34 : (Jvm.Cond.methodLink "RopeRemembers$Words" (3 : Nat) ({ cls := "java/lang/Object", name := "<init>", desc := "()V" } : Jvm.MethodName)) ∈ u_big := u_t1 (i := 34) rfl rfl
theorem q_35 : (Jvm.Cond.fieldLink "RopeRemembers$Words" (9 : Nat) "RopeRemembers$Words" "signs" "[I") ∈ u_big := u_t1 (i := 35) rfl rfl
theorem q_36 : (Jvm.Cond.fieldLink "RopeRemembers$Words" (15 : Nat) "RopeRemembers$Words" "length" "I") ∈ u_big := u_t1 (i := 36) rfl rfl
theorem q_39 : (Jvm.Cond.laysFinal "RopeRemembers$Words" "RopeRemembers$Words" "signs" "[I") ∈ u_big := u_t1 (i := 39) rfl rfl
theorem q_41 : (Jvm.Cond.lays "RopeRemembers$Words" "RopeRemembers$Words" "length" "I") ∈ u_big := u_t1 (i := 41) rfl rfl
theorem q_43 : (Jvm.Cond.superclass "RopeRemembers$Words" "java/lang/Object") ∈ u_big := u_t1 (i := 43) rfl rfl
theorem q_44 : (Jvm.Cond.arrayClass Jvm.ClassFile.FieldType.int) ∈ u_big := u_t1 (i := 44) rfl rfl
theorem q_45 : (Jvm.Cond.classLink "RopeRemembers" (16 : Nat) "RopeRemembers$Told") ∈ u_big := u_t1 (i := 45) rfl rfl
theorem q_46 : (Jvm.Cond.instantiable "RopeRemembers$Told" (2 : Nat)) ∈ u_big := u_t1 (i := 46) rfl rfl
theorem q_48 : (Jvm.Cond.instanceMethod ({ cls := "RopeRemembers$Told", name := "<init>", desc := "()V" } : Jvm.MethodName)) ∈ u_big := u_t1 (i := 48) rfl rfl
theorem q_49 : (Jvm.Cond.code ({ cls := "RopeRemembers$Told", name := "<init>", desc := "()V" } : Jvm.MethodName) prog_10_method_1_code (1 : Nat) (Option.none : Option Jvm.ClassFile.FieldType)) ∈ u_big := u_t1 (i := 49) rfl rfl
theorem q_50 : (Jvm.Cond.methodLink "RopeRemembers$Told" (3 : Nat) ({ cls := "java/lang/Object", name := "<init>", desc := "()V" } : Jvm.MethodName)) ∈ u_big := u_t1 (i := 50) rfl rfl
theorem q_51 : (Jvm.Cond.fieldLink "RopeRemembers$Told" (9 : Nat) "RopeRemembers$Told" "numbers" "[J") ∈ u_big := u_t1 (i := 51) rfl rfl
theorem q_52 : (Jvm.Cond.fieldLink "RopeRemembers$Told" (15 : Nat) "RopeRemembers$Told" "size" "I") ∈ u_big := u_t1 (i := 52) rfl rfl
theorem q_54 : (Jvm.Cond.laysFinal "RopeRemembers$Told" "RopeRemembers$Told" "numbers" "[J") ∈ u_big := u_t1 (i := 54) rfl rfl
theorem q_56 : (Jvm.Cond.lays "RopeRemembers$Told" "RopeRemembers$Told" "size" "I") ∈ u_big := u_t1 (i := 56) rfl rfl
theorem q_58 : (Jvm.Cond.superclass "RopeRemembers$Told" "java/lang/Object") ∈ u_big := u_t1 (i := 58) rfl rfl
theorem q_59 : (Jvm.Cond.arrayClass Jvm.ClassFile.FieldType.long) ∈ u_big := u_t1 (i := 59) rfl rfl
theorem q_60 : (Jvm.Cond.classLink "RopeRemembers" (23 : Nat) "RopeRemembers$State") ∈ u_big := u_t1 (i := 60) rfl rfl
theorem q_61 : (Jvm.Cond.instantiable "RopeRemembers$State" (12 : Nat)) ∈ u_big := u_t1 (i := 61) rfl rfl
theorem q_63 : (Jvm.Cond.instanceMethod ({ cls := "RopeRemembers$State", name := "<init>", desc := "()V" } : Jvm.MethodName)) ∈ u_big := u_t1 (i := 63) rfl rfl
theorem q_64 : (Jvm.Cond.code ({ cls := "RopeRemembers$State", name := "<init>", desc := "()V" } : Jvm.MethodName) prog_9_method_1_code (1 : Nat) (Option.none : Option Jvm.ClassFile.FieldType)) ∈ u_big := u_t1 (i := 64) rfl rfl
theorem q_65 : (Jvm.Cond.methodLink "RopeRemembers$State" (3 : Nat) ({ cls := "java/lang/Object", name := "<init>", desc := "()V" } : Jvm.MethodName)) ∈ u_big := u_t1 (i := 65) rfl rfl
theorem q_66 : (Jvm.Cond.fieldLink "RopeRemembers$State" (9 : Nat) "RopeRemembers$State" "corn" "[I") ∈ u_big := u_t1 (i := 66) rfl rfl
theorem q_68 : (Jvm.Cond.fieldLink "RopeRemembers$State" (15 : Nat) "RopeRemembers$State" "belief" "[I") ∈ u_big := u_t1 (i := 68) rfl rfl
theorem q_71 : (Jvm.Cond.fieldLink "RopeRemembers$State" (18 : Nat) "RopeRemembers$State" "coming" "[I") ∈ u_big := u_t1 (i := 71) rfl rfl
theorem q_72 : (Jvm.Cond.fieldLink "RopeRemembers$State" (21 : Nat) "RopeRemembers$State" "edge" "[I") ∈ u_big := u_t1 (i := 72) rfl rfl
theorem q_75 : (Jvm.Cond.fieldLink "RopeRemembers$State" (24 : Nat) "RopeRemembers$State" "seen" "[I") ∈ u_big := u_t1 (i := 75) rfl rfl
theorem q_78 : (Jvm.Cond.fieldLink "RopeRemembers$State" (27 : Nat) "RopeRemembers$State" "furrows" "I") ∈ u_big := u_t1 (i := 78) rfl rfl
theorem q_80 : (Jvm.Cond.fieldLink "RopeRemembers$State" (37 : Nat) "RopeRemembers$State" "left" "I") ∈ u_big := u_t1 (i := 80) rfl rfl
theorem q_82 : (Jvm.Cond.fieldLink "RopeRemembers$State" (40 : Nat) "RopeRemembers$State" "right" "I") ∈ u_big := u_t1 (i := 82) rfl rfl
theorem q_84 : (Jvm.Cond.fieldLink "RopeRemembers$State" (43 : Nat) "RopeRemembers$State" "people" "I") ∈ u_big := u_t1 (i := 84) rfl rfl
theorem q_87 : (Jvm.Cond.fieldLink "RopeRemembers$State" (46 : Nat) "RopeRemembers$State" "signs" "I") ∈ u_big := u_t1 (i := 87) rfl rfl
theorem q_90 : (Jvm.Cond.fieldLink "RopeRemembers$State" (49 : Nat) "RopeRemembers$State" "day" "I") ∈ u_big := u_t1 (i := 90) rfl rfl
theorem q_93 : (Jvm.Cond.fieldLink "RopeRemembers$State" (52 : Nat) "RopeRemembers$State" "paid" "I") ∈ u_big := u_t1 (i := 93) rfl rfl
theorem q_95 : (Jvm.Cond.laysFinal "RopeRemembers$State" "RopeRemembers$State" "corn" "[I") ∈ u_big := u_t1 (i := 95) rfl rfl
theorem q_97 : (Jvm.Cond.laysFinal "RopeRemembers$State" "RopeRemembers$State" "belief" "[I") ∈ u_big := u_t1 (i := 97) rfl rfl
theorem q_99 : (Jvm.Cond.laysFinal "RopeRemembers$State" "RopeRemembers$State" "coming" "[I") ∈ u_big := u_t1 (i := 99) rfl rfl
theorem q_101 : (Jvm.Cond.laysFinal "RopeRemembers$State" "RopeRemembers$State" "edge" "[I") ∈ u_big := u_t1 (i := 101) rfl rfl
theorem q_103 : (Jvm.Cond.laysFinal "RopeRemembers$State" "RopeRemembers$State" "seen" "[I") ∈ u_big := u_t1 (i := 103) rfl rfl
theorem q_105 : (Jvm.Cond.lays "RopeRemembers$State" "RopeRemembers$State" "furrows" "I") ∈ u_big := u_t1 (i := 105) rfl rfl
theorem q_107 : (Jvm.Cond.lays "RopeRemembers$State" "RopeRemembers$State" "left" "I") ∈ u_big := u_t1 (i := 107) rfl rfl
theorem q_109 : (Jvm.Cond.lays "RopeRemembers$State" "RopeRemembers$State" "right" "I") ∈ u_big := u_t1 (i := 109) rfl rfl
theorem q_111 : (Jvm.Cond.lays "RopeRemembers$State" "RopeRemembers$State" "people" "I") ∈ u_big := u_t1 (i := 111) rfl rfl
theorem q_113 : (Jvm.Cond.lays "RopeRemembers$State" "RopeRemembers$State" "signs" "I") ∈ u_big := u_t1 (i := 113) rfl rfl
theorem q_115 : (Jvm.Cond.lays "RopeRemembers$State" "RopeRemembers$State" "day" "I") ∈ u_big := u_t1 (i := 115) rfl rfl
theorem q_117 : (Jvm.Cond.lays "RopeRemembers$State" "RopeRemembers$State" "paid" "I") ∈ u_big := u_t1 (i := 117) rfl rfl
theorem q_119 : (Jvm.Cond.superclass "RopeRemembers$State" "java/lang/Object") ∈ u_big := u_t1 (i := 119) rfl rfl
theorem q_120 : (Jvm.Cond.classLink "RopeRemembers" (36 : Nat) "RopeRemembers$Past") ∈ u_big := u_t1 (i := 120) rfl rfl
theorem q_121 : (Jvm.Cond.instantiable "RopeRemembers$Past" (4 : Nat)) ∈ u_big := u_t1 (i := 121) rfl rfl
theorem q_122 : (Jvm.Cond.methodLink "RopeRemembers" (38 : Nat) ({ cls := "RopeRemembers$Past", name := "<init>", desc := "()V" } : Jvm.MethodName)) ∈ u_big := u_t1 (i := 122) rfl rfl
theorem q_123 : (Jvm.Cond.instanceMethod ({ cls := "RopeRemembers$Past", name := "<init>", desc := "()V" } : Jvm.MethodName)) ∈ u_big := u_t1 (i := 123) rfl rfl
theorem q_124 : (Jvm.Cond.code ({ cls := "RopeRemembers$Past", name := "<init>", desc := "()V" } : Jvm.MethodName) prog_5_method_1_code (2 : Nat) (Option.none : Option Jvm.ClassFile.FieldType)) ∈ u_big := u_t1 (i := 124) rfl rfl
theorem q_125 : (Jvm.Cond.methodLink "RopeRemembers$Past" (3 : Nat) ({ cls := "java/lang/Object", name := "<init>", desc := "()V" } : Jvm.MethodName)) ∈ u_big := u_t1 (i := 125) rfl rfl
theorem q_126 : (Jvm.Cond.classLink "RopeRemembers$Past" (9 : Nat) "RopeRemembers$State") ∈ u_big := u_t1 (i := 126) rfl rfl
theorem q_129 : (Jvm.Cond.fieldLink "RopeRemembers$Past" (11 : Nat) "RopeRemembers$Past" "steps" "[LRopeRemembers$State;") ∈ u_big := u_t1 (i := 129) rfl rfl
theorem q_130 : (Jvm.Cond.fieldLink "RopeRemembers$Past" (17 : Nat) "RopeRemembers$Past" "kept" "[LRopeRemembers$State;") ∈ u_big := u_t1 (i := 130) rfl rfl
theorem q_131 : (Jvm.Cond.fieldLink "RopeRemembers$Past" (21 : Nat) "RopeRemembers$Past" "size" "I") ∈ u_big := u_t1 (i := 131) rfl rfl
theorem q_133 : (Jvm.Cond.fieldLink "RopeRemembers$Past" (25 : Nat) "RopeRemembers$Past" "keptBits" "I") ∈ u_big := u_t1 (i := 133) rfl rfl
theorem q_134 : (Jvm.Cond.laysFinal "RopeRemembers$Past" "RopeRemembers$Past" "steps" "[LRopeRemembers$State;") ∈ u_big := u_t1 (i := 134) rfl rfl
theorem q_136 : (Jvm.Cond.laysFinal "RopeRemembers$Past" "RopeRemembers$Past" "kept" "[LRopeRemembers$State;") ∈ u_big := u_t1 (i := 136) rfl rfl
theorem q_138 : (Jvm.Cond.lays "RopeRemembers$Past" "RopeRemembers$Past" "size" "I") ∈ u_big := u_t1 (i := 138) rfl rfl
theorem q_140 : (Jvm.Cond.lays "RopeRemembers$Past" "RopeRemembers$Past" "keptBits" "I") ∈ u_big := u_t1 (i := 140) rfl rfl
theorem q_142 : (Jvm.Cond.superclass "RopeRemembers$Past" "java/lang/Object") ∈ u_big := u_t1 (i := 142) rfl rfl
theorem q_143 : (Jvm.Cond.classLink "RopeRemembers" (43 : Nat) "RopeRemembers$Digs") ∈ u_big := u_t1 (i := 143) rfl rfl
theorem q_144 : (Jvm.Cond.instantiable "RopeRemembers$Digs" (3 : Nat)) ∈ u_big := u_t1 (i := 144) rfl rfl
theorem q_146 : (Jvm.Cond.instanceMethod ({ cls := "RopeRemembers$Digs", name := "<init>", desc := "()V" } : Jvm.MethodName)) ∈ u_big := u_t1 (i := 146) rfl rfl
theorem q_147 : (Jvm.Cond.code ({ cls := "RopeRemembers$Digs", name := "<init>", desc := "()V" } : Jvm.MethodName) prog_2_method_1_code (1 : Nat) (Option.none : Option Jvm.ClassFile.FieldType)) ∈ u_big := u_t1 (i := 147) rfl rfl
theorem q_148 : (Jvm.Cond.methodLink "RopeRemembers$Digs" (1 : Nat) ({ cls := "java/lang/Object", name := "<init>", desc := "()V" } : Jvm.MethodName)) ∈ u_big := u_t1 (i := 148) rfl rfl
theorem q_149 : (Jvm.Cond.fieldLink "RopeRemembers$Digs" (7 : Nat) "RopeRemembers$Digs" "size" "I") ∈ u_big := u_t1 (i := 149) rfl rfl
theorem q_151 : (Jvm.Cond.fieldLink "RopeRemembers$Digs" (13 : Nat) "RopeRemembers$Digs" "stones" "I") ∈ u_big := u_t1 (i := 151) rfl rfl
theorem q_152 : (Jvm.Cond.fieldLink "RopeRemembers$Digs" (16 : Nat) "RopeRemembers$Digs" "bare" "I") ∈ u_big := u_t1 (i := 152) rfl rfl
theorem q_153 : (Jvm.Cond.lays "RopeRemembers$Digs" "RopeRemembers$Digs" "size" "I") ∈ u_big := u_t1 (i := 153) rfl rfl
theorem q_155 : (Jvm.Cond.lays "RopeRemembers$Digs" "RopeRemembers$Digs" "stones" "I") ∈ u_big := u_t1 (i := 155) rfl rfl
theorem q_157 : (Jvm.Cond.lays "RopeRemembers$Digs" "RopeRemembers$Digs" "bare" "I") ∈ u_big := u_t1 (i := 157) rfl rfl
theorem q_159 : (Jvm.Cond.superclass "RopeRemembers$Digs" "java/lang/Object") ∈ u_big := u_t1 (i := 159) rfl rfl
theorem q_160 : (Jvm.Cond.classLink "RopeRemembers" (50 : Nat) "RopeRemembers$FieldReader") ∈ u_big := u_t1 (i := 160) rfl rfl
theorem q_161 : (Jvm.Cond.instantiable "RopeRemembers$FieldReader" (2 : Nat)) ∈ u_big := u_t1 (i := 161) rfl rfl
theorem q_163 : (Jvm.Cond.instanceMethod ({ cls := "RopeRemembers$FieldReader", name := "<init>", desc := "()V" } : Jvm.MethodName)) ∈ u_big := u_t1 (i := 163) rfl rfl
theorem q_164 : (Jvm.Cond.code ({ cls := "RopeRemembers$FieldReader", name := "<init>", desc := "()V" } : Jvm.MethodName) prog_4_method_1_code (1 : Nat) (Option.none : Option Jvm.ClassFile.FieldType)) ∈ u_big := u_t1 (i := 164) rfl rfl
theorem q_166 : (Jvm.Cond.instanceMethod ({ cls := "RopeRemembers$Reader", name := "<init>", desc := "()V" } : Jvm.MethodName)) ∈ u_big := u_t1 (i := 166) rfl rfl
theorem q_167 : (Jvm.Cond.code ({ cls := "RopeRemembers$Reader", name := "<init>", desc := "()V" } : Jvm.MethodName) prog_7_method_1_code (1 : Nat) (Option.none : Option Jvm.ClassFile.FieldType)) ∈ u_big := u_t1 (i := 167) rfl rfl
theorem q_168 : (Jvm.Cond.methodLink "RopeRemembers$Reader" (3 : Nat) ({ cls := "java/lang/Object", name := "<init>", desc := "()V" } : Jvm.MethodName)) ∈ u_big := u_t1 (i := 168) rfl rfl
theorem q_169 : (Jvm.Cond.fieldLink "RopeRemembers$FieldReader" (9 : Nat) "RopeRemembers$FieldReader" "corn" "[I") ∈ u_big := u_t1 (i := 169) rfl rfl
theorem q_171 : (Jvm.Cond.fieldLink "RopeRemembers$FieldReader" (15 : Nat) "RopeRemembers$FieldReader" "size" "I") ∈ u_big := u_t1 (i := 171) rfl rfl
theorem q_173 : (Jvm.Cond.laysFinal "RopeRemembers$FieldReader" "RopeRemembers$FieldReader" "corn" "[I") ∈ u_big := u_t1 (i := 173) rfl rfl
theorem q_175 : (Jvm.Cond.lays "RopeRemembers$FieldReader" "RopeRemembers$FieldReader" "size" "I") ∈ u_big := u_t1 (i := 175) rfl rfl
theorem q_177 : (Jvm.Cond.superclass "RopeRemembers$FieldReader" "RopeRemembers$Reader") ∈ u_big := u_t1 (i := 177) rfl rfl
theorem q_178 : (Jvm.Cond.classLink "RopeRemembers" (57 : Nat) "RopeRemembers$PeopleReader") ∈ u_big := u_t1 (i := 178) rfl rfl
theorem q_179 : (Jvm.Cond.instantiable "RopeRemembers$PeopleReader" (6 : Nat)) ∈ u_big := u_t1 (i := 179) rfl rfl
theorem q_181 : (Jvm.Cond.instanceMethod ({ cls := "RopeRemembers$PeopleReader", name := "<init>", desc := "()V" } : Jvm.MethodName)) ∈ u_big := u_t1 (i := 181) rfl rfl
theorem q_182 : (Jvm.Cond.code ({ cls := "RopeRemembers$PeopleReader", name := "<init>", desc := "()V" } : Jvm.MethodName) prog_6_method_1_code (1 : Nat) (Option.none : Option Jvm.ClassFile.FieldType)) ∈ u_big := u_t1 (i := 182) rfl rfl
theorem q_184 : (Jvm.Cond.fieldLink "RopeRemembers$PeopleReader" (9 : Nat) "RopeRemembers$PeopleReader" "belief" "[I") ∈ u_big := u_t1 (i := 184) rfl rfl
theorem q_186 : (Jvm.Cond.fieldLink "RopeRemembers$PeopleReader" (15 : Nat) "RopeRemembers$PeopleReader" "edge" "[I") ∈ u_big := u_t1 (i := 186) rfl rfl
theorem q_188 : (Jvm.Cond.fieldLink "RopeRemembers$PeopleReader" (18 : Nat) "RopeRemembers$PeopleReader" "seen" "[I") ∈ u_big := u_t1 (i := 188) rfl rfl
theorem q_190 : (Jvm.Cond.fieldLink "RopeRemembers$PeopleReader" (21 : Nat) "RopeRemembers$PeopleReader" "already" "I") ∈ u_big := u_t1 (i := 190) rfl rfl
theorem q_191 : (Jvm.Cond.fieldLink "RopeRemembers$PeopleReader" (25 : Nat) "RopeRemembers$PeopleReader" "lines" "I") ∈ u_big := u_t1 (i := 191) rfl rfl
theorem q_194 : (Jvm.Cond.fieldLink "RopeRemembers$PeopleReader" (28 : Nat) "RopeRemembers$PeopleReader" "place" "I") ∈ u_big := u_t1 (i := 194) rfl rfl
theorem q_195 : (Jvm.Cond.laysFinal "RopeRemembers$PeopleReader" "RopeRemembers$PeopleReader" "belief" "[I") ∈ u_big := u_t1 (i := 195) rfl rfl
theorem q_197 : (Jvm.Cond.laysFinal "RopeRemembers$PeopleReader" "RopeRemembers$PeopleReader" "edge" "[I") ∈ u_big := u_t1 (i := 197) rfl rfl
theorem q_199 : (Jvm.Cond.laysFinal "RopeRemembers$PeopleReader" "RopeRemembers$PeopleReader" "seen" "[I") ∈ u_big := u_t1 (i := 199) rfl rfl
theorem q_201 : (Jvm.Cond.lays "RopeRemembers$PeopleReader" "RopeRemembers$PeopleReader" "already" "I") ∈ u_big := u_t1 (i := 201) rfl rfl
theorem q_203 : (Jvm.Cond.lays "RopeRemembers$PeopleReader" "RopeRemembers$PeopleReader" "lines" "I") ∈ u_big := u_t1 (i := 203) rfl rfl
theorem q_205 : (Jvm.Cond.lays "RopeRemembers$PeopleReader" "RopeRemembers$PeopleReader" "place" "I") ∈ u_big := u_t1 (i := 205) rfl rfl
theorem q_207 : (Jvm.Cond.superclass "RopeRemembers$PeopleReader" "RopeRemembers$Reader") ∈ u_big := u_t1 (i := 207) rfl rfl
theorem q_208 : (Jvm.Cond.classLink "RopeRemembers" (64 : Nat) "RopeRemembers$WeekReader") ∈ u_big := u_t1 (i := 208) rfl rfl
theorem q_209 : (Jvm.Cond.instantiable "RopeRemembers$WeekReader" (6 : Nat)) ∈ u_big := u_t1 (i := 209) rfl rfl
theorem q_211 : (Jvm.Cond.instanceMethod ({ cls := "RopeRemembers$WeekReader", name := "<init>", desc := "()V" } : Jvm.MethodName)) ∈ u_big := u_t1 (i := 211) rfl rfl
theorem q_212 : (Jvm.Cond.code ({ cls := "RopeRemembers$WeekReader", name := "<init>", desc := "()V" } : Jvm.MethodName) prog_11_method_1_code (1 : Nat) (Option.none : Option Jvm.ClassFile.FieldType)) ∈ u_big := u_t1 (i := 212) rfl rfl
theorem q_214 : (Jvm.Cond.fieldLink "RopeRemembers$WeekReader" (9 : Nat) "RopeRemembers$WeekReader" "kinds" "[I") ∈ u_big := u_t1 (i := 214) rfl rfl
theorem q_216 : (Jvm.Cond.fieldLink "RopeRemembers$WeekReader" (15 : Nat) "RopeRemembers$WeekReader" "firsts" "[I") ∈ u_big := u_t1 (i := 216) rfl rfl
theorem q_218 : (Jvm.Cond.fieldLink "RopeRemembers$WeekReader" (18 : Nat) "RopeRemembers$WeekReader" "seconds" "[I") ∈ u_big := u_t1 (i := 218) rfl rfl
theorem q_220 : (Jvm.Cond.fieldLink "RopeRemembers$WeekReader" (21 : Nat) "RopeRemembers$WeekReader" "acts" "I") ∈ u_big := u_t1 (i := 220) rfl rfl
theorem q_222 : (Jvm.Cond.fieldLink "RopeRemembers$WeekReader" (25 : Nat) "RopeRemembers$WeekReader" "kind" "I") ∈ u_big := u_t1 (i := 222) rfl rfl
theorem q_223 : (Jvm.Cond.fieldLink "RopeRemembers$WeekReader" (28 : Nat) "RopeRemembers$WeekReader" "first" "I") ∈ u_big := u_t1 (i := 223) rfl rfl
theorem q_224 : (Jvm.Cond.laysFinal "RopeRemembers$WeekReader" "RopeRemembers$WeekReader" "kinds" "[I") ∈ u_big := u_t1 (i := 224) rfl rfl
theorem q_226 : (Jvm.Cond.laysFinal "RopeRemembers$WeekReader" "RopeRemembers$WeekReader" "firsts" "[I") ∈ u_big := u_t1 (i := 226) rfl rfl
theorem q_228 : (Jvm.Cond.laysFinal "RopeRemembers$WeekReader" "RopeRemembers$WeekReader" "seconds" "[I") ∈ u_big := u_t1 (i := 228) rfl rfl
theorem q_230 : (Jvm.Cond.lays "RopeRemembers$WeekReader" "RopeRemembers$WeekReader" "acts" "I") ∈ u_big := u_t1 (i := 230) rfl rfl
theorem q_232 : (Jvm.Cond.lays "RopeRemembers$WeekReader" "RopeRemembers$WeekReader" "kind" "I") ∈ u_big := u_t1 (i := 232) rfl rfl
theorem q_234 : (Jvm.Cond.lays "RopeRemembers$WeekReader" "RopeRemembers$WeekReader" "first" "I") ∈ u_big := u_t1 (i := 234) rfl rfl
theorem q_236 : (Jvm.Cond.superclass "RopeRemembers$WeekReader" "RopeRemembers$Reader") ∈ u_big := u_t1 (i := 236) rfl rfl
theorem q_237 : (Jvm.Cond.classLink "RopeRemembers" (79 : Nat) "RopeRemembers$Draws") ∈ u_big := u_t1 (i := 237) rfl rfl
theorem q_238 : (Jvm.Cond.instantiable "RopeRemembers$Draws" (1 : Nat)) ∈ u_big := u_t1 (i := 238) rfl rfl
theorem q_240 : (Jvm.Cond.instanceMethod ({ cls := "RopeRemembers$Draws", name := "<init>", desc := "()V" } : Jvm.MethodName)) ∈ u_big := u_t2 (i := 0) rfl rfl
theorem q_241 : (Jvm.Cond.code ({ cls := "RopeRemembers$Draws", name := "<init>", desc := "()V" } : Jvm.MethodName) prog_3_method_1_code (1 : Nat) (Option.none : Option Jvm.ClassFile.FieldType)) ∈ u_big := u_t2 (i := 1) rfl rfl
theorem q_242 : (Jvm.Cond.methodLink "RopeRemembers$Draws" (1 : Nat) ({ cls := "java/lang/Object", name := "<init>", desc := "()V" } : Jvm.MethodName)) ∈ u_big := u_t2 (i := 2) rfl rfl
theorem q_243 : (Jvm.Cond.fieldLink "RopeRemembers$Draws" (7 : Nat) "RopeRemembers$Draws" "drawn" "I") ∈ u_big := u_t2 (i := 3) rfl rfl
theorem q_245 : (Jvm.Cond.lays "RopeRemembers$Draws" "RopeRemembers$Draws" "drawn" "I") ∈ u_big := u_t2 (i := 5) rfl rfl
theorem q_247 : (Jvm.Cond.superclass "RopeRemembers$Draws" "java/lang/Object") ∈ u_big := u_t2 (i := 7) rfl rfl
theorem q_248 : (Jvm.Cond.classLink "RopeRemembers" (86 : Nat) "RopeRemembers$Rule") ∈ u_big := u_t2 (i := 8) rfl rfl
theorem q_249 : (Jvm.Cond.instantiable "RopeRemembers$Rule" (11 : Nat)) ∈ u_big := u_t2 (i := 9) rfl rfl
theorem q_251 : (Jvm.Cond.instanceMethod ({ cls := "RopeRemembers$Rule", name := "<init>", desc := "()V" } : Jvm.MethodName)) ∈ u_big := u_t2 (i := 11) rfl rfl
theorem q_252 : (Jvm.Cond.code ({ cls := "RopeRemembers$Rule", name := "<init>", desc := "()V" } : Jvm.MethodName) prog_8_method_1_code (1 : Nat) (Option.none : Option Jvm.ClassFile.FieldType)) ∈ u_big := u_t2 (i := 12) rfl rfl
theorem q_254 : (Jvm.Cond.fieldLink "RopeRemembers$Rule" (9 : Nat) "RopeRemembers$Rule" "code" "[I") ∈ u_big := u_t2 (i := 14) rfl rfl
theorem q_255 : (Jvm.Cond.fieldLink "RopeRemembers$Rule" (15 : Nat) "RopeRemembers$Rule" "waiting" "[I") ∈ u_big := u_t2 (i := 15) rfl rfl
theorem q_256 : (Jvm.Cond.fieldLink "RopeRemembers$Rule" (18 : Nat) "RopeRemembers$Rule" "values" "[I") ∈ u_big := u_t2 (i := 16) rfl rfl
theorem q_257 : (Jvm.Cond.fieldLink "RopeRemembers$Rule" (21 : Nat) "RopeRemembers$Rule" "things" "[I") ∈ u_big := u_t2 (i := 17) rfl rfl
theorem q_258 : (Jvm.Cond.fieldLink "RopeRemembers$Rule" (24 : Nat) "RopeRemembers$Rule" "size" "I") ∈ u_big := u_t2 (i := 18) rfl rfl
theorem q_259 : (Jvm.Cond.fieldLink "RopeRemembers$Rule" (28 : Nat) "RopeRemembers$Rule" "waits" "I") ∈ u_big := u_t2 (i := 19) rfl rfl
theorem q_260 : (Jvm.Cond.fieldLink "RopeRemembers$Rule" (31 : Nat) "RopeRemembers$Rule" "digits" "I") ∈ u_big := u_t2 (i := 20) rfl rfl
theorem q_261 : (Jvm.Cond.fieldLink "RopeRemembers$Rule" (34 : Nat) "RopeRemembers$Rule" "depth" "I") ∈ u_big := u_t2 (i := 21) rfl rfl
theorem q_262 : (Jvm.Cond.fieldLink "RopeRemembers$Rule" (37 : Nat) "RopeRemembers$Rule" "compared" "I") ∈ u_big := u_t2 (i := 22) rfl rfl
theorem q_263 : (Jvm.Cond.fieldLink "RopeRemembers$Rule" (40 : Nat) "RopeRemembers$Rule" "behindThing" "Z") ∈ u_big := u_t2 (i := 23) rfl rfl
theorem q_264 : (Jvm.Cond.fieldLink "RopeRemembers$Rule" (44 : Nat) "RopeRemembers$Rule" "readsDay" "Z") ∈ u_big := u_t2 (i := 24) rfl rfl
theorem q_266 : (Jvm.Cond.laysFinal "RopeRemembers$Rule" "RopeRemembers$Rule" "code" "[I") ∈ u_big := u_t2 (i := 26) rfl rfl
theorem q_268 : (Jvm.Cond.laysFinal "RopeRemembers$Rule" "RopeRemembers$Rule" "waiting" "[I") ∈ u_big := u_t2 (i := 28) rfl rfl
theorem q_270 : (Jvm.Cond.laysFinal "RopeRemembers$Rule" "RopeRemembers$Rule" "values" "[I") ∈ u_big := u_t2 (i := 30) rfl rfl
theorem q_272 : (Jvm.Cond.laysFinal "RopeRemembers$Rule" "RopeRemembers$Rule" "things" "[I") ∈ u_big := u_t2 (i := 32) rfl rfl
theorem q_274 : (Jvm.Cond.lays "RopeRemembers$Rule" "RopeRemembers$Rule" "size" "I") ∈ u_big := u_t2 (i := 34) rfl rfl
theorem q_276 : (Jvm.Cond.lays "RopeRemembers$Rule" "RopeRemembers$Rule" "waits" "I") ∈ u_big := u_t2 (i := 36) rfl rfl
theorem q_278 : (Jvm.Cond.lays "RopeRemembers$Rule" "RopeRemembers$Rule" "digits" "I") ∈ u_big := u_t2 (i := 38) rfl rfl
theorem q_280 : (Jvm.Cond.lays "RopeRemembers$Rule" "RopeRemembers$Rule" "depth" "I") ∈ u_big := u_t2 (i := 40) rfl rfl
theorem q_282 : (Jvm.Cond.lays "RopeRemembers$Rule" "RopeRemembers$Rule" "compared" "I") ∈ u_big := u_t2 (i := 42) rfl rfl
theorem q_284 : (Jvm.Cond.lays "RopeRemembers$Rule" "RopeRemembers$Rule" "behindThing" "Z") ∈ u_big := u_t2 (i := 44) rfl rfl
theorem q_286 : (Jvm.Cond.lays "RopeRemembers$Rule" "RopeRemembers$Rule" "readsDay" "Z") ∈ u_big := u_t2 (i := 46) rfl rfl
theorem q_288 : (Jvm.Cond.superclass "RopeRemembers$Rule" "RopeRemembers$Reader") ∈ u_big := u_t2 (i := 48) rfl rfl
theorem q_289 : (Jvm.Cond.fieldLink "RopeRemembers" (10 : Nat) "RopeRemembers" "text" "LRopeRemembers$Words;") ∈ u_big := u_t2 (i := 49) rfl rfl
theorem q_290 : (Jvm.Cond.fieldLink "RopeRemembers" (19 : Nat) "RopeRemembers" "told" "LRopeRemembers$Told;") ∈ u_big := u_t2 (i := 50) rfl rfl
theorem q_291 : (Jvm.Cond.fieldLink "RopeRemembers" (26 : Nat) "RopeRemembers" "now" "LRopeRemembers$State;") ∈ u_big := u_t2 (i := 51) rfl rfl
theorem q_292 : (Jvm.Cond.fieldLink "RopeRemembers" (30 : Nat) "RopeRemembers" "trial" "LRopeRemembers$State;") ∈ u_big := u_t2 (i := 52) rfl rfl
theorem q_293 : (Jvm.Cond.fieldLink "RopeRemembers" (33 : Nat) "RopeRemembers" "ahead" "LRopeRemembers$State;") ∈ u_big := u_t2 (i := 53) rfl rfl
theorem q_294 : (Jvm.Cond.fieldLink "RopeRemembers" (39 : Nat) "RopeRemembers" "past" "LRopeRemembers$Past;") ∈ u_big := u_t2 (i := 54) rfl rfl
theorem q_295 : (Jvm.Cond.fieldLink "RopeRemembers" (46 : Nat) "RopeRemembers" "digs" "LRopeRemembers$Digs;") ∈ u_big := u_t2 (i := 55) rfl rfl
theorem q_296 : (Jvm.Cond.fieldLink "RopeRemembers" (53 : Nat) "RopeRemembers" "fieldReader" "LRopeRemembers$FieldReader;") ∈ u_big := u_t2 (i := 56) rfl rfl
theorem q_297 : (Jvm.Cond.fieldLink "RopeRemembers" (60 : Nat) "RopeRemembers" "peopleReader" "LRopeRemembers$PeopleReader;") ∈ u_big := u_t2 (i := 57) rfl rfl
theorem q_298 : (Jvm.Cond.fieldLink "RopeRemembers" (67 : Nat) "RopeRemembers" "weekReader" "LRopeRemembers$WeekReader;") ∈ u_big := u_t2 (i := 58) rfl rfl
theorem q_299 : (Jvm.Cond.fieldLink "RopeRemembers" (71 : Nat) "RopeRemembers" "trail" "[I") ∈ u_big := u_t2 (i := 59) rfl rfl
theorem q_300 : (Jvm.Cond.fieldLink "RopeRemembers" (75 : Nat) "RopeRemembers" "chances" "[J") ∈ u_big := u_t2 (i := 60) rfl rfl
theorem q_301 : (Jvm.Cond.fieldLink "RopeRemembers" (82 : Nat) "RopeRemembers" "draws" "LRopeRemembers$Draws;") ∈ u_big := u_t2 (i := 61) rfl rfl
theorem q_302 : (Jvm.Cond.fieldLink "RopeRemembers" (89 : Nat) "RopeRemembers" "ruling" "LRopeRemembers$Rule;") ∈ u_big := u_t2 (i := 62) rfl rfl
theorem q_303 : (Jvm.Cond.fieldLink "RopeRemembers" (93 : Nat) "RopeRemembers" "readRule" "LRopeRemembers$Rule;") ∈ u_big := u_t2 (i := 63) rfl rfl
theorem q_304 : (Jvm.Cond.laysFinal "RopeRemembers" "RopeRemembers" "text" "LRopeRemembers$Words;") ∈ u_big := u_t2 (i := 64) rfl rfl
theorem q_306 : (Jvm.Cond.laysFinal "RopeRemembers" "RopeRemembers" "told" "LRopeRemembers$Told;") ∈ u_big := u_t2 (i := 66) rfl rfl
theorem q_308 : (Jvm.Cond.laysFinal "RopeRemembers" "RopeRemembers" "now" "LRopeRemembers$State;") ∈ u_big := u_t2 (i := 68) rfl rfl
theorem q_310 : (Jvm.Cond.laysFinal "RopeRemembers" "RopeRemembers" "trial" "LRopeRemembers$State;") ∈ u_big := u_t2 (i := 70) rfl rfl
theorem q_312 : (Jvm.Cond.laysFinal "RopeRemembers" "RopeRemembers" "ahead" "LRopeRemembers$State;") ∈ u_big := u_t2 (i := 72) rfl rfl
theorem q_314 : (Jvm.Cond.laysFinal "RopeRemembers" "RopeRemembers" "past" "LRopeRemembers$Past;") ∈ u_big := u_t2 (i := 74) rfl rfl
theorem q_316 : (Jvm.Cond.laysFinal "RopeRemembers" "RopeRemembers" "digs" "LRopeRemembers$Digs;") ∈ u_big := u_t2 (i := 76) rfl rfl
theorem q_318 : (Jvm.Cond.laysFinal "RopeRemembers" "RopeRemembers" "fieldReader" "LRopeRemembers$FieldReader;") ∈ u_big := u_t2 (i := 78) rfl rfl
theorem q_320 : (Jvm.Cond.laysFinal "RopeRemembers" "RopeRemembers" "peopleReader" "LRopeRemembers$PeopleReader;") ∈ u_big := u_t2 (i := 80) rfl rfl
theorem q_322 : (Jvm.Cond.laysFinal "RopeRemembers" "RopeRemembers" "weekReader" "LRopeRemembers$WeekReader;") ∈ u_big := u_t2 (i := 82) rfl rfl
theorem q_324 : (Jvm.Cond.laysFinal "RopeRemembers" "RopeRemembers" "trail" "[I") ∈ u_big := u_t2 (i := 84) rfl rfl
theorem q_326 : (Jvm.Cond.laysFinal "RopeRemembers" "RopeRemembers" "chances" "[J") ∈ u_big := u_t2 (i := 86) rfl rfl
theorem q_328 : (Jvm.Cond.laysFinal "RopeRemembers" "RopeRemembers" "draws" "LRopeRemembers$Draws;") ∈ u_big := u_t2 (i := 88) rfl rfl
theorem q_330 : (Jvm.Cond.lays "RopeRemembers" "RopeRemembers" "ruling" "LRopeRemembers$Rule;") ∈ u_big := u_t2 (i := 90) rfl rfl
theorem q_332 : (Jvm.Cond.lays "RopeRemembers" "RopeRemembers" "readRule" "LRopeRemembers$Rule;") ∈ u_big := u_t2 (i := 92) rfl rfl
theorem q_334 : (Jvm.Cond.superclass "RopeRemembers" "java/lang/Object") ∈ u_big := u_t2 (i := 94) rfl rfl
theorem q_335 : (Jvm.Cond.methodLink "RopeRemembersLaw" (26 : Nat) ({ cls := "RopeRemembers", name := "sign", desc := "(I)I" } : Jvm.MethodName)) ∈ u_big := u_t2 (i := 95) rfl rfl
theorem q_336 : (Jvm.Cond.instanceMethod ({ cls := "RopeRemembers", name := "sign", desc := "(I)I" } : Jvm.MethodName)) ∈ u_big := u_t2 (i := 96) rfl rfl
theorem q_337 : (Jvm.Cond.selects "RopeRemembers" ({ cls := "RopeRemembers", name := "sign", desc := "(I)I" } : Jvm.MethodName) ({ cls := "RopeRemembers", name := "sign", desc := "(I)I" } : Jvm.MethodName)) ∈ u_big := u_t2 (i := 97) rfl rfl
theorem q_338 : (Jvm.Cond.code ({ cls := "RopeRemembers", name := "sign", desc := "(I)I" } : Jvm.MethodName) prog_1_method_2_code (2 : Nat) (Option.some Jvm.ClassFile.FieldType.int)) ∈ u_big := u_t2 (i := 98) rfl rfl
theorem q_339 : (Jvm.Cond.methodLink "RopeRemembers" (96 : Nat) ({ cls := "RopeRemembers$Words", name := "add", desc := "(I)Z" } : Jvm.MethodName)) ∈ u_big := u_t2 (i := 99) rfl rfl
theorem q_340 : (Jvm.Cond.instanceMethod ({ cls := "RopeRemembers$Words", name := "add", desc := "(I)Z" } : Jvm.MethodName)) ∈ u_big := u_t2 (i := 100) rfl rfl
theorem q_341 : (Jvm.Cond.selects "RopeRemembers$Words" ({ cls := "RopeRemembers$Words", name := "add", desc := "(I)Z" } : Jvm.MethodName) ({ cls := "RopeRemembers$Words", name := "add", desc := "(I)Z" } : Jvm.MethodName)) ∈ u_big := u_t2 (i := 101) rfl rfl
theorem q_342 : (Jvm.Cond.code ({ cls := "RopeRemembers$Words", name := "add", desc := "(I)Z" } : Jvm.MethodName) prog_12_method_2_code (3 : Nat) (Option.some Jvm.ClassFile.FieldType.boolean)) ∈ u_big := u_t2 (i := 102) rfl rfl
theorem q_343 : (Jvm.Cond.methodLink "RopeRemembersLaw" (31 : Nat) ({ cls := "RopeRemembers", name := "end", desc := "(I)Z" } : Jvm.MethodName)) ∈ u_big := u_t2 (i := 103) rfl rfl
theorem q_344 : (Jvm.Cond.instanceMethod ({ cls := "RopeRemembers", name := "end", desc := "(I)Z" } : Jvm.MethodName)) ∈ u_big := u_t2 (i := 104) rfl rfl
theorem q_345 : (Jvm.Cond.selects "RopeRemembers" ({ cls := "RopeRemembers", name := "end", desc := "(I)Z" } : Jvm.MethodName) ({ cls := "RopeRemembers", name := "end", desc := "(I)Z" } : Jvm.MethodName)) ∈ u_big := u_t2 (i := 105) rfl rfl
theorem q_346 : (Jvm.Cond.code ({ cls := "RopeRemembers", name := "end", desc := "(I)Z" } : Jvm.MethodName) prog_1_method_3_code (2 : Nat) (Option.some Jvm.ClassFile.FieldType.boolean)) ∈ u_big := u_t2 (i := 106) rfl rfl
theorem q_347 : (Jvm.Cond.methodLink "RopeRemembersLaw" (36 : Nat) ({ cls := "RopeRemembers", name := "field", desc := "()I" } : Jvm.MethodName)) ∈ u_big := u_t2 (i := 107) rfl rfl
theorem q_348 : (Jvm.Cond.instanceMethod ({ cls := "RopeRemembers", name := "field", desc := "()I" } : Jvm.MethodName)) ∈ u_big := u_t2 (i := 108) rfl rfl
theorem q_349 : (Jvm.Cond.selects "RopeRemembers" ({ cls := "RopeRemembers", name := "field", desc := "()I" } : Jvm.MethodName) ({ cls := "RopeRemembers", name := "field", desc := "()I" } : Jvm.MethodName)) ∈ u_big := u_t2 (i := 109) rfl rfl
theorem q_350 : (Jvm.Cond.code ({ cls := "RopeRemembers", name := "field", desc := "()I" } : Jvm.MethodName) prog_1_method_4_code (2 : Nat) (Option.some Jvm.ClassFile.FieldType.int)) ∈ u_big := u_t2 (i := 110) rfl rfl
theorem q_351 : (Jvm.Cond.methodLink "RopeRemembers" (104 : Nat) ({ cls := "RopeRemembers$FieldReader", name := "begin", desc := "()V" } : Jvm.MethodName)) ∈ u_big := u_t2 (i := 111) rfl rfl
theorem q_352 : (Jvm.Cond.instanceMethod ({ cls := "RopeRemembers$FieldReader", name := "begin", desc := "()V" } : Jvm.MethodName)) ∈ u_big := u_t2 (i := 112) rfl rfl
theorem q_353 : (Jvm.Cond.selects "RopeRemembers$FieldReader" ({ cls := "RopeRemembers$FieldReader", name := "begin", desc := "()V" } : Jvm.MethodName) ({ cls := "RopeRemembers$FieldReader", name := "begin", desc := "()V" } : Jvm.MethodName)) ∈ u_big := u_t2 (i := 113) rfl rfl
theorem q_354 : (Jvm.Cond.code ({ cls := "RopeRemembers$FieldReader", name := "begin", desc := "()V" } : Jvm.MethodName) prog_4_method_2_code (1 : Nat) (Option.none : Option Jvm.ClassFile.FieldType)) ∈ u_big := u_t2 (i := 114) rfl rfl
theorem q_355 : (Jvm.Cond.methodLink "RopeRemembers" (107 : Nat) ({ cls := "RopeRemembers$FieldReader", name := "wrongAt", desc := "(LRopeRemembers$Words;I)I" } : Jvm.MethodName)) ∈ u_big := u_t2 (i := 115) rfl rfl
theorem q_356 : (Jvm.Cond.sameMethod "RopeRemembers$FieldReader" "RopeRemembers$Reader" "wrongAt" "(LRopeRemembers$Words;I)I") ∈ u_big := u_t2 (i := 116) rfl rfl
theorem q_358 : (Jvm.Cond.selects "RopeRemembers$FieldReader" ({ cls := "RopeRemembers$FieldReader", name := "wrongAt", desc := "(LRopeRemembers$Words;I)I" } : Jvm.MethodName) ({ cls := "RopeRemembers$Reader", name := "wrongAt", desc := "(LRopeRemembers$Words;I)I" } : Jvm.MethodName)) ∈ u_big := u_t2 (i := 118) rfl rfl
theorem q_359 : (Jvm.Cond.instanceMethod ({ cls := "RopeRemembers$Reader", name := "wrongAt", desc := "(LRopeRemembers$Words;I)I" } : Jvm.MethodName)) ∈ u_big := u_t2 (i := 119) rfl rfl
theorem q_360 : (Jvm.Cond.code ({ cls := "RopeRemembers$Reader", name := "wrongAt", desc := "(LRopeRemembers$Words;I)I" } : Jvm.MethodName) prog_7_method_4_code (5 : Nat) (Option.some Jvm.ClassFile.FieldType.int)) ∈ u_big := u_t2 (i := 120) rfl rfl
theorem q_361 : (Jvm.Cond.methodLink "RopeRemembers$Reader" (15 : Nat) ({ cls := "RopeRemembers$Words", name := "signAt", desc := "(I)I" } : Jvm.MethodName)) ∈ u_big := u_t2 (i := 121) rfl rfl
theorem q_362 : (Jvm.Cond.instanceMethod ({ cls := "RopeRemembers$Words", name := "signAt", desc := "(I)I" } : Jvm.MethodName)) ∈ u_big := u_t2 (i := 122) rfl rfl
theorem q_363 : (Jvm.Cond.selects "RopeRemembers$Words" ({ cls := "RopeRemembers$Words", name := "signAt", desc := "(I)I" } : Jvm.MethodName) ({ cls := "RopeRemembers$Words", name := "signAt", desc := "(I)I" } : Jvm.MethodName)) ∈ u_big := u_t2 (i := 123) rfl rfl
theorem q_364 : (Jvm.Cond.code ({ cls := "RopeRemembers$Words", name := "signAt", desc := "(I)I" } : Jvm.MethodName) prog_12_method_3_code (2 : Nat) (Option.some Jvm.ClassFile.FieldType.int)) ∈ u_big := u_t2 (i := 124) rfl rfl
theorem q_365 : (Jvm.Cond.methodLink "RopeRemembers$Reader" (19 : Nat) ({ cls := "RopeRemembers$Reader", name := "takes", desc := "(I)Z" } : Jvm.MethodName)) ∈ u_big := u_t2 (i := 125) rfl rfl
theorem q_367 : (Jvm.Cond.sameMethod "RopeRemembers$Reader" "RopeRemembers$Reader" "takes" "(I)Z") ∈ u_big := u_t2 (i := 127) rfl rfl
theorem q_368 : (Jvm.Cond.selects "RopeRemembers$FieldReader" ({ cls := "RopeRemembers$Reader", name := "takes", desc := "(I)Z" } : Jvm.MethodName) ({ cls := "RopeRemembers$FieldReader", name := "takes", desc := "(I)Z" } : Jvm.MethodName)) ∈ u_big := u_t2 (i := 128) rfl rfl
theorem q_369 : (Jvm.Cond.instanceMethod ({ cls := "RopeRemembers$FieldReader", name := "takes", desc := "(I)Z" } : Jvm.MethodName)) ∈ u_big := u_t2 (i := 129) rfl rfl
theorem q_370 : (Jvm.Cond.code ({ cls := "RopeRemembers$FieldReader", name := "takes", desc := "(I)Z" } : Jvm.MethodName) prog_4_method_3_code (2 : Nat) (Option.some Jvm.ClassFile.FieldType.boolean)) ∈ u_big := u_t2 (i := 130) rfl rfl
theorem q_371 : (Jvm.Cond.methodLink "RopeRemembers$FieldReader" (19 : Nat) ({ cls := "RopeRemembers$FieldReader", name := "isDigit", desc := "(I)Z" } : Jvm.MethodName)) ∈ u_big := u_t2 (i := 131) rfl rfl
theorem q_372 : (Jvm.Cond.sameMethod "RopeRemembers$FieldReader" "RopeRemembers$Reader" "isDigit" "(I)Z") ∈ u_big := u_t2 (i := 132) rfl rfl
theorem q_373 : (Jvm.Cond.static ({ cls := "RopeRemembers$Reader", name := "isDigit", desc := "(I)Z" } : Jvm.MethodName)) ∈ u_big := u_t2 (i := 133) rfl rfl
theorem q_374 : (Jvm.Cond.code ({ cls := "RopeRemembers$Reader", name := "isDigit", desc := "(I)Z" } : Jvm.MethodName) prog_7_method_5_code (1 : Nat) (Option.some Jvm.ClassFile.FieldType.boolean)) ∈ u_big := u_t2 (i := 134) rfl rfl
theorem q_375 : (Jvm.Cond.selects "RopeRemembers$PeopleReader" ({ cls := "RopeRemembers$Reader", name := "takes", desc := "(I)Z" } : Jvm.MethodName) ({ cls := "RopeRemembers$PeopleReader", name := "takes", desc := "(I)Z" } : Jvm.MethodName)) ∈ u_big := u_t2 (i := 135) rfl rfl
theorem q_376 : (Jvm.Cond.instanceMethod ({ cls := "RopeRemembers$PeopleReader", name := "takes", desc := "(I)Z" } : Jvm.MethodName)) ∈ u_big := u_t2 (i := 136) rfl rfl
theorem q_377 : (Jvm.Cond.code ({ cls := "RopeRemembers$PeopleReader", name := "takes", desc := "(I)Z" } : Jvm.MethodName) prog_6_method_3_code (3 : Nat) (Option.some Jvm.ClassFile.FieldType.boolean)) ∈ u_big := u_t2 (i := 137) rfl rfl
theorem q_378 : (Jvm.Cond.methodLink "RopeRemembers$PeopleReader" (31 : Nat) ({ cls := "RopeRemembers$PeopleReader", name := "takesBelief", desc := "(I)Z" } : Jvm.MethodName)) ∈ u_big := u_t2 (i := 138) rfl rfl
theorem q_380 : (Jvm.Cond.instanceMethod ({ cls := "RopeRemembers$PeopleReader", name := "takesBelief", desc := "(I)Z" } : Jvm.MethodName)) ∈ u_big := u_t2 (i := 140) rfl rfl
theorem q_381 : (Jvm.Cond.code ({ cls := "RopeRemembers$PeopleReader", name := "takesBelief", desc := "(I)Z" } : Jvm.MethodName) prog_6_method_4_code (2 : Nat) (Option.some Jvm.ClassFile.FieldType.boolean)) ∈ u_big := u_t2 (i := 141) rfl rfl
theorem q_382 : (Jvm.Cond.methodLink "RopeRemembers$PeopleReader" (42 : Nat) ({ cls := "RopeRemembers$PeopleReader", name := "isDigit", desc := "(I)Z" } : Jvm.MethodName)) ∈ u_big := u_t2 (i := 142) rfl rfl
theorem q_383 : (Jvm.Cond.sameMethod "RopeRemembers$PeopleReader" "RopeRemembers$Reader" "isDigit" "(I)Z") ∈ u_big := u_t2 (i := 143) rfl rfl
theorem q_384 : (Jvm.Cond.methodLink "RopeRemembers$PeopleReader" (35 : Nat) ({ cls := "RopeRemembers$PeopleReader", name := "takesEdge", desc := "(II)Z" } : Jvm.MethodName)) ∈ u_big := u_t2 (i := 144) rfl rfl
theorem q_386 : (Jvm.Cond.instanceMethod ({ cls := "RopeRemembers$PeopleReader", name := "takesEdge", desc := "(II)Z" } : Jvm.MethodName)) ∈ u_big := u_t2 (i := 146) rfl rfl
theorem q_387 : (Jvm.Cond.code ({ cls := "RopeRemembers$PeopleReader", name := "takesEdge", desc := "(II)Z" } : Jvm.MethodName) prog_6_method_5_code (3 : Nat) (Option.some Jvm.ClassFile.FieldType.boolean)) ∈ u_big := u_t2 (i := 147) rfl rfl
theorem q_388 : (Jvm.Cond.methodLink "RopeRemembers$PeopleReader" (39 : Nat) ({ cls := "RopeRemembers$PeopleReader", name := "takesLetter", desc := "(II)Z" } : Jvm.MethodName)) ∈ u_big := u_t2 (i := 148) rfl rfl
theorem q_390 : (Jvm.Cond.instanceMethod ({ cls := "RopeRemembers$PeopleReader", name := "takesLetter", desc := "(II)Z" } : Jvm.MethodName)) ∈ u_big := u_t2 (i := 150) rfl rfl
theorem q_391 : (Jvm.Cond.code ({ cls := "RopeRemembers$PeopleReader", name := "takesLetter", desc := "(II)Z" } : Jvm.MethodName) prog_6_method_6_code (4 : Nat) (Option.some Jvm.ClassFile.FieldType.boolean)) ∈ u_big := u_t2 (i := 151) rfl rfl
theorem q_392 : (Jvm.Cond.methodLink "RopeRemembers$PeopleReader" (45 : Nat) ({ cls := "RopeRemembers$PeopleReader", name := "isLetter", desc := "(I)Z" } : Jvm.MethodName)) ∈ u_big := u_t2 (i := 152) rfl rfl
theorem q_393 : (Jvm.Cond.sameMethod "RopeRemembers$PeopleReader" "RopeRemembers$Reader" "isLetter" "(I)Z") ∈ u_big := u_t2 (i := 153) rfl rfl
theorem q_394 : (Jvm.Cond.static ({ cls := "RopeRemembers$Reader", name := "isLetter", desc := "(I)Z" } : Jvm.MethodName)) ∈ u_big := u_t2 (i := 154) rfl rfl
theorem q_395 : (Jvm.Cond.code ({ cls := "RopeRemembers$Reader", name := "isLetter", desc := "(I)Z" } : Jvm.MethodName) prog_7_method_6_code (1 : Nat) (Option.some Jvm.ClassFile.FieldType.boolean)) ∈ u_big := u_t2 (i := 155) rfl rfl
theorem q_396 : (Jvm.Cond.selects "RopeRemembers$Rule" ({ cls := "RopeRemembers$Reader", name := "takes", desc := "(I)Z" } : Jvm.MethodName) ({ cls := "RopeRemembers$Rule", name := "takes", desc := "(I)Z" } : Jvm.MethodName)) ∈ u_big := u_t2 (i := 156) rfl rfl
theorem q_397 : (Jvm.Cond.instanceMethod ({ cls := "RopeRemembers$Rule", name := "takes", desc := "(I)Z" } : Jvm.MethodName)) ∈ u_big := u_t2 (i := 157) rfl rfl
theorem q_398 : (Jvm.Cond.code ({ cls := "RopeRemembers$Rule", name := "takes", desc := "(I)Z" } : Jvm.MethodName) prog_8_method_3_code (2 : Nat) (Option.some Jvm.ClassFile.FieldType.boolean)) ∈ u_big := u_t2 (i := 158) rfl rfl
theorem q_399 : (Jvm.Cond.methodLink "RopeRemembers$Rule" (47 : Nat) ({ cls := "RopeRemembers$Rule", name := "takesBehindThing", desc := "(I)Z" } : Jvm.MethodName)) ∈ u_big := u_t2 (i := 159) rfl rfl
theorem q_401 : (Jvm.Cond.instanceMethod ({ cls := "RopeRemembers$Rule", name := "takesBehindThing", desc := "(I)Z" } : Jvm.MethodName)) ∈ u_big := u_t2 (i := 161) rfl rfl
theorem q_402 : (Jvm.Cond.code ({ cls := "RopeRemembers$Rule", name := "takesBehindThing", desc := "(I)Z" } : Jvm.MethodName) prog_8_method_8_code (3 : Nat) (Option.some Jvm.ClassFile.FieldType.boolean)) ∈ u_big := u_t2 (i := 162) rfl rfl
theorem q_403 : (Jvm.Cond.methodLink "RopeRemembers$Rule" (61 : Nat) ({ cls := "RopeRemembers$Rule", name := "isDigit", desc := "(I)Z" } : Jvm.MethodName)) ∈ u_big := u_t2 (i := 163) rfl rfl
theorem q_404 : (Jvm.Cond.sameMethod "RopeRemembers$Rule" "RopeRemembers$Reader" "isDigit" "(I)Z") ∈ u_big := u_t2 (i := 164) rfl rfl
theorem q_405 : (Jvm.Cond.methodLink "RopeRemembers$Rule" (74 : Nat) ({ cls := "RopeRemembers$Rule", name := "takesDigit", desc := "(I)Z" } : Jvm.MethodName)) ∈ u_big := u_t2 (i := 165) rfl rfl
theorem q_407 : (Jvm.Cond.instanceMethod ({ cls := "RopeRemembers$Rule", name := "takesDigit", desc := "(I)Z" } : Jvm.MethodName)) ∈ u_big := u_t2 (i := 167) rfl rfl
theorem q_408 : (Jvm.Cond.code ({ cls := "RopeRemembers$Rule", name := "takesDigit", desc := "(I)Z" } : Jvm.MethodName) prog_8_method_9_code (3 : Nat) (Option.some Jvm.ClassFile.FieldType.boolean)) ∈ u_big := u_t2 (i := 168) rfl rfl
theorem q_409 : (Jvm.Cond.methodLink "RopeRemembers$Rule" (77 : Nat) ({ cls := "RopeRemembers$Rule", name := "closes", desc := "()Z" } : Jvm.MethodName)) ∈ u_big := u_t2 (i := 169) rfl rfl
theorem q_411 : (Jvm.Cond.instanceMethod ({ cls := "RopeRemembers$Rule", name := "closes", desc := "()Z" } : Jvm.MethodName)) ∈ u_big := u_t2 (i := 171) rfl rfl
theorem q_412 : (Jvm.Cond.code ({ cls := "RopeRemembers$Rule", name := "closes", desc := "()Z" } : Jvm.MethodName) prog_8_method_10_code (1 : Nat) (Option.some Jvm.ClassFile.FieldType.boolean)) ∈ u_big := u_t2 (i := 172) rfl rfl
theorem q_413 : (Jvm.Cond.methodLink "RopeRemembers$Rule" (83 : Nat) ({ cls := "RopeRemembers$Rule", name := "unwind", desc := "(I)V" } : Jvm.MethodName)) ∈ u_big := u_t2 (i := 173) rfl rfl
theorem q_415 : (Jvm.Cond.instanceMethod ({ cls := "RopeRemembers$Rule", name := "unwind", desc := "(I)V" } : Jvm.MethodName)) ∈ u_big := u_t2 (i := 175) rfl rfl
theorem q_416 : (Jvm.Cond.code ({ cls := "RopeRemembers$Rule", name := "unwind", desc := "(I)V" } : Jvm.MethodName) prog_8_method_13_code (4 : Nat) (Option.none : Option Jvm.ClassFile.FieldType)) ∈ u_big := u_t2 (i := 176) rfl rfl
theorem q_417 : (Jvm.Cond.methodLink "RopeRemembers$Rule" (80 : Nat) ({ cls := "RopeRemembers$Rule", name := "rankOf", desc := "(I)I" } : Jvm.MethodName)) ∈ u_big := u_t2 (i := 177) rfl rfl
theorem q_418 : (Jvm.Cond.static ({ cls := "RopeRemembers$Rule", name := "rankOf", desc := "(I)I" } : Jvm.MethodName)) ∈ u_big := u_t2 (i := 178) rfl rfl
theorem q_419 : (Jvm.Cond.code ({ cls := "RopeRemembers$Rule", name := "rankOf", desc := "(I)I" } : Jvm.MethodName) prog_8_method_12_code (1 : Nat) (Option.some Jvm.ClassFile.FieldType.int)) ∈ u_big := u_t2 (i := 179) rfl rfl
theorem q_420 : (Jvm.Cond.methodLink "RopeRemembers$Rule" (71 : Nat) ({ cls := "RopeRemembers$Rule", name := "put", desc := "(I)Z" } : Jvm.MethodName)) ∈ u_big := u_t2 (i := 180) rfl rfl
theorem q_422 : (Jvm.Cond.instanceMethod ({ cls := "RopeRemembers$Rule", name := "put", desc := "(I)Z" } : Jvm.MethodName)) ∈ u_big := u_t2 (i := 182) rfl rfl
theorem q_423 : (Jvm.Cond.code ({ cls := "RopeRemembers$Rule", name := "put", desc := "(I)Z" } : Jvm.MethodName) prog_8_method_15_code (2 : Nat) (Option.some Jvm.ClassFile.FieldType.boolean)) ∈ u_big := u_t2 (i := 183) rfl rfl
theorem q_424 : (Jvm.Cond.methodLink "RopeRemembers$Rule" (87 : Nat) ({ cls := "java/lang/Math", name := "max", desc := "(II)I" } : Jvm.MethodName)) ∈ u_big := u_t2 (i := 184) rfl rfl
theorem q_425 : (Jvm.Cond.static ({ cls := "java/lang/Math", name := "max", desc := "(II)I" } : Jvm.MethodName)) ∈ u_big := u_t2 (i := 185) rfl rfl
theorem q_426 : (Jvm.Cond.code ({ cls := "java/lang/Math", name := "max", desc := "(II)I" } : Jvm.MethodName) prog_18_method_65_code (2 : Nat) (Option.some Jvm.ClassFile.FieldType.int)) ∈ u_big := u_t2 (i := 186) rfl rfl
theorem q_427 : (Jvm.Cond.methodLink "RopeRemembers$Rule" (54 : Nat) ({ cls := "RopeRemembers$Rule", name := "await", desc := "(I)Z" } : Jvm.MethodName)) ∈ u_big := u_t2 (i := 187) rfl rfl
theorem q_429 : (Jvm.Cond.instanceMethod ({ cls := "RopeRemembers$Rule", name := "await", desc := "(I)Z" } : Jvm.MethodName)) ∈ u_big := u_t2 (i := 189) rfl rfl
theorem q_430 : (Jvm.Cond.code ({ cls := "RopeRemembers$Rule", name := "await", desc := "(I)Z" } : Jvm.MethodName) prog_8_method_14_code (2 : Nat) (Option.some Jvm.ClassFile.FieldType.boolean)) ∈ u_big := u_t2 (i := 190) rfl rfl
theorem q_431 : (Jvm.Cond.methodLink "RopeRemembers$Rule" (51 : Nat) ({ cls := "RopeRemembers$Rule", name := "takesThing", desc := "(I)Z" } : Jvm.MethodName)) ∈ u_big := u_t2 (i := 191) rfl rfl
theorem q_433 : (Jvm.Cond.instanceMethod ({ cls := "RopeRemembers$Rule", name := "takesThing", desc := "(I)Z" } : Jvm.MethodName)) ∈ u_big := u_t2 (i := 193) rfl rfl
theorem q_434 : (Jvm.Cond.code ({ cls := "RopeRemembers$Rule", name := "takesThing", desc := "(I)Z" } : Jvm.MethodName) prog_8_method_4_code (3 : Nat) (Option.some Jvm.ClassFile.FieldType.boolean)) ∈ u_big := u_t2 (i := 194) rfl rfl
theorem q_435 : (Jvm.Cond.methodLink "RopeRemembers$Rule" (57 : Nat) ({ cls := "RopeRemembers$Rule", name := "opens", desc := "()Z" } : Jvm.MethodName)) ∈ u_big := u_t2 (i := 195) rfl rfl
theorem q_437 : (Jvm.Cond.instanceMethod ({ cls := "RopeRemembers$Rule", name := "opens", desc := "()Z" } : Jvm.MethodName)) ∈ u_big := u_t2 (i := 197) rfl rfl
theorem q_438 : (Jvm.Cond.code ({ cls := "RopeRemembers$Rule", name := "opens", desc := "()Z" } : Jvm.MethodName) prog_8_method_7_code (1 : Nat) (Option.some Jvm.ClassFile.FieldType.boolean)) ∈ u_big := u_t2 (i := 198) rfl rfl
theorem q_439 : (Jvm.Cond.methodLink "RopeRemembers$Rule" (64 : Nat) ({ cls := "RopeRemembers$Rule", name := "putThing", desc := "(I)Z" } : Jvm.MethodName)) ∈ u_big := u_t2 (i := 199) rfl rfl
theorem q_441 : (Jvm.Cond.instanceMethod ({ cls := "RopeRemembers$Rule", name := "putThing", desc := "(I)Z" } : Jvm.MethodName)) ∈ u_big := u_t2 (i := 201) rfl rfl
theorem q_442 : (Jvm.Cond.code ({ cls := "RopeRemembers$Rule", name := "putThing", desc := "(I)Z" } : Jvm.MethodName) prog_8_method_6_code (2 : Nat) (Option.some Jvm.ClassFile.FieldType.boolean)) ∈ u_big := u_t2 (i := 202) rfl rfl
theorem q_443 : (Jvm.Cond.methodLink "RopeRemembers$Rule" (67 : Nat) ({ cls := "RopeRemembers$Rule", name := "whichThing", desc := "(I)I" } : Jvm.MethodName)) ∈ u_big := u_t2 (i := 203) rfl rfl
theorem q_444 : (Jvm.Cond.static ({ cls := "RopeRemembers$Rule", name := "whichThing", desc := "(I)I" } : Jvm.MethodName)) ∈ u_big := u_t2 (i := 204) rfl rfl
theorem q_445 : (Jvm.Cond.code ({ cls := "RopeRemembers$Rule", name := "whichThing", desc := "(I)I" } : Jvm.MethodName) prog_8_method_5_code (1 : Nat) (Option.some Jvm.ClassFile.FieldType.int)) ∈ u_big := u_t2 (i := 205) rfl rfl
theorem q_446 : (Jvm.Cond.selects "RopeRemembers$WeekReader" ({ cls := "RopeRemembers$Reader", name := "takes", desc := "(I)Z" } : Jvm.MethodName) ({ cls := "RopeRemembers$WeekReader", name := "takes", desc := "(I)Z" } : Jvm.MethodName)) ∈ u_big := u_t2 (i := 206) rfl rfl
theorem q_447 : (Jvm.Cond.instanceMethod ({ cls := "RopeRemembers$WeekReader", name := "takes", desc := "(I)Z" } : Jvm.MethodName)) ∈ u_big := u_t2 (i := 207) rfl rfl
theorem q_448 : (Jvm.Cond.code ({ cls := "RopeRemembers$WeekReader", name := "takes", desc := "(I)Z" } : Jvm.MethodName) prog_11_method_3_code (2 : Nat) (Option.some Jvm.ClassFile.FieldType.boolean)) ∈ u_big := u_t2 (i := 208) rfl rfl
theorem q_449 : (Jvm.Cond.methodLink "RopeRemembers$WeekReader" (31 : Nat) ({ cls := "RopeRemembers$WeekReader", name := "takesKind", desc := "(I)Z" } : Jvm.MethodName)) ∈ u_big := u_t2 (i := 209) rfl rfl
theorem q_451 : (Jvm.Cond.instanceMethod ({ cls := "RopeRemembers$WeekReader", name := "takesKind", desc := "(I)Z" } : Jvm.MethodName)) ∈ u_big := u_t2 (i := 211) rfl rfl
theorem q_452 : (Jvm.Cond.code ({ cls := "RopeRemembers$WeekReader", name := "takesKind", desc := "(I)Z" } : Jvm.MethodName) prog_11_method_4_code (2 : Nat) (Option.some Jvm.ClassFile.FieldType.boolean)) ∈ u_big := u_t2 (i := 212) rfl rfl
theorem q_453 : (Jvm.Cond.methodLink "RopeRemembers$WeekReader" (38 : Nat) ({ cls := "RopeRemembers$WeekReader", name := "takesAct", desc := "(II)Z" } : Jvm.MethodName)) ∈ u_big := u_t2 (i := 213) rfl rfl
theorem q_455 : (Jvm.Cond.instanceMethod ({ cls := "RopeRemembers$WeekReader", name := "takesAct", desc := "(II)Z" } : Jvm.MethodName)) ∈ u_big := u_t2 (i := 215) rfl rfl
theorem q_456 : (Jvm.Cond.code ({ cls := "RopeRemembers$WeekReader", name := "takesAct", desc := "(II)Z" } : Jvm.MethodName) prog_11_method_6_code (3 : Nat) (Option.some Jvm.ClassFile.FieldType.boolean)) ∈ u_big := u_t2 (i := 216) rfl rfl
theorem q_457 : (Jvm.Cond.methodLink "RopeRemembers$WeekReader" (35 : Nat) ({ cls := "RopeRemembers$WeekReader", name := "isDigit", desc := "(I)Z" } : Jvm.MethodName)) ∈ u_big := u_t2 (i := 217) rfl rfl
theorem q_458 : (Jvm.Cond.sameMethod "RopeRemembers$WeekReader" "RopeRemembers$Reader" "isDigit" "(I)Z") ∈ u_big := u_t2 (i := 218) rfl rfl
theorem q_459 : (Jvm.Cond.methodLink "RopeRemembers$WeekReader" (42 : Nat) ({ cls := "RopeRemembers$WeekReader", name := "isLetter", desc := "(I)Z" } : Jvm.MethodName)) ∈ u_big := u_t2 (i := 219) rfl rfl
theorem q_460 : (Jvm.Cond.sameMethod "RopeRemembers$WeekReader" "RopeRemembers$Reader" "isLetter" "(I)Z") ∈ u_big := u_t2 (i := 220) rfl rfl
theorem q_461 : (Jvm.Cond.methodLink "RopeRemembers$WeekReader" (45 : Nat) ({ cls := "RopeRemembers$WeekReader", name := "takesGlance", desc := "(I)Z" } : Jvm.MethodName)) ∈ u_big := u_t2 (i := 221) rfl rfl
theorem q_463 : (Jvm.Cond.instanceMethod ({ cls := "RopeRemembers$WeekReader", name := "takesGlance", desc := "(I)Z" } : Jvm.MethodName)) ∈ u_big := u_t2 (i := 223) rfl rfl
theorem q_464 : (Jvm.Cond.code ({ cls := "RopeRemembers$WeekReader", name := "takesGlance", desc := "(I)Z" } : Jvm.MethodName) prog_11_method_5_code (2 : Nat) (Option.some Jvm.ClassFile.FieldType.boolean)) ∈ u_big := u_t2 (i := 224) rfl rfl
theorem q_465 : (Jvm.Cond.methodLink "RopeRemembers$Reader" (25 : Nat) ({ cls := "RopeRemembers$Reader", name := "takesEnd", desc := "()Z" } : Jvm.MethodName)) ∈ u_big := u_t2 (i := 225) rfl rfl
theorem q_467 : (Jvm.Cond.sameMethod "RopeRemembers$Reader" "RopeRemembers$Reader" "takesEnd" "()Z") ∈ u_big := u_t2 (i := 227) rfl rfl
theorem q_468 : (Jvm.Cond.selects "RopeRemembers$FieldReader" ({ cls := "RopeRemembers$Reader", name := "takesEnd", desc := "()Z" } : Jvm.MethodName) ({ cls := "RopeRemembers$FieldReader", name := "takesEnd", desc := "()Z" } : Jvm.MethodName)) ∈ u_big := u_t2 (i := 228) rfl rfl
theorem q_469 : (Jvm.Cond.instanceMethod ({ cls := "RopeRemembers$FieldReader", name := "takesEnd", desc := "()Z" } : Jvm.MethodName)) ∈ u_big := u_t2 (i := 229) rfl rfl
theorem q_470 : (Jvm.Cond.code ({ cls := "RopeRemembers$FieldReader", name := "takesEnd", desc := "()Z" } : Jvm.MethodName) prog_4_method_4_code (1 : Nat) (Option.some Jvm.ClassFile.FieldType.boolean)) ∈ u_big := u_t2 (i := 230) rfl rfl
theorem q_471 : (Jvm.Cond.selects "RopeRemembers$PeopleReader" ({ cls := "RopeRemembers$Reader", name := "takesEnd", desc := "()Z" } : Jvm.MethodName) ({ cls := "RopeRemembers$PeopleReader", name := "takesEnd", desc := "()Z" } : Jvm.MethodName)) ∈ u_big := u_t2 (i := 231) rfl rfl
theorem q_472 : (Jvm.Cond.instanceMethod ({ cls := "RopeRemembers$PeopleReader", name := "takesEnd", desc := "()Z" } : Jvm.MethodName)) ∈ u_big := u_t2 (i := 232) rfl rfl
theorem q_473 : (Jvm.Cond.code ({ cls := "RopeRemembers$PeopleReader", name := "takesEnd", desc := "()Z" } : Jvm.MethodName) prog_6_method_7_code (1 : Nat) (Option.some Jvm.ClassFile.FieldType.boolean)) ∈ u_big := u_t2 (i := 233) rfl rfl
theorem q_474 : (Jvm.Cond.selects "RopeRemembers$Rule" ({ cls := "RopeRemembers$Reader", name := "takesEnd", desc := "()Z" } : Jvm.MethodName) ({ cls := "RopeRemembers$Rule", name := "takesEnd", desc := "()Z" } : Jvm.MethodName)) ∈ u_big := u_t2 (i := 234) rfl rfl
theorem q_475 : (Jvm.Cond.instanceMethod ({ cls := "RopeRemembers$Rule", name := "takesEnd", desc := "()Z" } : Jvm.MethodName)) ∈ u_big := u_t2 (i := 235) rfl rfl
theorem q_476 : (Jvm.Cond.code ({ cls := "RopeRemembers$Rule", name := "takesEnd", desc := "()Z" } : Jvm.MethodName) prog_8_method_11_code (1 : Nat) (Option.some Jvm.ClassFile.FieldType.boolean)) ∈ u_big := u_t2 (i := 236) rfl rfl
theorem q_477 : (Jvm.Cond.selects "RopeRemembers$WeekReader" ({ cls := "RopeRemembers$Reader", name := "takesEnd", desc := "()Z" } : Jvm.MethodName) ({ cls := "RopeRemembers$WeekReader", name := "takesEnd", desc := "()Z" } : Jvm.MethodName)) ∈ u_big := u_t2 (i := 237) rfl rfl
theorem q_478 : (Jvm.Cond.instanceMethod ({ cls := "RopeRemembers$WeekReader", name := "takesEnd", desc := "()Z" } : Jvm.MethodName)) ∈ u_big := u_t2 (i := 238) rfl rfl
theorem q_479 : (Jvm.Cond.code ({ cls := "RopeRemembers$WeekReader", name := "takesEnd", desc := "()Z" } : Jvm.MethodName) prog_11_method_7_code (1 : Nat) (Option.some Jvm.ClassFile.FieldType.boolean)) ∈ u_big := u_t2 (i := 239) rfl rfl
theorem q_480 : (Jvm.Cond.methodLink "RopeRemembers" (111 : Nat) ({ cls := "RopeRemembers$State", name := "lay", desc := "(LRopeRemembers$FieldReader;)V" } : Jvm.MethodName)) ∈ u_big := u_t3 (i := 0) rfl rfl
theorem q_481 : (Jvm.Cond.instanceMethod ({ cls := "RopeRemembers$State", name := "lay", desc := "(LRopeRemembers$FieldReader;)V" } : Jvm.MethodName)) ∈ u_big := u_t3 (i := 1) rfl rfl
theorem q_482 : (Jvm.Cond.selects "RopeRemembers$State" ({ cls := "RopeRemembers$State", name := "lay", desc := "(LRopeRemembers$FieldReader;)V" } : Jvm.MethodName) ({ cls := "RopeRemembers$State", name := "lay", desc := "(LRopeRemembers$FieldReader;)V" } : Jvm.MethodName)) ∈ u_big := u_t3 (i := 2) rfl rfl
theorem q_483 : (Jvm.Cond.code ({ cls := "RopeRemembers$State", name := "lay", desc := "(LRopeRemembers$FieldReader;)V" } : Jvm.MethodName) prog_9_method_3_code (3 : Nat) (Option.none : Option Jvm.ClassFile.FieldType)) ∈ u_big := u_t3 (i := 3) rfl rfl
theorem q_484 : (Jvm.Cond.methodLink "RopeRemembers$State" (60 : Nat) ({ cls := "java/lang/Math", name := "min", desc := "(II)I" } : Jvm.MethodName)) ∈ u_big := u_t3 (i := 4) rfl rfl
theorem q_485 : (Jvm.Cond.static ({ cls := "java/lang/Math", name := "min", desc := "(II)I" } : Jvm.MethodName)) ∈ u_big := u_t3 (i := 5) rfl rfl
theorem q_486 : (Jvm.Cond.code ({ cls := "java/lang/Math", name := "min", desc := "(II)I" } : Jvm.MethodName) prog_18_method_69_code (2 : Nat) (Option.some Jvm.ClassFile.FieldType.int)) ∈ u_big := u_t3 (i := 6) rfl rfl
theorem q_487 : (Jvm.Cond.methodLink "RopeRemembers$State" (66 : Nat) ({ cls := "java/lang/Math", name := "max", desc := "(II)I" } : Jvm.MethodName)) ∈ u_big := u_t3 (i := 7) rfl rfl
theorem q_488 : (Jvm.Cond.methodLink "RopeRemembers" (115 : Nat) ({ cls := "RopeRemembers$Digs", name := "clear", desc := "()V" } : Jvm.MethodName)) ∈ u_big := u_t3 (i := 8) rfl rfl
theorem q_489 : (Jvm.Cond.instanceMethod ({ cls := "RopeRemembers$Digs", name := "clear", desc := "()V" } : Jvm.MethodName)) ∈ u_big := u_t3 (i := 9) rfl rfl
theorem q_490 : (Jvm.Cond.selects "RopeRemembers$Digs" ({ cls := "RopeRemembers$Digs", name := "clear", desc := "()V" } : Jvm.MethodName) ({ cls := "RopeRemembers$Digs", name := "clear", desc := "()V" } : Jvm.MethodName)) ∈ u_big := u_t3 (i := 10) rfl rfl
theorem q_491 : (Jvm.Cond.code ({ cls := "RopeRemembers$Digs", name := "clear", desc := "()V" } : Jvm.MethodName) prog_2_method_2_code (1 : Nat) (Option.none : Option Jvm.ClassFile.FieldType)) ∈ u_big := u_t3 (i := 11) rfl rfl
theorem q_492 : (Jvm.Cond.methodLink "RopeRemembers" (118 : Nat) ({ cls := "RopeRemembers$Past", name := "clear", desc := "()V" } : Jvm.MethodName)) ∈ u_big := u_t3 (i := 12) rfl rfl
theorem q_493 : (Jvm.Cond.instanceMethod ({ cls := "RopeRemembers$Past", name := "clear", desc := "()V" } : Jvm.MethodName)) ∈ u_big := u_t3 (i := 13) rfl rfl
theorem q_494 : (Jvm.Cond.selects "RopeRemembers$Past" ({ cls := "RopeRemembers$Past", name := "clear", desc := "()V" } : Jvm.MethodName) ({ cls := "RopeRemembers$Past", name := "clear", desc := "()V" } : Jvm.MethodName)) ∈ u_big := u_t3 (i := 14) rfl rfl
theorem q_495 : (Jvm.Cond.code ({ cls := "RopeRemembers$Past", name := "clear", desc := "()V" } : Jvm.MethodName) prog_5_method_2_code (1 : Nat) (Option.none : Option Jvm.ClassFile.FieldType)) ∈ u_big := u_t3 (i := 15) rfl rfl
theorem q_496 : (Jvm.Cond.methodLink "RopeRemembersLaw" (41 : Nat) ({ cls := "RopeRemembers", name := "people", desc := "()I" } : Jvm.MethodName)) ∈ u_big := u_t3 (i := 16) rfl rfl
theorem q_497 : (Jvm.Cond.instanceMethod ({ cls := "RopeRemembers", name := "people", desc := "()I" } : Jvm.MethodName)) ∈ u_big := u_t3 (i := 17) rfl rfl
theorem q_498 : (Jvm.Cond.selects "RopeRemembers" ({ cls := "RopeRemembers", name := "people", desc := "()I" } : Jvm.MethodName) ({ cls := "RopeRemembers", name := "people", desc := "()I" } : Jvm.MethodName)) ∈ u_big := u_t3 (i := 18) rfl rfl
theorem q_499 : (Jvm.Cond.code ({ cls := "RopeRemembers", name := "people", desc := "()I" } : Jvm.MethodName) prog_1_method_5_code (2 : Nat) (Option.some Jvm.ClassFile.FieldType.int)) ∈ u_big := u_t3 (i := 19) rfl rfl
theorem q_500 : (Jvm.Cond.methodLink "RopeRemembers" (125 : Nat) ({ cls := "RopeRemembers$PeopleReader", name := "begin", desc := "(I)V" } : Jvm.MethodName)) ∈ u_big := u_t3 (i := 20) rfl rfl
theorem q_501 : (Jvm.Cond.instanceMethod ({ cls := "RopeRemembers$PeopleReader", name := "begin", desc := "(I)V" } : Jvm.MethodName)) ∈ u_big := u_t3 (i := 21) rfl rfl
theorem q_502 : (Jvm.Cond.selects "RopeRemembers$PeopleReader" ({ cls := "RopeRemembers$PeopleReader", name := "begin", desc := "(I)V" } : Jvm.MethodName) ({ cls := "RopeRemembers$PeopleReader", name := "begin", desc := "(I)V" } : Jvm.MethodName)) ∈ u_big := u_t3 (i := 22) rfl rfl
theorem q_503 : (Jvm.Cond.code ({ cls := "RopeRemembers$PeopleReader", name := "begin", desc := "(I)V" } : Jvm.MethodName) prog_6_method_2_code (2 : Nat) (Option.none : Option Jvm.ClassFile.FieldType)) ∈ u_big := u_t3 (i := 23) rfl rfl
theorem q_504 : (Jvm.Cond.methodLink "RopeRemembers" (128 : Nat) ({ cls := "RopeRemembers$PeopleReader", name := "wrongAt", desc := "(LRopeRemembers$Words;I)I" } : Jvm.MethodName)) ∈ u_big := u_t3 (i := 24) rfl rfl
theorem q_505 : (Jvm.Cond.sameMethod "RopeRemembers$PeopleReader" "RopeRemembers$Reader" "wrongAt" "(LRopeRemembers$Words;I)I") ∈ u_big := u_t3 (i := 25) rfl rfl
theorem q_506 : (Jvm.Cond.selects "RopeRemembers$PeopleReader" ({ cls := "RopeRemembers$PeopleReader", name := "wrongAt", desc := "(LRopeRemembers$Words;I)I" } : Jvm.MethodName) ({ cls := "RopeRemembers$Reader", name := "wrongAt", desc := "(LRopeRemembers$Words;I)I" } : Jvm.MethodName)) ∈ u_big := u_t3 (i := 26) rfl rfl
theorem q_507 : (Jvm.Cond.methodLink "RopeRemembers" (129 : Nat) ({ cls := "RopeRemembers$State", name := "join", desc := "(LRopeRemembers$PeopleReader;)V" } : Jvm.MethodName)) ∈ u_big := u_t3 (i := 27) rfl rfl
theorem q_508 : (Jvm.Cond.instanceMethod ({ cls := "RopeRemembers$State", name := "join", desc := "(LRopeRemembers$PeopleReader;)V" } : Jvm.MethodName)) ∈ u_big := u_t3 (i := 28) rfl rfl
theorem q_509 : (Jvm.Cond.selects "RopeRemembers$State" ({ cls := "RopeRemembers$State", name := "join", desc := "(LRopeRemembers$PeopleReader;)V" } : Jvm.MethodName) ({ cls := "RopeRemembers$State", name := "join", desc := "(LRopeRemembers$PeopleReader;)V" } : Jvm.MethodName)) ∈ u_big := u_t3 (i := 29) rfl rfl
theorem q_510 : (Jvm.Cond.code ({ cls := "RopeRemembers$State", name := "join", desc := "(LRopeRemembers$PeopleReader;)V" } : Jvm.MethodName) prog_9_method_4_code (3 : Nat) (Option.none : Option Jvm.ClassFile.FieldType)) ∈ u_big := u_t3 (i := 30) rfl rfl
theorem q_511 : (Jvm.Cond.methodLink "RopeRemembersLaw" (45 : Nat) ({ cls := "RopeRemembers", name := "rule", desc := "()I" } : Jvm.MethodName)) ∈ u_big := u_t3 (i := 31) rfl rfl
theorem q_512 : (Jvm.Cond.instanceMethod ({ cls := "RopeRemembers", name := "rule", desc := "()I" } : Jvm.MethodName)) ∈ u_big := u_t3 (i := 32) rfl rfl
theorem q_513 : (Jvm.Cond.selects "RopeRemembers" ({ cls := "RopeRemembers", name := "rule", desc := "()I" } : Jvm.MethodName) ({ cls := "RopeRemembers", name := "rule", desc := "()I" } : Jvm.MethodName)) ∈ u_big := u_t3 (i := 33) rfl rfl
theorem q_514 : (Jvm.Cond.code ({ cls := "RopeRemembers", name := "rule", desc := "()I" } : Jvm.MethodName) prog_1_method_6_code (3 : Nat) (Option.some Jvm.ClassFile.FieldType.int)) ∈ u_big := u_t3 (i := 34) rfl rfl
theorem q_515 : (Jvm.Cond.methodLink "RopeRemembers" (136 : Nat) ({ cls := "RopeRemembers", name := "readAnotherRule", desc := "()I" } : Jvm.MethodName)) ∈ u_big := u_t3 (i := 35) rfl rfl
theorem q_517 : (Jvm.Cond.instanceMethod ({ cls := "RopeRemembers", name := "readAnotherRule", desc := "()I" } : Jvm.MethodName)) ∈ u_big := u_t3 (i := 37) rfl rfl
theorem q_518 : (Jvm.Cond.code ({ cls := "RopeRemembers", name := "readAnotherRule", desc := "()I" } : Jvm.MethodName) prog_1_method_12_code (1 : Nat) (Option.some Jvm.ClassFile.FieldType.int)) ∈ u_big := u_t3 (i := 38) rfl rfl
theorem q_519 : (Jvm.Cond.methodLink "RopeRemembers" (204 : Nat) ({ cls := "RopeRemembers$Rule", name := "begin", desc := "()V" } : Jvm.MethodName)) ∈ u_big := u_t3 (i := 39) rfl rfl
theorem q_520 : (Jvm.Cond.instanceMethod ({ cls := "RopeRemembers$Rule", name := "begin", desc := "()V" } : Jvm.MethodName)) ∈ u_big := u_t3 (i := 40) rfl rfl
theorem q_521 : (Jvm.Cond.selects "RopeRemembers$Rule" ({ cls := "RopeRemembers$Rule", name := "begin", desc := "()V" } : Jvm.MethodName) ({ cls := "RopeRemembers$Rule", name := "begin", desc := "()V" } : Jvm.MethodName)) ∈ u_big := u_t3 (i := 41) rfl rfl
theorem q_522 : (Jvm.Cond.code ({ cls := "RopeRemembers$Rule", name := "begin", desc := "()V" } : Jvm.MethodName) prog_8_method_2_code (1 : Nat) (Option.none : Option Jvm.ClassFile.FieldType)) ∈ u_big := u_t3 (i := 42) rfl rfl
theorem q_523 : (Jvm.Cond.methodLink "RopeRemembers" (205 : Nat) ({ cls := "RopeRemembers$Rule", name := "wrongAt", desc := "(LRopeRemembers$Words;I)I" } : Jvm.MethodName)) ∈ u_big := u_t3 (i := 43) rfl rfl
theorem q_524 : (Jvm.Cond.sameMethod "RopeRemembers$Rule" "RopeRemembers$Reader" "wrongAt" "(LRopeRemembers$Words;I)I") ∈ u_big := u_t3 (i := 44) rfl rfl
theorem q_525 : (Jvm.Cond.selects "RopeRemembers$Rule" ({ cls := "RopeRemembers$Rule", name := "wrongAt", desc := "(LRopeRemembers$Words;I)I" } : Jvm.MethodName) ({ cls := "RopeRemembers$Reader", name := "wrongAt", desc := "(LRopeRemembers$Words;I)I" } : Jvm.MethodName)) ∈ u_big := u_t3 (i := 45) rfl rfl
theorem q_526 : (Jvm.Cond.methodLink "RopeRemembersLaw" (61 : Nat) ({ cls := "RopeRemembers", name := "sheet", desc := "(IIII)I" } : Jvm.MethodName)) ∈ u_big := u_t3 (i := 46) rfl rfl
theorem q_527 : (Jvm.Cond.instanceMethod ({ cls := "RopeRemembers", name := "sheet", desc := "(IIII)I" } : Jvm.MethodName)) ∈ u_big := u_t3 (i := 47) rfl rfl
theorem q_528 : (Jvm.Cond.selects "RopeRemembers" ({ cls := "RopeRemembers", name := "sheet", desc := "(IIII)I" } : Jvm.MethodName) ({ cls := "RopeRemembers", name := "sheet", desc := "(IIII)I" } : Jvm.MethodName)) ∈ u_big := u_t3 (i := 48) rfl rfl
theorem q_529 : (Jvm.Cond.code ({ cls := "RopeRemembers", name := "sheet", desc := "(IIII)I" } : Jvm.MethodName) prog_1_method_9_code (8 : Nat) (Option.some Jvm.ClassFile.FieldType.int)) ∈ u_big := u_t3 (i := 49) rfl rfl
theorem q_530 : (Jvm.Cond.methodLink "RopeRemembers" (186 : Nat) ({ cls := "RopeRemembers", name := "sheetEntry", desc := "(II)I" } : Jvm.MethodName)) ∈ u_big := u_t3 (i := 50) rfl rfl
theorem q_531 : (Jvm.Cond.static ({ cls := "RopeRemembers", name := "sheetEntry", desc := "(II)I" } : Jvm.MethodName)) ∈ u_big := u_t3 (i := 51) rfl rfl
theorem q_532 : (Jvm.Cond.code ({ cls := "RopeRemembers", name := "sheetEntry", desc := "(II)I" } : Jvm.MethodName) prog_1_method_10_code (2 : Nat) (Option.some Jvm.ClassFile.FieldType.int)) ∈ u_big := u_t3 (i := 52) rfl rfl
theorem q_533 : (Jvm.Cond.methodLink "RopeRemembers" (190 : Nat) ({ cls := "RopeRemembers", name := "digitOf", desc := "(I)I" } : Jvm.MethodName)) ∈ u_big := u_t3 (i := 53) rfl rfl
theorem q_534 : (Jvm.Cond.static ({ cls := "RopeRemembers", name := "digitOf", desc := "(I)I" } : Jvm.MethodName)) ∈ u_big := u_t3 (i := 54) rfl rfl
theorem q_535 : (Jvm.Cond.code ({ cls := "RopeRemembers", name := "digitOf", desc := "(I)I" } : Jvm.MethodName) prog_1_method_11_code (1 : Nat) (Option.some Jvm.ClassFile.FieldType.int)) ∈ u_big := u_t3 (i := 55) rfl rfl
theorem q_536 : (Jvm.Cond.methodLink "RopeRemembers" (196 : Nat) ({ cls := "java/lang/Math", name := "min", desc := "(II)I" } : Jvm.MethodName)) ∈ u_big := u_t3 (i := 56) rfl rfl
theorem q_537 : (Jvm.Cond.methodLink "RopeRemembers" (201 : Nat) ({ cls := "java/lang/Math", name := "max", desc := "(II)I" } : Jvm.MethodName)) ∈ u_big := u_t3 (i := 57) rfl rfl
theorem q_538 : (Jvm.Cond.methodLink "RopeRemembers" (193 : Nat) ({ cls := "RopeRemembers$State", name := "beliefOfAll", desc := "()I" } : Jvm.MethodName)) ∈ u_big := u_t3 (i := 58) rfl rfl
theorem q_539 : (Jvm.Cond.instanceMethod ({ cls := "RopeRemembers$State", name := "beliefOfAll", desc := "()I" } : Jvm.MethodName)) ∈ u_big := u_t3 (i := 59) rfl rfl
theorem q_540 : (Jvm.Cond.selects "RopeRemembers$State" ({ cls := "RopeRemembers$State", name := "beliefOfAll", desc := "()I" } : Jvm.MethodName) ({ cls := "RopeRemembers$State", name := "beliefOfAll", desc := "()I" } : Jvm.MethodName)) ∈ u_big := u_t3 (i := 60) rfl rfl
theorem q_541 : (Jvm.Cond.code ({ cls := "RopeRemembers$State", name := "beliefOfAll", desc := "()I" } : Jvm.MethodName) prog_9_method_18_code (3 : Nat) (Option.some Jvm.ClassFile.FieldType.int)) ∈ u_big := u_t3 (i := 61) rfl rfl
theorem q_542 : (Jvm.Cond.methodLink "RopeRemembersLaw" (66 : Nat) ({ cls := "RopeRemembers", name := "crossing", desc := "(I)I" } : Jvm.MethodName)) ∈ u_big := u_t3 (i := 62) rfl rfl
theorem q_543 : (Jvm.Cond.instanceMethod ({ cls := "RopeRemembers", name := "crossing", desc := "(I)I" } : Jvm.MethodName)) ∈ u_big := u_t3 (i := 63) rfl rfl
theorem q_544 : (Jvm.Cond.selects "RopeRemembers" ({ cls := "RopeRemembers", name := "crossing", desc := "(I)I" } : Jvm.MethodName) ({ cls := "RopeRemembers", name := "crossing", desc := "(I)I" } : Jvm.MethodName)) ∈ u_big := u_t3 (i := 64) rfl rfl
theorem q_545 : (Jvm.Cond.code ({ cls := "RopeRemembers", name := "crossing", desc := "(I)I" } : Jvm.MethodName) prog_1_method_13_code (3 : Nat) (Option.some Jvm.ClassFile.FieldType.int)) ∈ u_big := u_t3 (i := 65) rfl rfl
theorem q_546 : (Jvm.Cond.methodLink "RopeRemembers" (206 : Nat) ({ cls := "RopeRemembers$State", name := "copy", desc := "(LRopeRemembers$State;)V" } : Jvm.MethodName)) ∈ u_big := u_t3 (i := 66) rfl rfl
theorem q_547 : (Jvm.Cond.instanceMethod ({ cls := "RopeRemembers$State", name := "copy", desc := "(LRopeRemembers$State;)V" } : Jvm.MethodName)) ∈ u_big := u_t3 (i := 67) rfl rfl
theorem q_548 : (Jvm.Cond.selects "RopeRemembers$State" ({ cls := "RopeRemembers$State", name := "copy", desc := "(LRopeRemembers$State;)V" } : Jvm.MethodName) ({ cls := "RopeRemembers$State", name := "copy", desc := "(LRopeRemembers$State;)V" } : Jvm.MethodName)) ∈ u_big := u_t3 (i := 68) rfl rfl
theorem q_549 : (Jvm.Cond.code ({ cls := "RopeRemembers$State", name := "copy", desc := "(LRopeRemembers$State;)V" } : Jvm.MethodName) prog_9_method_2_code (2 : Nat) (Option.none : Option Jvm.ClassFile.FieldType)) ∈ u_big := u_t3 (i := 69) rfl rfl
theorem q_550 : (Jvm.Cond.methodLink "RopeRemembers$State" (31 : Nat) ({ cls := "java/lang/System", name := "arraycopy", desc := "(Ljava/lang/Object;ILjava/lang/Object;II)V" } : Jvm.MethodName)) ∈ u_big := u_t3 (i := 70) rfl rfl
theorem q_551 : (Jvm.Cond.static ({ cls := "java/lang/System", name := "arraycopy", desc := "(Ljava/lang/Object;ILjava/lang/Object;II)V" } : Jvm.MethodName)) ∈ u_big := u_t3 (i := 71) rfl rfl
theorem q_552 : (Jvm.Cond.native ({ cls := "java/lang/System", name := "arraycopy", desc := "(Ljava/lang/Object;ILjava/lang/Object;II)V" } : Jvm.MethodName)) ∈ u_big := u_t3 (i := 72) rfl rfl
theorem q_553 : (Jvm.Cond.methodLink "RopeRemembers" (210 : Nat) ({ cls := "RopeRemembers$State", name := "cross", desc := "(ILRopeRemembers$Rule;)I" } : Jvm.MethodName)) ∈ u_big := u_t3 (i := 73) rfl rfl
theorem q_554 : (Jvm.Cond.instanceMethod ({ cls := "RopeRemembers$State", name := "cross", desc := "(ILRopeRemembers$Rule;)I" } : Jvm.MethodName)) ∈ u_big := u_t3 (i := 74) rfl rfl
theorem q_555 : (Jvm.Cond.selects "RopeRemembers$State" ({ cls := "RopeRemembers$State", name := "cross", desc := "(ILRopeRemembers$Rule;)I" } : Jvm.MethodName) ({ cls := "RopeRemembers$State", name := "cross", desc := "(ILRopeRemembers$Rule;)I" } : Jvm.MethodName)) ∈ u_big := u_t3 (i := 75) rfl rfl
theorem q_556 : (Jvm.Cond.code ({ cls := "RopeRemembers$State", name := "cross", desc := "(ILRopeRemembers$Rule;)I" } : Jvm.MethodName) prog_9_method_26_code (6 : Nat) (Option.some Jvm.ClassFile.FieldType.int)) ∈ u_big := u_t3 (i := 76) rfl rfl
theorem q_557 : (Jvm.Cond.methodLink "RopeRemembers$State" (86 : Nat) ({ cls := "RopeRemembers$State", name := "inside", desc := "()I" } : Jvm.MethodName)) ∈ u_big := u_t3 (i := 77) rfl rfl
theorem q_558 : (Jvm.Cond.instanceMethod ({ cls := "RopeRemembers$State", name := "inside", desc := "()I" } : Jvm.MethodName)) ∈ u_big := u_t3 (i := 78) rfl rfl
theorem q_559 : (Jvm.Cond.selects "RopeRemembers$State" ({ cls := "RopeRemembers$State", name := "inside", desc := "()I" } : Jvm.MethodName) ({ cls := "RopeRemembers$State", name := "inside", desc := "()I" } : Jvm.MethodName)) ∈ u_big := u_t3 (i := 79) rfl rfl
theorem q_560 : (Jvm.Cond.code ({ cls := "RopeRemembers$State", name := "inside", desc := "()I" } : Jvm.MethodName) prog_9_method_11_code (3 : Nat) (Option.some Jvm.ClassFile.FieldType.int)) ∈ u_big := u_t3 (i := 80) rfl rfl
theorem q_561 : (Jvm.Cond.methodLink "RopeRemembers$State" (82 : Nat) ({ cls := "RopeRemembers$State", name := "isIn", desc := "(I)Z" } : Jvm.MethodName)) ∈ u_big := u_t3 (i := 81) rfl rfl
theorem q_562 : (Jvm.Cond.instanceMethod ({ cls := "RopeRemembers$State", name := "isIn", desc := "(I)Z" } : Jvm.MethodName)) ∈ u_big := u_t3 (i := 82) rfl rfl
theorem q_563 : (Jvm.Cond.selects "RopeRemembers$State" ({ cls := "RopeRemembers$State", name := "isIn", desc := "(I)Z" } : Jvm.MethodName) ({ cls := "RopeRemembers$State", name := "isIn", desc := "(I)Z" } : Jvm.MethodName)) ∈ u_big := u_t3 (i := 83) rfl rfl
theorem q_564 : (Jvm.Cond.code ({ cls := "RopeRemembers$State", name := "isIn", desc := "(I)Z" } : Jvm.MethodName) prog_9_method_10_code (2 : Nat) (Option.some Jvm.ClassFile.FieldType.boolean)) ∈ u_big := u_t3 (i := 84) rfl rfl
theorem q_565 : (Jvm.Cond.methodLink "RopeRemembers$State" (102 : Nat) ({ cls := "RopeRemembers$State", name := "cornOf", desc := "(II)I" } : Jvm.MethodName)) ∈ u_big := u_t3 (i := 85) rfl rfl
theorem q_566 : (Jvm.Cond.instanceMethod ({ cls := "RopeRemembers$State", name := "cornOf", desc := "(II)I" } : Jvm.MethodName)) ∈ u_big := u_t3 (i := 86) rfl rfl
theorem q_567 : (Jvm.Cond.selects "RopeRemembers$State" ({ cls := "RopeRemembers$State", name := "cornOf", desc := "(II)I" } : Jvm.MethodName) ({ cls := "RopeRemembers$State", name := "cornOf", desc := "(II)I" } : Jvm.MethodName)) ∈ u_big := u_t3 (i := 87) rfl rfl
theorem q_568 : (Jvm.Cond.code ({ cls := "RopeRemembers$State", name := "cornOf", desc := "(II)I" } : Jvm.MethodName) prog_9_method_20_code (5 : Nat) (Option.some Jvm.ClassFile.FieldType.int)) ∈ u_big := u_t3 (i := 88) rfl rfl
theorem q_569 : (Jvm.Cond.methodLink "RopeRemembers$State" (111 : Nat) ({ cls := "RopeRemembers$State", name := "part", desc := "(Z)V" } : Jvm.MethodName)) ∈ u_big := u_t3 (i := 89) rfl rfl
theorem q_571 : (Jvm.Cond.instanceMethod ({ cls := "RopeRemembers$State", name := "part", desc := "(Z)V" } : Jvm.MethodName)) ∈ u_big := u_t3 (i := 91) rfl rfl
theorem q_572 : (Jvm.Cond.code ({ cls := "RopeRemembers$State", name := "part", desc := "(Z)V" } : Jvm.MethodName) prog_9_method_27_code (3 : Nat) (Option.none : Option Jvm.ClassFile.FieldType)) ∈ u_big := u_t3 (i := 92) rfl rfl
theorem q_573 : (Jvm.Cond.methodLink "RopeRemembers$State" (119 : Nat) ({ cls := "RopeRemembers$State", name := "isOfRope", desc := "(I)Z" } : Jvm.MethodName)) ∈ u_big := u_t3 (i := 93) rfl rfl
theorem q_574 : (Jvm.Cond.instanceMethod ({ cls := "RopeRemembers$State", name := "isOfRope", desc := "(I)Z" } : Jvm.MethodName)) ∈ u_big := u_t3 (i := 94) rfl rfl
theorem q_575 : (Jvm.Cond.selects "RopeRemembers$State" ({ cls := "RopeRemembers$State", name := "isOfRope", desc := "(I)Z" } : Jvm.MethodName) ({ cls := "RopeRemembers$State", name := "isOfRope", desc := "(I)Z" } : Jvm.MethodName)) ∈ u_big := u_t3 (i := 95) rfl rfl
theorem q_576 : (Jvm.Cond.code ({ cls := "RopeRemembers$State", name := "isOfRope", desc := "(I)Z" } : Jvm.MethodName) prog_9_method_6_code (2 : Nat) (Option.some Jvm.ClassFile.FieldType.boolean)) ∈ u_big := u_t3 (i := 96) rfl rfl
theorem q_577 : (Jvm.Cond.methodLink "RopeRemembers$State" (115 : Nat) ({ cls := "RopeRemembers$State", name := "turn", desc := "(LRopeRemembers$Rule;)Z" } : Jvm.MethodName)) ∈ u_big := u_t3 (i := 97) rfl rfl
theorem q_578 : (Jvm.Cond.instanceMethod ({ cls := "RopeRemembers$State", name := "turn", desc := "(LRopeRemembers$Rule;)Z" } : Jvm.MethodName)) ∈ u_big := u_t3 (i := 98) rfl rfl
theorem q_579 : (Jvm.Cond.selects "RopeRemembers$State" ({ cls := "RopeRemembers$State", name := "turn", desc := "(LRopeRemembers$Rule;)Z" } : Jvm.MethodName) ({ cls := "RopeRemembers$State", name := "turn", desc := "(LRopeRemembers$Rule;)Z" } : Jvm.MethodName)) ∈ u_big := u_t3 (i := 99) rfl rfl
theorem q_580 : (Jvm.Cond.code ({ cls := "RopeRemembers$State", name := "turn", desc := "(LRopeRemembers$Rule;)Z" } : Jvm.MethodName) prog_9_method_28_code (4 : Nat) (Option.some Jvm.ClassFile.FieldType.boolean)) ∈ u_big := u_t3 (i := 100) rfl rfl
theorem q_581 : (Jvm.Cond.methodLink "RopeRemembers$State" (122 : Nat) ({ cls := "RopeRemembers$Rule", name := "behind", desc := "(LRopeRemembers$State;I)I" } : Jvm.MethodName)) ∈ u_big := u_t3 (i := 101) rfl rfl
theorem q_582 : (Jvm.Cond.instanceMethod ({ cls := "RopeRemembers$Rule", name := "behind", desc := "(LRopeRemembers$State;I)I" } : Jvm.MethodName)) ∈ u_big := u_t3 (i := 102) rfl rfl
theorem q_583 : (Jvm.Cond.selects "RopeRemembers$Rule" ({ cls := "RopeRemembers$Rule", name := "behind", desc := "(LRopeRemembers$State;I)I" } : Jvm.MethodName) ({ cls := "RopeRemembers$Rule", name := "behind", desc := "(LRopeRemembers$State;I)I" } : Jvm.MethodName)) ∈ u_big := u_t3 (i := 103) rfl rfl
theorem q_584 : (Jvm.Cond.code ({ cls := "RopeRemembers$Rule", name := "behind", desc := "(LRopeRemembers$State;I)I" } : Jvm.MethodName) prog_8_method_16_code (3 : Nat) (Option.some Jvm.ClassFile.FieldType.int)) ∈ u_big := u_t3 (i := 104) rfl rfl
theorem q_585 : (Jvm.Cond.methodLink "RopeRemembers$Rule" (93 : Nat) ({ cls := "RopeRemembers$Rule", name := "lookAt", desc := "(LRopeRemembers$State;I)V" } : Jvm.MethodName)) ∈ u_big := u_t3 (i := 105) rfl rfl
theorem q_587 : (Jvm.Cond.instanceMethod ({ cls := "RopeRemembers$Rule", name := "lookAt", desc := "(LRopeRemembers$State;I)V" } : Jvm.MethodName)) ∈ u_big := u_t3 (i := 107) rfl rfl
theorem q_588 : (Jvm.Cond.code ({ cls := "RopeRemembers$Rule", name := "lookAt", desc := "(LRopeRemembers$State;I)V" } : Jvm.MethodName) prog_8_method_17_code (7 : Nat) (Option.none : Option Jvm.ClassFile.FieldType)) ∈ u_big := u_t3 (i := 108) rfl rfl
theorem q_589 : (Jvm.Cond.methodLink "RopeRemembers$Rule" (97 : Nat) ({ cls := "RopeRemembers$Rule", name := "worked", desc := "()I" } : Jvm.MethodName)) ∈ u_big := u_t3 (i := 109) rfl rfl
theorem q_591 : (Jvm.Cond.instanceMethod ({ cls := "RopeRemembers$Rule", name := "worked", desc := "()I" } : Jvm.MethodName)) ∈ u_big := u_t3 (i := 111) rfl rfl
theorem q_592 : (Jvm.Cond.code ({ cls := "RopeRemembers$Rule", name := "worked", desc := "()I" } : Jvm.MethodName) prog_8_method_18_code (4 : Nat) (Option.some Jvm.ClassFile.FieldType.int)) ∈ u_big := u_t3 (i := 112) rfl rfl
theorem q_593 : (Jvm.Cond.methodLink "RopeRemembers$Rule" (124 : Nat) ({ cls := "RopeRemembers$Rule", name := "thing", desc := "(I)I" } : Jvm.MethodName)) ∈ u_big := u_t3 (i := 113) rfl rfl
theorem q_595 : (Jvm.Cond.instanceMethod ({ cls := "RopeRemembers$Rule", name := "thing", desc := "(I)I" } : Jvm.MethodName)) ∈ u_big := u_t3 (i := 115) rfl rfl
theorem q_596 : (Jvm.Cond.code ({ cls := "RopeRemembers$Rule", name := "thing", desc := "(I)I" } : Jvm.MethodName) prog_8_method_19_code (2 : Nat) (Option.some Jvm.ClassFile.FieldType.int)) ∈ u_big := u_t3 (i := 116) rfl rfl
theorem q_597 : (Jvm.Cond.methodLink "RopeRemembers$Rule" (127 : Nat) ({ cls := "RopeRemembers$Rule", name := "joined", desc := "(III)I" } : Jvm.MethodName)) ∈ u_big := u_t3 (i := 117) rfl rfl
theorem q_598 : (Jvm.Cond.static ({ cls := "RopeRemembers$Rule", name := "joined", desc := "(III)I" } : Jvm.MethodName)) ∈ u_big := u_t3 (i := 118) rfl rfl
theorem q_599 : (Jvm.Cond.code ({ cls := "RopeRemembers$Rule", name := "joined", desc := "(III)I" } : Jvm.MethodName) prog_8_method_20_code (3 : Nat) (Option.some Jvm.ClassFile.FieldType.int)) ∈ u_big := u_t3 (i := 119) rfl rfl
theorem q_601 : (Jvm.Cond.methodLink "RopeRemembers$State" (89 : Nat) ({ cls := "java/lang/Integer", name := "bitCount", desc := "(I)I" } : Jvm.MethodName)) ∈ u_big := u_t3 (i := 121) rfl rfl
theorem q_602 : (Jvm.Cond.static ({ cls := "java/lang/Integer", name := "bitCount", desc := "(I)I" } : Jvm.MethodName)) ∈ u_big := u_t3 (i := 122) rfl rfl
theorem q_603 : (Jvm.Cond.code ({ cls := "java/lang/Integer", name := "bitCount", desc := "(I)I" } : Jvm.MethodName) prog_17_method_49_code (1 : Nat) (Option.some Jvm.ClassFile.FieldType.int)) ∈ u_big := u_t3 (i := 123) rfl rfl
theorem q_604 : (Jvm.Cond.constant "java/lang/Integer" (265 : Nat) (1431655765 : Int32)) ∈ u_big := u_t3 (i := 124) rfl rfl
theorem q_605 : (Jvm.Cond.constant "java/lang/Integer" (266 : Nat) (858993459 : Int32)) ∈ u_big := u_t3 (i := 125) rfl rfl
theorem q_606 : (Jvm.Cond.constant "java/lang/Integer" (267 : Nat) (252645135 : Int32)) ∈ u_big := u_t3 (i := 126) rfl rfl
theorem q_607 : (Jvm.Cond.methodLink "RopeRemembers" (214 : Nat) ({ cls := "RopeRemembers$Past", name := "push", desc := "(LRopeRemembers$State;)V" } : Jvm.MethodName)) ∈ u_big := u_t3 (i := 127) rfl rfl
theorem q_608 : (Jvm.Cond.instanceMethod ({ cls := "RopeRemembers$Past", name := "push", desc := "(LRopeRemembers$State;)V" } : Jvm.MethodName)) ∈ u_big := u_t3 (i := 128) rfl rfl
theorem q_609 : (Jvm.Cond.selects "RopeRemembers$Past" ({ cls := "RopeRemembers$Past", name := "push", desc := "(LRopeRemembers$State;)V" } : Jvm.MethodName) ({ cls := "RopeRemembers$Past", name := "push", desc := "(LRopeRemembers$State;)V" } : Jvm.MethodName)) ∈ u_big := u_t3 (i := 129) rfl rfl
theorem q_610 : (Jvm.Cond.code ({ cls := "RopeRemembers$Past", name := "push", desc := "(LRopeRemembers$State;)V" } : Jvm.MethodName) prog_5_method_3_code (3 : Nat) (Option.none : Option Jvm.ClassFile.FieldType)) ∈ u_big := u_t3 (i := 130) rfl rfl
theorem q_611 : (Jvm.Cond.methodLink "RopeRemembers$Past" (28 : Nat) ({ cls := "RopeRemembers$Past", name := "dropEldest", desc := "()V" } : Jvm.MethodName)) ∈ u_big := u_t3 (i := 131) rfl rfl
theorem q_613 : (Jvm.Cond.instanceMethod ({ cls := "RopeRemembers$Past", name := "dropEldest", desc := "()V" } : Jvm.MethodName)) ∈ u_big := u_t3 (i := 133) rfl rfl
theorem q_614 : (Jvm.Cond.code ({ cls := "RopeRemembers$Past", name := "dropEldest", desc := "()V" } : Jvm.MethodName) prog_5_method_4_code (3 : Nat) (Option.none : Option Jvm.ClassFile.FieldType)) ∈ u_big := u_t3 (i := 134) rfl rfl
theorem q_615 : (Jvm.Cond.methodLink "RopeRemembers$Past" (31 : Nat) ({ cls := "RopeRemembers$State", name := "copy", desc := "(LRopeRemembers$State;)V" } : Jvm.MethodName)) ∈ u_big := u_t3 (i := 135) rfl rfl
theorem q_616 : (Jvm.Cond.methodLink "RopeRemembers" (220 : Nat) ({ cls := "RopeRemembers$Told", name := "two", desc := "(JJ)V" } : Jvm.MethodName)) ∈ u_big := u_t3 (i := 136) rfl rfl
theorem q_617 : (Jvm.Cond.instanceMethod ({ cls := "RopeRemembers$Told", name := "two", desc := "(JJ)V" } : Jvm.MethodName)) ∈ u_big := u_t3 (i := 137) rfl rfl
theorem q_618 : (Jvm.Cond.selects "RopeRemembers$Told" ({ cls := "RopeRemembers$Told", name := "two", desc := "(JJ)V" } : Jvm.MethodName) ({ cls := "RopeRemembers$Told", name := "two", desc := "(JJ)V" } : Jvm.MethodName)) ∈ u_big := u_t3 (i := 138) rfl rfl
theorem q_619 : (Jvm.Cond.code ({ cls := "RopeRemembers$Told", name := "two", desc := "(JJ)V" } : Jvm.MethodName) prog_10_method_5_code (5 : Nat) (Option.none : Option Jvm.ClassFile.FieldType)) ∈ u_big := u_t3 (i := 139) rfl rfl
theorem q_620 : (Jvm.Cond.methodLink "RopeRemembers$Told" (19 : Nat) ({ cls := "RopeRemembers$Told", name := "add", desc := "(J)V" } : Jvm.MethodName)) ∈ u_big := u_t3 (i := 140) rfl rfl
theorem q_621 : (Jvm.Cond.instanceMethod ({ cls := "RopeRemembers$Told", name := "add", desc := "(J)V" } : Jvm.MethodName)) ∈ u_big := u_t3 (i := 141) rfl rfl
theorem q_622 : (Jvm.Cond.selects "RopeRemembers$Told" ({ cls := "RopeRemembers$Told", name := "add", desc := "(J)V" } : Jvm.MethodName) ({ cls := "RopeRemembers$Told", name := "add", desc := "(J)V" } : Jvm.MethodName)) ∈ u_big := u_t3 (i := 142) rfl rfl
theorem q_623 : (Jvm.Cond.code ({ cls := "RopeRemembers$Told", name := "add", desc := "(J)V" } : Jvm.MethodName) prog_10_method_3_code (3 : Nat) (Option.none : Option Jvm.ClassFile.FieldType)) ∈ u_big := u_t3 (i := 143) rfl rfl
theorem q_624 : (Jvm.Cond.methodLink "RopeRemembers" (224 : Nat) ({ cls := "RopeRemembers$State", name := "howManyIn", desc := "()I" } : Jvm.MethodName)) ∈ u_big := u_t3 (i := 144) rfl rfl
theorem q_625 : (Jvm.Cond.instanceMethod ({ cls := "RopeRemembers$State", name := "howManyIn", desc := "()I" } : Jvm.MethodName)) ∈ u_big := u_t3 (i := 145) rfl rfl
theorem q_626 : (Jvm.Cond.selects "RopeRemembers$State" ({ cls := "RopeRemembers$State", name := "howManyIn", desc := "()I" } : Jvm.MethodName) ({ cls := "RopeRemembers$State", name := "howManyIn", desc := "()I" } : Jvm.MethodName)) ∈ u_big := u_t3 (i := 146) rfl rfl
theorem q_627 : (Jvm.Cond.code ({ cls := "RopeRemembers$State", name := "howManyIn", desc := "()I" } : Jvm.MethodName) prog_9_method_13_code (1 : Nat) (Option.some Jvm.ClassFile.FieldType.int)) ∈ u_big := u_t3 (i := 147) rfl rfl
theorem q_628 : (Jvm.Cond.methodLink "RopeRemembersLaw" (70 : Nat) ({ cls := "RopeRemembers", name := "show", desc := "(I)I" } : Jvm.MethodName)) ∈ u_big := u_t3 (i := 148) rfl rfl
theorem q_629 : (Jvm.Cond.instanceMethod ({ cls := "RopeRemembers", name := "show", desc := "(I)I" } : Jvm.MethodName)) ∈ u_big := u_t3 (i := 149) rfl rfl
theorem q_630 : (Jvm.Cond.selects "RopeRemembers" ({ cls := "RopeRemembers", name := "show", desc := "(I)I" } : Jvm.MethodName) ({ cls := "RopeRemembers", name := "show", desc := "(I)I" } : Jvm.MethodName)) ∈ u_big := u_t3 (i := 150) rfl rfl
theorem q_631 : (Jvm.Cond.code ({ cls := "RopeRemembers", name := "show", desc := "(I)I" } : Jvm.MethodName) prog_1_method_14_code (2 : Nat) (Option.some Jvm.ClassFile.FieldType.int)) ∈ u_big := u_t3 (i := 151) rfl rfl
theorem q_632 : (Jvm.Cond.methodLink "RopeRemembers" (227 : Nat) ({ cls := "RopeRemembers$State", name := "showTo", desc := "(I)I" } : Jvm.MethodName)) ∈ u_big := u_t3 (i := 152) rfl rfl
theorem q_633 : (Jvm.Cond.instanceMethod ({ cls := "RopeRemembers$State", name := "showTo", desc := "(I)I" } : Jvm.MethodName)) ∈ u_big := u_t3 (i := 153) rfl rfl
theorem q_634 : (Jvm.Cond.selects "RopeRemembers$State" ({ cls := "RopeRemembers$State", name := "showTo", desc := "(I)I" } : Jvm.MethodName) ({ cls := "RopeRemembers$State", name := "showTo", desc := "(I)I" } : Jvm.MethodName)) ∈ u_big := u_t3 (i := 154) rfl rfl
theorem q_635 : (Jvm.Cond.code ({ cls := "RopeRemembers$State", name := "showTo", desc := "(I)I" } : Jvm.MethodName) prog_9_method_22_code (2 : Nat) (Option.some Jvm.ClassFile.FieldType.int)) ∈ u_big := u_t3 (i := 155) rfl rfl
theorem q_636 : (Jvm.Cond.methodLink "RopeRemembers$State" (105 : Nat) ({ cls := "RopeRemembers$State", name := "isPerson", desc := "(I)Z" } : Jvm.MethodName)) ∈ u_big := u_t3 (i := 156) rfl rfl
theorem q_637 : (Jvm.Cond.instanceMethod ({ cls := "RopeRemembers$State", name := "isPerson", desc := "(I)Z" } : Jvm.MethodName)) ∈ u_big := u_t3 (i := 157) rfl rfl
theorem q_638 : (Jvm.Cond.selects "RopeRemembers$State" ({ cls := "RopeRemembers$State", name := "isPerson", desc := "(I)Z" } : Jvm.MethodName) ({ cls := "RopeRemembers$State", name := "isPerson", desc := "(I)Z" } : Jvm.MethodName)) ∈ u_big := u_t3 (i := 158) rfl rfl
theorem q_639 : (Jvm.Cond.code ({ cls := "RopeRemembers$State", name := "isPerson", desc := "(I)Z" } : Jvm.MethodName) prog_9_method_7_code (2 : Nat) (Option.some Jvm.ClassFile.FieldType.boolean)) ∈ u_big := u_t3 (i := 159) rfl rfl
theorem q_640 : (Jvm.Cond.methodLink "RopeRemembers" (230 : Nat) ({ cls := "RopeRemembers", name := "acted", desc := "(I)I" } : Jvm.MethodName)) ∈ u_big := u_t3 (i := 160) rfl rfl
theorem q_642 : (Jvm.Cond.instanceMethod ({ cls := "RopeRemembers", name := "acted", desc := "(I)I" } : Jvm.MethodName)) ∈ u_big := u_t3 (i := 162) rfl rfl
theorem q_643 : (Jvm.Cond.code ({ cls := "RopeRemembers", name := "acted", desc := "(I)I" } : Jvm.MethodName) prog_1_method_20_code (2 : Nat) (Option.some Jvm.ClassFile.FieldType.int)) ∈ u_big := u_t3 (i := 163) rfl rfl
theorem q_644 : (Jvm.Cond.methodLink "RopeRemembersLaw" (74 : Nat) ({ cls := "RopeRemembers", name := "glance", desc := "(II)I" } : Jvm.MethodName)) ∈ u_big := u_t3 (i := 164) rfl rfl
theorem q_645 : (Jvm.Cond.instanceMethod ({ cls := "RopeRemembers", name := "glance", desc := "(II)I" } : Jvm.MethodName)) ∈ u_big := u_t3 (i := 165) rfl rfl
theorem q_646 : (Jvm.Cond.selects "RopeRemembers" ({ cls := "RopeRemembers", name := "glance", desc := "(II)I" } : Jvm.MethodName) ({ cls := "RopeRemembers", name := "glance", desc := "(II)I" } : Jvm.MethodName)) ∈ u_big := u_t3 (i := 166) rfl rfl
theorem q_647 : (Jvm.Cond.code ({ cls := "RopeRemembers", name := "glance", desc := "(II)I" } : Jvm.MethodName) prog_1_method_15_code (3 : Nat) (Option.some Jvm.ClassFile.FieldType.int)) ∈ u_big := u_t3 (i := 167) rfl rfl
theorem q_648 : (Jvm.Cond.methodLink "RopeRemembers" (233 : Nat) ({ cls := "RopeRemembers$State", name := "turnEyes", desc := "(II)I" } : Jvm.MethodName)) ∈ u_big := u_t3 (i := 168) rfl rfl
theorem q_649 : (Jvm.Cond.instanceMethod ({ cls := "RopeRemembers$State", name := "turnEyes", desc := "(II)I" } : Jvm.MethodName)) ∈ u_big := u_t3 (i := 169) rfl rfl
theorem q_650 : (Jvm.Cond.selects "RopeRemembers$State" ({ cls := "RopeRemembers$State", name := "turnEyes", desc := "(II)I" } : Jvm.MethodName) ({ cls := "RopeRemembers$State", name := "turnEyes", desc := "(II)I" } : Jvm.MethodName)) ∈ u_big := u_t3 (i := 170) rfl rfl
theorem q_651 : (Jvm.Cond.code ({ cls := "RopeRemembers$State", name := "turnEyes", desc := "(II)I" } : Jvm.MethodName) prog_9_method_23_code (3 : Nat) (Option.some Jvm.ClassFile.FieldType.int)) ∈ u_big := u_t3 (i := 171) rfl rfl
theorem q_652 : (Jvm.Cond.methodLink "RopeRemembers$State" (99 : Nat) ({ cls := "RopeRemembers$State", name := "seenBy", desc := "(I)I" } : Jvm.MethodName)) ∈ u_big := u_t3 (i := 172) rfl rfl
theorem q_653 : (Jvm.Cond.instanceMethod ({ cls := "RopeRemembers$State", name := "seenBy", desc := "(I)I" } : Jvm.MethodName)) ∈ u_big := u_t3 (i := 173) rfl rfl
theorem q_654 : (Jvm.Cond.selects "RopeRemembers$State" ({ cls := "RopeRemembers$State", name := "seenBy", desc := "(I)I" } : Jvm.MethodName) ({ cls := "RopeRemembers$State", name := "seenBy", desc := "(I)I" } : Jvm.MethodName)) ∈ u_big := u_t3 (i := 174) rfl rfl
theorem q_655 : (Jvm.Cond.code ({ cls := "RopeRemembers$State", name := "seenBy", desc := "(I)I" } : Jvm.MethodName) prog_9_method_14_code (2 : Nat) (Option.some Jvm.ClassFile.FieldType.int)) ∈ u_big := u_t3 (i := 175) rfl rfl
theorem q_656 : (Jvm.Cond.methodLink "RopeRemembers$State" (78 : Nat) ({ cls := "RopeRemembers$State", name := "everybody", desc := "()I" } : Jvm.MethodName)) ∈ u_big := u_t3 (i := 176) rfl rfl
theorem q_657 : (Jvm.Cond.instanceMethod ({ cls := "RopeRemembers$State", name := "everybody", desc := "()I" } : Jvm.MethodName)) ∈ u_big := u_t3 (i := 177) rfl rfl
theorem q_658 : (Jvm.Cond.selects "RopeRemembers$State" ({ cls := "RopeRemembers$State", name := "everybody", desc := "()I" } : Jvm.MethodName) ({ cls := "RopeRemembers$State", name := "everybody", desc := "()I" } : Jvm.MethodName)) ∈ u_big := u_t3 (i := 178) rfl rfl
theorem q_659 : (Jvm.Cond.code ({ cls := "RopeRemembers$State", name := "everybody", desc := "()I" } : Jvm.MethodName) prog_9_method_9_code (1 : Nat) (Option.some Jvm.ClassFile.FieldType.int)) ∈ u_big := u_t3 (i := 179) rfl rfl
theorem q_660 : (Jvm.Cond.methodLink "RopeRemembersLaw" (78 : Nat) ({ cls := "RopeRemembers", name := "rope", desc := "(II)I" } : Jvm.MethodName)) ∈ u_big := u_t3 (i := 180) rfl rfl
theorem q_661 : (Jvm.Cond.instanceMethod ({ cls := "RopeRemembers", name := "rope", desc := "(II)I" } : Jvm.MethodName)) ∈ u_big := u_t3 (i := 181) rfl rfl
theorem q_662 : (Jvm.Cond.selects "RopeRemembers" ({ cls := "RopeRemembers", name := "rope", desc := "(II)I" } : Jvm.MethodName) ({ cls := "RopeRemembers", name := "rope", desc := "(II)I" } : Jvm.MethodName)) ∈ u_big := u_t3 (i := 182) rfl rfl
theorem q_663 : (Jvm.Cond.code ({ cls := "RopeRemembers", name := "rope", desc := "(II)I" } : Jvm.MethodName) prog_1_method_16_code (3 : Nat) (Option.some Jvm.ClassFile.FieldType.int)) ∈ u_big := u_t3 (i := 183) rfl rfl
theorem q_664 : (Jvm.Cond.methodLink "RopeRemembers" (236 : Nat) ({ cls := "RopeRemembers$State", name := "moveRope", desc := "(II)I" } : Jvm.MethodName)) ∈ u_big := u_t3 (i := 184) rfl rfl
theorem q_665 : (Jvm.Cond.instanceMethod ({ cls := "RopeRemembers$State", name := "moveRope", desc := "(II)I" } : Jvm.MethodName)) ∈ u_big := u_t3 (i := 185) rfl rfl
theorem q_666 : (Jvm.Cond.selects "RopeRemembers$State" ({ cls := "RopeRemembers$State", name := "moveRope", desc := "(II)I" } : Jvm.MethodName) ({ cls := "RopeRemembers$State", name := "moveRope", desc := "(II)I" } : Jvm.MethodName)) ∈ u_big := u_t3 (i := 186) rfl rfl
theorem q_667 : (Jvm.Cond.code ({ cls := "RopeRemembers$State", name := "moveRope", desc := "(II)I" } : Jvm.MethodName) prog_9_method_24_code (3 : Nat) (Option.some Jvm.ClassFile.FieldType.int)) ∈ u_big := u_t3 (i := 187) rfl rfl
theorem q_668 : (Jvm.Cond.methodLink "RopeRemembers$State" (108 : Nat) ({ cls := "RopeRemembers$State", name := "isFurrow", desc := "(I)Z" } : Jvm.MethodName)) ∈ u_big := u_t3 (i := 188) rfl rfl
theorem q_669 : (Jvm.Cond.instanceMethod ({ cls := "RopeRemembers$State", name := "isFurrow", desc := "(I)Z" } : Jvm.MethodName)) ∈ u_big := u_t3 (i := 189) rfl rfl
theorem q_670 : (Jvm.Cond.selects "RopeRemembers$State" ({ cls := "RopeRemembers$State", name := "isFurrow", desc := "(I)Z" } : Jvm.MethodName) ({ cls := "RopeRemembers$State", name := "isFurrow", desc := "(I)Z" } : Jvm.MethodName)) ∈ u_big := u_t3 (i := 190) rfl rfl
theorem q_671 : (Jvm.Cond.code ({ cls := "RopeRemembers$State", name := "isFurrow", desc := "(I)Z" } : Jvm.MethodName) prog_9_method_5_code (2 : Nat) (Option.some Jvm.ClassFile.FieldType.boolean)) ∈ u_big := u_t3 (i := 191) rfl rfl
theorem q_672 : (Jvm.Cond.methodLink "RopeRemembersLaw" (82 : Nat) ({ cls := "RopeRemembers", name := "sow", desc := "(II)I" } : Jvm.MethodName)) ∈ u_big := u_t3 (i := 192) rfl rfl
theorem q_673 : (Jvm.Cond.instanceMethod ({ cls := "RopeRemembers", name := "sow", desc := "(II)I" } : Jvm.MethodName)) ∈ u_big := u_t3 (i := 193) rfl rfl
theorem q_674 : (Jvm.Cond.selects "RopeRemembers" ({ cls := "RopeRemembers", name := "sow", desc := "(II)I" } : Jvm.MethodName) ({ cls := "RopeRemembers", name := "sow", desc := "(II)I" } : Jvm.MethodName)) ∈ u_big := u_t3 (i := 194) rfl rfl
theorem q_675 : (Jvm.Cond.code ({ cls := "RopeRemembers", name := "sow", desc := "(II)I" } : Jvm.MethodName) prog_1_method_17_code (3 : Nat) (Option.some Jvm.ClassFile.FieldType.int)) ∈ u_big := u_t3 (i := 195) rfl rfl
theorem q_676 : (Jvm.Cond.methodLink "RopeRemembers" (239 : Nat) ({ cls := "RopeRemembers$State", name := "sowCorn", desc := "(II)I" } : Jvm.MethodName)) ∈ u_big := u_t3 (i := 196) rfl rfl
theorem q_677 : (Jvm.Cond.instanceMethod ({ cls := "RopeRemembers$State", name := "sowCorn", desc := "(II)I" } : Jvm.MethodName)) ∈ u_big := u_t3 (i := 197) rfl rfl
theorem q_678 : (Jvm.Cond.selects "RopeRemembers$State" ({ cls := "RopeRemembers$State", name := "sowCorn", desc := "(II)I" } : Jvm.MethodName) ({ cls := "RopeRemembers$State", name := "sowCorn", desc := "(II)I" } : Jvm.MethodName)) ∈ u_big := u_t3 (i := 198) rfl rfl
theorem q_679 : (Jvm.Cond.code ({ cls := "RopeRemembers$State", name := "sowCorn", desc := "(II)I" } : Jvm.MethodName) prog_9_method_25_code (3 : Nat) (Option.some Jvm.ClassFile.FieldType.int)) ∈ u_big := u_t3 (i := 199) rfl rfl
theorem q_680 : (Jvm.Cond.methodLink "RopeRemembersLaw" (86 : Nat) ({ cls := "RopeRemembers", name := "week", desc := "()I" } : Jvm.MethodName)) ∈ u_big := u_t3 (i := 200) rfl rfl
theorem q_681 : (Jvm.Cond.instanceMethod ({ cls := "RopeRemembers", name := "week", desc := "()I" } : Jvm.MethodName)) ∈ u_big := u_t3 (i := 201) rfl rfl
theorem q_682 : (Jvm.Cond.selects "RopeRemembers" ({ cls := "RopeRemembers", name := "week", desc := "()I" } : Jvm.MethodName) ({ cls := "RopeRemembers", name := "week", desc := "()I" } : Jvm.MethodName)) ∈ u_big := u_t3 (i := 202) rfl rfl
theorem q_683 : (Jvm.Cond.code ({ cls := "RopeRemembers", name := "week", desc := "()I" } : Jvm.MethodName) prog_1_method_18_code (5 : Nat) (Option.some Jvm.ClassFile.FieldType.int)) ∈ u_big := u_t3 (i := 203) rfl rfl
theorem q_684 : (Jvm.Cond.methodLink "RopeRemembers" (242 : Nat) ({ cls := "RopeRemembers$WeekReader", name := "begin", desc := "()V" } : Jvm.MethodName)) ∈ u_big := u_t3 (i := 204) rfl rfl
theorem q_685 : (Jvm.Cond.instanceMethod ({ cls := "RopeRemembers$WeekReader", name := "begin", desc := "()V" } : Jvm.MethodName)) ∈ u_big := u_t3 (i := 205) rfl rfl
theorem q_686 : (Jvm.Cond.selects "RopeRemembers$WeekReader" ({ cls := "RopeRemembers$WeekReader", name := "begin", desc := "()V" } : Jvm.MethodName) ({ cls := "RopeRemembers$WeekReader", name := "begin", desc := "()V" } : Jvm.MethodName)) ∈ u_big := u_t3 (i := 206) rfl rfl
theorem q_687 : (Jvm.Cond.code ({ cls := "RopeRemembers$WeekReader", name := "begin", desc := "()V" } : Jvm.MethodName) prog_11_method_2_code (1 : Nat) (Option.none : Option Jvm.ClassFile.FieldType)) ∈ u_big := u_t3 (i := 207) rfl rfl
theorem q_688 : (Jvm.Cond.methodLink "RopeRemembers" (243 : Nat) ({ cls := "RopeRemembers$WeekReader", name := "wrongAt", desc := "(LRopeRemembers$Words;I)I" } : Jvm.MethodName)) ∈ u_big := u_t3 (i := 208) rfl rfl
theorem q_689 : (Jvm.Cond.sameMethod "RopeRemembers$WeekReader" "RopeRemembers$Reader" "wrongAt" "(LRopeRemembers$Words;I)I") ∈ u_big := u_t3 (i := 209) rfl rfl
theorem q_690 : (Jvm.Cond.selects "RopeRemembers$WeekReader" ({ cls := "RopeRemembers$WeekReader", name := "wrongAt", desc := "(LRopeRemembers$Words;I)I" } : Jvm.MethodName) ({ cls := "RopeRemembers$Reader", name := "wrongAt", desc := "(LRopeRemembers$Words;I)I" } : Jvm.MethodName)) ∈ u_big := u_t3 (i := 210) rfl rfl
theorem q_691 : (Jvm.Cond.methodLink "RopeRemembers" (247 : Nat) ({ cls := "RopeRemembers", name := "doAct", desc := "(I)I" } : Jvm.MethodName)) ∈ u_big := u_t3 (i := 211) rfl rfl
theorem q_693 : (Jvm.Cond.instanceMethod ({ cls := "RopeRemembers", name := "doAct", desc := "(I)I" } : Jvm.MethodName)) ∈ u_big := u_t3 (i := 213) rfl rfl
theorem q_694 : (Jvm.Cond.code ({ cls := "RopeRemembers", name := "doAct", desc := "(I)I" } : Jvm.MethodName) prog_1_method_21_code (2 : Nat) (Option.some Jvm.ClassFile.FieldType.int)) ∈ u_big := u_t3 (i := 214) rfl rfl
theorem q_695 : (Jvm.Cond.methodLink "RopeRemembersLaw" (90 : Nat) ({ cls := "RopeRemembers", name := "undo", desc := "()I" } : Jvm.MethodName)) ∈ u_big := u_t3 (i := 215) rfl rfl
theorem q_696 : (Jvm.Cond.instanceMethod ({ cls := "RopeRemembers", name := "undo", desc := "()I" } : Jvm.MethodName)) ∈ u_big := u_t3 (i := 216) rfl rfl
theorem q_697 : (Jvm.Cond.selects "RopeRemembers" ({ cls := "RopeRemembers", name := "undo", desc := "()I" } : Jvm.MethodName) ({ cls := "RopeRemembers", name := "undo", desc := "()I" } : Jvm.MethodName)) ∈ u_big := u_t3 (i := 217) rfl rfl
theorem q_698 : (Jvm.Cond.code ({ cls := "RopeRemembers", name := "undo", desc := "()I" } : Jvm.MethodName) prog_1_method_19_code (1 : Nat) (Option.some Jvm.ClassFile.FieldType.int)) ∈ u_big := u_t3 (i := 218) rfl rfl
theorem q_699 : (Jvm.Cond.methodLink "RopeRemembers" (250 : Nat) ({ cls := "RopeRemembers$Past", name := "pop", desc := "(LRopeRemembers$State;)Z" } : Jvm.MethodName)) ∈ u_big := u_t3 (i := 219) rfl rfl
theorem q_700 : (Jvm.Cond.instanceMethod ({ cls := "RopeRemembers$Past", name := "pop", desc := "(LRopeRemembers$State;)Z" } : Jvm.MethodName)) ∈ u_big := u_t3 (i := 220) rfl rfl
theorem q_701 : (Jvm.Cond.selects "RopeRemembers$Past" ({ cls := "RopeRemembers$Past", name := "pop", desc := "(LRopeRemembers$State;)Z" } : Jvm.MethodName) ({ cls := "RopeRemembers$Past", name := "pop", desc := "(LRopeRemembers$State;)Z" } : Jvm.MethodName)) ∈ u_big := u_t3 (i := 221) rfl rfl
theorem q_702 : (Jvm.Cond.code ({ cls := "RopeRemembers$Past", name := "pop", desc := "(LRopeRemembers$State;)Z" } : Jvm.MethodName) prog_5_method_5_code (4 : Nat) (Option.some Jvm.ClassFile.FieldType.boolean)) ∈ u_big := u_t3 (i := 222) rfl rfl
theorem q_703 : (Jvm.Cond.methodLink "RopeRemembersLaw" (94 : Nat) ({ cls := "RopeRemembers", name := "later", desc := "(I)I" } : Jvm.MethodName)) ∈ u_big := u_t3 (i := 223) rfl rfl
theorem q_704 : (Jvm.Cond.instanceMethod ({ cls := "RopeRemembers", name := "later", desc := "(I)I" } : Jvm.MethodName)) ∈ u_big := u_t3 (i := 224) rfl rfl
theorem q_705 : (Jvm.Cond.selects "RopeRemembers" ({ cls := "RopeRemembers", name := "later", desc := "(I)I" } : Jvm.MethodName) ({ cls := "RopeRemembers", name := "later", desc := "(I)I" } : Jvm.MethodName)) ∈ u_big := u_t3 (i := 225) rfl rfl
theorem q_706 : (Jvm.Cond.code ({ cls := "RopeRemembers", name := "later", desc := "(I)I" } : Jvm.MethodName) prog_1_method_22_code (3 : Nat) (Option.some Jvm.ClassFile.FieldType.int)) ∈ u_big := u_t3 (i := 226) rfl rfl
theorem q_707 : (Jvm.Cond.methodLink "RopeRemembers" (272 : Nat) ({ cls := "RopeRemembers", name := "tryCrossings", desc := "(II)I" } : Jvm.MethodName)) ∈ u_big := u_t3 (i := 227) rfl rfl
theorem q_709 : (Jvm.Cond.instanceMethod ({ cls := "RopeRemembers", name := "tryCrossings", desc := "(II)I" } : Jvm.MethodName)) ∈ u_big := u_t3 (i := 229) rfl rfl
theorem q_710 : (Jvm.Cond.code ({ cls := "RopeRemembers", name := "tryCrossings", desc := "(II)I" } : Jvm.MethodName) prog_1_method_30_code (3 : Nat) (Option.some Jvm.ClassFile.FieldType.int)) ∈ u_big := u_t3 (i := 230) rfl rfl
theorem q_711 : (Jvm.Cond.methodLink "RopeRemembers" (275 : Nat) ({ cls := "RopeRemembers$State", name := "inside", desc := "()I" } : Jvm.MethodName)) ∈ u_big := u_t3 (i := 231) rfl rfl
theorem q_712 : (Jvm.Cond.methodLink "RopeRemembersLaw" (98 : Nat) ({ cls := "RopeRemembers", name := "settles", desc := "()I" } : Jvm.MethodName)) ∈ u_big := u_t3 (i := 232) rfl rfl
theorem q_713 : (Jvm.Cond.instanceMethod ({ cls := "RopeRemembers", name := "settles", desc := "()I" } : Jvm.MethodName)) ∈ u_big := u_t3 (i := 233) rfl rfl
theorem q_714 : (Jvm.Cond.selects "RopeRemembers" ({ cls := "RopeRemembers", name := "settles", desc := "()I" } : Jvm.MethodName) ({ cls := "RopeRemembers", name := "settles", desc := "()I" } : Jvm.MethodName)) ∈ u_big := u_t3 (i := 234) rfl rfl
theorem q_715 : (Jvm.Cond.code ({ cls := "RopeRemembers", name := "settles", desc := "()I" } : Jvm.MethodName) prog_1_method_23_code (3 : Nat) (Option.some Jvm.ClassFile.FieldType.int)) ∈ u_big := u_t3 (i := 235) rfl rfl
theorem q_716 : (Jvm.Cond.methodLink "RopeRemembers" (281 : Nat) ({ cls := "RopeRemembers$State", name := "packedBelief", desc := "()I" } : Jvm.MethodName)) ∈ u_big := u_t3 (i := 236) rfl rfl
theorem q_717 : (Jvm.Cond.instanceMethod ({ cls := "RopeRemembers$State", name := "packedBelief", desc := "()I" } : Jvm.MethodName)) ∈ u_big := u_t3 (i := 237) rfl rfl
theorem q_718 : (Jvm.Cond.selects "RopeRemembers$State" ({ cls := "RopeRemembers$State", name := "packedBelief", desc := "()I" } : Jvm.MethodName) ({ cls := "RopeRemembers$State", name := "packedBelief", desc := "()I" } : Jvm.MethodName)) ∈ u_big := u_t3 (i := 238) rfl rfl
theorem q_719 : (Jvm.Cond.code ({ cls := "RopeRemembers$State", name := "packedBelief", desc := "()I" } : Jvm.MethodName) prog_9_method_19_code (3 : Nat) (Option.some Jvm.ClassFile.FieldType.int)) ∈ u_big := u_t3 (i := 239) rfl rfl
theorem q_720 : (Jvm.Cond.methodLink "RopeRemembers" (284 : Nat) ({ cls := "RopeRemembers", name := "firstLike", desc := "(I)I" } : Jvm.MethodName)) ∈ u_big := u_t4 (i := 0) rfl rfl
theorem q_722 : (Jvm.Cond.instanceMethod ({ cls := "RopeRemembers", name := "firstLike", desc := "(I)I" } : Jvm.MethodName)) ∈ u_big := u_t4 (i := 2) rfl rfl
theorem q_723 : (Jvm.Cond.code ({ cls := "RopeRemembers", name := "firstLike", desc := "(I)I" } : Jvm.MethodName) prog_1_method_31_code (3 : Nat) (Option.some Jvm.ClassFile.FieldType.int)) ∈ u_big := u_t4 (i := 3) rfl rfl
theorem q_724 : (Jvm.Cond.methodLink "RopeRemembers" (287 : Nat) ({ cls := "RopeRemembers$Told", name := "one", desc := "(J)V" } : Jvm.MethodName)) ∈ u_big := u_t4 (i := 4) rfl rfl
theorem q_725 : (Jvm.Cond.instanceMethod ({ cls := "RopeRemembers$Told", name := "one", desc := "(J)V" } : Jvm.MethodName)) ∈ u_big := u_t4 (i := 5) rfl rfl
theorem q_726 : (Jvm.Cond.selects "RopeRemembers$Told" ({ cls := "RopeRemembers$Told", name := "one", desc := "(J)V" } : Jvm.MethodName) ({ cls := "RopeRemembers$Told", name := "one", desc := "(J)V" } : Jvm.MethodName)) ∈ u_big := u_t4 (i := 6) rfl rfl
theorem q_727 : (Jvm.Cond.code ({ cls := "RopeRemembers$Told", name := "one", desc := "(J)V" } : Jvm.MethodName) prog_10_method_4_code (3 : Nat) (Option.none : Option Jvm.ClassFile.FieldType)) ∈ u_big := u_t4 (i := 7) rfl rfl
theorem q_728 : (Jvm.Cond.methodLink "RopeRemembers" (291 : Nat) ({ cls := "RopeRemembers$State", name := "turn", desc := "(LRopeRemembers$Rule;)Z" } : Jvm.MethodName)) ∈ u_big := u_t4 (i := 8) rfl rfl
theorem q_729 : (Jvm.Cond.methodLink "RopeRemembersLaw" (102 : Nat) ({ cls := "RopeRemembers", name := "leaves", desc := "(I)I" } : Jvm.MethodName)) ∈ u_big := u_t4 (i := 9) rfl rfl
theorem q_730 : (Jvm.Cond.instanceMethod ({ cls := "RopeRemembers", name := "leaves", desc := "(I)I" } : Jvm.MethodName)) ∈ u_big := u_t4 (i := 10) rfl rfl
theorem q_731 : (Jvm.Cond.selects "RopeRemembers" ({ cls := "RopeRemembers", name := "leaves", desc := "(I)I" } : Jvm.MethodName) ({ cls := "RopeRemembers", name := "leaves", desc := "(I)I" } : Jvm.MethodName)) ∈ u_big := u_t4 (i := 11) rfl rfl
theorem q_732 : (Jvm.Cond.code ({ cls := "RopeRemembers", name := "leaves", desc := "(I)I" } : Jvm.MethodName) prog_1_method_24_code (3 : Nat) (Option.some Jvm.ClassFile.FieldType.int)) ∈ u_big := u_t4 (i := 12) rfl rfl
theorem q_733 : (Jvm.Cond.methodLink "RopeRemembers" (156 : Nat) ({ cls := "RopeRemembers$State", name := "isPerson", desc := "(I)Z" } : Jvm.MethodName)) ∈ u_big := u_t4 (i := 13) rfl rfl
theorem q_734 : (Jvm.Cond.methodLink "RopeRemembers" (171 : Nat) ({ cls := "RopeRemembers$State", name := "isIn", desc := "(I)Z" } : Jvm.MethodName)) ∈ u_big := u_t4 (i := 14) rfl rfl
theorem q_735 : (Jvm.Cond.methodLink "RopeRemembersLaw" (106 : Nat) ({ cls := "RopeRemembers", name := "signs", desc := "(II)I" } : Jvm.MethodName)) ∈ u_big := u_t4 (i := 15) rfl rfl
theorem q_736 : (Jvm.Cond.instanceMethod ({ cls := "RopeRemembers", name := "signs", desc := "(II)I" } : Jvm.MethodName)) ∈ u_big := u_t4 (i := 16) rfl rfl
theorem q_737 : (Jvm.Cond.selects "RopeRemembers" ({ cls := "RopeRemembers", name := "signs", desc := "(II)I" } : Jvm.MethodName) ({ cls := "RopeRemembers", name := "signs", desc := "(II)I" } : Jvm.MethodName)) ∈ u_big := u_t4 (i := 17) rfl rfl
theorem q_738 : (Jvm.Cond.code ({ cls := "RopeRemembers", name := "signs", desc := "(II)I" } : Jvm.MethodName) prog_1_method_25_code (3 : Nat) (Option.some Jvm.ClassFile.FieldType.int)) ∈ u_big := u_t4 (i := 18) rfl rfl
theorem q_739 : (Jvm.Cond.methodLink "RopeRemembers" (295 : Nat) ({ cls := "RopeRemembers$State", name := "arePeople", desc := "(I)Z" } : Jvm.MethodName)) ∈ u_big := u_t4 (i := 19) rfl rfl
theorem q_740 : (Jvm.Cond.instanceMethod ({ cls := "RopeRemembers$State", name := "arePeople", desc := "(I)Z" } : Jvm.MethodName)) ∈ u_big := u_t4 (i := 20) rfl rfl
theorem q_741 : (Jvm.Cond.selects "RopeRemembers$State" ({ cls := "RopeRemembers$State", name := "arePeople", desc := "(I)Z" } : Jvm.MethodName) ({ cls := "RopeRemembers$State", name := "arePeople", desc := "(I)Z" } : Jvm.MethodName)) ∈ u_big := u_t4 (i := 21) rfl rfl
theorem q_742 : (Jvm.Cond.code ({ cls := "RopeRemembers$State", name := "arePeople", desc := "(I)Z" } : Jvm.MethodName) prog_9_method_8_code (2 : Nat) (Option.some Jvm.ClassFile.FieldType.boolean)) ∈ u_big := u_t4 (i := 22) rfl rfl
theorem q_743 : (Jvm.Cond.methodLink "RopeRemembers" (298 : Nat) ({ cls := "RopeRemembers", name := "isSignsCrossings", desc := "(I)Z" } : Jvm.MethodName)) ∈ u_big := u_t4 (i := 23) rfl rfl
theorem q_744 : (Jvm.Cond.static ({ cls := "RopeRemembers", name := "isSignsCrossings", desc := "(I)Z" } : Jvm.MethodName)) ∈ u_big := u_t4 (i := 24) rfl rfl
theorem q_745 : (Jvm.Cond.code ({ cls := "RopeRemembers", name := "isSignsCrossings", desc := "(I)Z" } : Jvm.MethodName) prog_1_method_29_code (1 : Nat) (Option.some Jvm.ClassFile.FieldType.boolean)) ∈ u_big := u_t4 (i := 25) rfl rfl
theorem q_746 : (Jvm.Cond.methodLink "RopeRemembers" (301 : Nat) ({ cls := "RopeRemembers", name := "fewestSigns", desc := "(IIZ)I" } : Jvm.MethodName)) ∈ u_big := u_t4 (i := 26) rfl rfl
theorem q_748 : (Jvm.Cond.instanceMethod ({ cls := "RopeRemembers", name := "fewestSigns", desc := "(IIZ)I" } : Jvm.MethodName)) ∈ u_big := u_t4 (i := 28) rfl rfl
theorem q_749 : (Jvm.Cond.code ({ cls := "RopeRemembers", name := "fewestSigns", desc := "(IIZ)I" } : Jvm.MethodName) prog_1_method_32_code (10 : Nat) (Option.some Jvm.ClassFile.FieldType.int)) ∈ u_big := u_t4 (i := 29) rfl rfl
theorem q_750 : (Jvm.Cond.methodLink "RopeRemembers" (315 : Nat) ({ cls := "RopeRemembers", name := "whomSignsMove", desc := "()I" } : Jvm.MethodName)) ∈ u_big := u_t4 (i := 30) rfl rfl
theorem q_752 : (Jvm.Cond.instanceMethod ({ cls := "RopeRemembers", name := "whomSignsMove", desc := "()I" } : Jvm.MethodName)) ∈ u_big := u_t4 (i := 32) rfl rfl
theorem q_753 : (Jvm.Cond.code ({ cls := "RopeRemembers", name := "whomSignsMove", desc := "()I" } : Jvm.MethodName) prog_1_method_33_code (3 : Nat) (Option.some Jvm.ClassFile.FieldType.int)) ∈ u_big := u_t4 (i := 33) rfl rfl
theorem q_754 : (Jvm.Cond.methodLink "RopeRemembers" (305 : Nat) ({ cls := "RopeRemembers$State", name := "everybody", desc := "()I" } : Jvm.MethodName)) ∈ u_big := u_t4 (i := 34) rfl rfl
theorem q_755 : (Jvm.Cond.methodLink "RopeRemembers" (174 : Nat) ({ cls := "RopeRemembers$Rule", name := "behind", desc := "(LRopeRemembers$State;I)I" } : Jvm.MethodName)) ∈ u_big := u_t4 (i := 35) rfl rfl
theorem q_756 : (Jvm.Cond.methodLink "RopeRemembers" (181 : Nat) ({ cls := "java/lang/Integer", name := "bitCount", desc := "(I)I" } : Jvm.MethodName)) ∈ u_big := u_t4 (i := 36) rfl rfl
theorem q_757 : (Jvm.Cond.methodLink "RopeRemembers" (308 : Nat) ({ cls := "RopeRemembers$State", name := "believeFrom", desc := "(LRopeRemembers$State;ILRopeRemembers$Rule;IZ)V" } : Jvm.MethodName)) ∈ u_big := u_t4 (i := 37) rfl rfl
theorem q_758 : (Jvm.Cond.instanceMethod ({ cls := "RopeRemembers$State", name := "believeFrom", desc := "(LRopeRemembers$State;ILRopeRemembers$Rule;IZ)V" } : Jvm.MethodName)) ∈ u_big := u_t4 (i := 38) rfl rfl
theorem q_759 : (Jvm.Cond.selects "RopeRemembers$State" ({ cls := "RopeRemembers$State", name := "believeFrom", desc := "(LRopeRemembers$State;ILRopeRemembers$Rule;IZ)V" } : Jvm.MethodName) ({ cls := "RopeRemembers$State", name := "believeFrom", desc := "(LRopeRemembers$State;ILRopeRemembers$Rule;IZ)V" } : Jvm.MethodName)) ∈ u_big := u_t4 (i := 39) rfl rfl
theorem q_760 : (Jvm.Cond.code ({ cls := "RopeRemembers$State", name := "believeFrom", desc := "(LRopeRemembers$State;ILRopeRemembers$Rule;IZ)V" } : Jvm.MethodName) prog_9_method_29_code (9 : Nat) (Option.none : Option Jvm.ClassFile.FieldType)) ∈ u_big := u_t4 (i := 40) rfl rfl
theorem q_761 : (Jvm.Cond.methodLink "RopeRemembers$State" (128 : Nat) ({ cls := "RopeRemembers$State", name := "copy", desc := "(LRopeRemembers$State;)V" } : Jvm.MethodName)) ∈ u_big := u_t4 (i := 41) rfl rfl
theorem q_762 : (Jvm.Cond.methodLink "RopeRemembersLaw" (110 : Nat) ({ cls := "RopeRemembers", name := "empties", desc := "(I)I" } : Jvm.MethodName)) ∈ u_big := u_t4 (i := 42) rfl rfl
theorem q_763 : (Jvm.Cond.instanceMethod ({ cls := "RopeRemembers", name := "empties", desc := "(I)I" } : Jvm.MethodName)) ∈ u_big := u_t4 (i := 43) rfl rfl
theorem q_764 : (Jvm.Cond.selects "RopeRemembers" ({ cls := "RopeRemembers", name := "empties", desc := "(I)I" } : Jvm.MethodName) ({ cls := "RopeRemembers", name := "empties", desc := "(I)I" } : Jvm.MethodName)) ∈ u_big := u_t4 (i := 44) rfl rfl
theorem q_765 : (Jvm.Cond.code ({ cls := "RopeRemembers", name := "empties", desc := "(I)I" } : Jvm.MethodName) prog_1_method_26_code (2 : Nat) (Option.some Jvm.ClassFile.FieldType.int)) ∈ u_big := u_t4 (i := 45) rfl rfl
theorem q_766 : (Jvm.Cond.methodLink "RopeRemembersLaw" (114 : Nat) ({ cls := "RopeRemembers", name := "weakest", desc := "(I)I" } : Jvm.MethodName)) ∈ u_big := u_t4 (i := 46) rfl rfl
theorem q_767 : (Jvm.Cond.instanceMethod ({ cls := "RopeRemembers", name := "weakest", desc := "(I)I" } : Jvm.MethodName)) ∈ u_big := u_t4 (i := 47) rfl rfl
theorem q_768 : (Jvm.Cond.selects "RopeRemembers" ({ cls := "RopeRemembers", name := "weakest", desc := "(I)I" } : Jvm.MethodName) ({ cls := "RopeRemembers", name := "weakest", desc := "(I)I" } : Jvm.MethodName)) ∈ u_big := u_t4 (i := 48) rfl rfl
theorem q_769 : (Jvm.Cond.code ({ cls := "RopeRemembers", name := "weakest", desc := "(I)I" } : Jvm.MethodName) prog_1_method_27_code (6 : Nat) (Option.some Jvm.ClassFile.FieldType.int)) ∈ u_big := u_t4 (i := 49) rfl rfl
theorem q_770 : (Jvm.Cond.methodLink "RopeRemembersLaw" (118 : Nat) ({ cls := "RopeRemembers", name := "mean", desc := "()I" } : Jvm.MethodName)) ∈ u_big := u_t4 (i := 50) rfl rfl
theorem q_771 : (Jvm.Cond.instanceMethod ({ cls := "RopeRemembers", name := "mean", desc := "()I" } : Jvm.MethodName)) ∈ u_big := u_t4 (i := 51) rfl rfl
theorem q_772 : (Jvm.Cond.selects "RopeRemembers" ({ cls := "RopeRemembers", name := "mean", desc := "()I" } : Jvm.MethodName) ({ cls := "RopeRemembers", name := "mean", desc := "()I" } : Jvm.MethodName)) ∈ u_big := u_t4 (i := 52) rfl rfl
theorem q_773 : (Jvm.Cond.code ({ cls := "RopeRemembers", name := "mean", desc := "()I" } : Jvm.MethodName) prog_1_method_28_code (4 : Nat) (Option.some Jvm.ClassFile.FieldType.int)) ∈ u_big := u_t4 (i := 53) rfl rfl
theorem q_774 : (Jvm.Cond.methodLink "RopeRemembers" (312 : Nat) ({ cls := "RopeRemembers", name := "tellFraction", desc := "(JJ)V" } : Jvm.MethodName)) ∈ u_big := u_t4 (i := 54) rfl rfl
theorem q_776 : (Jvm.Cond.instanceMethod ({ cls := "RopeRemembers", name := "tellFraction", desc := "(JJ)V" } : Jvm.MethodName)) ∈ u_big := u_t4 (i := 56) rfl rfl
theorem q_777 : (Jvm.Cond.code ({ cls := "RopeRemembers", name := "tellFraction", desc := "(JJ)V" } : Jvm.MethodName) prog_1_method_34_code (7 : Nat) (Option.none : Option Jvm.ClassFile.FieldType)) ∈ u_big := u_t4 (i := 57) rfl rfl
theorem q_778 : (Jvm.Cond.methodLink "RopeRemembers" (318 : Nat) ({ cls := "RopeRemembers", name := "commonDivisor", desc := "(JJ)J" } : Jvm.MethodName)) ∈ u_big := u_t4 (i := 58) rfl rfl
theorem q_779 : (Jvm.Cond.static ({ cls := "RopeRemembers", name := "commonDivisor", desc := "(JJ)J" } : Jvm.MethodName)) ∈ u_big := u_t4 (i := 59) rfl rfl
theorem q_780 : (Jvm.Cond.code ({ cls := "RopeRemembers", name := "commonDivisor", desc := "(JJ)J" } : Jvm.MethodName) prog_1_method_35_code (11 : Nat) (Option.some Jvm.ClassFile.FieldType.long)) ∈ u_big := u_t4 (i := 60) rfl rfl
theorem q_781 : (Jvm.Cond.methodLink "RopeRemembersLaw" (122 : Nat) ({ cls := "RopeRemembers", name := "depends", desc := "(I)I" } : Jvm.MethodName)) ∈ u_big := u_t4 (i := 61) rfl rfl
theorem q_782 : (Jvm.Cond.instanceMethod ({ cls := "RopeRemembers", name := "depends", desc := "(I)I" } : Jvm.MethodName)) ∈ u_big := u_t4 (i := 62) rfl rfl
theorem q_783 : (Jvm.Cond.selects "RopeRemembers" ({ cls := "RopeRemembers", name := "depends", desc := "(I)I" } : Jvm.MethodName) ({ cls := "RopeRemembers", name := "depends", desc := "(I)I" } : Jvm.MethodName)) ∈ u_big := u_t4 (i := 63) rfl rfl
theorem q_784 : (Jvm.Cond.code ({ cls := "RopeRemembers", name := "depends", desc := "(I)I" } : Jvm.MethodName) prog_1_method_36_code (5 : Nat) (Option.some Jvm.ClassFile.FieldType.int)) ∈ u_big := u_t4 (i := 64) rfl rfl
theorem q_785 : (Jvm.Cond.methodLink "RopeRemembers" (322 : Nat) ({ cls := "RopeRemembers", name := "dependsOn", desc := "(I)I" } : Jvm.MethodName)) ∈ u_big := u_t4 (i := 65) rfl rfl
theorem q_787 : (Jvm.Cond.instanceMethod ({ cls := "RopeRemembers", name := "dependsOn", desc := "(I)I" } : Jvm.MethodName)) ∈ u_big := u_t4 (i := 67) rfl rfl
theorem q_788 : (Jvm.Cond.code ({ cls := "RopeRemembers", name := "dependsOn", desc := "(I)I" } : Jvm.MethodName) prog_1_method_43_code (6 : Nat) (Option.some Jvm.ClassFile.FieldType.int)) ∈ u_big := u_t4 (i := 68) rfl rfl
theorem q_789 : (Jvm.Cond.methodLink "RopeRemembers" (167 : Nat) ({ cls := "RopeRemembers$State", name := "seenBy", desc := "(I)I" } : Jvm.MethodName)) ∈ u_big := u_t4 (i := 69) rfl rfl
theorem q_790 : (Jvm.Cond.methodLink "RopeRemembersLaw" (126 : Nat) ({ cls := "RopeRemembers", name := "cut", desc := "(II)I" } : Jvm.MethodName)) ∈ u_big := u_t4 (i := 70) rfl rfl
theorem q_791 : (Jvm.Cond.instanceMethod ({ cls := "RopeRemembers", name := "cut", desc := "(II)I" } : Jvm.MethodName)) ∈ u_big := u_t4 (i := 71) rfl rfl
theorem q_792 : (Jvm.Cond.selects "RopeRemembers" ({ cls := "RopeRemembers", name := "cut", desc := "(II)I" } : Jvm.MethodName) ({ cls := "RopeRemembers", name := "cut", desc := "(II)I" } : Jvm.MethodName)) ∈ u_big := u_t4 (i := 72) rfl rfl
theorem q_793 : (Jvm.Cond.code ({ cls := "RopeRemembers", name := "cut", desc := "(II)I" } : Jvm.MethodName) prog_1_method_37_code (9 : Nat) (Option.some Jvm.ClassFile.FieldType.int)) ∈ u_big := u_t4 (i := 73) rfl rfl
theorem q_794 : (Jvm.Cond.methodLink "RopeRemembers" (325 : Nat) ({ cls := "RopeRemembers", name := "glancesOut", desc := "(I)I" } : Jvm.MethodName)) ∈ u_big := u_t4 (i := 74) rfl rfl
theorem q_796 : (Jvm.Cond.instanceMethod ({ cls := "RopeRemembers", name := "glancesOut", desc := "(I)I" } : Jvm.MethodName)) ∈ u_big := u_t4 (i := 76) rfl rfl
theorem q_797 : (Jvm.Cond.code ({ cls := "RopeRemembers", name := "glancesOut", desc := "(I)I" } : Jvm.MethodName) prog_1_method_44_code (4 : Nat) (Option.some Jvm.ClassFile.FieldType.int)) ∈ u_big := u_t4 (i := 77) rfl rfl
theorem q_798 : (Jvm.Cond.methodLink "RopeRemembersLaw" (130 : Nat) ({ cls := "RopeRemembers", name := "faces", desc := "()I" } : Jvm.MethodName)) ∈ u_big := u_t4 (i := 78) rfl rfl
theorem q_799 : (Jvm.Cond.instanceMethod ({ cls := "RopeRemembers", name := "faces", desc := "()I" } : Jvm.MethodName)) ∈ u_big := u_t4 (i := 79) rfl rfl
theorem q_800 : (Jvm.Cond.selects "RopeRemembers" ({ cls := "RopeRemembers", name := "faces", desc := "()I" } : Jvm.MethodName) ({ cls := "RopeRemembers", name := "faces", desc := "()I" } : Jvm.MethodName)) ∈ u_big := u_t4 (i := 80) rfl rfl
theorem q_801 : (Jvm.Cond.code ({ cls := "RopeRemembers", name := "faces", desc := "()I" } : Jvm.MethodName) prog_1_method_38_code (7 : Nat) (Option.some Jvm.ClassFile.FieldType.int)) ∈ u_big := u_t4 (i := 81) rfl rfl
theorem q_802 : (Jvm.Cond.methodLink "RopeRemembers" (328 : Nat) ({ cls := "RopeRemembers", name := "seeEachOther", desc := "(II)Z" } : Jvm.MethodName)) ∈ u_big := u_t4 (i := 82) rfl rfl
theorem q_804 : (Jvm.Cond.instanceMethod ({ cls := "RopeRemembers", name := "seeEachOther", desc := "(II)Z" } : Jvm.MethodName)) ∈ u_big := u_t4 (i := 84) rfl rfl
theorem q_805 : (Jvm.Cond.code ({ cls := "RopeRemembers", name := "seeEachOther", desc := "(II)Z" } : Jvm.MethodName) prog_1_method_45_code (3 : Nat) (Option.some Jvm.ClassFile.FieldType.boolean)) ∈ u_big := u_t4 (i := 85) rfl rfl
theorem q_806 : (Jvm.Cond.methodLink "RopeRemembers" (348 : Nat) ({ cls := "RopeRemembers$State", name := "sees", desc := "(II)Z" } : Jvm.MethodName)) ∈ u_big := u_t4 (i := 86) rfl rfl
theorem q_807 : (Jvm.Cond.instanceMethod ({ cls := "RopeRemembers$State", name := "sees", desc := "(II)Z" } : Jvm.MethodName)) ∈ u_big := u_t4 (i := 87) rfl rfl
theorem q_808 : (Jvm.Cond.selects "RopeRemembers$State" ({ cls := "RopeRemembers$State", name := "sees", desc := "(II)Z" } : Jvm.MethodName) ({ cls := "RopeRemembers$State", name := "sees", desc := "(II)Z" } : Jvm.MethodName)) ∈ u_big := u_t4 (i := 88) rfl rfl
theorem q_809 : (Jvm.Cond.code ({ cls := "RopeRemembers$State", name := "sees", desc := "(II)Z" } : Jvm.MethodName) prog_9_method_15_code (3 : Nat) (Option.some Jvm.ClassFile.FieldType.boolean)) ∈ u_big := u_t4 (i := 89) rfl rfl
theorem q_810 : (Jvm.Cond.methodLink "RopeRemembers" (332 : Nat) ({ cls := "RopeRemembers", name := "howManyFaceToFace", desc := "(II)I" } : Jvm.MethodName)) ∈ u_big := u_t4 (i := 90) rfl rfl
theorem q_812 : (Jvm.Cond.instanceMethod ({ cls := "RopeRemembers", name := "howManyFaceToFace", desc := "(II)I" } : Jvm.MethodName)) ∈ u_big := u_t4 (i := 92) rfl rfl
theorem q_813 : (Jvm.Cond.code ({ cls := "RopeRemembers", name := "howManyFaceToFace", desc := "(II)I" } : Jvm.MethodName) prog_1_method_46_code (3 : Nat) (Option.some Jvm.ClassFile.FieldType.int)) ∈ u_big := u_t4 (i := 93) rfl rfl
theorem q_814 : (Jvm.Cond.methodLink "RopeRemembersLaw" (134 : Nat) ({ cls := "RopeRemembers", name := "knows", desc := "(I)I" } : Jvm.MethodName)) ∈ u_big := u_t4 (i := 94) rfl rfl
theorem q_815 : (Jvm.Cond.instanceMethod ({ cls := "RopeRemembers", name := "knows", desc := "(I)I" } : Jvm.MethodName)) ∈ u_big := u_t4 (i := 95) rfl rfl
theorem q_816 : (Jvm.Cond.selects "RopeRemembers" ({ cls := "RopeRemembers", name := "knows", desc := "(I)I" } : Jvm.MethodName) ({ cls := "RopeRemembers", name := "knows", desc := "(I)I" } : Jvm.MethodName)) ∈ u_big := u_t4 (i := 96) rfl rfl
theorem q_817 : (Jvm.Cond.code ({ cls := "RopeRemembers", name := "knows", desc := "(I)I" } : Jvm.MethodName) prog_1_method_39_code (7 : Nat) (Option.some Jvm.ClassFile.FieldType.int)) ∈ u_big := u_t4 (i := 97) rfl rfl
theorem q_818 : (Jvm.Cond.methodLink "RopeRemembers" (335 : Nat) ({ cls := "RopeRemembers$State", name := "outside", desc := "()I" } : Jvm.MethodName)) ∈ u_big := u_t4 (i := 98) rfl rfl
theorem q_819 : (Jvm.Cond.instanceMethod ({ cls := "RopeRemembers$State", name := "outside", desc := "()I" } : Jvm.MethodName)) ∈ u_big := u_t4 (i := 99) rfl rfl
theorem q_820 : (Jvm.Cond.selects "RopeRemembers$State" ({ cls := "RopeRemembers$State", name := "outside", desc := "()I" } : Jvm.MethodName) ({ cls := "RopeRemembers$State", name := "outside", desc := "()I" } : Jvm.MethodName)) ∈ u_big := u_t4 (i := 100) rfl rfl
theorem q_821 : (Jvm.Cond.code ({ cls := "RopeRemembers$State", name := "outside", desc := "()I" } : Jvm.MethodName) prog_9_method_12_code (1 : Nat) (Option.some Jvm.ClassFile.FieldType.int)) ∈ u_big := u_t4 (i := 101) rfl rfl
theorem q_822 : (Jvm.Cond.methodLink "RopeRemembers" (338 : Nat) ({ cls := "RopeRemembers", name := "knowsDeeper", desc := "(I)I" } : Jvm.MethodName)) ∈ u_big := u_t4 (i := 102) rfl rfl
theorem q_824 : (Jvm.Cond.instanceMethod ({ cls := "RopeRemembers", name := "knowsDeeper", desc := "(I)I" } : Jvm.MethodName)) ∈ u_big := u_t4 (i := 104) rfl rfl
theorem q_825 : (Jvm.Cond.code ({ cls := "RopeRemembers", name := "knowsDeeper", desc := "(I)I" } : Jvm.MethodName) prog_1_method_47_code (4 : Nat) (Option.some Jvm.ClassFile.FieldType.int)) ∈ u_big := u_t4 (i := 105) rfl rfl
theorem q_826 : (Jvm.Cond.methodLink "RopeRemembersLaw" (138 : Nat) ({ cls := "RopeRemembers", name := "circle", desc := "()I" } : Jvm.MethodName)) ∈ u_big := u_t4 (i := 106) rfl rfl
theorem q_827 : (Jvm.Cond.instanceMethod ({ cls := "RopeRemembers", name := "circle", desc := "()I" } : Jvm.MethodName)) ∈ u_big := u_t4 (i := 107) rfl rfl
theorem q_828 : (Jvm.Cond.selects "RopeRemembers" ({ cls := "RopeRemembers", name := "circle", desc := "()I" } : Jvm.MethodName) ({ cls := "RopeRemembers", name := "circle", desc := "()I" } : Jvm.MethodName)) ∈ u_big := u_t4 (i := 108) rfl rfl
theorem q_829 : (Jvm.Cond.code ({ cls := "RopeRemembers", name := "circle", desc := "()I" } : Jvm.MethodName) prog_1_method_40_code (5 : Nat) (Option.some Jvm.ClassFile.FieldType.int)) ∈ u_big := u_t4 (i := 109) rfl rfl
theorem q_830 : (Jvm.Cond.methodLink "RopeRemembers" (341 : Nat) ({ cls := "RopeRemembers", name := "allSeeEachOther", desc := "(I)Z" } : Jvm.MethodName)) ∈ u_big := u_t4 (i := 110) rfl rfl
theorem q_832 : (Jvm.Cond.instanceMethod ({ cls := "RopeRemembers", name := "allSeeEachOther", desc := "(I)Z" } : Jvm.MethodName)) ∈ u_big := u_t4 (i := 112) rfl rfl
theorem q_833 : (Jvm.Cond.code ({ cls := "RopeRemembers", name := "allSeeEachOther", desc := "(I)Z" } : Jvm.MethodName) prog_1_method_48_code (4 : Nat) (Option.some Jvm.ClassFile.FieldType.boolean)) ∈ u_big := u_t4 (i := 113) rfl rfl
theorem q_834 : (Jvm.Cond.methodLink "RopeRemembersLaw" (142 : Nat) ({ cls := "RopeRemembers", name := "spreads", desc := "(I)I" } : Jvm.MethodName)) ∈ u_big := u_t4 (i := 114) rfl rfl
theorem q_835 : (Jvm.Cond.instanceMethod ({ cls := "RopeRemembers", name := "spreads", desc := "(I)I" } : Jvm.MethodName)) ∈ u_big := u_t4 (i := 115) rfl rfl
theorem q_836 : (Jvm.Cond.selects "RopeRemembers" ({ cls := "RopeRemembers", name := "spreads", desc := "(I)I" } : Jvm.MethodName) ({ cls := "RopeRemembers", name := "spreads", desc := "(I)I" } : Jvm.MethodName)) ∈ u_big := u_t4 (i := 116) rfl rfl
theorem q_837 : (Jvm.Cond.code ({ cls := "RopeRemembers", name := "spreads", desc := "(I)I" } : Jvm.MethodName) prog_1_method_41_code (7 : Nat) (Option.some Jvm.ClassFile.FieldType.int)) ∈ u_big := u_t4 (i := 117) rfl rfl
theorem q_838 : (Jvm.Cond.methodLink "RopeRemembers" (344 : Nat) ({ cls := "RopeRemembers", name := "whoSeeOneOf", desc := "(I)I" } : Jvm.MethodName)) ∈ u_big := u_t4 (i := 118) rfl rfl
theorem q_840 : (Jvm.Cond.instanceMethod ({ cls := "RopeRemembers", name := "whoSeeOneOf", desc := "(I)I" } : Jvm.MethodName)) ∈ u_big := u_t4 (i := 120) rfl rfl
theorem q_841 : (Jvm.Cond.code ({ cls := "RopeRemembers", name := "whoSeeOneOf", desc := "(I)I" } : Jvm.MethodName) prog_1_method_49_code (4 : Nat) (Option.some Jvm.ClassFile.FieldType.int)) ∈ u_big := u_t4 (i := 121) rfl rfl
theorem q_842 : (Jvm.Cond.methodLink "RopeRemembersLaw" (146 : Nat) ({ cls := "RopeRemembers", name := "unlike", desc := "()I" } : Jvm.MethodName)) ∈ u_big := u_t4 (i := 122) rfl rfl
theorem q_843 : (Jvm.Cond.instanceMethod ({ cls := "RopeRemembers", name := "unlike", desc := "()I" } : Jvm.MethodName)) ∈ u_big := u_t4 (i := 123) rfl rfl
theorem q_844 : (Jvm.Cond.selects "RopeRemembers" ({ cls := "RopeRemembers", name := "unlike", desc := "()I" } : Jvm.MethodName) ({ cls := "RopeRemembers", name := "unlike", desc := "()I" } : Jvm.MethodName)) ∈ u_big := u_t4 (i := 124) rfl rfl
theorem q_845 : (Jvm.Cond.code ({ cls := "RopeRemembers", name := "unlike", desc := "()I" } : Jvm.MethodName) prog_1_method_42_code (4 : Nat) (Option.some Jvm.ClassFile.FieldType.int)) ∈ u_big := u_t4 (i := 125) rfl rfl
theorem q_846 : (Jvm.Cond.methodLink "RopeRemembers" (347 : Nat) ({ cls := "RopeRemembers$Told", name := "clear", desc := "()V" } : Jvm.MethodName)) ∈ u_big := u_t4 (i := 126) rfl rfl
theorem q_847 : (Jvm.Cond.instanceMethod ({ cls := "RopeRemembers$Told", name := "clear", desc := "()V" } : Jvm.MethodName)) ∈ u_big := u_t4 (i := 127) rfl rfl
theorem q_848 : (Jvm.Cond.selects "RopeRemembers$Told" ({ cls := "RopeRemembers$Told", name := "clear", desc := "()V" } : Jvm.MethodName) ({ cls := "RopeRemembers$Told", name := "clear", desc := "()V" } : Jvm.MethodName)) ∈ u_big := u_t4 (i := 128) rfl rfl
theorem q_849 : (Jvm.Cond.code ({ cls := "RopeRemembers$Told", name := "clear", desc := "()V" } : Jvm.MethodName) prog_10_method_2_code (1 : Nat) (Option.none : Option Jvm.ClassFile.FieldType)) ∈ u_big := u_t4 (i := 129) rfl rfl
theorem q_850 : (Jvm.Cond.methodLink "RopeRemembersLaw" (150 : Nat) ({ cls := "RopeRemembers", name := "dig", desc := "(II)I" } : Jvm.MethodName)) ∈ u_big := u_t4 (i := 130) rfl rfl
theorem q_851 : (Jvm.Cond.instanceMethod ({ cls := "RopeRemembers", name := "dig", desc := "(II)I" } : Jvm.MethodName)) ∈ u_big := u_t4 (i := 131) rfl rfl
theorem q_852 : (Jvm.Cond.selects "RopeRemembers" ({ cls := "RopeRemembers", name := "dig", desc := "(II)I" } : Jvm.MethodName) ({ cls := "RopeRemembers", name := "dig", desc := "(II)I" } : Jvm.MethodName)) ∈ u_big := u_t4 (i := 132) rfl rfl
theorem q_853 : (Jvm.Cond.code ({ cls := "RopeRemembers", name := "dig", desc := "(II)I" } : Jvm.MethodName) prog_1_method_50_code (3 : Nat) (Option.some Jvm.ClassFile.FieldType.int)) ∈ u_big := u_t4 (i := 133) rfl rfl
theorem q_854 : (Jvm.Cond.methodLink "RopeRemembers" (140 : Nat) ({ cls := "RopeRemembers$State", name := "isFurrow", desc := "(I)Z" } : Jvm.MethodName)) ∈ u_big := u_t4 (i := 134) rfl rfl
theorem q_855 : (Jvm.Cond.methodLink "RopeRemembers" (355 : Nat) ({ cls := "RopeRemembers$Digs", name := "add", desc := "(IZ)V" } : Jvm.MethodName)) ∈ u_big := u_t4 (i := 135) rfl rfl
theorem q_856 : (Jvm.Cond.instanceMethod ({ cls := "RopeRemembers$Digs", name := "add", desc := "(IZ)V" } : Jvm.MethodName)) ∈ u_big := u_t4 (i := 136) rfl rfl
theorem q_857 : (Jvm.Cond.selects "RopeRemembers$Digs" ({ cls := "RopeRemembers$Digs", name := "add", desc := "(IZ)V" } : Jvm.MethodName) ({ cls := "RopeRemembers$Digs", name := "add", desc := "(IZ)V" } : Jvm.MethodName)) ∈ u_big := u_t4 (i := 137) rfl rfl
theorem q_858 : (Jvm.Cond.code ({ cls := "RopeRemembers$Digs", name := "add", desc := "(IZ)V" } : Jvm.MethodName) prog_2_method_3_code (3 : Nat) (Option.none : Option Jvm.ClassFile.FieldType)) ∈ u_big := u_t4 (i := 138) rfl rfl
theorem q_859 : (Jvm.Cond.methodLink "RopeRemembersLaw" (154 : Nat) ({ cls := "RopeRemembers", name := "forget", desc := "()I" } : Jvm.MethodName)) ∈ u_big := u_t4 (i := 139) rfl rfl
theorem q_860 : (Jvm.Cond.instanceMethod ({ cls := "RopeRemembers", name := "forget", desc := "()I" } : Jvm.MethodName)) ∈ u_big := u_t4 (i := 140) rfl rfl
theorem q_861 : (Jvm.Cond.selects "RopeRemembers" ({ cls := "RopeRemembers", name := "forget", desc := "()I" } : Jvm.MethodName) ({ cls := "RopeRemembers", name := "forget", desc := "()I" } : Jvm.MethodName)) ∈ u_big := u_t4 (i := 141) rfl rfl
theorem q_862 : (Jvm.Cond.code ({ cls := "RopeRemembers", name := "forget", desc := "()I" } : Jvm.MethodName) prog_1_method_51_code (2 : Nat) (Option.some Jvm.ClassFile.FieldType.int)) ∈ u_big := u_t4 (i := 142) rfl rfl
theorem q_863 : (Jvm.Cond.methodLink "RopeRemembersLaw" (158 : Nat) ({ cls := "RopeRemembers", name := "courses", desc := "()I" } : Jvm.MethodName)) ∈ u_big := u_t4 (i := 143) rfl rfl
theorem q_864 : (Jvm.Cond.instanceMethod ({ cls := "RopeRemembers", name := "courses", desc := "()I" } : Jvm.MethodName)) ∈ u_big := u_t4 (i := 144) rfl rfl
theorem q_865 : (Jvm.Cond.selects "RopeRemembers" ({ cls := "RopeRemembers", name := "courses", desc := "()I" } : Jvm.MethodName) ({ cls := "RopeRemembers", name := "courses", desc := "()I" } : Jvm.MethodName)) ∈ u_big := u_t4 (i := 145) rfl rfl
theorem q_866 : (Jvm.Cond.code ({ cls := "RopeRemembers", name := "courses", desc := "()I" } : Jvm.MethodName) prog_1_method_52_code (4 : Nat) (Option.some Jvm.ClassFile.FieldType.int)) ∈ u_big := u_t4 (i := 146) rfl rfl
theorem q_867 : (Jvm.Cond.methodLink "RopeRemembers" (358 : Nat) ({ cls := "RopeRemembers$Digs", name := "fit", desc := "(II)Z" } : Jvm.MethodName)) ∈ u_big := u_t4 (i := 147) rfl rfl
theorem q_868 : (Jvm.Cond.instanceMethod ({ cls := "RopeRemembers$Digs", name := "fit", desc := "(II)Z" } : Jvm.MethodName)) ∈ u_big := u_t4 (i := 148) rfl rfl
theorem q_869 : (Jvm.Cond.selects "RopeRemembers$Digs" ({ cls := "RopeRemembers$Digs", name := "fit", desc := "(II)Z" } : Jvm.MethodName) ({ cls := "RopeRemembers$Digs", name := "fit", desc := "(II)Z" } : Jvm.MethodName)) ∈ u_big := u_t4 (i := 149) rfl rfl
theorem q_870 : (Jvm.Cond.code ({ cls := "RopeRemembers$Digs", name := "fit", desc := "(II)Z" } : Jvm.MethodName) prog_2_method_4_code (4 : Nat) (Option.some Jvm.ClassFile.FieldType.boolean)) ∈ u_big := u_t4 (i := 150) rfl rfl
theorem q_871 : (Jvm.Cond.methodLink "RopeRemembersLaw" (162 : Nat) ({ cls := "RopeRemembers", name := "sure", desc := "()I" } : Jvm.MethodName)) ∈ u_big := u_t4 (i := 151) rfl rfl
theorem q_872 : (Jvm.Cond.instanceMethod ({ cls := "RopeRemembers", name := "sure", desc := "()I" } : Jvm.MethodName)) ∈ u_big := u_t4 (i := 152) rfl rfl
theorem q_873 : (Jvm.Cond.selects "RopeRemembers" ({ cls := "RopeRemembers", name := "sure", desc := "()I" } : Jvm.MethodName) ({ cls := "RopeRemembers", name := "sure", desc := "()I" } : Jvm.MethodName)) ∈ u_big := u_t4 (i := 153) rfl rfl
theorem q_874 : (Jvm.Cond.code ({ cls := "RopeRemembers", name := "sure", desc := "()I" } : Jvm.MethodName) prog_1_method_53_code (6 : Nat) (Option.some Jvm.ClassFile.FieldType.int)) ∈ u_big := u_t4 (i := 154) rfl rfl
theorem q_875 : (Jvm.Cond.methodLink "RopeRemembers" (361 : Nat) ({ cls := "RopeRemembers$Digs", name := "coursesWith", desc := "(II)I" } : Jvm.MethodName)) ∈ u_big := u_t4 (i := 155) rfl rfl
theorem q_876 : (Jvm.Cond.instanceMethod ({ cls := "RopeRemembers$Digs", name := "coursesWith", desc := "(II)I" } : Jvm.MethodName)) ∈ u_big := u_t4 (i := 156) rfl rfl
theorem q_877 : (Jvm.Cond.selects "RopeRemembers$Digs" ({ cls := "RopeRemembers$Digs", name := "coursesWith", desc := "(II)I" } : Jvm.MethodName) ({ cls := "RopeRemembers$Digs", name := "coursesWith", desc := "(II)I" } : Jvm.MethodName)) ∈ u_big := u_t4 (i := 157) rfl rfl
theorem q_878 : (Jvm.Cond.code ({ cls := "RopeRemembers$Digs", name := "coursesWith", desc := "(II)I" } : Jvm.MethodName) prog_2_method_5_code (7 : Nat) (Option.some Jvm.ClassFile.FieldType.int)) ∈ u_big := u_t4 (i := 158) rfl rfl
theorem q_879 : (Jvm.Cond.methodLink "RopeRemembers$Digs" (19 : Nat) ({ cls := "RopeRemembers$Digs", name := "fit", desc := "(II)Z" } : Jvm.MethodName)) ∈ u_big := u_t4 (i := 159) rfl rfl
theorem q_880 : (Jvm.Cond.methodLink "RopeRemembersLaw" (166 : Nat) ({ cls := "RopeRemembers", name := "next", desc := "()I" } : Jvm.MethodName)) ∈ u_big := u_t4 (i := 160) rfl rfl
theorem q_881 : (Jvm.Cond.instanceMethod ({ cls := "RopeRemembers", name := "next", desc := "()I" } : Jvm.MethodName)) ∈ u_big := u_t4 (i := 161) rfl rfl
theorem q_882 : (Jvm.Cond.selects "RopeRemembers" ({ cls := "RopeRemembers", name := "next", desc := "()I" } : Jvm.MethodName) ({ cls := "RopeRemembers", name := "next", desc := "()I" } : Jvm.MethodName)) ∈ u_big := u_t4 (i := 162) rfl rfl
theorem q_883 : (Jvm.Cond.code ({ cls := "RopeRemembers", name := "next", desc := "()I" } : Jvm.MethodName) prog_1_method_54_code (7 : Nat) (Option.some Jvm.ClassFile.FieldType.int)) ∈ u_big := u_t4 (i := 163) rfl rfl
theorem q_884 : (Jvm.Cond.methodLink "RopeRemembersLaw" (170 : Nat) ({ cls := "RopeRemembers", name := "dues", desc := "(I)I" } : Jvm.MethodName)) ∈ u_big := u_t4 (i := 164) rfl rfl
theorem q_885 : (Jvm.Cond.instanceMethod ({ cls := "RopeRemembers", name := "dues", desc := "(I)I" } : Jvm.MethodName)) ∈ u_big := u_t4 (i := 165) rfl rfl
theorem q_886 : (Jvm.Cond.selects "RopeRemembers" ({ cls := "RopeRemembers", name := "dues", desc := "(I)I" } : Jvm.MethodName) ({ cls := "RopeRemembers", name := "dues", desc := "(I)I" } : Jvm.MethodName)) ∈ u_big := u_t4 (i := 166) rfl rfl
theorem q_887 : (Jvm.Cond.code ({ cls := "RopeRemembers", name := "dues", desc := "(I)I" } : Jvm.MethodName) prog_1_method_55_code (6 : Nat) (Option.some Jvm.ClassFile.FieldType.int)) ∈ u_big := u_t4 (i := 167) rfl rfl
theorem q_888 : (Jvm.Cond.methodLink "RopeRemembers" (364 : Nat) ({ cls := "RopeRemembers$State", name := "cornOf", desc := "(II)I" } : Jvm.MethodName)) ∈ u_big := u_t4 (i := 168) rfl rfl
theorem q_889 : (Jvm.Cond.methodLink "RopeRemembers" (367 : Nat) ({ cls := "RopeRemembers", name := "duesRank", desc := "(III)I" } : Jvm.MethodName)) ∈ u_big := u_t4 (i := 169) rfl rfl
theorem q_891 : (Jvm.Cond.instanceMethod ({ cls := "RopeRemembers", name := "duesRank", desc := "(III)I" } : Jvm.MethodName)) ∈ u_big := u_t4 (i := 171) rfl rfl
theorem q_892 : (Jvm.Cond.code ({ cls := "RopeRemembers", name := "duesRank", desc := "(III)I" } : Jvm.MethodName) prog_1_method_60_code (8 : Nat) (Option.some Jvm.ClassFile.FieldType.int)) ∈ u_big := u_t4 (i := 172) rfl rfl
theorem q_893 : (Jvm.Cond.methodLink "RopeRemembers" (380 : Nat) ({ cls := "RopeRemembers", name := "duesRest", desc := "(III)I" } : Jvm.MethodName)) ∈ u_big := u_t4 (i := 173) rfl rfl
theorem q_895 : (Jvm.Cond.instanceMethod ({ cls := "RopeRemembers", name := "duesRest", desc := "(III)I" } : Jvm.MethodName)) ∈ u_big := u_t4 (i := 175) rfl rfl
theorem q_896 : (Jvm.Cond.code ({ cls := "RopeRemembers", name := "duesRest", desc := "(III)I" } : Jvm.MethodName) prog_1_method_61_code (4 : Nat) (Option.some Jvm.ClassFile.FieldType.int)) ∈ u_big := u_t4 (i := 176) rfl rfl
theorem q_897 : (Jvm.Cond.methodLink "RopeRemembers" (371 : Nat) ({ cls := "RopeRemembers$Told", name := "add", desc := "(J)V" } : Jvm.MethodName)) ∈ u_big := u_t4 (i := 177) rfl rfl
theorem q_898 : (Jvm.Cond.methodLink "RopeRemembers" (373 : Nat) ({ cls := "RopeRemembers$Told", name := "number", desc := "(I)J" } : Jvm.MethodName)) ∈ u_big := u_t4 (i := 178) rfl rfl
theorem q_899 : (Jvm.Cond.instanceMethod ({ cls := "RopeRemembers$Told", name := "number", desc := "(I)J" } : Jvm.MethodName)) ∈ u_big := u_t4 (i := 179) rfl rfl
theorem q_900 : (Jvm.Cond.selects "RopeRemembers$Told" ({ cls := "RopeRemembers$Told", name := "number", desc := "(I)J" } : Jvm.MethodName) ({ cls := "RopeRemembers$Told", name := "number", desc := "(I)J" } : Jvm.MethodName)) ∈ u_big := u_t4 (i := 180) rfl rfl
theorem q_901 : (Jvm.Cond.code ({ cls := "RopeRemembers$Told", name := "number", desc := "(I)J" } : Jvm.MethodName) prog_10_method_6_code (2 : Nat) (Option.some Jvm.ClassFile.FieldType.long)) ∈ u_big := u_t4 (i := 181) rfl rfl
theorem q_902 : (Jvm.Cond.methodLink "RopeRemembersLaw" (174 : Nat) ({ cls := "RopeRemembers", name := "cheapest", desc := "(I)I" } : Jvm.MethodName)) ∈ u_big := u_t4 (i := 182) rfl rfl
theorem q_903 : (Jvm.Cond.instanceMethod ({ cls := "RopeRemembers", name := "cheapest", desc := "(I)I" } : Jvm.MethodName)) ∈ u_big := u_t4 (i := 183) rfl rfl
theorem q_904 : (Jvm.Cond.selects "RopeRemembers" ({ cls := "RopeRemembers", name := "cheapest", desc := "(I)I" } : Jvm.MethodName) ({ cls := "RopeRemembers", name := "cheapest", desc := "(I)I" } : Jvm.MethodName)) ∈ u_big := u_t4 (i := 184) rfl rfl
theorem q_905 : (Jvm.Cond.code ({ cls := "RopeRemembers", name := "cheapest", desc := "(I)I" } : Jvm.MethodName) prog_1_method_56_code (6 : Nat) (Option.some Jvm.ClassFile.FieldType.int)) ∈ u_big := u_t4 (i := 185) rfl rfl
theorem q_906 : (Jvm.Cond.methodLink "RopeRemembersLaw" (178 : Nat) ({ cls := "RopeRemembers", name := "yard", desc := "(I)I" } : Jvm.MethodName)) ∈ u_big := u_t4 (i := 186) rfl rfl
theorem q_907 : (Jvm.Cond.instanceMethod ({ cls := "RopeRemembers", name := "yard", desc := "(I)I" } : Jvm.MethodName)) ∈ u_big := u_t4 (i := 187) rfl rfl
theorem q_908 : (Jvm.Cond.selects "RopeRemembers" ({ cls := "RopeRemembers", name := "yard", desc := "(I)I" } : Jvm.MethodName) ({ cls := "RopeRemembers", name := "yard", desc := "(I)I" } : Jvm.MethodName)) ∈ u_big := u_t4 (i := 188) rfl rfl
theorem q_909 : (Jvm.Cond.code ({ cls := "RopeRemembers", name := "yard", desc := "(I)I" } : Jvm.MethodName) prog_1_method_57_code (4 : Nat) (Option.some Jvm.ClassFile.FieldType.int)) ∈ u_big := u_t4 (i := 189) rfl rfl
theorem q_910 : (Jvm.Cond.methodLink "RopeRemembersLaw" (182 : Nat) ({ cls := "RopeRemembers", name := "harvest", desc := "(I)I" } : Jvm.MethodName)) ∈ u_big := u_t4 (i := 190) rfl rfl
theorem q_911 : (Jvm.Cond.instanceMethod ({ cls := "RopeRemembers", name := "harvest", desc := "(I)I" } : Jvm.MethodName)) ∈ u_big := u_t4 (i := 191) rfl rfl
theorem q_912 : (Jvm.Cond.selects "RopeRemembers" ({ cls := "RopeRemembers", name := "harvest", desc := "(I)I" } : Jvm.MethodName) ({ cls := "RopeRemembers", name := "harvest", desc := "(I)I" } : Jvm.MethodName)) ∈ u_big := u_t4 (i := 192) rfl rfl
theorem q_913 : (Jvm.Cond.code ({ cls := "RopeRemembers", name := "harvest", desc := "(I)I" } : Jvm.MethodName) prog_1_method_58_code (5 : Nat) (Option.some Jvm.ClassFile.FieldType.int)) ∈ u_big := u_t4 (i := 193) rfl rfl
theorem q_914 : (Jvm.Cond.methodLink "RopeRemembers" (377 : Nat) ({ cls := "RopeRemembers$State", name := "cornOfAll", desc := "()I" } : Jvm.MethodName)) ∈ u_big := u_t4 (i := 194) rfl rfl
theorem q_915 : (Jvm.Cond.instanceMethod ({ cls := "RopeRemembers$State", name := "cornOfAll", desc := "()I" } : Jvm.MethodName)) ∈ u_big := u_t4 (i := 195) rfl rfl
theorem q_916 : (Jvm.Cond.selects "RopeRemembers$State" ({ cls := "RopeRemembers$State", name := "cornOfAll", desc := "()I" } : Jvm.MethodName) ({ cls := "RopeRemembers$State", name := "cornOfAll", desc := "()I" } : Jvm.MethodName)) ∈ u_big := u_t4 (i := 196) rfl rfl
theorem q_917 : (Jvm.Cond.code ({ cls := "RopeRemembers$State", name := "cornOfAll", desc := "()I" } : Jvm.MethodName) prog_9_method_21_code (1 : Nat) (Option.some Jvm.ClassFile.FieldType.int)) ∈ u_big := u_t4 (i := 197) rfl rfl
theorem q_918 : (Jvm.Cond.methodLink "RopeRemembersLaw" (186 : Nat) ({ cls := "RopeRemembers", name := "owed", desc := "(II)I" } : Jvm.MethodName)) ∈ u_big := u_t4 (i := 198) rfl rfl
theorem q_919 : (Jvm.Cond.instanceMethod ({ cls := "RopeRemembers", name := "owed", desc := "(II)I" } : Jvm.MethodName)) ∈ u_big := u_t4 (i := 199) rfl rfl
theorem q_920 : (Jvm.Cond.selects "RopeRemembers" ({ cls := "RopeRemembers", name := "owed", desc := "(II)I" } : Jvm.MethodName) ({ cls := "RopeRemembers", name := "owed", desc := "(II)I" } : Jvm.MethodName)) ∈ u_big := u_t4 (i := 200) rfl rfl
theorem q_921 : (Jvm.Cond.code ({ cls := "RopeRemembers", name := "owed", desc := "(II)I" } : Jvm.MethodName) prog_1_method_59_code (7 : Nat) (Option.some Jvm.ClassFile.FieldType.int)) ∈ u_big := u_t4 (i := 201) rfl rfl
theorem q_922 : (Jvm.Cond.methodLink "RopeRemembers" (153 : Nat) ({ cls := "RopeRemembers$State", name := "isOfRope", desc := "(I)Z" } : Jvm.MethodName)) ∈ u_big := u_t4 (i := 202) rfl rfl
theorem q_923 : (Jvm.Cond.methodLink "RopeRemembersLaw" (190 : Nat) ({ cls := "RopeRemembers", name := "floods", desc := "(III)I" } : Jvm.MethodName)) ∈ u_big := u_t4 (i := 203) rfl rfl
theorem q_924 : (Jvm.Cond.instanceMethod ({ cls := "RopeRemembers", name := "floods", desc := "(III)I" } : Jvm.MethodName)) ∈ u_big := u_t4 (i := 204) rfl rfl
theorem q_925 : (Jvm.Cond.selects "RopeRemembers" ({ cls := "RopeRemembers", name := "floods", desc := "(III)I" } : Jvm.MethodName) ({ cls := "RopeRemembers", name := "floods", desc := "(III)I" } : Jvm.MethodName)) ∈ u_big := u_t4 (i := 205) rfl rfl
theorem q_926 : (Jvm.Cond.code ({ cls := "RopeRemembers", name := "floods", desc := "(III)I" } : Jvm.MethodName) prog_1_method_62_code (9 : Nat) (Option.some Jvm.ClassFile.FieldType.int)) ∈ u_big := u_t4 (i := 206) rfl rfl
theorem q_927 : (Jvm.Cond.methodLink "RopeRemembers" (383 : Nat) ({ cls := "RopeRemembers", name := "areFloods", desc := "(II)Z" } : Jvm.MethodName)) ∈ u_big := u_t4 (i := 207) rfl rfl
theorem q_928 : (Jvm.Cond.static ({ cls := "RopeRemembers", name := "areFloods", desc := "(II)Z" } : Jvm.MethodName)) ∈ u_big := u_t4 (i := 208) rfl rfl
theorem q_929 : (Jvm.Cond.code ({ cls := "RopeRemembers", name := "areFloods", desc := "(II)Z" } : Jvm.MethodName) prog_1_method_67_code (2 : Nat) (Option.some Jvm.ClassFile.FieldType.boolean)) ∈ u_big := u_t4 (i := 209) rfl rfl
theorem q_930 : (Jvm.Cond.methodLink "RopeRemembers" (386 : Nat) ({ cls := "RopeRemembers", name := "fillChances", desc := "(II)V" } : Jvm.MethodName)) ∈ u_big := u_t4 (i := 210) rfl rfl
theorem q_932 : (Jvm.Cond.instanceMethod ({ cls := "RopeRemembers", name := "fillChances", desc := "(II)V" } : Jvm.MethodName)) ∈ u_big := u_t4 (i := 212) rfl rfl
theorem q_933 : (Jvm.Cond.code ({ cls := "RopeRemembers", name := "fillChances", desc := "(II)V" } : Jvm.MethodName) prog_1_method_68_code (5 : Nat) (Option.none : Option Jvm.ClassFile.FieldType)) ∈ u_big := u_t4 (i := 213) rfl rfl
theorem q_934 : (Jvm.Cond.methodLink "RopeRemembersLaw" (195 : Nat) ({ cls := "RopeRemembers", name := "twice", desc := "(II)I" } : Jvm.MethodName)) ∈ u_big := u_t4 (i := 214) rfl rfl
theorem q_935 : (Jvm.Cond.instanceMethod ({ cls := "RopeRemembers", name := "twice", desc := "(II)I" } : Jvm.MethodName)) ∈ u_big := u_t4 (i := 215) rfl rfl
theorem q_936 : (Jvm.Cond.selects "RopeRemembers" ({ cls := "RopeRemembers", name := "twice", desc := "(II)I" } : Jvm.MethodName) ({ cls := "RopeRemembers", name := "twice", desc := "(II)I" } : Jvm.MethodName)) ∈ u_big := u_t4 (i := 216) rfl rfl
theorem q_937 : (Jvm.Cond.code ({ cls := "RopeRemembers", name := "twice", desc := "(II)I" } : Jvm.MethodName) prog_1_method_63_code (12 : Nat) (Option.some Jvm.ClassFile.FieldType.int)) ∈ u_big := u_t4 (i := 217) rfl rfl
theorem q_938 : (Jvm.Cond.constantLong "RopeRemembers" (390 : Nat) (10 : Int64)) ∈ u_big := u_t4 (i := 218) rfl rfl
theorem q_939 : (Jvm.Cond.methodLink "RopeRemembersLaw" (199 : Nat) ({ cls := "RopeRemembers", name := "rests", desc := "(II)I" } : Jvm.MethodName)) ∈ u_big := u_t4 (i := 219) rfl rfl
theorem q_940 : (Jvm.Cond.instanceMethod ({ cls := "RopeRemembers", name := "rests", desc := "(II)I" } : Jvm.MethodName)) ∈ u_big := u_t4 (i := 220) rfl rfl
theorem q_941 : (Jvm.Cond.selects "RopeRemembers" ({ cls := "RopeRemembers", name := "rests", desc := "(II)I" } : Jvm.MethodName) ({ cls := "RopeRemembers", name := "rests", desc := "(II)I" } : Jvm.MethodName)) ∈ u_big := u_t4 (i := 221) rfl rfl
theorem q_942 : (Jvm.Cond.code ({ cls := "RopeRemembers", name := "rests", desc := "(II)I" } : Jvm.MethodName) prog_1_method_64_code (6 : Nat) (Option.some Jvm.ClassFile.FieldType.int)) ∈ u_big := u_t4 (i := 222) rfl rfl
theorem q_943 : (Jvm.Cond.methodLink "RopeRemembers" (392 : Nat) ({ cls := "RopeRemembers", name := "isTreatyAtRest", desc := "(IIII)Z" } : Jvm.MethodName)) ∈ u_big := u_t4 (i := 223) rfl rfl
theorem q_944 : (Jvm.Cond.static ({ cls := "RopeRemembers", name := "isTreatyAtRest", desc := "(IIII)Z" } : Jvm.MethodName)) ∈ u_big := u_t4 (i := 224) rfl rfl
theorem q_945 : (Jvm.Cond.code ({ cls := "RopeRemembers", name := "isTreatyAtRest", desc := "(IIII)Z" } : Jvm.MethodName) prog_1_method_69_code (5 : Nat) (Option.some Jvm.ClassFile.FieldType.boolean)) ∈ u_big := u_t4 (i := 225) rfl rfl
theorem q_946 : (Jvm.Cond.methodLink "RopeRemembers" (402 : Nat) ({ cls := "RopeRemembers", name := "farmerHas", desc := "(III)I" } : Jvm.MethodName)) ∈ u_big := u_t4 (i := 226) rfl rfl
theorem q_947 : (Jvm.Cond.static ({ cls := "RopeRemembers", name := "farmerHas", desc := "(III)I" } : Jvm.MethodName)) ∈ u_big := u_t4 (i := 227) rfl rfl
theorem q_948 : (Jvm.Cond.code ({ cls := "RopeRemembers", name := "farmerHas", desc := "(III)I" } : Jvm.MethodName) prog_1_method_70_code (3 : Nat) (Option.some Jvm.ClassFile.FieldType.int)) ∈ u_big := u_t4 (i := 228) rfl rfl
theorem q_949 : (Jvm.Cond.methodLink "RopeRemembers" (405 : Nat) ({ cls := "RopeRemembers", name := "regularsHave", desc := "(III)I" } : Jvm.MethodName)) ∈ u_big := u_t4 (i := 229) rfl rfl
theorem q_950 : (Jvm.Cond.static ({ cls := "RopeRemembers", name := "regularsHave", desc := "(III)I" } : Jvm.MethodName)) ∈ u_big := u_t4 (i := 230) rfl rfl
theorem q_951 : (Jvm.Cond.code ({ cls := "RopeRemembers", name := "regularsHave", desc := "(III)I" } : Jvm.MethodName) prog_1_method_71_code (3 : Nat) (Option.some Jvm.ClassFile.FieldType.int)) ∈ u_big := u_t4 (i := 231) rfl rfl
theorem q_952 : (Jvm.Cond.methodLink "RopeRemembersLaw" (203 : Nat) ({ cls := "RopeRemembers", name := "law", desc := "()I" } : Jvm.MethodName)) ∈ u_big := u_t4 (i := 232) rfl rfl
theorem q_953 : (Jvm.Cond.instanceMethod ({ cls := "RopeRemembers", name := "law", desc := "()I" } : Jvm.MethodName)) ∈ u_big := u_t4 (i := 233) rfl rfl
theorem q_954 : (Jvm.Cond.selects "RopeRemembers" ({ cls := "RopeRemembers", name := "law", desc := "()I" } : Jvm.MethodName) ({ cls := "RopeRemembers", name := "law", desc := "()I" } : Jvm.MethodName)) ∈ u_big := u_t4 (i := 234) rfl rfl
theorem q_955 : (Jvm.Cond.code ({ cls := "RopeRemembers", name := "law", desc := "()I" } : Jvm.MethodName) prog_1_method_65_code (4 : Nat) (Option.some Jvm.ClassFile.FieldType.int)) ∈ u_big := u_t4 (i := 235) rfl rfl
theorem q_956 : (Jvm.Cond.methodLink "RopeRemembersLaw" (207 : Nat) ({ cls := "RopeRemembers", name := "years", desc := "(II)I" } : Jvm.MethodName)) ∈ u_big := u_t4 (i := 236) rfl rfl
theorem q_957 : (Jvm.Cond.instanceMethod ({ cls := "RopeRemembers", name := "years", desc := "(II)I" } : Jvm.MethodName)) ∈ u_big := u_t4 (i := 237) rfl rfl
theorem q_958 : (Jvm.Cond.selects "RopeRemembers" ({ cls := "RopeRemembers", name := "years", desc := "(II)I" } : Jvm.MethodName) ({ cls := "RopeRemembers", name := "years", desc := "(II)I" } : Jvm.MethodName)) ∈ u_big := u_t4 (i := 238) rfl rfl
theorem q_959 : (Jvm.Cond.code ({ cls := "RopeRemembers", name := "years", desc := "(II)I" } : Jvm.MethodName) prog_1_method_66_code (4 : Nat) (Option.some Jvm.ClassFile.FieldType.int)) ∈ u_big := u_t4 (i := 239) rfl rfl
theorem q_960 : (Jvm.Cond.methodLink "RopeRemembers" (399 : Nat) ({ cls := "RopeRemembers", name := "passYear", desc := "()V" } : Jvm.MethodName)) ∈ u_big := u_t5 (i := 0) rfl rfl
theorem q_962 : (Jvm.Cond.instanceMethod ({ cls := "RopeRemembers", name := "passYear", desc := "()V" } : Jvm.MethodName)) ∈ u_big := u_t5 (i := 2) rfl rfl
theorem q_963 : (Jvm.Cond.code ({ cls := "RopeRemembers", name := "passYear", desc := "()V" } : Jvm.MethodName) prog_1_method_72_code (3 : Nat) (Option.none : Option Jvm.ClassFile.FieldType)) ∈ u_big := u_t5 (i := 3) rfl rfl
theorem q_964 : (Jvm.Cond.methodLink "RopeRemembers" (408 : Nat) ({ cls := "RopeRemembers$Draws", name := "draw", desc := "(I)I" } : Jvm.MethodName)) ∈ u_big := u_t5 (i := 4) rfl rfl
theorem q_965 : (Jvm.Cond.instanceMethod ({ cls := "RopeRemembers$Draws", name := "draw", desc := "(I)I" } : Jvm.MethodName)) ∈ u_big := u_t5 (i := 5) rfl rfl
theorem q_966 : (Jvm.Cond.selects "RopeRemembers$Draws" ({ cls := "RopeRemembers$Draws", name := "draw", desc := "(I)I" } : Jvm.MethodName) ({ cls := "RopeRemembers$Draws", name := "draw", desc := "(I)I" } : Jvm.MethodName)) ∈ u_big := u_t5 (i := 6) rfl rfl
theorem q_967 : (Jvm.Cond.code ({ cls := "RopeRemembers$Draws", name := "draw", desc := "(I)I" } : Jvm.MethodName) prog_3_method_2_code (2 : Nat) (Option.some Jvm.ClassFile.FieldType.int)) ∈ u_big := u_t5 (i := 7) rfl rfl
theorem q_968 : (Jvm.Cond.constant "RopeRemembers$Draws" (13 : Nat) (1103515245 : Int32)) ∈ u_big := u_t5 (i := 8) rfl rfl
theorem q_969 : (Jvm.Cond.methodLink "RopeRemembersLaw" (211 : Nat) ({ cls := "RopeRemembers", name := "keep", desc := "(I)Z" } : Jvm.MethodName)) ∈ u_big := u_t5 (i := 9) rfl rfl
theorem q_970 : (Jvm.Cond.instanceMethod ({ cls := "RopeRemembers", name := "keep", desc := "(I)Z" } : Jvm.MethodName)) ∈ u_big := u_t5 (i := 10) rfl rfl
theorem q_971 : (Jvm.Cond.selects "RopeRemembers" ({ cls := "RopeRemembers", name := "keep", desc := "(I)Z" } : Jvm.MethodName) ({ cls := "RopeRemembers", name := "keep", desc := "(I)Z" } : Jvm.MethodName)) ∈ u_big := u_t5 (i := 11) rfl rfl
theorem q_972 : (Jvm.Cond.code ({ cls := "RopeRemembers", name := "keep", desc := "(I)Z" } : Jvm.MethodName) prog_1_method_73_code (2 : Nat) (Option.some Jvm.ClassFile.FieldType.boolean)) ∈ u_big := u_t5 (i := 12) rfl rfl
theorem q_973 : (Jvm.Cond.methodLink "RopeRemembers" (411 : Nat) ({ cls := "RopeRemembers$Past", name := "keepUnder", desc := "(ILRopeRemembers$State;)Z" } : Jvm.MethodName)) ∈ u_big := u_t5 (i := 13) rfl rfl
theorem q_974 : (Jvm.Cond.instanceMethod ({ cls := "RopeRemembers$Past", name := "keepUnder", desc := "(ILRopeRemembers$State;)Z" } : Jvm.MethodName)) ∈ u_big := u_t5 (i := 14) rfl rfl
theorem q_975 : (Jvm.Cond.selects "RopeRemembers$Past" ({ cls := "RopeRemembers$Past", name := "keepUnder", desc := "(ILRopeRemembers$State;)Z" } : Jvm.MethodName) ({ cls := "RopeRemembers$Past", name := "keepUnder", desc := "(ILRopeRemembers$State;)Z" } : Jvm.MethodName)) ∈ u_big := u_t5 (i := 15) rfl rfl
theorem q_976 : (Jvm.Cond.code ({ cls := "RopeRemembers$Past", name := "keepUnder", desc := "(ILRopeRemembers$State;)Z" } : Jvm.MethodName) prog_5_method_6_code (4 : Nat) (Option.some Jvm.ClassFile.FieldType.boolean)) ∈ u_big := u_t5 (i := 16) rfl rfl
theorem q_977 : (Jvm.Cond.methodLink "RopeRemembersLaw" (215 : Nat) ({ cls := "RopeRemembers", name := "again", desc := "(I)Z" } : Jvm.MethodName)) ∈ u_big := u_t5 (i := 17) rfl rfl
theorem q_978 : (Jvm.Cond.instanceMethod ({ cls := "RopeRemembers", name := "again", desc := "(I)Z" } : Jvm.MethodName)) ∈ u_big := u_t5 (i := 18) rfl rfl
theorem q_979 : (Jvm.Cond.selects "RopeRemembers" ({ cls := "RopeRemembers", name := "again", desc := "(I)Z" } : Jvm.MethodName) ({ cls := "RopeRemembers", name := "again", desc := "(I)Z" } : Jvm.MethodName)) ∈ u_big := u_t5 (i := 19) rfl rfl
theorem q_980 : (Jvm.Cond.code ({ cls := "RopeRemembers", name := "again", desc := "(I)Z" } : Jvm.MethodName) prog_1_method_74_code (2 : Nat) (Option.some Jvm.ClassFile.FieldType.boolean)) ∈ u_big := u_t5 (i := 20) rfl rfl
theorem q_981 : (Jvm.Cond.methodLink "RopeRemembers" (415 : Nat) ({ cls := "RopeRemembers$Past", name := "bringBack", desc := "(ILRopeRemembers$State;)Z" } : Jvm.MethodName)) ∈ u_big := u_t5 (i := 21) rfl rfl
theorem q_982 : (Jvm.Cond.instanceMethod ({ cls := "RopeRemembers$Past", name := "bringBack", desc := "(ILRopeRemembers$State;)Z" } : Jvm.MethodName)) ∈ u_big := u_t5 (i := 22) rfl rfl
theorem q_983 : (Jvm.Cond.selects "RopeRemembers$Past" ({ cls := "RopeRemembers$Past", name := "bringBack", desc := "(ILRopeRemembers$State;)Z" } : Jvm.MethodName) ({ cls := "RopeRemembers$Past", name := "bringBack", desc := "(ILRopeRemembers$State;)Z" } : Jvm.MethodName)) ∈ u_big := u_t5 (i := 23) rfl rfl
theorem q_984 : (Jvm.Cond.code ({ cls := "RopeRemembers$Past", name := "bringBack", desc := "(ILRopeRemembers$State;)Z" } : Jvm.MethodName) prog_5_method_7_code (4 : Nat) (Option.some Jvm.ClassFile.FieldType.boolean)) ∈ u_big := u_t5 (i := 24) rfl rfl
theorem q_985 : (Jvm.Cond.methodLink "RopeRemembersLaw" (219 : Nat) ({ cls := "RopeRemembers", name := "count", desc := "(I)I" } : Jvm.MethodName)) ∈ u_big := u_t5 (i := 25) rfl rfl
theorem q_986 : (Jvm.Cond.instanceMethod ({ cls := "RopeRemembers", name := "count", desc := "(I)I" } : Jvm.MethodName)) ∈ u_big := u_t5 (i := 26) rfl rfl
theorem q_987 : (Jvm.Cond.selects "RopeRemembers" ({ cls := "RopeRemembers", name := "count", desc := "(I)I" } : Jvm.MethodName) ({ cls := "RopeRemembers", name := "count", desc := "(I)I" } : Jvm.MethodName)) ∈ u_big := u_t5 (i := 27) rfl rfl
theorem q_988 : (Jvm.Cond.code ({ cls := "RopeRemembers", name := "count", desc := "(I)I" } : Jvm.MethodName) prog_1_method_75_code (2 : Nat) (Option.some Jvm.ClassFile.FieldType.int)) ∈ u_big := u_t5 (i := 28) rfl rfl
theorem q_989 : (Jvm.Cond.methodLink "RopeRemembers" (422 : Nat) ({ cls := "RopeRemembers$State", name := "glances", desc := "()I" } : Jvm.MethodName)) ∈ u_big := u_t5 (i := 29) rfl rfl
theorem q_990 : (Jvm.Cond.instanceMethod ({ cls := "RopeRemembers$State", name := "glances", desc := "()I" } : Jvm.MethodName)) ∈ u_big := u_t5 (i := 30) rfl rfl
theorem q_991 : (Jvm.Cond.selects "RopeRemembers$State" ({ cls := "RopeRemembers$State", name := "glances", desc := "()I" } : Jvm.MethodName) ({ cls := "RopeRemembers$State", name := "glances", desc := "()I" } : Jvm.MethodName)) ∈ u_big := u_t5 (i := 31) rfl rfl
theorem q_992 : (Jvm.Cond.code ({ cls := "RopeRemembers$State", name := "glances", desc := "()I" } : Jvm.MethodName) prog_9_method_17_code (3 : Nat) (Option.some Jvm.ClassFile.FieldType.int)) ∈ u_big := u_t5 (i := 32) rfl rfl
theorem q_993 : (Jvm.Cond.methodLink "RopeRemembersLaw" (49 : Nat) ({ cls := "RopeRemembersLaw", name := "furrow", desc := "(LRopeRemembers;II[J)I" } : Jvm.MethodName)) ∈ u_big := u_t5 (i := 33) rfl rfl
theorem q_994 : (Jvm.Cond.static ({ cls := "RopeRemembersLaw", name := "furrow", desc := "(LRopeRemembers;II[J)I" } : Jvm.MethodName)) ∈ u_big := u_t5 (i := 34) rfl rfl
theorem q_996 : (Jvm.Cond.classLink "RopeRemembersLaw" (13 : Nat) "java/util/NoSuchElementException") ∈ u_big := u_t5 (i := 36) rfl rfl
theorem q_997 : (Jvm.Cond.methodLink "RopeRemembersLaw" (7 : Nat) ({ cls := "RopeRemembers", name := "furrow", desc := "(II)I" } : Jvm.MethodName)) ∈ u_big := u_t5 (i := 37) rfl rfl
theorem q_998 : (Jvm.Cond.instanceMethod ({ cls := "RopeRemembers", name := "furrow", desc := "(II)I" } : Jvm.MethodName)) ∈ u_big := u_t5 (i := 38) rfl rfl
theorem q_999 : (Jvm.Cond.selects "RopeRemembers" ({ cls := "RopeRemembers", name := "furrow", desc := "(II)I" } : Jvm.MethodName) ({ cls := "RopeRemembers", name := "furrow", desc := "(II)I" } : Jvm.MethodName)) ∈ u_big := u_t5 (i := 39) rfl rfl
theorem q_1000 : (Jvm.Cond.code ({ cls := "RopeRemembers", name := "furrow", desc := "(II)I" } : Jvm.MethodName) prog_1_method_7_code (3 : Nat) (Option.some Jvm.ClassFile.FieldType.int)) ∈ u_big := u_t5 (i := 40) rfl rfl
theorem q_1001 : (Jvm.Cond.classLink "RopeRemembers" (143 : Nat) "java/util/NoSuchElementException") ∈ u_big := u_t5 (i := 41) rfl rfl
theorem q_1002 : (Jvm.Cond.instantiable "java/util/NoSuchElementException" (6 : Nat)) ∈ u_big := u_t5 (i := 42) rfl rfl
theorem q_1010 : (Jvm.Cond.selects "java/util/NoSuchElementException" ({ cls := "java/lang/Throwable", name := "fillInStackTrace", desc := "(I)Ljava/lang/Throwable;" } : Jvm.MethodName) ({ cls := "java/lang/Throwable", name := "fillInStackTrace", desc := "(I)Ljava/lang/Throwable;" } : Jvm.MethodName)) ∈ u_big := u_t5 (i := 50) rfl rfl
theorem q_1011 : (Jvm.Cond.selects "java/util/NoSuchElementException" ({ cls := "java/lang/Throwable", name := "fillInStackTrace", desc := "()Ljava/lang/Throwable;" } : Jvm.MethodName) ({ cls := "java/lang/Throwable", name := "fillInStackTrace", desc := "()Ljava/lang/Throwable;" } : Jvm.MethodName)) ∈ u_big := u_t5 (i := 51) rfl rfl
theorem q_1012 : (Jvm.Cond.lays "java/util/NoSuchElementException" "java/lang/Throwable" "cause" "Ljava/lang/Throwable;") ∈ u_big := u_t5 (i := 52) rfl rfl
theorem q_1013 : (Jvm.Cond.lays "java/lang/Throwable" "java/lang/Throwable" "cause" "Ljava/lang/Throwable;") ∈ u_big := u_t5 (i := 53) rfl rfl
theorem q_1014 : (Jvm.Cond.lays "java/util/NoSuchElementException" "java/lang/Throwable" "stackTrace" "[Ljava/lang/StackTraceElement;") ∈ u_big := u_t5 (i := 54) rfl rfl
theorem q_1015 : (Jvm.Cond.lays "java/lang/Throwable" "java/lang/Throwable" "stackTrace" "[Ljava/lang/StackTraceElement;") ∈ u_big := u_t5 (i := 55) rfl rfl
theorem q_1016 : (Jvm.Cond.lays "java/util/NoSuchElementException" "java/lang/Throwable" "suppressedExceptions" "Ljava/util/List;") ∈ u_big := u_t5 (i := 56) rfl rfl
theorem q_1017 : (Jvm.Cond.lays "java/lang/Throwable" "java/lang/Throwable" "suppressedExceptions" "Ljava/util/List;") ∈ u_big := u_t5 (i := 57) rfl rfl
theorem q_1018 : (Jvm.Cond.lays "java/util/NoSuchElementException" "java/lang/Throwable" "detailMessage" "Ljava/lang/String;") ∈ u_big := u_t5 (i := 58) rfl rfl
theorem q_1019 : (Jvm.Cond.lays "java/lang/Throwable" "java/lang/Throwable" "detailMessage" "Ljava/lang/String;") ∈ u_big := u_t5 (i := 59) rfl rfl
theorem q_1020 : (Jvm.Cond.lays "java/util/NoSuchElementException" "java/lang/Throwable" "backtrace" "Ljava/lang/Object;") ∈ u_big := u_t5 (i := 60) rfl rfl
theorem q_1021 : (Jvm.Cond.lays "java/lang/Throwable" "java/lang/Throwable" "backtrace" "Ljava/lang/Object;") ∈ u_big := u_t5 (i := 61) rfl rfl
theorem q_1022 : (Jvm.Cond.fieldLink "java/lang/Throwable" (198 : Nat) "java/lang/Throwable" "backtrace" "Ljava/lang/Object;") ∈ u_big := u_t5 (i := 62) rfl rfl
theorem q_1023 : (Jvm.Cond.superclass "java/lang/Throwable" "java/lang/Object") ∈ u_big := u_t5 (i := 63) rfl rfl
theorem q_1024 : (Jvm.Cond.instanceMethod ({ cls := "java/lang/Throwable", name := "<init>", desc := "()V" } : Jvm.MethodName)) ∈ u_big := u_t5 (i := 64) rfl rfl
theorem q_1025 : (Jvm.Cond.code ({ cls := "java/lang/Throwable", name := "<init>", desc := "()V" } : Jvm.MethodName) prog_22_method_1_code (1 : Nat) (Option.none : Option Jvm.ClassFile.FieldType)) ∈ u_big := u_t5 (i := 65) rfl rfl
theorem q_1026 : (Jvm.Cond.methodLink "java/lang/Throwable" (1 : Nat) ({ cls := "java/lang/Object", name := "<init>", desc := "()V" } : Jvm.MethodName)) ∈ u_big := u_t5 (i := 66) rfl rfl
theorem q_1027 : (Jvm.Cond.fieldLink "java/lang/Throwable" (13 : Nat) "java/lang/Throwable" "UNASSIGNED_STACK" "[Ljava/lang/StackTraceElement;") ∈ u_big := u_t5 (i := 67) rfl rfl
theorem q_1029 : (Jvm.Cond.fieldLink "java/lang/Throwable" (20 : Nat) "java/lang/Throwable" "SUPPRESSED_SENTINEL" "Ljava/util/List;") ∈ u_big := u_t5 (i := 69) rfl rfl
theorem q_1031 : (Jvm.Cond.methodLink "java/lang/Throwable" (27 : Nat) ({ cls := "java/lang/Throwable", name := "fillInStackTrace", desc := "()Ljava/lang/Throwable;" } : Jvm.MethodName)) ∈ u_big := u_t5 (i := 71) rfl rfl
theorem q_1032 : (Jvm.Cond.instanceMethod ({ cls := "java/lang/Throwable", name := "fillInStackTrace", desc := "()Ljava/lang/Throwable;" } : Jvm.MethodName)) ∈ u_big := u_t5 (i := 72) rfl rfl
theorem q_1033 : (Jvm.Cond.sameMethod "java/lang/Throwable" "java/lang/Throwable" "fillInStackTrace" "()Ljava/lang/Throwable;") ∈ u_big := u_t5 (i := 73) rfl rfl
theorem q_1035 : (Jvm.Cond.methodLink "java/lang/Throwable" (202 : Nat) ({ cls := "java/lang/Throwable", name := "fillInStackTrace", desc := "(I)Ljava/lang/Throwable;" } : Jvm.MethodName)) ∈ u_big := u_t5 (i := 75) rfl rfl
theorem q_1037 : (Jvm.Cond.instanceMethod ({ cls := "java/lang/Throwable", name := "fillInStackTrace", desc := "(I)Ljava/lang/Throwable;" } : Jvm.MethodName)) ∈ u_big := u_t5 (i := 77) rfl rfl
theorem q_1038 : (Jvm.Cond.instantiable "java/lang/Throwable" (6 : Nat)) ∈ u_big := u_t5 (i := 78) rfl rfl
theorem q_1039 : (Jvm.Cond.native ({ cls := "java/lang/Throwable", name := "fillInStackTrace", desc := "(I)Ljava/lang/Throwable;" } : Jvm.MethodName)) ∈ u_big := u_t5 (i := 79) rfl rfl
theorem q_1041 : (Jvm.Cond.methodLink "RopeRemembers" (147 : Nat) ({ cls := "java/util/NoSuchElementException", name := "<init>", desc := "(Ljava/lang/String;)V" } : Jvm.MethodName)) ∈ u_big := u_t5 (i := 81) rfl rfl
theorem q_1042 : (Jvm.Cond.instanceMethod ({ cls := "java/util/NoSuchElementException", name := "<init>", desc := "(Ljava/lang/String;)V" } : Jvm.MethodName)) ∈ u_big := u_t5 (i := 82) rfl rfl
theorem q_1043 : (Jvm.Cond.code ({ cls := "java/util/NoSuchElementException", name := "<init>", desc := "(Ljava/lang/String;)V" } : Jvm.MethodName) prog_23_method_4_code (2 : Nat) (Option.none : Option Jvm.ClassFile.FieldType)) ∈ u_big := u_t5 (i := 83) rfl rfl
theorem q_1044 : (Jvm.Cond.methodLink "java/util/NoSuchElementException" (13 : Nat) ({ cls := "java/lang/RuntimeException", name := "<init>", desc := "(Ljava/lang/String;)V" } : Jvm.MethodName)) ∈ u_big := u_t5 (i := 84) rfl rfl
theorem q_1045 : (Jvm.Cond.instanceMethod ({ cls := "java/lang/RuntimeException", name := "<init>", desc := "(Ljava/lang/String;)V" } : Jvm.MethodName)) ∈ u_big := u_t5 (i := 85) rfl rfl
theorem q_1046 : (Jvm.Cond.code ({ cls := "java/lang/RuntimeException", name := "<init>", desc := "(Ljava/lang/String;)V" } : Jvm.MethodName) prog_19_method_2_code (2 : Nat) (Option.none : Option Jvm.ClassFile.FieldType)) ∈ u_big := u_t5 (i := 86) rfl rfl
theorem q_1047 : (Jvm.Cond.methodLink "java/lang/RuntimeException" (7 : Nat) ({ cls := "java/lang/Exception", name := "<init>", desc := "(Ljava/lang/String;)V" } : Jvm.MethodName)) ∈ u_big := u_t5 (i := 87) rfl rfl
theorem q_1048 : (Jvm.Cond.instanceMethod ({ cls := "java/lang/Exception", name := "<init>", desc := "(Ljava/lang/String;)V" } : Jvm.MethodName)) ∈ u_big := u_t5 (i := 88) rfl rfl
theorem q_1049 : (Jvm.Cond.code ({ cls := "java/lang/Exception", name := "<init>", desc := "(Ljava/lang/String;)V" } : Jvm.MethodName) prog_16_method_2_code (2 : Nat) (Option.none : Option Jvm.ClassFile.FieldType)) ∈ u_big := u_t5 (i := 89) rfl rfl
theorem q_1050 : (Jvm.Cond.methodLink "java/lang/Exception" (7 : Nat) ({ cls := "java/lang/Throwable", name := "<init>", desc := "(Ljava/lang/String;)V" } : Jvm.MethodName)) ∈ u_big := u_t5 (i := 90) rfl rfl
theorem q_1051 : (Jvm.Cond.instanceMethod ({ cls := "java/lang/Throwable", name := "<init>", desc := "(Ljava/lang/String;)V" } : Jvm.MethodName)) ∈ u_big := u_t5 (i := 91) rfl rfl
theorem q_1052 : (Jvm.Cond.code ({ cls := "java/lang/Throwable", name := "<init>", desc := "(Ljava/lang/String;)V" } : Jvm.MethodName) prog_22_method_2_code (2 : Nat) (Option.none : Option Jvm.ClassFile.FieldType)) ∈ u_big := u_t5 (i := 92) rfl rfl
theorem q_1053 : (Jvm.Cond.fieldLink "java/lang/Throwable" (198 : Nat) "java/lang/Throwable" "backtrace" "Ljava/lang/Object;") ∈ u_big := u_t5 (i := 93) rfl rfl
theorem q_1054 : (Jvm.Cond.fieldLink "java/lang/Throwable" (31 : Nat) "java/lang/Throwable" "detailMessage" "Ljava/lang/String;") ∈ u_big := u_t5 (i := 94) rfl rfl
theorem q_1055 : (Jvm.Cond.fieldLink "java/lang/Throwable" (7 : Nat) "java/lang/Throwable" "cause" "Ljava/lang/Throwable;") ∈ u_big := u_t5 (i := 95) rfl rfl
theorem q_1056 : (Jvm.Cond.fieldLink "java/lang/Throwable" (17 : Nat) "java/lang/Throwable" "stackTrace" "[Ljava/lang/StackTraceElement;") ∈ u_big := u_t5 (i := 96) rfl rfl
theorem q_1057 : (Jvm.Cond.fieldLink "java/lang/Throwable" (24 : Nat) "java/lang/Throwable" "suppressedExceptions" "Ljava/util/List;") ∈ u_big := u_t5 (i := 97) rfl rfl
theorem q_1062 : (Jvm.Cond.lays "java/util/NoSuchElementException" "java/lang/Throwable" "depth" "I") ∈ u_big := u_t5 (i := 102) rfl rfl
theorem q_1065 : (Jvm.Cond.superclass "java/util/NoSuchElementException" "java/lang/RuntimeException") ∈ u_big := u_t5 (i := 105) rfl rfl
theorem q_1066 : (Jvm.Cond.arrayClass Jvm.ClassFile.FieldType.byte) ∈ u_big := u_t5 (i := 106) rfl rfl
theorem q_1067 : (Jvm.Cond.methodLink "RopeRemembersLaw" (58 : Nat) ({ cls := "RopeRemembersLaw", name := "person", desc := "(LRopeRemembers;II[J)I" } : Jvm.MethodName)) ∈ u_big := u_t5 (i := 107) rfl rfl
theorem q_1068 : (Jvm.Cond.static ({ cls := "RopeRemembersLaw", name := "person", desc := "(LRopeRemembers;II[J)I" } : Jvm.MethodName)) ∈ u_big := u_t5 (i := 108) rfl rfl
theorem q_1070 : (Jvm.Cond.methodLink "RopeRemembersLaw" (15 : Nat) ({ cls := "RopeRemembers", name := "person", desc := "(II)I" } : Jvm.MethodName)) ∈ u_big := u_t5 (i := 110) rfl rfl
theorem q_1071 : (Jvm.Cond.instanceMethod ({ cls := "RopeRemembers", name := "person", desc := "(II)I" } : Jvm.MethodName)) ∈ u_big := u_t5 (i := 111) rfl rfl
theorem q_1072 : (Jvm.Cond.selects "RopeRemembers" ({ cls := "RopeRemembers", name := "person", desc := "(II)I" } : Jvm.MethodName) ({ cls := "RopeRemembers", name := "person", desc := "(II)I" } : Jvm.MethodName)) ∈ u_big := u_t5 (i := 112) rfl rfl
theorem q_1073 : (Jvm.Cond.code ({ cls := "RopeRemembers", name := "person", desc := "(II)I" } : Jvm.MethodName) prog_1_method_8_code (3 : Nat) (Option.some Jvm.ClassFile.FieldType.int)) ∈ u_big := u_t5 (i := 113) rfl rfl
theorem q_1075 : (Jvm.Cond.methodLink "RopeRemembers" (178 : Nat) ({ cls := "RopeRemembers$State", name := "whoSee", desc := "(I)I" } : Jvm.MethodName)) ∈ u_big := u_t5 (i := 115) rfl rfl
theorem q_1076 : (Jvm.Cond.instanceMethod ({ cls := "RopeRemembers$State", name := "whoSee", desc := "(I)I" } : Jvm.MethodName)) ∈ u_big := u_t5 (i := 116) rfl rfl
theorem q_1077 : (Jvm.Cond.selects "RopeRemembers$State" ({ cls := "RopeRemembers$State", name := "whoSee", desc := "(I)I" } : Jvm.MethodName) ({ cls := "RopeRemembers$State", name := "whoSee", desc := "(I)I" } : Jvm.MethodName)) ∈ u_big := u_t5 (i := 117) rfl rfl
theorem q_1078 : (Jvm.Cond.code ({ cls := "RopeRemembers$State", name := "whoSee", desc := "(I)I" } : Jvm.MethodName) prog_9_method_16_code (4 : Nat) (Option.some Jvm.ClassFile.FieldType.int)) ∈ u_big := u_t5 (i := 118) rfl rfl
theorem q_1079 : (Jvm.Cond.methodLink "RopeRemembers$State" (95 : Nat) ({ cls := "RopeRemembers$State", name := "sees", desc := "(II)Z" } : Jvm.MethodName)) ∈ u_big := u_t5 (i := 119) rfl rfl
theorem q_1080 : (Jvm.Cond.methodLink "RopeRemembersLaw" (223 : Nat) ({ cls := "RopeRemembersLaw", name := "row", desc := "(LRopeRemembers;I[J)I" } : Jvm.MethodName)) ∈ u_big := u_t5 (i := 120) rfl rfl
theorem q_1081 : (Jvm.Cond.static ({ cls := "RopeRemembersLaw", name := "row", desc := "(LRopeRemembers;I[J)I" } : Jvm.MethodName)) ∈ u_big := u_t5 (i := 121) rfl rfl
theorem q_1083 : (Jvm.Cond.methodLink "RopeRemembersLaw" (18 : Nat) ({ cls := "RopeRemembers", name := "row", desc := "(I)J" } : Jvm.MethodName)) ∈ u_big := u_t5 (i := 123) rfl rfl
theorem q_1084 : (Jvm.Cond.instanceMethod ({ cls := "RopeRemembers", name := "row", desc := "(I)J" } : Jvm.MethodName)) ∈ u_big := u_t5 (i := 124) rfl rfl
theorem q_1085 : (Jvm.Cond.selects "RopeRemembers" ({ cls := "RopeRemembers", name := "row", desc := "(I)J" } : Jvm.MethodName) ({ cls := "RopeRemembers", name := "row", desc := "(I)J" } : Jvm.MethodName)) ∈ u_big := u_t5 (i := 125) rfl rfl
theorem q_1086 : (Jvm.Cond.code ({ cls := "RopeRemembers", name := "row", desc := "(I)J" } : Jvm.MethodName) prog_1_method_76_code (2 : Nat) (Option.some Jvm.ClassFile.FieldType.long)) ∈ u_big := u_t5 (i := 126) rfl rfl
theorem q_1088 : (Jvm.Cond.classLink "RopeRemembersLaw" (23 : Nat) "RopeRemembersModel") ∈ u_big := u_t5 (i := 128) rfl rfl
theorem q_1089 : (Jvm.Cond.instantiable "RopeRemembersModel" (37 : Nat)) ∈ u_big := u_t5 (i := 129) rfl rfl
theorem q_1090 : (Jvm.Cond.methodLink "RopeRemembersLaw" (25 : Nat) ({ cls := "RopeRemembersModel", name := "<init>", desc := "()V" } : Jvm.MethodName)) ∈ u_big := u_t5 (i := 130) rfl rfl
theorem q_1091 : (Jvm.Cond.instanceMethod ({ cls := "RopeRemembersModel", name := "<init>", desc := "()V" } : Jvm.MethodName)) ∈ u_big := u_t5 (i := 131) rfl rfl
theorem q_1092 : (Jvm.Cond.code ({ cls := "RopeRemembersModel", name := "<init>", desc := "()V" } : Jvm.MethodName) prog_14_method_1_code (1 : Nat) (Option.none : Option Jvm.ClassFile.FieldType)) ∈ u_big := u_t5 (i := 132) rfl rfl
theorem q_1093 : (Jvm.Cond.methodLink "RopeRemembersModel" (3 : Nat) ({ cls := "java/lang/Object", name := "<init>", desc := "()V" } : Jvm.MethodName)) ∈ u_big := u_t5 (i := 133) rfl rfl
theorem q_1094 : (Jvm.Cond.fieldLink "RopeRemembersModel" (9 : Nat) "RopeRemembersModel" "now" "[I") ∈ u_big := u_t5 (i := 134) rfl rfl
theorem q_1095 : (Jvm.Cond.fieldLink "RopeRemembersModel" (13 : Nat) "RopeRemembersModel" "furrows" "I") ∈ u_big := u_t5 (i := 135) rfl rfl
theorem q_1096 : (Jvm.Cond.fieldLink "RopeRemembersModel" (83 : Nat) "RopeRemembersModel" "men" "I") ∈ u_big := u_t5 (i := 136) rfl rfl
theorem q_1097 : (Jvm.Cond.fieldLink "RopeRemembersModel" (17 : Nat) "RopeRemembersModel" "edge" "[I") ∈ u_big := u_t5 (i := 137) rfl rfl
theorem q_1098 : (Jvm.Cond.fieldLink "RopeRemembersModel" (20 : Nat) "RopeRemembersModel" "text" "[B") ∈ u_big := u_t5 (i := 138) rfl rfl
theorem q_1099 : (Jvm.Cond.fieldLink "RopeRemembersModel" (98 : Nat) "RopeRemembersModel" "typed" "I") ∈ u_big := u_t5 (i := 139) rfl rfl
theorem q_1100 : (Jvm.Cond.fieldLink "RopeRemembersModel" (24 : Nat) "RopeRemembersModel" "row" "[J") ∈ u_big := u_t5 (i := 140) rfl rfl
theorem q_1101 : (Jvm.Cond.fieldLink "RopeRemembersModel" (80 : Nat) "RopeRemembersModel" "rowMany" "I") ∈ u_big := u_t5 (i := 141) rfl rfl
theorem q_1102 : (Jvm.Cond.fieldLink "RopeRemembersModel" (77 : Nat) "RopeRemembersModel" "thrown" "I") ∈ u_big := u_t5 (i := 142) rfl rfl
theorem q_1103 : (Jvm.Cond.fieldLink "RopeRemembersModel" (101 : Nat) "RopeRemembersModel" "read" "[B") ∈ u_big := u_t5 (i := 143) rfl rfl
theorem q_1104 : (Jvm.Cond.fieldLink "RopeRemembersModel" (104 : Nat) "RopeRemembersModel" "length" "I") ∈ u_big := u_t5 (i := 144) rfl rfl
theorem q_1105 : (Jvm.Cond.fieldLink "RopeRemembersModel" (107 : Nat) "RopeRemembersModel" "top" "I") ∈ u_big := u_t5 (i := 145) rfl rfl
theorem q_1106 : (Jvm.Cond.fieldLink "RopeRemembersModel" (110 : Nat) "RopeRemembersModel" "at" "I") ∈ u_big := u_t5 (i := 146) rfl rfl
theorem q_1107 : (Jvm.Cond.fieldLink "RopeRemembersModel" (113 : Nat) "RopeRemembersModel" "wrong" "I") ∈ u_big := u_t5 (i := 147) rfl rfl
theorem q_1108 : (Jvm.Cond.fieldLink "RopeRemembersModel" (28 : Nat) "RopeRemembersModel" "comes" "[I") ∈ u_big := u_t5 (i := 148) rfl rfl
theorem q_1109 : (Jvm.Cond.fieldLink "RopeRemembersModel" (31 : Nat) "RopeRemembersModel" "rule" "[B") ∈ u_big := u_t5 (i := 149) rfl rfl
theorem q_1110 : (Jvm.Cond.fieldLink "RopeRemembersModel" (34 : Nat) "RopeRemembersModel" "otherRule" "[B") ∈ u_big := u_t5 (i := 150) rfl rfl
theorem q_1111 : (Jvm.Cond.fieldLink "RopeRemembersModel" (191 : Nat) "RopeRemembersModel" "ruleSize" "I") ∈ u_big := u_t5 (i := 151) rfl rfl
theorem q_1112 : (Jvm.Cond.fieldLink "RopeRemembersModel" (184 : Nat) "RopeRemembersModel" "isAsked" "Z") ∈ u_big := u_t5 (i := 152) rfl rfl
theorem q_1113 : (Jvm.Cond.fieldLink "RopeRemembersModel" (37 : Nat) "RopeRemembersModel" "asked" "[I") ∈ u_big := u_t5 (i := 153) rfl rfl
theorem q_1114 : (Jvm.Cond.fieldLink "RopeRemembersModel" (40 : Nat) "RopeRemembersModel" "undos" "[I") ∈ u_big := u_t5 (i := 154) rfl rfl
theorem q_1115 : (Jvm.Cond.fieldLink "RopeRemembersModel" (139 : Nat) "RopeRemembersModel" "undoMany" "I") ∈ u_big := u_t5 (i := 155) rfl rfl
theorem q_1116 : (Jvm.Cond.fieldLink "RopeRemembersModel" (43 : Nat) "RopeRemembersModel" "aside" "[I") ∈ u_big := u_t5 (i := 156) rfl rfl
theorem q_1117 : (Jvm.Cond.fieldLink "RopeRemembersModel" (46 : Nat) "RopeRemembersModel" "then" "[I") ∈ u_big := u_t5 (i := 157) rfl rfl
theorem q_1118 : (Jvm.Cond.fieldLink "RopeRemembersModel" (49 : Nat) "RopeRemembersModel" "other" "[I") ∈ u_big := u_t5 (i := 158) rfl rfl
theorem q_1119 : (Jvm.Cond.fieldLink "RopeRemembersModel" (52 : Nat) "RopeRemembersModel" "come" "[I") ∈ u_big := u_t5 (i := 159) rfl rfl
theorem q_1120 : (Jvm.Cond.fieldLink "RopeRemembersModel" (55 : Nat) "RopeRemembersModel" "acts" "[I") ∈ u_big := u_t5 (i := 160) rfl rfl
theorem q_1121 : (Jvm.Cond.fieldLink "RopeRemembersModel" (58 : Nat) "RopeRemembersModel" "states" "[J") ∈ u_big := u_t5 (i := 161) rfl rfl
theorem q_1122 : (Jvm.Cond.fieldLink "RopeRemembersModel" (61 : Nat) "RopeRemembersModel" "dugAt" "[I") ∈ u_big := u_t5 (i := 162) rfl rfl
theorem q_1123 : (Jvm.Cond.fieldLink "RopeRemembersModel" (319 : Nat) "RopeRemembersModel" "dugBits" "I") ∈ u_big := u_t5 (i := 163) rfl rfl
theorem q_1124 : (Jvm.Cond.fieldLink "RopeRemembersModel" (151 : Nat) "RopeRemembersModel" "digs" "I") ∈ u_big := u_t5 (i := 164) rfl rfl
theorem q_1125 : (Jvm.Cond.fieldLink "RopeRemembersModel" (64 : Nat) "RopeRemembersModel" "part" "[I") ∈ u_big := u_t5 (i := 165) rfl rfl
theorem q_1126 : (Jvm.Cond.fieldLink "RopeRemembersModel" (347 : Nat) "RopeRemembersModel" "drawn" "I") ∈ u_big := u_t5 (i := 166) rfl rfl
theorem q_1127 : (Jvm.Cond.fieldLink "RopeRemembersModel" (142 : Nat) "RopeRemembersModel" "came" "I") ∈ u_big := u_t5 (i := 167) rfl rfl
theorem q_1128 : (Jvm.Cond.fieldLink "RopeRemembersModel" (67 : Nat) "RopeRemembersModel" "kept" "[I") ∈ u_big := u_t5 (i := 168) rfl rfl
theorem q_1129 : (Jvm.Cond.fieldLink "RopeRemembersModel" (70 : Nat) "RopeRemembersModel" "isKept" "[Z") ∈ u_big := u_t5 (i := 169) rfl rfl
theorem q_1130 : (Jvm.Cond.fieldLink "RopeRemembersModel" (74 : Nat) "RopeRemembersModel" "keptCame" "[I") ∈ u_big := u_t5 (i := 170) rfl rfl
theorem q_1131 : (Jvm.Cond.laysFinal "RopeRemembersModel" "RopeRemembersModel" "now" "[I") ∈ u_big := u_t5 (i := 171) rfl rfl
theorem q_1133 : (Jvm.Cond.lays "RopeRemembersModel" "RopeRemembersModel" "furrows" "I") ∈ u_big := u_t5 (i := 173) rfl rfl
theorem q_1135 : (Jvm.Cond.lays "RopeRemembersModel" "RopeRemembersModel" "men" "I") ∈ u_big := u_t5 (i := 175) rfl rfl
theorem q_1137 : (Jvm.Cond.laysFinal "RopeRemembersModel" "RopeRemembersModel" "edge" "[I") ∈ u_big := u_t5 (i := 177) rfl rfl
theorem q_1139 : (Jvm.Cond.laysFinal "RopeRemembersModel" "RopeRemembersModel" "text" "[B") ∈ u_big := u_t5 (i := 179) rfl rfl
theorem q_1141 : (Jvm.Cond.lays "RopeRemembersModel" "RopeRemembersModel" "typed" "I") ∈ u_big := u_t5 (i := 181) rfl rfl
theorem q_1143 : (Jvm.Cond.laysFinal "RopeRemembersModel" "RopeRemembersModel" "row" "[J") ∈ u_big := u_t5 (i := 183) rfl rfl
theorem q_1145 : (Jvm.Cond.lays "RopeRemembersModel" "RopeRemembersModel" "rowMany" "I") ∈ u_big := u_t5 (i := 185) rfl rfl
theorem q_1147 : (Jvm.Cond.lays "RopeRemembersModel" "RopeRemembersModel" "thrown" "I") ∈ u_big := u_t5 (i := 187) rfl rfl
theorem q_1149 : (Jvm.Cond.lays "RopeRemembersModel" "RopeRemembersModel" "read" "[B") ∈ u_big := u_t5 (i := 189) rfl rfl
theorem q_1151 : (Jvm.Cond.lays "RopeRemembersModel" "RopeRemembersModel" "length" "I") ∈ u_big := u_t5 (i := 191) rfl rfl
theorem q_1153 : (Jvm.Cond.lays "RopeRemembersModel" "RopeRemembersModel" "top" "I") ∈ u_big := u_t5 (i := 193) rfl rfl
theorem q_1155 : (Jvm.Cond.lays "RopeRemembersModel" "RopeRemembersModel" "at" "I") ∈ u_big := u_t5 (i := 195) rfl rfl
theorem q_1157 : (Jvm.Cond.lays "RopeRemembersModel" "RopeRemembersModel" "wrong" "I") ∈ u_big := u_t5 (i := 197) rfl rfl
theorem q_1159 : (Jvm.Cond.laysFinal "RopeRemembersModel" "RopeRemembersModel" "comes" "[I") ∈ u_big := u_t5 (i := 199) rfl rfl
theorem q_1161 : (Jvm.Cond.lays "RopeRemembersModel" "RopeRemembersModel" "rule" "[B") ∈ u_big := u_t5 (i := 201) rfl rfl
theorem q_1163 : (Jvm.Cond.lays "RopeRemembersModel" "RopeRemembersModel" "otherRule" "[B") ∈ u_big := u_t5 (i := 203) rfl rfl
theorem q_1165 : (Jvm.Cond.lays "RopeRemembersModel" "RopeRemembersModel" "ruleSize" "I") ∈ u_big := u_t5 (i := 205) rfl rfl
theorem q_1167 : (Jvm.Cond.lays "RopeRemembersModel" "RopeRemembersModel" "isAsked" "Z") ∈ u_big := u_t5 (i := 207) rfl rfl
theorem q_1169 : (Jvm.Cond.laysFinal "RopeRemembersModel" "RopeRemembersModel" "asked" "[I") ∈ u_big := u_t5 (i := 209) rfl rfl
theorem q_1171 : (Jvm.Cond.laysFinal "RopeRemembersModel" "RopeRemembersModel" "undos" "[I") ∈ u_big := u_t5 (i := 211) rfl rfl
theorem q_1173 : (Jvm.Cond.lays "RopeRemembersModel" "RopeRemembersModel" "undoMany" "I") ∈ u_big := u_t5 (i := 213) rfl rfl
theorem q_1175 : (Jvm.Cond.laysFinal "RopeRemembersModel" "RopeRemembersModel" "aside" "[I") ∈ u_big := u_t5 (i := 215) rfl rfl
theorem q_1177 : (Jvm.Cond.laysFinal "RopeRemembersModel" "RopeRemembersModel" "then" "[I") ∈ u_big := u_t5 (i := 217) rfl rfl
theorem q_1179 : (Jvm.Cond.laysFinal "RopeRemembersModel" "RopeRemembersModel" "other" "[I") ∈ u_big := u_t5 (i := 219) rfl rfl
theorem q_1181 : (Jvm.Cond.laysFinal "RopeRemembersModel" "RopeRemembersModel" "come" "[I") ∈ u_big := u_t5 (i := 221) rfl rfl
theorem q_1183 : (Jvm.Cond.laysFinal "RopeRemembersModel" "RopeRemembersModel" "acts" "[I") ∈ u_big := u_t5 (i := 223) rfl rfl
theorem q_1185 : (Jvm.Cond.laysFinal "RopeRemembersModel" "RopeRemembersModel" "states" "[J") ∈ u_big := u_t5 (i := 225) rfl rfl
theorem q_1187 : (Jvm.Cond.laysFinal "RopeRemembersModel" "RopeRemembersModel" "dugAt" "[I") ∈ u_big := u_t5 (i := 227) rfl rfl
theorem q_1189 : (Jvm.Cond.lays "RopeRemembersModel" "RopeRemembersModel" "dugBits" "I") ∈ u_big := u_t5 (i := 229) rfl rfl
theorem q_1191 : (Jvm.Cond.lays "RopeRemembersModel" "RopeRemembersModel" "digs" "I") ∈ u_big := u_t5 (i := 231) rfl rfl
theorem q_1193 : (Jvm.Cond.laysFinal "RopeRemembersModel" "RopeRemembersModel" "part" "[I") ∈ u_big := u_t5 (i := 233) rfl rfl
theorem q_1195 : (Jvm.Cond.lays "RopeRemembersModel" "RopeRemembersModel" "drawn" "I") ∈ u_big := u_t5 (i := 235) rfl rfl
theorem q_1197 : (Jvm.Cond.lays "RopeRemembersModel" "RopeRemembersModel" "came" "I") ∈ u_big := u_t5 (i := 237) rfl rfl
theorem q_1199 : (Jvm.Cond.laysFinal "RopeRemembersModel" "RopeRemembersModel" "kept" "[I") ∈ u_big := u_t5 (i := 239) rfl rfl
theorem q_1201 : (Jvm.Cond.laysFinal "RopeRemembersModel" "RopeRemembersModel" "isKept" "[Z") ∈ u_big := u_t6 (i := 1) rfl rfl
theorem q_1203 : (Jvm.Cond.laysFinal "RopeRemembersModel" "RopeRemembersModel" "keptCame" "[I") ∈ u_big := u_t6 (i := 3) rfl rfl
theorem q_1205 : (Jvm.Cond.superclass "RopeRemembersModel" "java/lang/Object") ∈ u_big := u_t6 (i := 5) rfl rfl
theorem q_1206 : (Jvm.Cond.arrayClass Jvm.ClassFile.FieldType.boolean) ∈ u_big := u_t6 (i := 6) rfl rfl
theorem q_1207 : (Jvm.Cond.methodLink "RopeRemembersLaw" (55 : Nat) ({ cls := "RopeRemembersModel", name := "thrown", desc := "()I" } : Jvm.MethodName)) ∈ u_big := u_t6 (i := 7) rfl rfl
theorem q_1208 : (Jvm.Cond.instanceMethod ({ cls := "RopeRemembersModel", name := "thrown", desc := "()I" } : Jvm.MethodName)) ∈ u_big := u_t6 (i := 8) rfl rfl
theorem q_1209 : (Jvm.Cond.selects "RopeRemembersModel" ({ cls := "RopeRemembersModel", name := "thrown", desc := "()I" } : Jvm.MethodName) ({ cls := "RopeRemembersModel", name := "thrown", desc := "()I" } : Jvm.MethodName)) ∈ u_big := u_t6 (i := 9) rfl rfl
theorem q_1210 : (Jvm.Cond.code ({ cls := "RopeRemembersModel", name := "thrown", desc := "()I" } : Jvm.MethodName) prog_14_method_2_code (1 : Nat) (Option.some Jvm.ClassFile.FieldType.int)) ∈ u_big := u_t6 (i := 10) rfl rfl
theorem q_1211 : (Jvm.Cond.methodLink "RopeRemembersLaw" (30 : Nat) ({ cls := "RopeRemembersModel", name := "sign", desc := "(I)I" } : Jvm.MethodName)) ∈ u_big := u_t6 (i := 11) rfl rfl
theorem q_1212 : (Jvm.Cond.instanceMethod ({ cls := "RopeRemembersModel", name := "sign", desc := "(I)I" } : Jvm.MethodName)) ∈ u_big := u_t6 (i := 12) rfl rfl
theorem q_1213 : (Jvm.Cond.selects "RopeRemembersModel" ({ cls := "RopeRemembersModel", name := "sign", desc := "(I)I" } : Jvm.MethodName) ({ cls := "RopeRemembersModel", name := "sign", desc := "(I)I" } : Jvm.MethodName)) ∈ u_big := u_t6 (i := 13) rfl rfl
theorem q_1214 : (Jvm.Cond.code ({ cls := "RopeRemembersModel", name := "sign", desc := "(I)I" } : Jvm.MethodName) prog_14_method_12_code (3 : Nat) (Option.some Jvm.ClassFile.FieldType.int)) ∈ u_big := u_t6 (i := 14) rfl rfl
theorem q_1215 : (Jvm.Cond.methodLink "RopeRemembersLaw" (35 : Nat) ({ cls := "RopeRemembersModel", name := "end", desc := "(I)Z" } : Jvm.MethodName)) ∈ u_big := u_t6 (i := 15) rfl rfl
theorem q_1216 : (Jvm.Cond.instanceMethod ({ cls := "RopeRemembersModel", name := "end", desc := "(I)Z" } : Jvm.MethodName)) ∈ u_big := u_t6 (i := 16) rfl rfl
theorem q_1217 : (Jvm.Cond.selects "RopeRemembersModel" ({ cls := "RopeRemembersModel", name := "end", desc := "(I)Z" } : Jvm.MethodName) ({ cls := "RopeRemembersModel", name := "end", desc := "(I)Z" } : Jvm.MethodName)) ∈ u_big := u_t6 (i := 17) rfl rfl
theorem q_1218 : (Jvm.Cond.code ({ cls := "RopeRemembersModel", name := "end", desc := "(I)Z" } : Jvm.MethodName) prog_14_method_13_code (2 : Nat) (Option.some Jvm.ClassFile.FieldType.boolean)) ∈ u_big := u_t6 (i := 18) rfl rfl
theorem q_1219 : (Jvm.Cond.methodLink "RopeRemembersModel" (86 : Nat) ({ cls := "RopeRemembersModel", name := "in", desc := "(III)Z" } : Jvm.MethodName)) ∈ u_big := u_t6 (i := 19) rfl rfl
theorem q_1220 : (Jvm.Cond.static ({ cls := "RopeRemembersModel", name := "in", desc := "(III)Z" } : Jvm.MethodName)) ∈ u_big := u_t6 (i := 20) rfl rfl
theorem q_1221 : (Jvm.Cond.code ({ cls := "RopeRemembersModel", name := "in", desc := "(III)Z" } : Jvm.MethodName) prog_14_method_3_code (3 : Nat) (Option.some Jvm.ClassFile.FieldType.boolean)) ∈ u_big := u_t6 (i := 21) rfl rfl
theorem q_1222 : (Jvm.Cond.methodLink "RopeRemembersLaw" (40 : Nat) ({ cls := "RopeRemembersModel", name := "field", desc := "()I" } : Jvm.MethodName)) ∈ u_big := u_t6 (i := 22) rfl rfl
theorem q_1223 : (Jvm.Cond.instanceMethod ({ cls := "RopeRemembersModel", name := "field", desc := "()I" } : Jvm.MethodName)) ∈ u_big := u_t6 (i := 23) rfl rfl
theorem q_1224 : (Jvm.Cond.selects "RopeRemembersModel" ({ cls := "RopeRemembersModel", name := "field", desc := "()I" } : Jvm.MethodName) ({ cls := "RopeRemembersModel", name := "field", desc := "()I" } : Jvm.MethodName)) ∈ u_big := u_t6 (i := 24) rfl rfl
theorem q_1225 : (Jvm.Cond.code ({ cls := "RopeRemembersModel", name := "field", desc := "()I" } : Jvm.MethodName) prog_14_method_25_code (3 : Nat) (Option.some Jvm.ClassFile.FieldType.int)) ∈ u_big := u_t6 (i := 25) rfl rfl
theorem q_1226 : (Jvm.Cond.methodLink "RopeRemembersModel" (145 : Nat) ({ cls := "RopeRemembersModel", name := "beginText", desc := "(I)V" } : Jvm.MethodName)) ∈ u_big := u_t6 (i := 26) rfl rfl
theorem q_1228 : (Jvm.Cond.instanceMethod ({ cls := "RopeRemembersModel", name := "beginText", desc := "(I)V" } : Jvm.MethodName)) ∈ u_big := u_t6 (i := 28) rfl rfl
theorem q_1229 : (Jvm.Cond.code ({ cls := "RopeRemembersModel", name := "beginText", desc := "(I)V" } : Jvm.MethodName) prog_14_method_15_code (2 : Nat) (Option.none : Option Jvm.ClassFile.FieldType)) ∈ u_big := u_t6 (i := 29) rfl rfl
theorem q_1230 : (Jvm.Cond.methodLink "RopeRemembersModel" (116 : Nat) ({ cls := "RopeRemembersModel", name := "begin", desc := "([BII)V" } : Jvm.MethodName)) ∈ u_big := u_t6 (i := 30) rfl rfl
theorem q_1232 : (Jvm.Cond.instanceMethod ({ cls := "RopeRemembersModel", name := "begin", desc := "([BII)V" } : Jvm.MethodName)) ∈ u_big := u_t6 (i := 32) rfl rfl
theorem q_1233 : (Jvm.Cond.code ({ cls := "RopeRemembersModel", name := "begin", desc := "([BII)V" } : Jvm.MethodName) prog_14_method_14_code (4 : Nat) (Option.none : Option Jvm.ClassFile.FieldType)) ∈ u_big := u_t6 (i := 33) rfl rfl
theorem q_1234 : (Jvm.Cond.methodLink "RopeRemembersModel" (120 : Nat) ({ cls := "RopeRemembersModel", name := "fine", desc := "()Z" } : Jvm.MethodName)) ∈ u_big := u_t6 (i := 34) rfl rfl
theorem q_1236 : (Jvm.Cond.instanceMethod ({ cls := "RopeRemembersModel", name := "fine", desc := "()Z" } : Jvm.MethodName)) ∈ u_big := u_t6 (i := 36) rfl rfl
theorem q_1237 : (Jvm.Cond.code ({ cls := "RopeRemembersModel", name := "fine", desc := "()Z" } : Jvm.MethodName) prog_14_method_17_code (1 : Nat) (Option.some Jvm.ClassFile.FieldType.boolean)) ∈ u_big := u_t6 (i := 37) rfl rfl
theorem q_1238 : (Jvm.Cond.methodLink "RopeRemembersModel" (124 : Nat) ({ cls := "RopeRemembersModel", name := "here", desc := "()I" } : Jvm.MethodName)) ∈ u_big := u_t6 (i := 38) rfl rfl
theorem q_1240 : (Jvm.Cond.instanceMethod ({ cls := "RopeRemembersModel", name := "here", desc := "()I" } : Jvm.MethodName)) ∈ u_big := u_t6 (i := 40) rfl rfl
theorem q_1241 : (Jvm.Cond.code ({ cls := "RopeRemembersModel", name := "here", desc := "()I" } : Jvm.MethodName) prog_14_method_16_code (1 : Nat) (Option.some Jvm.ClassFile.FieldType.int)) ∈ u_big := u_t6 (i := 41) rfl rfl
theorem q_1242 : (Jvm.Cond.methodLink "RopeRemembersModel" (135 : Nat) ({ cls := "RopeRemembersModel", name := "oneOf", desc := "(CI)I" } : Jvm.MethodName)) ∈ u_big := u_t6 (i := 42) rfl rfl
theorem q_1244 : (Jvm.Cond.instanceMethod ({ cls := "RopeRemembersModel", name := "oneOf", desc := "(CI)I" } : Jvm.MethodName)) ∈ u_big := u_t6 (i := 44) rfl rfl
theorem q_1245 : (Jvm.Cond.code ({ cls := "RopeRemembersModel", name := "oneOf", desc := "(CI)I" } : Jvm.MethodName) prog_14_method_21_code (3 : Nat) (Option.some Jvm.ClassFile.FieldType.int)) ∈ u_big := u_t6 (i := 45) rfl rfl
theorem q_1246 : (Jvm.Cond.methodLink "RopeRemembersModel" (131 : Nat) ({ cls := "RopeRemembersModel", name := "fault", desc := "(I)V" } : Jvm.MethodName)) ∈ u_big := u_t6 (i := 46) rfl rfl
theorem q_1248 : (Jvm.Cond.instanceMethod ({ cls := "RopeRemembersModel", name := "fault", desc := "(I)V" } : Jvm.MethodName)) ∈ u_big := u_t6 (i := 48) rfl rfl
theorem q_1249 : (Jvm.Cond.code ({ cls := "RopeRemembersModel", name := "fault", desc := "(I)V" } : Jvm.MethodName) prog_14_method_18_code (2 : Nat) (Option.none : Option Jvm.ClassFile.FieldType)) ∈ u_big := u_t6 (i := 49) rfl rfl
theorem q_1250 : (Jvm.Cond.methodLink "RopeRemembersModel" (148 : Nat) ({ cls := "RopeRemembersModel", name := "wasRight", desc := "()Z" } : Jvm.MethodName)) ∈ u_big := u_t6 (i := 50) rfl rfl
theorem q_1252 : (Jvm.Cond.instanceMethod ({ cls := "RopeRemembersModel", name := "wasRight", desc := "()Z" } : Jvm.MethodName)) ∈ u_big := u_t6 (i := 52) rfl rfl
theorem q_1253 : (Jvm.Cond.code ({ cls := "RopeRemembersModel", name := "wasRight", desc := "()Z" } : Jvm.MethodName) prog_14_method_23_code (1 : Nat) (Option.some Jvm.ClassFile.FieldType.boolean)) ∈ u_big := u_t6 (i := 53) rfl rfl
theorem q_1254 : (Jvm.Cond.methodLink "RopeRemembersModel" (154 : Nat) ({ cls := "RopeRemembersModel", name := "told", desc := "()V" } : Jvm.MethodName)) ∈ u_big := u_t6 (i := 54) rfl rfl
theorem q_1256 : (Jvm.Cond.instanceMethod ({ cls := "RopeRemembersModel", name := "told", desc := "()V" } : Jvm.MethodName)) ∈ u_big := u_t6 (i := 56) rfl rfl
theorem q_1257 : (Jvm.Cond.code ({ cls := "RopeRemembersModel", name := "told", desc := "()V" } : Jvm.MethodName) prog_14_method_24_code (1 : Nat) (Option.none : Option Jvm.ClassFile.FieldType)) ∈ u_big := u_t6 (i := 57) rfl rfl
theorem q_1258 : (Jvm.Cond.methodLink "RopeRemembersLaw" (44 : Nat) ({ cls := "RopeRemembersModel", name := "people", desc := "()I" } : Jvm.MethodName)) ∈ u_big := u_t6 (i := 58) rfl rfl
theorem q_1259 : (Jvm.Cond.instanceMethod ({ cls := "RopeRemembersModel", name := "people", desc := "()I" } : Jvm.MethodName)) ∈ u_big := u_t6 (i := 59) rfl rfl
theorem q_1260 : (Jvm.Cond.selects "RopeRemembersModel" ({ cls := "RopeRemembersModel", name := "people", desc := "()I" } : Jvm.MethodName) ({ cls := "RopeRemembersModel", name := "people", desc := "()I" } : Jvm.MethodName)) ∈ u_big := u_t6 (i := 60) rfl rfl
theorem q_1261 : (Jvm.Cond.code ({ cls := "RopeRemembersModel", name := "people", desc := "()I" } : Jvm.MethodName) prog_14_method_27_code (4 : Nat) (Option.some Jvm.ClassFile.FieldType.int)) ∈ u_big := u_t6 (i := 61) rfl rfl
theorem q_1262 : (Jvm.Cond.methodLink "RopeRemembersModel" (157 : Nat) ({ cls := "RopeRemembersModel", name := "readMan", desc := "(II)V" } : Jvm.MethodName)) ∈ u_big := u_t6 (i := 62) rfl rfl
theorem q_1264 : (Jvm.Cond.instanceMethod ({ cls := "RopeRemembersModel", name := "readMan", desc := "(II)V" } : Jvm.MethodName)) ∈ u_big := u_t6 (i := 64) rfl rfl
theorem q_1265 : (Jvm.Cond.code ({ cls := "RopeRemembersModel", name := "readMan", desc := "(II)V" } : Jvm.MethodName) prog_14_method_26_code (5 : Nat) (Option.none : Option Jvm.ClassFile.FieldType)) ∈ u_big := u_t6 (i := 65) rfl rfl
theorem q_1266 : (Jvm.Cond.methodLink "RopeRemembersModel" (127 : Nat) ({ cls := "RopeRemembersModel", name := "passes", desc := "(C)Z" } : Jvm.MethodName)) ∈ u_big := u_t6 (i := 66) rfl rfl
theorem q_1268 : (Jvm.Cond.instanceMethod ({ cls := "RopeRemembersModel", name := "passes", desc := "(C)Z" } : Jvm.MethodName)) ∈ u_big := u_t6 (i := 68) rfl rfl
theorem q_1269 : (Jvm.Cond.code ({ cls := "RopeRemembersModel", name := "passes", desc := "(C)Z" } : Jvm.MethodName) prog_14_method_19_code (2 : Nat) (Option.some Jvm.ClassFile.FieldType.boolean)) ∈ u_big := u_t6 (i := 69) rfl rfl
theorem q_1270 : (Jvm.Cond.methodLink "RopeRemembersLaw" (48 : Nat) ({ cls := "RopeRemembersModel", name := "rule", desc := "()I" } : Jvm.MethodName)) ∈ u_big := u_t6 (i := 70) rfl rfl
theorem q_1271 : (Jvm.Cond.instanceMethod ({ cls := "RopeRemembersModel", name := "rule", desc := "()I" } : Jvm.MethodName)) ∈ u_big := u_t6 (i := 71) rfl rfl
theorem q_1272 : (Jvm.Cond.selects "RopeRemembersModel" ({ cls := "RopeRemembersModel", name := "rule", desc := "()I" } : Jvm.MethodName) ({ cls := "RopeRemembersModel", name := "rule", desc := "()I" } : Jvm.MethodName)) ∈ u_big := u_t6 (i := 72) rfl rfl
theorem q_1273 : (Jvm.Cond.code ({ cls := "RopeRemembersModel", name := "rule", desc := "()I" } : Jvm.MethodName) prog_14_method_34_code (3 : Nat) (Option.some Jvm.ClassFile.FieldType.int)) ∈ u_big := u_t6 (i := 73) rfl rfl
theorem q_1274 : (Jvm.Cond.methodLink "RopeRemembersModel" (188 : Nat) ({ cls := "RopeRemembersModel", name := "readRule", desc := "()Z" } : Jvm.MethodName)) ∈ u_big := u_t6 (i := 74) rfl rfl
theorem q_1276 : (Jvm.Cond.instanceMethod ({ cls := "RopeRemembersModel", name := "readRule", desc := "()Z" } : Jvm.MethodName)) ∈ u_big := u_t6 (i := 76) rfl rfl
theorem q_1277 : (Jvm.Cond.code ({ cls := "RopeRemembersModel", name := "readRule", desc := "()Z" } : Jvm.MethodName) prog_14_method_33_code (1 : Nat) (Option.some Jvm.ClassFile.FieldType.boolean)) ∈ u_big := u_t6 (i := 77) rfl rfl
theorem q_1278 : (Jvm.Cond.methodLink "RopeRemembersModel" (171 : Nat) ({ cls := "RopeRemembersModel", name := "held", desc := "(I)I" } : Jvm.MethodName)) ∈ u_big := u_t6 (i := 78) rfl rfl
theorem q_1280 : (Jvm.Cond.instanceMethod ({ cls := "RopeRemembersModel", name := "held", desc := "(I)I" } : Jvm.MethodName)) ∈ u_big := u_t6 (i := 80) rfl rfl
theorem q_1281 : (Jvm.Cond.code ({ cls := "RopeRemembersModel", name := "held", desc := "(I)I" } : Jvm.MethodName) prog_14_method_28_code (3 : Nat) (Option.some Jvm.ClassFile.FieldType.int)) ∈ u_big := u_t6 (i := 81) rfl rfl
theorem q_1282 : (Jvm.Cond.methodLink "RopeRemembersModel" (161 : Nat) ({ cls := "RopeRemembersModel", name := "sum", desc := "(I)I" } : Jvm.MethodName)) ∈ u_big := u_t6 (i := 82) rfl rfl
theorem q_1284 : (Jvm.Cond.instanceMethod ({ cls := "RopeRemembersModel", name := "sum", desc := "(I)I" } : Jvm.MethodName)) ∈ u_big := u_t6 (i := 84) rfl rfl
theorem q_1285 : (Jvm.Cond.code ({ cls := "RopeRemembersModel", name := "sum", desc := "(I)I" } : Jvm.MethodName) prog_14_method_29_code (5 : Nat) (Option.some Jvm.ClassFile.FieldType.int)) ∈ u_big := u_t6 (i := 85) rfl rfl
theorem q_1286 : (Jvm.Cond.methodLink "RopeRemembersModel" (165 : Nat) ({ cls := "RopeRemembersModel", name := "product", desc := "(I)I" } : Jvm.MethodName)) ∈ u_big := u_t6 (i := 86) rfl rfl
theorem q_1288 : (Jvm.Cond.instanceMethod ({ cls := "RopeRemembersModel", name := "product", desc := "(I)I" } : Jvm.MethodName)) ∈ u_big := u_t6 (i := 88) rfl rfl
theorem q_1289 : (Jvm.Cond.code ({ cls := "RopeRemembersModel", name := "product", desc := "(I)I" } : Jvm.MethodName) prog_14_method_30_code (5 : Nat) (Option.some Jvm.ClassFile.FieldType.int)) ∈ u_big := u_t6 (i := 89) rfl rfl
theorem q_1290 : (Jvm.Cond.methodLink "RopeRemembersModel" (168 : Nat) ({ cls := "RopeRemembersModel", name := "thing", desc := "(I)I" } : Jvm.MethodName)) ∈ u_big := u_t6 (i := 90) rfl rfl
theorem q_1292 : (Jvm.Cond.instanceMethod ({ cls := "RopeRemembersModel", name := "thing", desc := "(I)I" } : Jvm.MethodName)) ∈ u_big := u_t6 (i := 92) rfl rfl
theorem q_1293 : (Jvm.Cond.code ({ cls := "RopeRemembersModel", name := "thing", desc := "(I)I" } : Jvm.MethodName) prog_14_method_32_code (4 : Nat) (Option.some Jvm.ClassFile.FieldType.int)) ∈ u_big := u_t6 (i := 93) rfl rfl
theorem q_1294 : (Jvm.Cond.methodLink "RopeRemembersModel" (174 : Nat) ({ cls := "RopeRemembersModel", name := "need", desc := "(C)V" } : Jvm.MethodName)) ∈ u_big := u_t6 (i := 94) rfl rfl
theorem q_1296 : (Jvm.Cond.instanceMethod ({ cls := "RopeRemembersModel", name := "need", desc := "(C)V" } : Jvm.MethodName)) ∈ u_big := u_t6 (i := 96) rfl rfl
theorem q_1297 : (Jvm.Cond.code ({ cls := "RopeRemembersModel", name := "need", desc := "(C)V" } : Jvm.MethodName) prog_14_method_20_code (2 : Nat) (Option.none : Option Jvm.ClassFile.FieldType)) ∈ u_big := u_t6 (i := 97) rfl rfl
theorem q_1298 : (Jvm.Cond.methodLink "RopeRemembersModel" (178 : Nat) ({ cls := "RopeRemembersModel", name := "number", desc := "(I)I" } : Jvm.MethodName)) ∈ u_big := u_t6 (i := 98) rfl rfl
theorem q_1300 : (Jvm.Cond.instanceMethod ({ cls := "RopeRemembersModel", name := "number", desc := "(I)I" } : Jvm.MethodName)) ∈ u_big := u_t6 (i := 100) rfl rfl
theorem q_1301 : (Jvm.Cond.code ({ cls := "RopeRemembersModel", name := "number", desc := "(I)I" } : Jvm.MethodName) prog_14_method_22_code (4 : Nat) (Option.some Jvm.ClassFile.FieldType.int)) ∈ u_big := u_t6 (i := 101) rfl rfl
theorem q_1302 : (Jvm.Cond.methodLink "RopeRemembersModel" (181 : Nat) ({ cls := "RopeRemembersModel", name := "letterOf", desc := "(I)I" } : Jvm.MethodName)) ∈ u_big := u_t6 (i := 102) rfl rfl
theorem q_1303 : (Jvm.Cond.static ({ cls := "RopeRemembersModel", name := "letterOf", desc := "(I)I" } : Jvm.MethodName)) ∈ u_big := u_t6 (i := 103) rfl rfl
theorem q_1304 : (Jvm.Cond.code ({ cls := "RopeRemembersModel", name := "letterOf", desc := "(I)I" } : Jvm.MethodName) prog_14_method_31_code (1 : Nat) (Option.some Jvm.ClassFile.FieldType.int)) ∈ u_big := u_t6 (i := 104) rfl rfl
theorem q_1305 : (Jvm.Cond.methodLink "RopeRemembersLaw" (54 : Nat) ({ cls := "RopeRemembersModel", name := "furrow", desc := "(II)I" } : Jvm.MethodName)) ∈ u_big := u_t6 (i := 105) rfl rfl
theorem q_1306 : (Jvm.Cond.instanceMethod ({ cls := "RopeRemembersModel", name := "furrow", desc := "(II)I" } : Jvm.MethodName)) ∈ u_big := u_t6 (i := 106) rfl rfl
theorem q_1307 : (Jvm.Cond.selects "RopeRemembersModel" ({ cls := "RopeRemembersModel", name := "furrow", desc := "(II)I" } : Jvm.MethodName) ({ cls := "RopeRemembersModel", name := "furrow", desc := "(II)I" } : Jvm.MethodName)) ∈ u_big := u_t6 (i := 107) rfl rfl
theorem q_1308 : (Jvm.Cond.code ({ cls := "RopeRemembersModel", name := "furrow", desc := "(II)I" } : Jvm.MethodName) prog_14_method_42_code (3 : Nat) (Option.some Jvm.ClassFile.FieldType.int)) ∈ u_big := u_t6 (i := 108) rfl rfl
theorem q_1309 : (Jvm.Cond.methodLink "RopeRemembersModel" (227 : Nat) ({ cls := "RopeRemembersModel", name := "isFurrow", desc := "(I)Z" } : Jvm.MethodName)) ∈ u_big := u_t6 (i := 109) rfl rfl
theorem q_1311 : (Jvm.Cond.instanceMethod ({ cls := "RopeRemembersModel", name := "isFurrow", desc := "(I)Z" } : Jvm.MethodName)) ∈ u_big := u_t6 (i := 111) rfl rfl
theorem q_1312 : (Jvm.Cond.code ({ cls := "RopeRemembersModel", name := "isFurrow", desc := "(I)Z" } : Jvm.MethodName) prog_14_method_9_code (2 : Nat) (Option.some Jvm.ClassFile.FieldType.boolean)) ∈ u_big := u_t6 (i := 112) rfl rfl
theorem q_1313 : (Jvm.Cond.methodLink "RopeRemembersModel" (230 : Nat) ({ cls := "RopeRemembersModel", name := "lost", desc := "()I" } : Jvm.MethodName)) ∈ u_big := u_t6 (i := 113) rfl rfl
theorem q_1315 : (Jvm.Cond.instanceMethod ({ cls := "RopeRemembersModel", name := "lost", desc := "()I" } : Jvm.MethodName)) ∈ u_big := u_t6 (i := 115) rfl rfl
theorem q_1316 : (Jvm.Cond.code ({ cls := "RopeRemembersModel", name := "lost", desc := "()I" } : Jvm.MethodName) prog_14_method_5_code (1 : Nat) (Option.some Jvm.ClassFile.FieldType.int)) ∈ u_big := u_t6 (i := 116) rfl rfl
theorem q_1317 : (Jvm.Cond.methodLink "RopeRemembersModel" (233 : Nat) ({ cls := "RopeRemembersModel", name := "isRope", desc := "([II)Z" } : Jvm.MethodName)) ∈ u_big := u_t6 (i := 117) rfl rfl
theorem q_1318 : (Jvm.Cond.static ({ cls := "RopeRemembersModel", name := "isRope", desc := "([II)Z" } : Jvm.MethodName)) ∈ u_big := u_t6 (i := 118) rfl rfl
theorem q_1319 : (Jvm.Cond.code ({ cls := "RopeRemembersModel", name := "isRope", desc := "([II)Z" } : Jvm.MethodName) prog_14_method_41_code (2 : Nat) (Option.some Jvm.ClassFile.FieldType.boolean)) ∈ u_big := u_t6 (i := 119) rfl rfl
theorem q_1320 : (Jvm.Cond.methodLink "RopeRemembersLaw" (60 : Nat) ({ cls := "RopeRemembersModel", name := "person", desc := "(II)I" } : Jvm.MethodName)) ∈ u_big := u_t6 (i := 120) rfl rfl
theorem q_1321 : (Jvm.Cond.instanceMethod ({ cls := "RopeRemembersModel", name := "person", desc := "(II)I" } : Jvm.MethodName)) ∈ u_big := u_t6 (i := 121) rfl rfl
theorem q_1322 : (Jvm.Cond.selects "RopeRemembersModel" ({ cls := "RopeRemembersModel", name := "person", desc := "(II)I" } : Jvm.MethodName) ({ cls := "RopeRemembersModel", name := "person", desc := "(II)I" } : Jvm.MethodName)) ∈ u_big := u_t6 (i := 122) rfl rfl
theorem q_1323 : (Jvm.Cond.code ({ cls := "RopeRemembersModel", name := "person", desc := "(II)I" } : Jvm.MethodName) prog_14_method_43_code (3 : Nat) (Option.some Jvm.ClassFile.FieldType.int)) ∈ u_big := u_t6 (i := 123) rfl rfl
theorem q_1324 : (Jvm.Cond.methodLink "RopeRemembersModel" (90 : Nat) ({ cls := "RopeRemembersModel", name := "isMan", desc := "(I)Z" } : Jvm.MethodName)) ∈ u_big := u_t6 (i := 124) rfl rfl
theorem q_1326 : (Jvm.Cond.instanceMethod ({ cls := "RopeRemembersModel", name := "isMan", desc := "(I)Z" } : Jvm.MethodName)) ∈ u_big := u_t6 (i := 126) rfl rfl
theorem q_1327 : (Jvm.Cond.code ({ cls := "RopeRemembersModel", name := "isMan", desc := "(I)Z" } : Jvm.MethodName) prog_14_method_7_code (2 : Nat) (Option.some Jvm.ClassFile.FieldType.boolean)) ∈ u_big := u_t6 (i := 127) rfl rfl
theorem q_1328 : (Jvm.Cond.methodLink "RopeRemembersModel" (202 : Nat) ({ cls := "RopeRemembersModel", name := "sees", desc := "([II)I" } : Jvm.MethodName)) ∈ u_big := u_t6 (i := 128) rfl rfl
theorem q_1330 : (Jvm.Cond.instanceMethod ({ cls := "RopeRemembersModel", name := "sees", desc := "([II)I" } : Jvm.MethodName)) ∈ u_big := u_t6 (i := 130) rfl rfl
theorem q_1331 : (Jvm.Cond.code ({ cls := "RopeRemembersModel", name := "sees", desc := "([II)I" } : Jvm.MethodName) prog_14_method_35_code (3 : Nat) (Option.some Jvm.ClassFile.FieldType.int)) ∈ u_big := u_t6 (i := 131) rfl rfl
theorem q_1332 : (Jvm.Cond.methodLink "RopeRemembersModel" (94 : Nat) ({ cls := "RopeRemembersModel", name := "all", desc := "()I" } : Jvm.MethodName)) ∈ u_big := u_t6 (i := 132) rfl rfl
theorem q_1334 : (Jvm.Cond.instanceMethod ({ cls := "RopeRemembersModel", name := "all", desc := "()I" } : Jvm.MethodName)) ∈ u_big := u_t6 (i := 134) rfl rfl
theorem q_1335 : (Jvm.Cond.code ({ cls := "RopeRemembersModel", name := "all", desc := "()I" } : Jvm.MethodName) prog_14_method_10_code (1 : Nat) (Option.some Jvm.ClassFile.FieldType.int)) ∈ u_big := u_t6 (i := 135) rfl rfl
theorem q_1336 : (Jvm.Cond.methodLink "RopeRemembersModel" (194 : Nat) ({ cls := "RopeRemembersModel", name := "isIn", desc := "([II)Z" } : Jvm.MethodName)) ∈ u_big := u_t6 (i := 136) rfl rfl
theorem q_1338 : (Jvm.Cond.instanceMethod ({ cls := "RopeRemembersModel", name := "isIn", desc := "([II)Z" } : Jvm.MethodName)) ∈ u_big := u_t6 (i := 138) rfl rfl
theorem q_1339 : (Jvm.Cond.code ({ cls := "RopeRemembersModel", name := "isIn", desc := "([II)Z" } : Jvm.MethodName) prog_14_method_36_code (3 : Nat) (Option.some Jvm.ClassFile.FieldType.boolean)) ∈ u_big := u_t6 (i := 139) rfl rfl
theorem q_1340 : (Jvm.Cond.methodLink "RopeRemembersModel" (236 : Nat) ({ cls := "RopeRemembersModel", name := "then0", desc := "([II)I" } : Jvm.MethodName)) ∈ u_big := u_t6 (i := 140) rfl rfl
theorem q_1342 : (Jvm.Cond.instanceMethod ({ cls := "RopeRemembersModel", name := "then0", desc := "([II)I" } : Jvm.MethodName)) ∈ u_big := u_t6 (i := 142) rfl rfl
theorem q_1343 : (Jvm.Cond.code ({ cls := "RopeRemembersModel", name := "then0", desc := "([II)I" } : Jvm.MethodName) prog_14_method_39_code (8 : Nat) (Option.some Jvm.ClassFile.FieldType.int)) ∈ u_big := u_t6 (i := 143) rfl rfl
theorem q_1344 : (Jvm.Cond.methodLink "RopeRemembersModel" (206 : Nat) ({ cls := "java/lang/Integer", name := "bitCount", desc := "(I)I" } : Jvm.MethodName)) ∈ u_big := u_t6 (i := 144) rfl rfl
theorem q_1345 : (Jvm.Cond.methodLink "RopeRemembersModel" (211 : Nat) ({ cls := "RopeRemembersModel", name := "beliefs", desc := "([II)I" } : Jvm.MethodName)) ∈ u_big := u_t6 (i := 145) rfl rfl
theorem q_1347 : (Jvm.Cond.instanceMethod ({ cls := "RopeRemembersModel", name := "beliefs", desc := "([II)I" } : Jvm.MethodName)) ∈ u_big := u_t6 (i := 147) rfl rfl
theorem q_1348 : (Jvm.Cond.code ({ cls := "RopeRemembersModel", name := "beliefs", desc := "([II)I" } : Jvm.MethodName) prog_14_method_38_code (5 : Nat) (Option.some Jvm.ClassFile.FieldType.int)) ∈ u_big := u_t6 (i := 148) rfl rfl
theorem q_1349 : (Jvm.Cond.methodLink "RopeRemembersModel" (198 : Nat) ({ cls := "RopeRemembersModel", name := "has", desc := "(II)Z" } : Jvm.MethodName)) ∈ u_big := u_t6 (i := 149) rfl rfl
theorem q_1350 : (Jvm.Cond.static ({ cls := "RopeRemembersModel", name := "has", desc := "(II)Z" } : Jvm.MethodName)) ∈ u_big := u_t6 (i := 150) rfl rfl
theorem q_1351 : (Jvm.Cond.code ({ cls := "RopeRemembersModel", name := "has", desc := "(II)Z" } : Jvm.MethodName) prog_14_method_4_code (2 : Nat) (Option.some Jvm.ClassFile.FieldType.boolean)) ∈ u_big := u_t6 (i := 151) rfl rfl
theorem q_1352 : (Jvm.Cond.methodLink "RopeRemembersModel" (214 : Nat) ({ cls := "RopeRemembersModel", name := "inBits", desc := "([I)I" } : Jvm.MethodName)) ∈ u_big := u_t6 (i := 152) rfl rfl
theorem q_1354 : (Jvm.Cond.instanceMethod ({ cls := "RopeRemembersModel", name := "inBits", desc := "([I)I" } : Jvm.MethodName)) ∈ u_big := u_t6 (i := 154) rfl rfl
theorem q_1355 : (Jvm.Cond.code ({ cls := "RopeRemembersModel", name := "inBits", desc := "([I)I" } : Jvm.MethodName) prog_14_method_37_code (4 : Nat) (Option.some Jvm.ClassFile.FieldType.int)) ∈ u_big := u_t6 (i := 155) rfl rfl
theorem q_1356 : (Jvm.Cond.methodLink "RopeRemembersModel" (218 : Nat) ({ cls := "java/lang/Math", name := "min", desc := "(II)I" } : Jvm.MethodName)) ∈ u_big := u_t6 (i := 156) rfl rfl
theorem q_1357 : (Jvm.Cond.methodLink "RopeRemembersModel" (224 : Nat) ({ cls := "java/lang/Math", name := "max", desc := "(II)I" } : Jvm.MethodName)) ∈ u_big := u_t6 (i := 157) rfl rfl
theorem q_1358 : (Jvm.Cond.methodLink "RopeRemembersModel" (239 : Nat) ({ cls := "RopeRemembersModel", name := "seenBy", desc := "([II)I" } : Jvm.MethodName)) ∈ u_big := u_t6 (i := 158) rfl rfl
theorem q_1360 : (Jvm.Cond.instanceMethod ({ cls := "RopeRemembersModel", name := "seenBy", desc := "([II)I" } : Jvm.MethodName)) ∈ u_big := u_t6 (i := 160) rfl rfl
theorem q_1361 : (Jvm.Cond.code ({ cls := "RopeRemembersModel", name := "seenBy", desc := "([II)I" } : Jvm.MethodName) prog_14_method_40_code (5 : Nat) (Option.some Jvm.ClassFile.FieldType.int)) ∈ u_big := u_t6 (i := 161) rfl rfl
theorem q_1362 : (Jvm.Cond.methodLink "RopeRemembersLaw" (65 : Nat) ({ cls := "RopeRemembersModel", name := "sheet", desc := "(IIII)I" } : Jvm.MethodName)) ∈ u_big := u_t6 (i := 162) rfl rfl
theorem q_1363 : (Jvm.Cond.instanceMethod ({ cls := "RopeRemembersModel", name := "sheet", desc := "(IIII)I" } : Jvm.MethodName)) ∈ u_big := u_t6 (i := 163) rfl rfl
theorem q_1364 : (Jvm.Cond.selects "RopeRemembersModel" ({ cls := "RopeRemembersModel", name := "sheet", desc := "(IIII)I" } : Jvm.MethodName) ({ cls := "RopeRemembersModel", name := "sheet", desc := "(IIII)I" } : Jvm.MethodName)) ∈ u_big := u_t6 (i := 164) rfl rfl
theorem q_1365 : (Jvm.Cond.code ({ cls := "RopeRemembersModel", name := "sheet", desc := "(IIII)I" } : Jvm.MethodName) prog_14_method_44_code (9 : Nat) (Option.some Jvm.ClassFile.FieldType.int)) ∈ u_big := u_t6 (i := 165) rfl rfl
theorem q_1366 : (Jvm.Cond.methodLink "RopeRemembersLaw" (69 : Nat) ({ cls := "RopeRemembersModel", name := "crossing", desc := "(I)I" } : Jvm.MethodName)) ∈ u_big := u_t6 (i := 166) rfl rfl
theorem q_1367 : (Jvm.Cond.instanceMethod ({ cls := "RopeRemembersModel", name := "crossing", desc := "(I)I" } : Jvm.MethodName)) ∈ u_big := u_t6 (i := 167) rfl rfl
theorem q_1368 : (Jvm.Cond.selects "RopeRemembersModel" ({ cls := "RopeRemembersModel", name := "crossing", desc := "(I)I" } : Jvm.MethodName) ({ cls := "RopeRemembersModel", name := "crossing", desc := "(I)I" } : Jvm.MethodName)) ∈ u_big := u_t6 (i := 168) rfl rfl
theorem q_1369 : (Jvm.Cond.code ({ cls := "RopeRemembersModel", name := "crossing", desc := "(I)I" } : Jvm.MethodName) prog_14_method_50_code (4 : Nat) (Option.some Jvm.ClassFile.FieldType.int)) ∈ u_big := u_t6 (i := 169) rfl rfl
theorem q_1370 : (Jvm.Cond.methodLink "RopeRemembersModel" (253 : Nat) ({ cls := "RopeRemembersModel", name := "remember", desc := "([I)V" } : Jvm.MethodName)) ∈ u_big := u_t6 (i := 170) rfl rfl
theorem q_1372 : (Jvm.Cond.instanceMethod ({ cls := "RopeRemembersModel", name := "remember", desc := "([I)V" } : Jvm.MethodName)) ∈ u_big := u_t6 (i := 172) rfl rfl
theorem q_1373 : (Jvm.Cond.code ({ cls := "RopeRemembersModel", name := "remember", desc := "([I)V" } : Jvm.MethodName) prog_14_method_46_code (3 : Nat) (Option.none : Option Jvm.ClassFile.FieldType)) ∈ u_big := u_t6 (i := 173) rfl rfl
theorem q_1374 : (Jvm.Cond.methodLink "RopeRemembersModel" (242 : Nat) ({ cls := "RopeRemembersModel", name := "lay", desc := "([I[II)V" } : Jvm.MethodName)) ∈ u_big := u_t6 (i := 174) rfl rfl
theorem q_1375 : (Jvm.Cond.static ({ cls := "RopeRemembersModel", name := "lay", desc := "([I[II)V" } : Jvm.MethodName)) ∈ u_big := u_t6 (i := 175) rfl rfl
theorem q_1376 : (Jvm.Cond.code ({ cls := "RopeRemembersModel", name := "lay", desc := "([I[II)V" } : Jvm.MethodName) prog_14_method_45_code (4 : Nat) (Option.none : Option Jvm.ClassFile.FieldType)) ∈ u_big := u_t6 (i := 176) rfl rfl
theorem q_1377 : (Jvm.Cond.methodLink "RopeRemembersModel" (257 : Nat) ({ cls := "RopeRemembersModel", name := "goCrossings", desc := "([II)I" } : Jvm.MethodName)) ∈ u_big := u_t6 (i := 177) rfl rfl
theorem q_1379 : (Jvm.Cond.instanceMethod ({ cls := "RopeRemembersModel", name := "goCrossings", desc := "([II)I" } : Jvm.MethodName)) ∈ u_big := u_t6 (i := 179) rfl rfl
theorem q_1380 : (Jvm.Cond.code ({ cls := "RopeRemembersModel", name := "goCrossings", desc := "([II)I" } : Jvm.MethodName) prog_14_method_49_code (5 : Nat) (Option.some Jvm.ClassFile.FieldType.int)) ∈ u_big := u_t6 (i := 180) rfl rfl
theorem q_1381 : (Jvm.Cond.methodLink "RopeRemembersModel" (250 : Nat) ({ cls := "RopeRemembersModel", name := "goCrossing", desc := "([I)I" } : Jvm.MethodName)) ∈ u_big := u_t6 (i := 181) rfl rfl
theorem q_1383 : (Jvm.Cond.instanceMethod ({ cls := "RopeRemembersModel", name := "goCrossing", desc := "([I)I" } : Jvm.MethodName)) ∈ u_big := u_t6 (i := 183) rfl rfl
theorem q_1384 : (Jvm.Cond.code ({ cls := "RopeRemembersModel", name := "goCrossing", desc := "([I)I" } : Jvm.MethodName) prog_14_method_48_code (4 : Nat) (Option.some Jvm.ClassFile.FieldType.int)) ∈ u_big := u_t6 (i := 184) rfl rfl
theorem q_1385 : (Jvm.Cond.methodLink "RopeRemembersModel" (246 : Nat) ({ cls := "RopeRemembersModel", name := "corn", desc := "([III)I" } : Jvm.MethodName)) ∈ u_big := u_t6 (i := 185) rfl rfl
theorem q_1387 : (Jvm.Cond.instanceMethod ({ cls := "RopeRemembersModel", name := "corn", desc := "([III)I" } : Jvm.MethodName)) ∈ u_big := u_t6 (i := 187) rfl rfl
theorem q_1388 : (Jvm.Cond.code ({ cls := "RopeRemembersModel", name := "corn", desc := "([III)I" } : Jvm.MethodName) prog_14_method_47_code (6 : Nat) (Option.some Jvm.ClassFile.FieldType.int)) ∈ u_big := u_t6 (i := 188) rfl rfl
theorem q_1389 : (Jvm.Cond.methodLink "RopeRemembersModel" (260 : Nat) ({ cls := "RopeRemembersModel", name := "tell", desc := "(J)V" } : Jvm.MethodName)) ∈ u_big := u_t6 (i := 189) rfl rfl
theorem q_1391 : (Jvm.Cond.instanceMethod ({ cls := "RopeRemembersModel", name := "tell", desc := "(J)V" } : Jvm.MethodName)) ∈ u_big := u_t6 (i := 191) rfl rfl
theorem q_1392 : (Jvm.Cond.code ({ cls := "RopeRemembersModel", name := "tell", desc := "(J)V" } : Jvm.MethodName) prog_14_method_6_code (3 : Nat) (Option.none : Option Jvm.ClassFile.FieldType)) ∈ u_big := u_t6 (i := 192) rfl rfl
theorem q_1393 : (Jvm.Cond.methodLink "RopeRemembersLaw" (73 : Nat) ({ cls := "RopeRemembersModel", name := "show", desc := "(I)I" } : Jvm.MethodName)) ∈ u_big := u_t6 (i := 193) rfl rfl
theorem q_1394 : (Jvm.Cond.instanceMethod ({ cls := "RopeRemembersModel", name := "show", desc := "(I)I" } : Jvm.MethodName)) ∈ u_big := u_t6 (i := 194) rfl rfl
theorem q_1395 : (Jvm.Cond.selects "RopeRemembersModel" ({ cls := "RopeRemembersModel", name := "show", desc := "(I)I" } : Jvm.MethodName) ({ cls := "RopeRemembersModel", name := "show", desc := "(I)I" } : Jvm.MethodName)) ∈ u_big := u_t6 (i := 195) rfl rfl
theorem q_1396 : (Jvm.Cond.code ({ cls := "RopeRemembersModel", name := "show", desc := "(I)I" } : Jvm.MethodName) prog_14_method_52_code (3 : Nat) (Option.some Jvm.ClassFile.FieldType.int)) ∈ u_big := u_t6 (i := 196) rfl rfl
theorem q_1397 : (Jvm.Cond.methodLink "RopeRemembersModel" (264 : Nat) ({ cls := "RopeRemembersModel", name := "refusesShow", desc := "(I)I" } : Jvm.MethodName)) ∈ u_big := u_t6 (i := 197) rfl rfl
theorem q_1399 : (Jvm.Cond.instanceMethod ({ cls := "RopeRemembersModel", name := "refusesShow", desc := "(I)I" } : Jvm.MethodName)) ∈ u_big := u_t6 (i := 199) rfl rfl
theorem q_1400 : (Jvm.Cond.code ({ cls := "RopeRemembersModel", name := "refusesShow", desc := "(I)I" } : Jvm.MethodName) prog_14_method_51_code (2 : Nat) (Option.some Jvm.ClassFile.FieldType.int)) ∈ u_big := u_t6 (i := 200) rfl rfl
theorem q_1401 : (Jvm.Cond.methodLink "RopeRemembersLaw" (77 : Nat) ({ cls := "RopeRemembersModel", name := "glance", desc := "(II)I" } : Jvm.MethodName)) ∈ u_big := u_t6 (i := 201) rfl rfl
theorem q_1402 : (Jvm.Cond.instanceMethod ({ cls := "RopeRemembersModel", name := "glance", desc := "(II)I" } : Jvm.MethodName)) ∈ u_big := u_t6 (i := 202) rfl rfl
theorem q_1403 : (Jvm.Cond.selects "RopeRemembersModel" ({ cls := "RopeRemembersModel", name := "glance", desc := "(II)I" } : Jvm.MethodName) ({ cls := "RopeRemembersModel", name := "glance", desc := "(II)I" } : Jvm.MethodName)) ∈ u_big := u_t6 (i := 203) rfl rfl
theorem q_1404 : (Jvm.Cond.code ({ cls := "RopeRemembersModel", name := "glance", desc := "(II)I" } : Jvm.MethodName) prog_14_method_54_code (3 : Nat) (Option.some Jvm.ClassFile.FieldType.int)) ∈ u_big := u_t6 (i := 204) rfl rfl
theorem q_1405 : (Jvm.Cond.methodLink "RopeRemembersModel" (267 : Nat) ({ cls := "RopeRemembersModel", name := "areTwo", desc := "(II)Z" } : Jvm.MethodName)) ∈ u_big := u_t6 (i := 205) rfl rfl
theorem q_1407 : (Jvm.Cond.instanceMethod ({ cls := "RopeRemembersModel", name := "areTwo", desc := "(II)Z" } : Jvm.MethodName)) ∈ u_big := u_t6 (i := 207) rfl rfl
theorem q_1408 : (Jvm.Cond.code ({ cls := "RopeRemembersModel", name := "areTwo", desc := "(II)Z" } : Jvm.MethodName) prog_14_method_8_code (3 : Nat) (Option.some Jvm.ClassFile.FieldType.boolean)) ∈ u_big := u_t6 (i := 208) rfl rfl
theorem q_1409 : (Jvm.Cond.methodLink "RopeRemembersModel" (270 : Nat) ({ cls := "RopeRemembersModel", name := "goGlance", desc := "([III)V" } : Jvm.MethodName)) ∈ u_big := u_t6 (i := 209) rfl rfl
theorem q_1410 : (Jvm.Cond.static ({ cls := "RopeRemembersModel", name := "goGlance", desc := "([III)V" } : Jvm.MethodName)) ∈ u_big := u_t6 (i := 210) rfl rfl
theorem q_1411 : (Jvm.Cond.code ({ cls := "RopeRemembersModel", name := "goGlance", desc := "([III)V" } : Jvm.MethodName) prog_14_method_53_code (3 : Nat) (Option.none : Option Jvm.ClassFile.FieldType)) ∈ u_big := u_t6 (i := 211) rfl rfl
theorem q_1412 : (Jvm.Cond.methodLink "RopeRemembersLaw" (81 : Nat) ({ cls := "RopeRemembersModel", name := "rope", desc := "(II)I" } : Jvm.MethodName)) ∈ u_big := u_t6 (i := 212) rfl rfl
theorem q_1413 : (Jvm.Cond.instanceMethod ({ cls := "RopeRemembersModel", name := "rope", desc := "(II)I" } : Jvm.MethodName)) ∈ u_big := u_t6 (i := 213) rfl rfl
theorem q_1414 : (Jvm.Cond.selects "RopeRemembersModel" ({ cls := "RopeRemembersModel", name := "rope", desc := "(II)I" } : Jvm.MethodName) ({ cls := "RopeRemembersModel", name := "rope", desc := "(II)I" } : Jvm.MethodName)) ∈ u_big := u_t6 (i := 214) rfl rfl
theorem q_1415 : (Jvm.Cond.code ({ cls := "RopeRemembersModel", name := "rope", desc := "(II)I" } : Jvm.MethodName) prog_14_method_55_code (3 : Nat) (Option.some Jvm.ClassFile.FieldType.int)) ∈ u_big := u_t6 (i := 215) rfl rfl
theorem q_1416 : (Jvm.Cond.methodLink "RopeRemembersLaw" (85 : Nat) ({ cls := "RopeRemembersModel", name := "sow", desc := "(II)I" } : Jvm.MethodName)) ∈ u_big := u_t6 (i := 216) rfl rfl
theorem q_1417 : (Jvm.Cond.instanceMethod ({ cls := "RopeRemembersModel", name := "sow", desc := "(II)I" } : Jvm.MethodName)) ∈ u_big := u_t6 (i := 217) rfl rfl
theorem q_1418 : (Jvm.Cond.selects "RopeRemembersModel" ({ cls := "RopeRemembersModel", name := "sow", desc := "(II)I" } : Jvm.MethodName) ({ cls := "RopeRemembersModel", name := "sow", desc := "(II)I" } : Jvm.MethodName)) ∈ u_big := u_t6 (i := 218) rfl rfl
theorem q_1419 : (Jvm.Cond.code ({ cls := "RopeRemembersModel", name := "sow", desc := "(II)I" } : Jvm.MethodName) prog_14_method_56_code (3 : Nat) (Option.some Jvm.ClassFile.FieldType.int)) ∈ u_big := u_t6 (i := 219) rfl rfl
theorem q_1420 : (Jvm.Cond.methodLink "RopeRemembersLaw" (89 : Nat) ({ cls := "RopeRemembersModel", name := "week", desc := "()I" } : Jvm.MethodName)) ∈ u_big := u_t6 (i := 220) rfl rfl
theorem q_1421 : (Jvm.Cond.instanceMethod ({ cls := "RopeRemembersModel", name := "week", desc := "()I" } : Jvm.MethodName)) ∈ u_big := u_t6 (i := 221) rfl rfl
theorem q_1422 : (Jvm.Cond.selects "RopeRemembersModel" ({ cls := "RopeRemembersModel", name := "week", desc := "()I" } : Jvm.MethodName) ({ cls := "RopeRemembersModel", name := "week", desc := "()I" } : Jvm.MethodName)) ∈ u_big := u_t6 (i := 222) rfl rfl
theorem q_1423 : (Jvm.Cond.code ({ cls := "RopeRemembersModel", name := "week", desc := "()I" } : Jvm.MethodName) prog_14_method_57_code (3 : Nat) (Option.some Jvm.ClassFile.FieldType.int)) ∈ u_big := u_t6 (i := 223) rfl rfl
theorem q_1424 : (Jvm.Cond.methodLink "RopeRemembersModel" (274 : Nat) ({ cls := "RopeRemembersModel", name := "readAct", desc := "(I)V" } : Jvm.MethodName)) ∈ u_big := u_t6 (i := 224) rfl rfl
theorem q_1426 : (Jvm.Cond.instanceMethod ({ cls := "RopeRemembersModel", name := "readAct", desc := "(I)V" } : Jvm.MethodName)) ∈ u_big := u_t6 (i := 226) rfl rfl
theorem q_1427 : (Jvm.Cond.code ({ cls := "RopeRemembersModel", name := "readAct", desc := "(I)V" } : Jvm.MethodName) prog_14_method_58_code (3 : Nat) (Option.none : Option Jvm.ClassFile.FieldType)) ∈ u_big := u_t6 (i := 227) rfl rfl
theorem q_1428 : (Jvm.Cond.methodLink "RopeRemembersModel" (277 : Nat) ({ cls := "RopeRemembersModel", name := "act", desc := "(III)Z" } : Jvm.MethodName)) ∈ u_big := u_t6 (i := 228) rfl rfl
theorem q_1430 : (Jvm.Cond.instanceMethod ({ cls := "RopeRemembersModel", name := "act", desc := "(III)Z" } : Jvm.MethodName)) ∈ u_big := u_t6 (i := 230) rfl rfl
theorem q_1431 : (Jvm.Cond.code ({ cls := "RopeRemembersModel", name := "act", desc := "(III)Z" } : Jvm.MethodName) prog_14_method_59_code (4 : Nat) (Option.some Jvm.ClassFile.FieldType.boolean)) ∈ u_big := u_t6 (i := 231) rfl rfl
theorem q_1432 : (Jvm.Cond.methodLink "RopeRemembersLaw" (93 : Nat) ({ cls := "RopeRemembersModel", name := "undo", desc := "()I" } : Jvm.MethodName)) ∈ u_big := u_t6 (i := 232) rfl rfl
theorem q_1433 : (Jvm.Cond.instanceMethod ({ cls := "RopeRemembersModel", name := "undo", desc := "()I" } : Jvm.MethodName)) ∈ u_big := u_t6 (i := 233) rfl rfl
theorem q_1434 : (Jvm.Cond.selects "RopeRemembersModel" ({ cls := "RopeRemembersModel", name := "undo", desc := "()I" } : Jvm.MethodName) ({ cls := "RopeRemembersModel", name := "undo", desc := "()I" } : Jvm.MethodName)) ∈ u_big := u_t6 (i := 234) rfl rfl
theorem q_1435 : (Jvm.Cond.code ({ cls := "RopeRemembersModel", name := "undo", desc := "()I" } : Jvm.MethodName) prog_14_method_60_code (2 : Nat) (Option.some Jvm.ClassFile.FieldType.int)) ∈ u_big := u_t6 (i := 235) rfl rfl
theorem q_1436 : (Jvm.Cond.methodLink "RopeRemembersLaw" (97 : Nat) ({ cls := "RopeRemembersModel", name := "later", desc := "(I)I" } : Jvm.MethodName)) ∈ u_big := u_t6 (i := 236) rfl rfl
theorem q_1437 : (Jvm.Cond.instanceMethod ({ cls := "RopeRemembersModel", name := "later", desc := "(I)I" } : Jvm.MethodName)) ∈ u_big := u_t6 (i := 237) rfl rfl
theorem q_1438 : (Jvm.Cond.selects "RopeRemembersModel" ({ cls := "RopeRemembersModel", name := "later", desc := "(I)I" } : Jvm.MethodName) ({ cls := "RopeRemembersModel", name := "later", desc := "(I)I" } : Jvm.MethodName)) ∈ u_big := u_t6 (i := 238) rfl rfl
theorem q_1439 : (Jvm.Cond.code ({ cls := "RopeRemembersModel", name := "later", desc := "(I)I" } : Jvm.MethodName) prog_14_method_61_code (2 : Nat) (Option.some Jvm.ClassFile.FieldType.int)) ∈ u_big := u_t6 (i := 239) rfl rfl
theorem q_1440 : (Jvm.Cond.methodLink "RopeRemembersLaw" (101 : Nat) ({ cls := "RopeRemembersModel", name := "settles", desc := "()I" } : Jvm.MethodName)) ∈ u_big := u_t7 (i := 0) rfl rfl
theorem q_1441 : (Jvm.Cond.instanceMethod ({ cls := "RopeRemembersModel", name := "settles", desc := "()I" } : Jvm.MethodName)) ∈ u_big := u_t7 (i := 1) rfl rfl
theorem q_1442 : (Jvm.Cond.selects "RopeRemembersModel" ({ cls := "RopeRemembersModel", name := "settles", desc := "()I" } : Jvm.MethodName) ({ cls := "RopeRemembersModel", name := "settles", desc := "()I" } : Jvm.MethodName)) ∈ u_big := u_t7 (i := 2) rfl rfl
theorem q_1443 : (Jvm.Cond.code ({ cls := "RopeRemembersModel", name := "settles", desc := "()I" } : Jvm.MethodName) prog_14_method_63_code (3 : Nat) (Option.some Jvm.ClassFile.FieldType.int)) ∈ u_big := u_t7 (i := 3) rfl rfl
theorem q_1444 : (Jvm.Cond.methodLink "RopeRemembersModel" (282 : Nat) ({ cls := "RopeRemembersModel", name := "coded", desc := "([I)J" } : Jvm.MethodName)) ∈ u_big := u_t7 (i := 4) rfl rfl
theorem q_1446 : (Jvm.Cond.instanceMethod ({ cls := "RopeRemembersModel", name := "coded", desc := "([I)J" } : Jvm.MethodName)) ∈ u_big := u_t7 (i := 6) rfl rfl
theorem q_1447 : (Jvm.Cond.code ({ cls := "RopeRemembersModel", name := "coded", desc := "([I)J" } : Jvm.MethodName) prog_14_method_62_code (5 : Nat) (Option.some Jvm.ClassFile.FieldType.long)) ∈ u_big := u_t7 (i := 7) rfl rfl
theorem q_1448 : (Jvm.Cond.constantLong "RopeRemembersModel" (280 : Nat) (10 : Int64)) ∈ u_big := u_t7 (i := 8) rfl rfl
theorem q_1449 : (Jvm.Cond.methodLink "RopeRemembersLaw" (105 : Nat) ({ cls := "RopeRemembersModel", name := "leaves", desc := "(I)I" } : Jvm.MethodName)) ∈ u_big := u_t7 (i := 9) rfl rfl
theorem q_1450 : (Jvm.Cond.instanceMethod ({ cls := "RopeRemembersModel", name := "leaves", desc := "(I)I" } : Jvm.MethodName)) ∈ u_big := u_t7 (i := 10) rfl rfl
theorem q_1451 : (Jvm.Cond.selects "RopeRemembersModel" ({ cls := "RopeRemembersModel", name := "leaves", desc := "(I)I" } : Jvm.MethodName) ({ cls := "RopeRemembersModel", name := "leaves", desc := "(I)I" } : Jvm.MethodName)) ∈ u_big := u_t7 (i := 11) rfl rfl
theorem q_1452 : (Jvm.Cond.code ({ cls := "RopeRemembersModel", name := "leaves", desc := "(I)I" } : Jvm.MethodName) prog_14_method_64_code (3 : Nat) (Option.some Jvm.ClassFile.FieldType.int)) ∈ u_big := u_t7 (i := 12) rfl rfl
theorem q_1453 : (Jvm.Cond.methodLink "RopeRemembersLaw" (109 : Nat) ({ cls := "RopeRemembersModel", name := "signs", desc := "(II)I" } : Jvm.MethodName)) ∈ u_big := u_t7 (i := 13) rfl rfl
theorem q_1454 : (Jvm.Cond.instanceMethod ({ cls := "RopeRemembersModel", name := "signs", desc := "(II)I" } : Jvm.MethodName)) ∈ u_big := u_t7 (i := 14) rfl rfl
theorem q_1455 : (Jvm.Cond.selects "RopeRemembersModel" ({ cls := "RopeRemembersModel", name := "signs", desc := "(II)I" } : Jvm.MethodName) ({ cls := "RopeRemembersModel", name := "signs", desc := "(II)I" } : Jvm.MethodName)) ∈ u_big := u_t7 (i := 15) rfl rfl
theorem q_1456 : (Jvm.Cond.code ({ cls := "RopeRemembersModel", name := "signs", desc := "(II)I" } : Jvm.MethodName) prog_14_method_67_code (5 : Nat) (Option.some Jvm.ClassFile.FieldType.int)) ∈ u_big := u_t7 (i := 16) rfl rfl
theorem q_1457 : (Jvm.Cond.methodLink "RopeRemembersModel" (286 : Nat) ({ cls := "RopeRemembersModel", name := "areMen", desc := "(I)Z" } : Jvm.MethodName)) ∈ u_big := u_t7 (i := 17) rfl rfl
theorem q_1459 : (Jvm.Cond.instanceMethod ({ cls := "RopeRemembersModel", name := "areMen", desc := "(I)Z" } : Jvm.MethodName)) ∈ u_big := u_t7 (i := 19) rfl rfl
theorem q_1460 : (Jvm.Cond.code ({ cls := "RopeRemembersModel", name := "areMen", desc := "(I)Z" } : Jvm.MethodName) prog_14_method_11_code (2 : Nat) (Option.some Jvm.ClassFile.FieldType.boolean)) ∈ u_big := u_t7 (i := 20) rfl rfl
theorem q_1461 : (Jvm.Cond.methodLink "RopeRemembersModel" (289 : Nat) ({ cls := "RopeRemembersModel", name := "isSoon", desc := "(I)Z" } : Jvm.MethodName)) ∈ u_big := u_t7 (i := 21) rfl rfl
theorem q_1462 : (Jvm.Cond.static ({ cls := "RopeRemembersModel", name := "isSoon", desc := "(I)Z" } : Jvm.MethodName)) ∈ u_big := u_t7 (i := 22) rfl rfl
theorem q_1463 : (Jvm.Cond.code ({ cls := "RopeRemembersModel", name := "isSoon", desc := "(I)Z" } : Jvm.MethodName) prog_14_method_65_code (1 : Nat) (Option.some Jvm.ClassFile.FieldType.boolean)) ∈ u_big := u_t7 (i := 23) rfl rfl
theorem q_1464 : (Jvm.Cond.methodLink "RopeRemembersModel" (292 : Nat) ({ cls := "RopeRemembersModel", name := "laySigns", desc := "(I)V" } : Jvm.MethodName)) ∈ u_big := u_t7 (i := 24) rfl rfl
theorem q_1466 : (Jvm.Cond.instanceMethod ({ cls := "RopeRemembersModel", name := "laySigns", desc := "(I)V" } : Jvm.MethodName)) ∈ u_big := u_t7 (i := 26) rfl rfl
theorem q_1467 : (Jvm.Cond.code ({ cls := "RopeRemembersModel", name := "laySigns", desc := "(I)V" } : Jvm.MethodName) prog_14_method_66_code (2 : Nat) (Option.none : Option Jvm.ClassFile.FieldType)) ∈ u_big := u_t7 (i := 27) rfl rfl
theorem q_1468 : (Jvm.Cond.methodLink "RopeRemembersLaw" (113 : Nat) ({ cls := "RopeRemembersModel", name := "empties", desc := "(I)I" } : Jvm.MethodName)) ∈ u_big := u_t7 (i := 28) rfl rfl
theorem q_1469 : (Jvm.Cond.instanceMethod ({ cls := "RopeRemembersModel", name := "empties", desc := "(I)I" } : Jvm.MethodName)) ∈ u_big := u_t7 (i := 29) rfl rfl
theorem q_1470 : (Jvm.Cond.selects "RopeRemembersModel" ({ cls := "RopeRemembersModel", name := "empties", desc := "(I)I" } : Jvm.MethodName) ({ cls := "RopeRemembersModel", name := "empties", desc := "(I)I" } : Jvm.MethodName)) ∈ u_big := u_t7 (i := 30) rfl rfl
theorem q_1471 : (Jvm.Cond.code ({ cls := "RopeRemembersModel", name := "empties", desc := "(I)I" } : Jvm.MethodName) prog_14_method_69_code (4 : Nat) (Option.some Jvm.ClassFile.FieldType.int)) ∈ u_big := u_t7 (i := 31) rfl rfl
theorem q_1472 : (Jvm.Cond.methodLink "RopeRemembersModel" (295 : Nat) ({ cls := "RopeRemembersModel", name := "doEmpty", desc := "([II)Z" } : Jvm.MethodName)) ∈ u_big := u_t7 (i := 32) rfl rfl
theorem q_1474 : (Jvm.Cond.instanceMethod ({ cls := "RopeRemembersModel", name := "doEmpty", desc := "([II)Z" } : Jvm.MethodName)) ∈ u_big := u_t7 (i := 34) rfl rfl
theorem q_1475 : (Jvm.Cond.code ({ cls := "RopeRemembersModel", name := "doEmpty", desc := "([II)Z" } : Jvm.MethodName) prog_14_method_68_code (4 : Nat) (Option.some Jvm.ClassFile.FieldType.boolean)) ∈ u_big := u_t7 (i := 35) rfl rfl
theorem q_1476 : (Jvm.Cond.methodLink "RopeRemembersLaw" (117 : Nat) ({ cls := "RopeRemembersModel", name := "weakest", desc := "(I)I" } : Jvm.MethodName)) ∈ u_big := u_t7 (i := 36) rfl rfl
theorem q_1477 : (Jvm.Cond.instanceMethod ({ cls := "RopeRemembersModel", name := "weakest", desc := "(I)I" } : Jvm.MethodName)) ∈ u_big := u_t7 (i := 37) rfl rfl
theorem q_1478 : (Jvm.Cond.selects "RopeRemembersModel" ({ cls := "RopeRemembersModel", name := "weakest", desc := "(I)I" } : Jvm.MethodName) ({ cls := "RopeRemembersModel", name := "weakest", desc := "(I)I" } : Jvm.MethodName)) ∈ u_big := u_t7 (i := 38) rfl rfl
theorem q_1479 : (Jvm.Cond.code ({ cls := "RopeRemembersModel", name := "weakest", desc := "(I)I" } : Jvm.MethodName) prog_14_method_71_code (5 : Nat) (Option.some Jvm.ClassFile.FieldType.int)) ∈ u_big := u_t7 (i := 39) rfl rfl
theorem q_1480 : (Jvm.Cond.constant "RopeRemembersModel" (298 : Nat) (1000000 : Int32)) ∈ u_big := u_t7 (i := 40) rfl rfl
theorem q_1481 : (Jvm.Cond.methodLink "RopeRemembersModel" (299 : Nat) ({ cls := "RopeRemembersModel", name := "leftBy", desc := "(II)I" } : Jvm.MethodName)) ∈ u_big := u_t7 (i := 41) rfl rfl
theorem q_1483 : (Jvm.Cond.instanceMethod ({ cls := "RopeRemembersModel", name := "leftBy", desc := "(II)I" } : Jvm.MethodName)) ∈ u_big := u_t7 (i := 43) rfl rfl
theorem q_1484 : (Jvm.Cond.code ({ cls := "RopeRemembersModel", name := "leftBy", desc := "(II)I" } : Jvm.MethodName) prog_14_method_70_code (3 : Nat) (Option.some Jvm.ClassFile.FieldType.int)) ∈ u_big := u_t7 (i := 44) rfl rfl
theorem q_1485 : (Jvm.Cond.methodLink "RopeRemembersLaw" (121 : Nat) ({ cls := "RopeRemembersModel", name := "mean", desc := "()I" } : Jvm.MethodName)) ∈ u_big := u_t7 (i := 45) rfl rfl
theorem q_1486 : (Jvm.Cond.instanceMethod ({ cls := "RopeRemembersModel", name := "mean", desc := "()I" } : Jvm.MethodName)) ∈ u_big := u_t7 (i := 46) rfl rfl
theorem q_1487 : (Jvm.Cond.selects "RopeRemembersModel" ({ cls := "RopeRemembersModel", name := "mean", desc := "()I" } : Jvm.MethodName) ({ cls := "RopeRemembersModel", name := "mean", desc := "()I" } : Jvm.MethodName)) ∈ u_big := u_t7 (i := 47) rfl rfl
theorem q_1488 : (Jvm.Cond.code ({ cls := "RopeRemembersModel", name := "mean", desc := "()I" } : Jvm.MethodName) prog_14_method_74_code (3 : Nat) (Option.some Jvm.ClassFile.FieldType.int)) ∈ u_big := u_t7 (i := 48) rfl rfl
theorem q_1489 : (Jvm.Cond.methodLink "RopeRemembersModel" (306 : Nat) ({ cls := "RopeRemembersModel", name := "tellPart", desc := "(JJ)V" } : Jvm.MethodName)) ∈ u_big := u_t7 (i := 49) rfl rfl
theorem q_1491 : (Jvm.Cond.instanceMethod ({ cls := "RopeRemembersModel", name := "tellPart", desc := "(JJ)V" } : Jvm.MethodName)) ∈ u_big := u_t7 (i := 51) rfl rfl
theorem q_1492 : (Jvm.Cond.code ({ cls := "RopeRemembersModel", name := "tellPart", desc := "(JJ)V" } : Jvm.MethodName) prog_14_method_73_code (7 : Nat) (Option.none : Option Jvm.ClassFile.FieldType)) ∈ u_big := u_t7 (i := 52) rfl rfl
theorem q_1493 : (Jvm.Cond.methodLink "RopeRemembersModel" (302 : Nat) ({ cls := "RopeRemembersModel", name := "common", desc := "(JJ)J" } : Jvm.MethodName)) ∈ u_big := u_t7 (i := 53) rfl rfl
theorem q_1494 : (Jvm.Cond.static ({ cls := "RopeRemembersModel", name := "common", desc := "(JJ)J" } : Jvm.MethodName)) ∈ u_big := u_t7 (i := 54) rfl rfl
theorem q_1495 : (Jvm.Cond.code ({ cls := "RopeRemembersModel", name := "common", desc := "(JJ)J" } : Jvm.MethodName) prog_14_method_72_code (4 : Nat) (Option.some Jvm.ClassFile.FieldType.long)) ∈ u_big := u_t7 (i := 55) rfl rfl
theorem q_1496 : (Jvm.Cond.methodLink "RopeRemembersLaw" (125 : Nat) ({ cls := "RopeRemembersModel", name := "depends", desc := "(I)I" } : Jvm.MethodName)) ∈ u_big := u_t7 (i := 56) rfl rfl
theorem q_1497 : (Jvm.Cond.instanceMethod ({ cls := "RopeRemembersModel", name := "depends", desc := "(I)I" } : Jvm.MethodName)) ∈ u_big := u_t7 (i := 57) rfl rfl
theorem q_1498 : (Jvm.Cond.selects "RopeRemembersModel" ({ cls := "RopeRemembersModel", name := "depends", desc := "(I)I" } : Jvm.MethodName) ({ cls := "RopeRemembersModel", name := "depends", desc := "(I)I" } : Jvm.MethodName)) ∈ u_big := u_t7 (i := 58) rfl rfl
theorem q_1499 : (Jvm.Cond.code ({ cls := "RopeRemembersModel", name := "depends", desc := "(I)I" } : Jvm.MethodName) prog_14_method_76_code (4 : Nat) (Option.some Jvm.ClassFile.FieldType.int)) ∈ u_big := u_t7 (i := 59) rfl rfl
theorem q_1500 : (Jvm.Cond.methodLink "RopeRemembersModel" (310 : Nat) ({ cls := "RopeRemembersModel", name := "reached", desc := "([II)I" } : Jvm.MethodName)) ∈ u_big := u_t7 (i := 60) rfl rfl
theorem q_1502 : (Jvm.Cond.instanceMethod ({ cls := "RopeRemembersModel", name := "reached", desc := "([II)I" } : Jvm.MethodName)) ∈ u_big := u_t7 (i := 62) rfl rfl
theorem q_1503 : (Jvm.Cond.code ({ cls := "RopeRemembersModel", name := "reached", desc := "([II)I" } : Jvm.MethodName) prog_14_method_75_code (6 : Nat) (Option.some Jvm.ClassFile.FieldType.int)) ∈ u_big := u_t7 (i := 63) rfl rfl
theorem q_1504 : (Jvm.Cond.methodLink "RopeRemembersLaw" (129 : Nat) ({ cls := "RopeRemembersModel", name := "cut", desc := "(II)I" } : Jvm.MethodName)) ∈ u_big := u_t7 (i := 64) rfl rfl
theorem q_1505 : (Jvm.Cond.instanceMethod ({ cls := "RopeRemembersModel", name := "cut", desc := "(II)I" } : Jvm.MethodName)) ∈ u_big := u_t7 (i := 65) rfl rfl
theorem q_1506 : (Jvm.Cond.selects "RopeRemembersModel" ({ cls := "RopeRemembersModel", name := "cut", desc := "(II)I" } : Jvm.MethodName) ({ cls := "RopeRemembersModel", name := "cut", desc := "(II)I" } : Jvm.MethodName)) ∈ u_big := u_t7 (i := 66) rfl rfl
theorem q_1507 : (Jvm.Cond.code ({ cls := "RopeRemembersModel", name := "cut", desc := "(II)I" } : Jvm.MethodName) prog_14_method_78_code (6 : Nat) (Option.some Jvm.ClassFile.FieldType.int)) ∈ u_big := u_t7 (i := 67) rfl rfl
theorem q_1508 : (Jvm.Cond.methodLink "RopeRemembersModel" (313 : Nat) ({ cls := "RopeRemembersModel", name := "outOf", desc := "(I)I" } : Jvm.MethodName)) ∈ u_big := u_t7 (i := 68) rfl rfl
theorem q_1510 : (Jvm.Cond.instanceMethod ({ cls := "RopeRemembersModel", name := "outOf", desc := "(I)I" } : Jvm.MethodName)) ∈ u_big := u_t7 (i := 70) rfl rfl
theorem q_1511 : (Jvm.Cond.code ({ cls := "RopeRemembersModel", name := "outOf", desc := "(I)I" } : Jvm.MethodName) prog_14_method_77_code (4 : Nat) (Option.some Jvm.ClassFile.FieldType.int)) ∈ u_big := u_t7 (i := 71) rfl rfl
theorem q_1512 : (Jvm.Cond.methodLink "RopeRemembersLaw" (133 : Nat) ({ cls := "RopeRemembersModel", name := "faces", desc := "()I" } : Jvm.MethodName)) ∈ u_big := u_t7 (i := 72) rfl rfl
theorem q_1513 : (Jvm.Cond.instanceMethod ({ cls := "RopeRemembersModel", name := "faces", desc := "()I" } : Jvm.MethodName)) ∈ u_big := u_t7 (i := 73) rfl rfl
theorem q_1514 : (Jvm.Cond.selects "RopeRemembersModel" ({ cls := "RopeRemembersModel", name := "faces", desc := "()I" } : Jvm.MethodName) ({ cls := "RopeRemembersModel", name := "faces", desc := "()I" } : Jvm.MethodName)) ∈ u_big := u_t7 (i := 74) rfl rfl
theorem q_1515 : (Jvm.Cond.code ({ cls := "RopeRemembersModel", name := "faces", desc := "()I" } : Jvm.MethodName) prog_14_method_79_code (7 : Nat) (Option.some Jvm.ClassFile.FieldType.int)) ∈ u_big := u_t7 (i := 75) rfl rfl
theorem q_1516 : (Jvm.Cond.methodLink "RopeRemembersLaw" (137 : Nat) ({ cls := "RopeRemembersModel", name := "knows", desc := "(I)I" } : Jvm.MethodName)) ∈ u_big := u_t7 (i := 76) rfl rfl
theorem q_1517 : (Jvm.Cond.instanceMethod ({ cls := "RopeRemembersModel", name := "knows", desc := "(I)I" } : Jvm.MethodName)) ∈ u_big := u_t7 (i := 77) rfl rfl
theorem q_1518 : (Jvm.Cond.selects "RopeRemembersModel" ({ cls := "RopeRemembersModel", name := "knows", desc := "(I)I" } : Jvm.MethodName) ({ cls := "RopeRemembersModel", name := "knows", desc := "(I)I" } : Jvm.MethodName)) ∈ u_big := u_t7 (i := 78) rfl rfl
theorem q_1519 : (Jvm.Cond.code ({ cls := "RopeRemembersModel", name := "knows", desc := "(I)I" } : Jvm.MethodName) prog_14_method_81_code (7 : Nat) (Option.some Jvm.ClassFile.FieldType.int)) ∈ u_big := u_t7 (i := 79) rfl rfl
theorem q_1520 : (Jvm.Cond.methodLink "RopeRemembersModel" (316 : Nat) ({ cls := "RopeRemembersModel", name := "knowBy", desc := "(I)I" } : Jvm.MethodName)) ∈ u_big := u_t7 (i := 80) rfl rfl
theorem q_1522 : (Jvm.Cond.instanceMethod ({ cls := "RopeRemembersModel", name := "knowBy", desc := "(I)I" } : Jvm.MethodName)) ∈ u_big := u_t7 (i := 82) rfl rfl
theorem q_1523 : (Jvm.Cond.code ({ cls := "RopeRemembersModel", name := "knowBy", desc := "(I)I" } : Jvm.MethodName) prog_14_method_80_code (4 : Nat) (Option.some Jvm.ClassFile.FieldType.int)) ∈ u_big := u_t7 (i := 83) rfl rfl
theorem q_1524 : (Jvm.Cond.methodLink "RopeRemembersLaw" (141 : Nat) ({ cls := "RopeRemembersModel", name := "circle", desc := "()I" } : Jvm.MethodName)) ∈ u_big := u_t7 (i := 84) rfl rfl
theorem q_1525 : (Jvm.Cond.instanceMethod ({ cls := "RopeRemembersModel", name := "circle", desc := "()I" } : Jvm.MethodName)) ∈ u_big := u_t7 (i := 85) rfl rfl
theorem q_1526 : (Jvm.Cond.selects "RopeRemembersModel" ({ cls := "RopeRemembersModel", name := "circle", desc := "()I" } : Jvm.MethodName) ({ cls := "RopeRemembersModel", name := "circle", desc := "()I" } : Jvm.MethodName)) ∈ u_big := u_t7 (i := 86) rfl rfl
theorem q_1527 : (Jvm.Cond.code ({ cls := "RopeRemembersModel", name := "circle", desc := "()I" } : Jvm.MethodName) prog_14_method_82_code (5 : Nat) (Option.some Jvm.ClassFile.FieldType.int)) ∈ u_big := u_t7 (i := 87) rfl rfl
theorem q_1528 : (Jvm.Cond.methodLink "RopeRemembersLaw" (145 : Nat) ({ cls := "RopeRemembersModel", name := "spreads", desc := "(I)I" } : Jvm.MethodName)) ∈ u_big := u_t7 (i := 88) rfl rfl
theorem q_1529 : (Jvm.Cond.instanceMethod ({ cls := "RopeRemembersModel", name := "spreads", desc := "(I)I" } : Jvm.MethodName)) ∈ u_big := u_t7 (i := 89) rfl rfl
theorem q_1530 : (Jvm.Cond.selects "RopeRemembersModel" ({ cls := "RopeRemembersModel", name := "spreads", desc := "(I)I" } : Jvm.MethodName) ({ cls := "RopeRemembersModel", name := "spreads", desc := "(I)I" } : Jvm.MethodName)) ∈ u_big := u_t7 (i := 90) rfl rfl
theorem q_1531 : (Jvm.Cond.code ({ cls := "RopeRemembersModel", name := "spreads", desc := "(I)I" } : Jvm.MethodName) prog_14_method_83_code (8 : Nat) (Option.some Jvm.ClassFile.FieldType.int)) ∈ u_big := u_t7 (i := 91) rfl rfl
theorem q_1532 : (Jvm.Cond.methodLink "RopeRemembersLaw" (149 : Nat) ({ cls := "RopeRemembersModel", name := "unlike", desc := "()I" } : Jvm.MethodName)) ∈ u_big := u_t7 (i := 92) rfl rfl
theorem q_1533 : (Jvm.Cond.instanceMethod ({ cls := "RopeRemembersModel", name := "unlike", desc := "()I" } : Jvm.MethodName)) ∈ u_big := u_t7 (i := 93) rfl rfl
theorem q_1534 : (Jvm.Cond.selects "RopeRemembersModel" ({ cls := "RopeRemembersModel", name := "unlike", desc := "()I" } : Jvm.MethodName) ({ cls := "RopeRemembersModel", name := "unlike", desc := "()I" } : Jvm.MethodName)) ∈ u_big := u_t7 (i := 94) rfl rfl
theorem q_1535 : (Jvm.Cond.code ({ cls := "RopeRemembersModel", name := "unlike", desc := "()I" } : Jvm.MethodName) prog_14_method_84_code (4 : Nat) (Option.some Jvm.ClassFile.FieldType.int)) ∈ u_big := u_t7 (i := 95) rfl rfl
theorem q_1536 : (Jvm.Cond.methodLink "RopeRemembersLaw" (153 : Nat) ({ cls := "RopeRemembersModel", name := "dig", desc := "(II)I" } : Jvm.MethodName)) ∈ u_big := u_t7 (i := 96) rfl rfl
theorem q_1537 : (Jvm.Cond.instanceMethod ({ cls := "RopeRemembersModel", name := "dig", desc := "(II)I" } : Jvm.MethodName)) ∈ u_big := u_t7 (i := 97) rfl rfl
theorem q_1538 : (Jvm.Cond.selects "RopeRemembersModel" ({ cls := "RopeRemembersModel", name := "dig", desc := "(II)I" } : Jvm.MethodName) ({ cls := "RopeRemembersModel", name := "dig", desc := "(II)I" } : Jvm.MethodName)) ∈ u_big := u_t7 (i := 98) rfl rfl
theorem q_1539 : (Jvm.Cond.code ({ cls := "RopeRemembersModel", name := "dig", desc := "(II)I" } : Jvm.MethodName) prog_14_method_85_code (3 : Nat) (Option.some Jvm.ClassFile.FieldType.int)) ∈ u_big := u_t7 (i := 99) rfl rfl
theorem q_1540 : (Jvm.Cond.methodLink "RopeRemembersLaw" (157 : Nat) ({ cls := "RopeRemembersModel", name := "forget", desc := "()I" } : Jvm.MethodName)) ∈ u_big := u_t7 (i := 100) rfl rfl
theorem q_1541 : (Jvm.Cond.instanceMethod ({ cls := "RopeRemembersModel", name := "forget", desc := "()I" } : Jvm.MethodName)) ∈ u_big := u_t7 (i := 101) rfl rfl
theorem q_1542 : (Jvm.Cond.selects "RopeRemembersModel" ({ cls := "RopeRemembersModel", name := "forget", desc := "()I" } : Jvm.MethodName) ({ cls := "RopeRemembersModel", name := "forget", desc := "()I" } : Jvm.MethodName)) ∈ u_big := u_t7 (i := 102) rfl rfl
theorem q_1543 : (Jvm.Cond.code ({ cls := "RopeRemembersModel", name := "forget", desc := "()I" } : Jvm.MethodName) prog_14_method_86_code (2 : Nat) (Option.some Jvm.ClassFile.FieldType.int)) ∈ u_big := u_t7 (i := 103) rfl rfl
theorem q_1544 : (Jvm.Cond.methodLink "RopeRemembersLaw" (161 : Nat) ({ cls := "RopeRemembersModel", name := "courses", desc := "()I" } : Jvm.MethodName)) ∈ u_big := u_t7 (i := 104) rfl rfl
theorem q_1545 : (Jvm.Cond.instanceMethod ({ cls := "RopeRemembersModel", name := "courses", desc := "()I" } : Jvm.MethodName)) ∈ u_big := u_t7 (i := 105) rfl rfl
theorem q_1546 : (Jvm.Cond.selects "RopeRemembersModel" ({ cls := "RopeRemembersModel", name := "courses", desc := "()I" } : Jvm.MethodName) ({ cls := "RopeRemembersModel", name := "courses", desc := "()I" } : Jvm.MethodName)) ∈ u_big := u_t7 (i := 106) rfl rfl
theorem q_1547 : (Jvm.Cond.code ({ cls := "RopeRemembersModel", name := "courses", desc := "()I" } : Jvm.MethodName) prog_14_method_89_code (6 : Nat) (Option.some Jvm.ClassFile.FieldType.int)) ∈ u_big := u_t7 (i := 107) rfl rfl
theorem q_1548 : (Jvm.Cond.methodLink "RopeRemembersModel" (322 : Nat) ({ cls := "RopeRemembersModel", name := "isCourse", desc := "(II)Z" } : Jvm.MethodName)) ∈ u_big := u_t7 (i := 108) rfl rfl
theorem q_1550 : (Jvm.Cond.instanceMethod ({ cls := "RopeRemembersModel", name := "isCourse", desc := "(II)Z" } : Jvm.MethodName)) ∈ u_big := u_t7 (i := 110) rfl rfl
theorem q_1551 : (Jvm.Cond.code ({ cls := "RopeRemembersModel", name := "isCourse", desc := "(II)Z" } : Jvm.MethodName) prog_14_method_87_code (4 : Nat) (Option.some Jvm.ClassFile.FieldType.boolean)) ∈ u_big := u_t7 (i := 111) rfl rfl
theorem q_1552 : (Jvm.Cond.methodLink "RopeRemembersLaw" (165 : Nat) ({ cls := "RopeRemembersModel", name := "sure", desc := "()I" } : Jvm.MethodName)) ∈ u_big := u_t7 (i := 112) rfl rfl
theorem q_1553 : (Jvm.Cond.instanceMethod ({ cls := "RopeRemembersModel", name := "sure", desc := "()I" } : Jvm.MethodName)) ∈ u_big := u_t7 (i := 113) rfl rfl
theorem q_1554 : (Jvm.Cond.selects "RopeRemembersModel" ({ cls := "RopeRemembersModel", name := "sure", desc := "()I" } : Jvm.MethodName) ({ cls := "RopeRemembersModel", name := "sure", desc := "()I" } : Jvm.MethodName)) ∈ u_big := u_t7 (i := 114) rfl rfl
theorem q_1555 : (Jvm.Cond.code ({ cls := "RopeRemembersModel", name := "sure", desc := "()I" } : Jvm.MethodName) prog_14_method_90_code (6 : Nat) (Option.some Jvm.ClassFile.FieldType.int)) ∈ u_big := u_t7 (i := 115) rfl rfl
theorem q_1556 : (Jvm.Cond.methodLink "RopeRemembersModel" (325 : Nat) ({ cls := "RopeRemembersModel", name := "coursesIf", desc := "(IZ)I" } : Jvm.MethodName)) ∈ u_big := u_t7 (i := 116) rfl rfl
theorem q_1558 : (Jvm.Cond.instanceMethod ({ cls := "RopeRemembersModel", name := "coursesIf", desc := "(IZ)I" } : Jvm.MethodName)) ∈ u_big := u_t7 (i := 118) rfl rfl
theorem q_1559 : (Jvm.Cond.code ({ cls := "RopeRemembersModel", name := "coursesIf", desc := "(IZ)I" } : Jvm.MethodName) prog_14_method_88_code (6 : Nat) (Option.some Jvm.ClassFile.FieldType.int)) ∈ u_big := u_t7 (i := 119) rfl rfl
theorem q_1560 : (Jvm.Cond.methodLink "RopeRemembersLaw" (169 : Nat) ({ cls := "RopeRemembersModel", name := "next", desc := "()I" } : Jvm.MethodName)) ∈ u_big := u_t7 (i := 120) rfl rfl
theorem q_1561 : (Jvm.Cond.instanceMethod ({ cls := "RopeRemembersModel", name := "next", desc := "()I" } : Jvm.MethodName)) ∈ u_big := u_t7 (i := 121) rfl rfl
theorem q_1562 : (Jvm.Cond.selects "RopeRemembersModel" ({ cls := "RopeRemembersModel", name := "next", desc := "()I" } : Jvm.MethodName) ({ cls := "RopeRemembersModel", name := "next", desc := "()I" } : Jvm.MethodName)) ∈ u_big := u_t7 (i := 122) rfl rfl
theorem q_1563 : (Jvm.Cond.code ({ cls := "RopeRemembersModel", name := "next", desc := "()I" } : Jvm.MethodName) prog_14_method_91_code (5 : Nat) (Option.some Jvm.ClassFile.FieldType.int)) ∈ u_big := u_t7 (i := 123) rfl rfl
theorem q_1564 : (Jvm.Cond.methodLink "RopeRemembersLaw" (173 : Nat) ({ cls := "RopeRemembersModel", name := "dues", desc := "(I)I" } : Jvm.MethodName)) ∈ u_big := u_t7 (i := 124) rfl rfl
theorem q_1565 : (Jvm.Cond.instanceMethod ({ cls := "RopeRemembersModel", name := "dues", desc := "(I)I" } : Jvm.MethodName)) ∈ u_big := u_t7 (i := 125) rfl rfl
theorem q_1566 : (Jvm.Cond.selects "RopeRemembersModel" ({ cls := "RopeRemembersModel", name := "dues", desc := "(I)I" } : Jvm.MethodName) ({ cls := "RopeRemembersModel", name := "dues", desc := "(I)I" } : Jvm.MethodName)) ∈ u_big := u_t7 (i := 126) rfl rfl
theorem q_1567 : (Jvm.Cond.code ({ cls := "RopeRemembersModel", name := "dues", desc := "(I)I" } : Jvm.MethodName) prog_14_method_92_code (7 : Nat) (Option.some Jvm.ClassFile.FieldType.int)) ∈ u_big := u_t7 (i := 127) rfl rfl
theorem q_1568 : (Jvm.Cond.methodLink "RopeRemembersLaw" (177 : Nat) ({ cls := "RopeRemembersModel", name := "cheapest", desc := "(I)I" } : Jvm.MethodName)) ∈ u_big := u_t7 (i := 128) rfl rfl
theorem q_1569 : (Jvm.Cond.instanceMethod ({ cls := "RopeRemembersModel", name := "cheapest", desc := "(I)I" } : Jvm.MethodName)) ∈ u_big := u_t7 (i := 129) rfl rfl
theorem q_1570 : (Jvm.Cond.selects "RopeRemembersModel" ({ cls := "RopeRemembersModel", name := "cheapest", desc := "(I)I" } : Jvm.MethodName) ({ cls := "RopeRemembersModel", name := "cheapest", desc := "(I)I" } : Jvm.MethodName)) ∈ u_big := u_t7 (i := 130) rfl rfl
theorem q_1571 : (Jvm.Cond.code ({ cls := "RopeRemembersModel", name := "cheapest", desc := "(I)I" } : Jvm.MethodName) prog_14_method_93_code (4 : Nat) (Option.some Jvm.ClassFile.FieldType.int)) ∈ u_big := u_t7 (i := 131) rfl rfl
theorem q_1572 : (Jvm.Cond.methodLink "RopeRemembersLaw" (181 : Nat) ({ cls := "RopeRemembersModel", name := "yard", desc := "(I)I" } : Jvm.MethodName)) ∈ u_big := u_t7 (i := 132) rfl rfl
theorem q_1573 : (Jvm.Cond.instanceMethod ({ cls := "RopeRemembersModel", name := "yard", desc := "(I)I" } : Jvm.MethodName)) ∈ u_big := u_t7 (i := 133) rfl rfl
theorem q_1574 : (Jvm.Cond.selects "RopeRemembersModel" ({ cls := "RopeRemembersModel", name := "yard", desc := "(I)I" } : Jvm.MethodName) ({ cls := "RopeRemembersModel", name := "yard", desc := "(I)I" } : Jvm.MethodName)) ∈ u_big := u_t7 (i := 134) rfl rfl
theorem q_1575 : (Jvm.Cond.code ({ cls := "RopeRemembersModel", name := "yard", desc := "(I)I" } : Jvm.MethodName) prog_14_method_94_code (2 : Nat) (Option.some Jvm.ClassFile.FieldType.int)) ∈ u_big := u_t7 (i := 135) rfl rfl
theorem q_1576 : (Jvm.Cond.methodLink "RopeRemembersLaw" (185 : Nat) ({ cls := "RopeRemembersModel", name := "harvest", desc := "(I)I" } : Jvm.MethodName)) ∈ u_big := u_t7 (i := 136) rfl rfl
theorem q_1577 : (Jvm.Cond.instanceMethod ({ cls := "RopeRemembersModel", name := "harvest", desc := "(I)I" } : Jvm.MethodName)) ∈ u_big := u_t7 (i := 137) rfl rfl
theorem q_1578 : (Jvm.Cond.selects "RopeRemembersModel" ({ cls := "RopeRemembersModel", name := "harvest", desc := "(I)I" } : Jvm.MethodName) ({ cls := "RopeRemembersModel", name := "harvest", desc := "(I)I" } : Jvm.MethodName)) ∈ u_big := u_t7 (i := 138) rfl rfl
theorem q_1579 : (Jvm.Cond.code ({ cls := "RopeRemembersModel", name := "harvest", desc := "(I)I" } : Jvm.MethodName) prog_14_method_95_code (5 : Nat) (Option.some Jvm.ClassFile.FieldType.int)) ∈ u_big := u_t7 (i := 139) rfl rfl
theorem q_1580 : (Jvm.Cond.methodLink "RopeRemembersLaw" (189 : Nat) ({ cls := "RopeRemembersModel", name := "owed", desc := "(II)I" } : Jvm.MethodName)) ∈ u_big := u_t7 (i := 140) rfl rfl
theorem q_1581 : (Jvm.Cond.instanceMethod ({ cls := "RopeRemembersModel", name := "owed", desc := "(II)I" } : Jvm.MethodName)) ∈ u_big := u_t7 (i := 141) rfl rfl
theorem q_1582 : (Jvm.Cond.selects "RopeRemembersModel" ({ cls := "RopeRemembersModel", name := "owed", desc := "(II)I" } : Jvm.MethodName) ({ cls := "RopeRemembersModel", name := "owed", desc := "(II)I" } : Jvm.MethodName)) ∈ u_big := u_t7 (i := 142) rfl rfl
theorem q_1583 : (Jvm.Cond.code ({ cls := "RopeRemembersModel", name := "owed", desc := "(II)I" } : Jvm.MethodName) prog_14_method_96_code (7 : Nat) (Option.some Jvm.ClassFile.FieldType.int)) ∈ u_big := u_t7 (i := 143) rfl rfl
theorem q_1584 : (Jvm.Cond.methodLink "RopeRemembersLaw" (194 : Nat) ({ cls := "RopeRemembersModel", name := "floods", desc := "(III)I" } : Jvm.MethodName)) ∈ u_big := u_t7 (i := 144) rfl rfl
theorem q_1585 : (Jvm.Cond.instanceMethod ({ cls := "RopeRemembersModel", name := "floods", desc := "(III)I" } : Jvm.MethodName)) ∈ u_big := u_t7 (i := 145) rfl rfl
theorem q_1586 : (Jvm.Cond.selects "RopeRemembersModel" ({ cls := "RopeRemembersModel", name := "floods", desc := "(III)I" } : Jvm.MethodName) ({ cls := "RopeRemembersModel", name := "floods", desc := "(III)I" } : Jvm.MethodName)) ∈ u_big := u_t7 (i := 146) rfl rfl
theorem q_1587 : (Jvm.Cond.code ({ cls := "RopeRemembersModel", name := "floods", desc := "(III)I" } : Jvm.MethodName) prog_14_method_98_code (9 : Nat) (Option.some Jvm.ClassFile.FieldType.int)) ∈ u_big := u_t7 (i := 147) rfl rfl
theorem q_1588 : (Jvm.Cond.methodLink "RopeRemembersModel" (329 : Nat) ({ cls := "RopeRemembersModel", name := "power", desc := "(JI)J" } : Jvm.MethodName)) ∈ u_big := u_t7 (i := 148) rfl rfl
theorem q_1589 : (Jvm.Cond.static ({ cls := "RopeRemembersModel", name := "power", desc := "(JI)J" } : Jvm.MethodName)) ∈ u_big := u_t7 (i := 149) rfl rfl
theorem q_1590 : (Jvm.Cond.code ({ cls := "RopeRemembersModel", name := "power", desc := "(JI)J" } : Jvm.MethodName) prog_14_method_97_code (6 : Nat) (Option.some Jvm.ClassFile.FieldType.long)) ∈ u_big := u_t7 (i := 150) rfl rfl
theorem q_1591 : (Jvm.Cond.methodLink "RopeRemembersLaw" (198 : Nat) ({ cls := "RopeRemembersModel", name := "twice", desc := "(II)I" } : Jvm.MethodName)) ∈ u_big := u_t7 (i := 151) rfl rfl
theorem q_1592 : (Jvm.Cond.instanceMethod ({ cls := "RopeRemembersModel", name := "twice", desc := "(II)I" } : Jvm.MethodName)) ∈ u_big := u_t7 (i := 152) rfl rfl
theorem q_1593 : (Jvm.Cond.selects "RopeRemembersModel" ({ cls := "RopeRemembersModel", name := "twice", desc := "(II)I" } : Jvm.MethodName) ({ cls := "RopeRemembersModel", name := "twice", desc := "(II)I" } : Jvm.MethodName)) ∈ u_big := u_t7 (i := 153) rfl rfl
theorem q_1594 : (Jvm.Cond.code ({ cls := "RopeRemembersModel", name := "twice", desc := "(II)I" } : Jvm.MethodName) prog_14_method_99_code (10 : Nat) (Option.some Jvm.ClassFile.FieldType.int)) ∈ u_big := u_t7 (i := 154) rfl rfl
theorem q_1595 : (Jvm.Cond.methodLink "RopeRemembersLaw" (202 : Nat) ({ cls := "RopeRemembersModel", name := "rests", desc := "(II)I" } : Jvm.MethodName)) ∈ u_big := u_t7 (i := 155) rfl rfl
theorem q_1596 : (Jvm.Cond.instanceMethod ({ cls := "RopeRemembersModel", name := "rests", desc := "(II)I" } : Jvm.MethodName)) ∈ u_big := u_t7 (i := 156) rfl rfl
theorem q_1597 : (Jvm.Cond.selects "RopeRemembersModel" ({ cls := "RopeRemembersModel", name := "rests", desc := "(II)I" } : Jvm.MethodName) ({ cls := "RopeRemembersModel", name := "rests", desc := "(II)I" } : Jvm.MethodName)) ∈ u_big := u_t7 (i := 157) rfl rfl
theorem q_1598 : (Jvm.Cond.code ({ cls := "RopeRemembersModel", name := "rests", desc := "(II)I" } : Jvm.MethodName) prog_14_method_103_code (6 : Nat) (Option.some Jvm.ClassFile.FieldType.int)) ∈ u_big := u_t7 (i := 158) rfl rfl
theorem q_1599 : (Jvm.Cond.methodLink "RopeRemembersModel" (340 : Nat) ({ cls := "RopeRemembersModel", name := "isRest", desc := "(IIII)Z" } : Jvm.MethodName)) ∈ u_big := u_t7 (i := 159) rfl rfl
theorem q_1600 : (Jvm.Cond.static ({ cls := "RopeRemembersModel", name := "isRest", desc := "(IIII)Z" } : Jvm.MethodName)) ∈ u_big := u_t7 (i := 160) rfl rfl
theorem q_1601 : (Jvm.Cond.code ({ cls := "RopeRemembersModel", name := "isRest", desc := "(IIII)Z" } : Jvm.MethodName) prog_14_method_102_code (5 : Nat) (Option.some Jvm.ClassFile.FieldType.boolean)) ∈ u_big := u_t7 (i := 161) rfl rfl
theorem q_1602 : (Jvm.Cond.methodLink "RopeRemembersModel" (333 : Nat) ({ cls := "RopeRemembersModel", name := "farmerGets", desc := "(III)I" } : Jvm.MethodName)) ∈ u_big := u_t7 (i := 162) rfl rfl
theorem q_1603 : (Jvm.Cond.static ({ cls := "RopeRemembersModel", name := "farmerGets", desc := "(III)I" } : Jvm.MethodName)) ∈ u_big := u_t7 (i := 163) rfl rfl
theorem q_1604 : (Jvm.Cond.code ({ cls := "RopeRemembersModel", name := "farmerGets", desc := "(III)I" } : Jvm.MethodName) prog_14_method_100_code (3 : Nat) (Option.some Jvm.ClassFile.FieldType.int)) ∈ u_big := u_t7 (i := 164) rfl rfl
theorem q_1605 : (Jvm.Cond.methodLink "RopeRemembersModel" (337 : Nat) ({ cls := "RopeRemembersModel", name := "othersGet", desc := "(III)I" } : Jvm.MethodName)) ∈ u_big := u_t7 (i := 165) rfl rfl
theorem q_1606 : (Jvm.Cond.static ({ cls := "RopeRemembersModel", name := "othersGet", desc := "(III)I" } : Jvm.MethodName)) ∈ u_big := u_t7 (i := 166) rfl rfl
theorem q_1607 : (Jvm.Cond.code ({ cls := "RopeRemembersModel", name := "othersGet", desc := "(III)I" } : Jvm.MethodName) prog_14_method_101_code (3 : Nat) (Option.some Jvm.ClassFile.FieldType.int)) ∈ u_big := u_t7 (i := 167) rfl rfl
theorem q_1608 : (Jvm.Cond.methodLink "RopeRemembersLaw" (206 : Nat) ({ cls := "RopeRemembersModel", name := "law", desc := "()I" } : Jvm.MethodName)) ∈ u_big := u_t7 (i := 168) rfl rfl
theorem q_1609 : (Jvm.Cond.instanceMethod ({ cls := "RopeRemembersModel", name := "law", desc := "()I" } : Jvm.MethodName)) ∈ u_big := u_t7 (i := 169) rfl rfl
theorem q_1610 : (Jvm.Cond.selects "RopeRemembersModel" ({ cls := "RopeRemembersModel", name := "law", desc := "()I" } : Jvm.MethodName) ({ cls := "RopeRemembersModel", name := "law", desc := "()I" } : Jvm.MethodName)) ∈ u_big := u_t7 (i := 170) rfl rfl
theorem q_1611 : (Jvm.Cond.code ({ cls := "RopeRemembersModel", name := "law", desc := "()I" } : Jvm.MethodName) prog_14_method_105_code (6 : Nat) (Option.some Jvm.ClassFile.FieldType.int)) ∈ u_big := u_t7 (i := 171) rfl rfl
theorem q_1612 : (Jvm.Cond.methodLink "RopeRemembersModel" (344 : Nat) ({ cls := "RopeRemembersModel", name := "inBy10", desc := "()I" } : Jvm.MethodName)) ∈ u_big := u_t7 (i := 172) rfl rfl
theorem q_1614 : (Jvm.Cond.instanceMethod ({ cls := "RopeRemembersModel", name := "inBy10", desc := "()I" } : Jvm.MethodName)) ∈ u_big := u_t7 (i := 174) rfl rfl
theorem q_1615 : (Jvm.Cond.code ({ cls := "RopeRemembersModel", name := "inBy10", desc := "()I" } : Jvm.MethodName) prog_14_method_104_code (1 : Nat) (Option.some Jvm.ClassFile.FieldType.int)) ∈ u_big := u_t7 (i := 175) rfl rfl
theorem q_1616 : (Jvm.Cond.methodLink "RopeRemembersLaw" (210 : Nat) ({ cls := "RopeRemembersModel", name := "years", desc := "(II)I" } : Jvm.MethodName)) ∈ u_big := u_t7 (i := 176) rfl rfl
theorem q_1617 : (Jvm.Cond.instanceMethod ({ cls := "RopeRemembersModel", name := "years", desc := "(II)I" } : Jvm.MethodName)) ∈ u_big := u_t7 (i := 177) rfl rfl
theorem q_1618 : (Jvm.Cond.selects "RopeRemembersModel" ({ cls := "RopeRemembersModel", name := "years", desc := "(II)I" } : Jvm.MethodName) ({ cls := "RopeRemembersModel", name := "years", desc := "(II)I" } : Jvm.MethodName)) ∈ u_big := u_t7 (i := 178) rfl rfl
theorem q_1619 : (Jvm.Cond.code ({ cls := "RopeRemembersModel", name := "years", desc := "(II)I" } : Jvm.MethodName) prog_14_method_107_code (7 : Nat) (Option.some Jvm.ClassFile.FieldType.int)) ∈ u_big := u_t7 (i := 179) rfl rfl
theorem q_1620 : (Jvm.Cond.methodLink "RopeRemembersModel" (351 : Nat) ({ cls := "RopeRemembersModel", name := "draw", desc := "(I)I" } : Jvm.MethodName)) ∈ u_big := u_t7 (i := 180) rfl rfl
theorem q_1622 : (Jvm.Cond.instanceMethod ({ cls := "RopeRemembersModel", name := "draw", desc := "(I)I" } : Jvm.MethodName)) ∈ u_big := u_t7 (i := 182) rfl rfl
theorem q_1623 : (Jvm.Cond.code ({ cls := "RopeRemembersModel", name := "draw", desc := "(I)I" } : Jvm.MethodName) prog_14_method_106_code (2 : Nat) (Option.some Jvm.ClassFile.FieldType.int)) ∈ u_big := u_t7 (i := 183) rfl rfl
theorem q_1624 : (Jvm.Cond.constant "RopeRemembersModel" (350 : Nat) (1103515245 : Int32)) ∈ u_big := u_t7 (i := 184) rfl rfl
theorem q_1625 : (Jvm.Cond.methodLink "RopeRemembersLaw" (214 : Nat) ({ cls := "RopeRemembersModel", name := "keep", desc := "(I)Z" } : Jvm.MethodName)) ∈ u_big := u_t7 (i := 185) rfl rfl
theorem q_1626 : (Jvm.Cond.instanceMethod ({ cls := "RopeRemembersModel", name := "keep", desc := "(I)Z" } : Jvm.MethodName)) ∈ u_big := u_t7 (i := 186) rfl rfl
theorem q_1627 : (Jvm.Cond.selects "RopeRemembersModel" ({ cls := "RopeRemembersModel", name := "keep", desc := "(I)Z" } : Jvm.MethodName) ({ cls := "RopeRemembersModel", name := "keep", desc := "(I)Z" } : Jvm.MethodName)) ∈ u_big := u_t7 (i := 187) rfl rfl
theorem q_1628 : (Jvm.Cond.code ({ cls := "RopeRemembersModel", name := "keep", desc := "(I)Z" } : Jvm.MethodName) prog_14_method_108_code (2 : Nat) (Option.some Jvm.ClassFile.FieldType.boolean)) ∈ u_big := u_t7 (i := 188) rfl rfl
theorem q_1629 : (Jvm.Cond.methodLink "RopeRemembersLaw" (218 : Nat) ({ cls := "RopeRemembersModel", name := "again", desc := "(I)Z" } : Jvm.MethodName)) ∈ u_big := u_t7 (i := 189) rfl rfl
theorem q_1630 : (Jvm.Cond.instanceMethod ({ cls := "RopeRemembersModel", name := "again", desc := "(I)Z" } : Jvm.MethodName)) ∈ u_big := u_t7 (i := 190) rfl rfl
theorem q_1631 : (Jvm.Cond.selects "RopeRemembersModel" ({ cls := "RopeRemembersModel", name := "again", desc := "(I)Z" } : Jvm.MethodName) ({ cls := "RopeRemembersModel", name := "again", desc := "(I)Z" } : Jvm.MethodName)) ∈ u_big := u_t7 (i := 191) rfl rfl
theorem q_1632 : (Jvm.Cond.code ({ cls := "RopeRemembersModel", name := "again", desc := "(I)Z" } : Jvm.MethodName) prog_14_method_109_code (3 : Nat) (Option.some Jvm.ClassFile.FieldType.boolean)) ∈ u_big := u_t7 (i := 192) rfl rfl
theorem q_1633 : (Jvm.Cond.methodLink "RopeRemembersLaw" (222 : Nat) ({ cls := "RopeRemembersModel", name := "count", desc := "(I)I" } : Jvm.MethodName)) ∈ u_big := u_t7 (i := 193) rfl rfl
theorem q_1634 : (Jvm.Cond.instanceMethod ({ cls := "RopeRemembersModel", name := "count", desc := "(I)I" } : Jvm.MethodName)) ∈ u_big := u_t7 (i := 194) rfl rfl
theorem q_1635 : (Jvm.Cond.selects "RopeRemembersModel" ({ cls := "RopeRemembersModel", name := "count", desc := "(I)I" } : Jvm.MethodName) ({ cls := "RopeRemembersModel", name := "count", desc := "(I)I" } : Jvm.MethodName)) ∈ u_big := u_t7 (i := 195) rfl rfl
theorem q_1636 : (Jvm.Cond.code ({ cls := "RopeRemembersModel", name := "count", desc := "(I)I" } : Jvm.MethodName) prog_14_method_111_code (2 : Nat) (Option.some Jvm.ClassFile.FieldType.int)) ∈ u_big := u_t7 (i := 196) rfl rfl
theorem q_1637 : (Jvm.Cond.methodLink "RopeRemembersModel" (354 : Nat) ({ cls := "RopeRemembersModel", name := "glances", desc := "()I" } : Jvm.MethodName)) ∈ u_big := u_t7 (i := 197) rfl rfl
theorem q_1639 : (Jvm.Cond.instanceMethod ({ cls := "RopeRemembersModel", name := "glances", desc := "()I" } : Jvm.MethodName)) ∈ u_big := u_t7 (i := 199) rfl rfl
theorem q_1640 : (Jvm.Cond.code ({ cls := "RopeRemembersModel", name := "glances", desc := "()I" } : Jvm.MethodName) prog_14_method_110_code (3 : Nat) (Option.some Jvm.ClassFile.FieldType.int)) ∈ u_big := u_t7 (i := 200) rfl rfl
theorem q_1641 : (Jvm.Cond.methodLink "RopeRemembersLaw" (226 : Nat) ({ cls := "RopeRemembersModel", name := "row", desc := "(I)J" } : Jvm.MethodName)) ∈ u_big := u_t7 (i := 201) rfl rfl
theorem q_1642 : (Jvm.Cond.instanceMethod ({ cls := "RopeRemembersModel", name := "row", desc := "(I)J" } : Jvm.MethodName)) ∈ u_big := u_t7 (i := 202) rfl rfl
theorem q_1643 : (Jvm.Cond.selects "RopeRemembersModel" ({ cls := "RopeRemembersModel", name := "row", desc := "(I)J" } : Jvm.MethodName) ({ cls := "RopeRemembersModel", name := "row", desc := "(I)J" } : Jvm.MethodName)) ∈ u_big := u_t7 (i := 203) rfl rfl
theorem q_1644 : (Jvm.Cond.code ({ cls := "RopeRemembersModel", name := "row", desc := "(I)J" } : Jvm.MethodName) prog_14_method_112_code (2 : Nat) (Option.some Jvm.ClassFile.FieldType.long)) ∈ u_big := u_t7 (i := 204) rfl rfl
theorem q_1645 : (Jvm.Cond.sameMethod "java/lang/Throwable" "java/lang/Throwable" "fillInStackTrace" "(I)Ljava/lang/Throwable;") ∈ u_big := u_t7 (i := 205) rfl rfl
theorem qp_0 : Cond.selects "RopeRemembers$PeopleReader" ({ cls := "RopeRemembers$PeopleReader", name := "takesBelief", desc := "(I)Z" } : MethodName) ({ cls := "RopeRemembers$PeopleReader", name := "takesBelief", desc := "(I)Z" } : MethodName) ∈ u_big := u_tp (i := 0) rfl rfl
theorem qp_1 : Cond.selects "RopeRemembers$PeopleReader" ({ cls := "RopeRemembers$PeopleReader", name := "takesEdge", desc := "(II)Z" } : MethodName) ({ cls := "RopeRemembers$PeopleReader", name := "takesEdge", desc := "(II)Z" } : MethodName) ∈ u_big := u_tp (i := 1) rfl rfl
theorem qp_2 : Cond.selects "RopeRemembers$PeopleReader" ({ cls := "RopeRemembers$PeopleReader", name := "takesLetter", desc := "(II)Z" } : MethodName) ({ cls := "RopeRemembers$PeopleReader", name := "takesLetter", desc := "(II)Z" } : MethodName) ∈ u_big := u_tp (i := 2) rfl rfl
theorem qp_3 : Cond.selects "RopeRemembers$Rule" ({ cls := "RopeRemembers$Rule", name := "takesBehindThing", desc := "(I)Z" } : MethodName) ({ cls := "RopeRemembers$Rule", name := "takesBehindThing", desc := "(I)Z" } : MethodName) ∈ u_big := u_tp (i := 3) rfl rfl
theorem qp_4 : Cond.selects "RopeRemembers$Rule" ({ cls := "RopeRemembers$Rule", name := "takesDigit", desc := "(I)Z" } : MethodName) ({ cls := "RopeRemembers$Rule", name := "takesDigit", desc := "(I)Z" } : MethodName) ∈ u_big := u_tp (i := 4) rfl rfl
theorem qp_5 : Cond.selects "RopeRemembers$Rule" ({ cls := "RopeRemembers$Rule", name := "closes", desc := "()Z" } : MethodName) ({ cls := "RopeRemembers$Rule", name := "closes", desc := "()Z" } : MethodName) ∈ u_big := u_tp (i := 5) rfl rfl
theorem qp_6 : Cond.selects "RopeRemembers$Rule" ({ cls := "RopeRemembers$Rule", name := "unwind", desc := "(I)V" } : MethodName) ({ cls := "RopeRemembers$Rule", name := "unwind", desc := "(I)V" } : MethodName) ∈ u_big := u_tp (i := 6) rfl rfl
theorem qp_7 : Cond.selects "RopeRemembers$Rule" ({ cls := "RopeRemembers$Rule", name := "put", desc := "(I)Z" } : MethodName) ({ cls := "RopeRemembers$Rule", name := "put", desc := "(I)Z" } : MethodName) ∈ u_big := u_tp (i := 7) rfl rfl
theorem qp_8 : Cond.selects "RopeRemembers$Rule" ({ cls := "RopeRemembers$Rule", name := "await", desc := "(I)Z" } : MethodName) ({ cls := "RopeRemembers$Rule", name := "await", desc := "(I)Z" } : MethodName) ∈ u_big := u_tp (i := 8) rfl rfl
theorem qp_9 : Cond.selects "RopeRemembers$Rule" ({ cls := "RopeRemembers$Rule", name := "takesThing", desc := "(I)Z" } : MethodName) ({ cls := "RopeRemembers$Rule", name := "takesThing", desc := "(I)Z" } : MethodName) ∈ u_big := u_tp (i := 9) rfl rfl
theorem qp_10 : Cond.selects "RopeRemembers$Rule" ({ cls := "RopeRemembers$Rule", name := "opens", desc := "()Z" } : MethodName) ({ cls := "RopeRemembers$Rule", name := "opens", desc := "()Z" } : MethodName) ∈ u_big := u_tp (i := 10) rfl rfl
theorem qp_11 : Cond.selects "RopeRemembers$Rule" ({ cls := "RopeRemembers$Rule", name := "putThing", desc := "(I)Z" } : MethodName) ({ cls := "RopeRemembers$Rule", name := "putThing", desc := "(I)Z" } : MethodName) ∈ u_big := u_tp (i := 11) rfl rfl
theorem qp_12 : Cond.selects "RopeRemembers$WeekReader" ({ cls := "RopeRemembers$WeekReader", name := "takesKind", desc := "(I)Z" } : MethodName) ({ cls := "RopeRemembers$WeekReader", name := "takesKind", desc := "(I)Z" } : MethodName) ∈ u_big := u_tp (i := 12) rfl rfl
theorem qp_13 : Cond.selects "RopeRemembers$WeekReader" ({ cls := "RopeRemembers$WeekReader", name := "takesAct", desc := "(II)Z" } : MethodName) ({ cls := "RopeRemembers$WeekReader", name := "takesAct", desc := "(II)Z" } : MethodName) ∈ u_big := u_tp (i := 13) rfl rfl
theorem qp_14 : Cond.selects "RopeRemembers$WeekReader" ({ cls := "RopeRemembers$WeekReader", name := "takesGlance", desc := "(I)Z" } : MethodName) ({ cls := "RopeRemembers$WeekReader", name := "takesGlance", desc := "(I)Z" } : MethodName) ∈ u_big := u_tp (i := 14) rfl rfl
theorem qp_15 : Cond.selects "RopeRemembers" ({ cls := "RopeRemembers", name := "readAnotherRule", desc := "()I" } : MethodName) ({ cls := "RopeRemembers", name := "readAnotherRule", desc := "()I" } : MethodName) ∈ u_big := u_tp (i := 15) rfl rfl
theorem qp_16 : Cond.selects "RopeRemembers$State" ({ cls := "RopeRemembers$State", name := "part", desc := "(Z)V" } : MethodName) ({ cls := "RopeRemembers$State", name := "part", desc := "(Z)V" } : MethodName) ∈ u_big := u_tp (i := 16) rfl rfl
theorem qp_17 : Cond.selects "RopeRemembers$Rule" ({ cls := "RopeRemembers$Rule", name := "lookAt", desc := "(LRopeRemembers$State;I)V" } : MethodName) ({ cls := "RopeRemembers$Rule", name := "lookAt", desc := "(LRopeRemembers$State;I)V" } : MethodName) ∈ u_big := u_tp (i := 17) rfl rfl
theorem qp_18 : Cond.selects "RopeRemembers$Rule" ({ cls := "RopeRemembers$Rule", name := "worked", desc := "()I" } : MethodName) ({ cls := "RopeRemembers$Rule", name := "worked", desc := "()I" } : MethodName) ∈ u_big := u_tp (i := 18) rfl rfl
theorem qp_19 : Cond.selects "RopeRemembers$Rule" ({ cls := "RopeRemembers$Rule", name := "thing", desc := "(I)I" } : MethodName) ({ cls := "RopeRemembers$Rule", name := "thing", desc := "(I)I" } : MethodName) ∈ u_big := u_tp (i := 19) rfl rfl
theorem qp_20 : Cond.selects "RopeRemembers$Past" ({ cls := "RopeRemembers$Past", name := "dropEldest", desc := "()V" } : MethodName) ({ cls := "RopeRemembers$Past", name := "dropEldest", desc := "()V" } : MethodName) ∈ u_big := u_tp (i := 20) rfl rfl
theorem qp_21 : Cond.selects "RopeRemembers" ({ cls := "RopeRemembers", name := "acted", desc := "(I)I" } : MethodName) ({ cls := "RopeRemembers", name := "acted", desc := "(I)I" } : MethodName) ∈ u_big := u_tp (i := 21) rfl rfl
theorem qp_22 : Cond.selects "RopeRemembers" ({ cls := "RopeRemembers", name := "doAct", desc := "(I)I" } : MethodName) ({ cls := "RopeRemembers", name := "doAct", desc := "(I)I" } : MethodName) ∈ u_big := u_tp (i := 22) rfl rfl
theorem qp_23 : Cond.selects "RopeRemembers" ({ cls := "RopeRemembers", name := "tryCrossings", desc := "(II)I" } : MethodName) ({ cls := "RopeRemembers", name := "tryCrossings", desc := "(II)I" } : MethodName) ∈ u_big := u_tp (i := 23) rfl rfl
theorem qp_24 : Cond.selects "RopeRemembers" ({ cls := "RopeRemembers", name := "firstLike", desc := "(I)I" } : MethodName) ({ cls := "RopeRemembers", name := "firstLike", desc := "(I)I" } : MethodName) ∈ u_big := u_tp (i := 24) rfl rfl
theorem qp_25 : Cond.selects "RopeRemembers" ({ cls := "RopeRemembers", name := "fewestSigns", desc := "(IIZ)I" } : MethodName) ({ cls := "RopeRemembers", name := "fewestSigns", desc := "(IIZ)I" } : MethodName) ∈ u_big := u_tp (i := 25) rfl rfl
theorem qp_26 : Cond.selects "RopeRemembers" ({ cls := "RopeRemembers", name := "whomSignsMove", desc := "()I" } : MethodName) ({ cls := "RopeRemembers", name := "whomSignsMove", desc := "()I" } : MethodName) ∈ u_big := u_tp (i := 26) rfl rfl
theorem qp_27 : Cond.selects "RopeRemembers" ({ cls := "RopeRemembers", name := "tellFraction", desc := "(JJ)V" } : MethodName) ({ cls := "RopeRemembers", name := "tellFraction", desc := "(JJ)V" } : MethodName) ∈ u_big := u_tp (i := 27) rfl rfl
theorem qp_28 : Cond.selects "RopeRemembers" ({ cls := "RopeRemembers", name := "dependsOn", desc := "(I)I" } : MethodName) ({ cls := "RopeRemembers", name := "dependsOn", desc := "(I)I" } : MethodName) ∈ u_big := u_tp (i := 28) rfl rfl
theorem qp_29 : Cond.selects "RopeRemembers" ({ cls := "RopeRemembers", name := "glancesOut", desc := "(I)I" } : MethodName) ({ cls := "RopeRemembers", name := "glancesOut", desc := "(I)I" } : MethodName) ∈ u_big := u_tp (i := 29) rfl rfl
theorem qp_30 : Cond.selects "RopeRemembers" ({ cls := "RopeRemembers", name := "seeEachOther", desc := "(II)Z" } : MethodName) ({ cls := "RopeRemembers", name := "seeEachOther", desc := "(II)Z" } : MethodName) ∈ u_big := u_tp (i := 30) rfl rfl
theorem qp_31 : Cond.selects "RopeRemembers" ({ cls := "RopeRemembers", name := "howManyFaceToFace", desc := "(II)I" } : MethodName) ({ cls := "RopeRemembers", name := "howManyFaceToFace", desc := "(II)I" } : MethodName) ∈ u_big := u_tp (i := 31) rfl rfl
theorem qp_32 : Cond.selects "RopeRemembers" ({ cls := "RopeRemembers", name := "knowsDeeper", desc := "(I)I" } : MethodName) ({ cls := "RopeRemembers", name := "knowsDeeper", desc := "(I)I" } : MethodName) ∈ u_big := u_tp (i := 32) rfl rfl
theorem qp_33 : Cond.selects "RopeRemembers" ({ cls := "RopeRemembers", name := "allSeeEachOther", desc := "(I)Z" } : MethodName) ({ cls := "RopeRemembers", name := "allSeeEachOther", desc := "(I)Z" } : MethodName) ∈ u_big := u_tp (i := 33) rfl rfl
theorem qp_34 : Cond.selects "RopeRemembers" ({ cls := "RopeRemembers", name := "whoSeeOneOf", desc := "(I)I" } : MethodName) ({ cls := "RopeRemembers", name := "whoSeeOneOf", desc := "(I)I" } : MethodName) ∈ u_big := u_tp (i := 34) rfl rfl
theorem qp_35 : Cond.selects "RopeRemembers" ({ cls := "RopeRemembers", name := "duesRank", desc := "(III)I" } : MethodName) ({ cls := "RopeRemembers", name := "duesRank", desc := "(III)I" } : MethodName) ∈ u_big := u_tp (i := 35) rfl rfl
theorem qp_36 : Cond.selects "RopeRemembers" ({ cls := "RopeRemembers", name := "duesRest", desc := "(III)I" } : MethodName) ({ cls := "RopeRemembers", name := "duesRest", desc := "(III)I" } : MethodName) ∈ u_big := u_tp (i := 36) rfl rfl
theorem qp_37 : Cond.selects "RopeRemembers" ({ cls := "RopeRemembers", name := "fillChances", desc := "(II)V" } : MethodName) ({ cls := "RopeRemembers", name := "fillChances", desc := "(II)V" } : MethodName) ∈ u_big := u_tp (i := 37) rfl rfl
theorem qp_38 : Cond.selects "RopeRemembers" ({ cls := "RopeRemembers", name := "passYear", desc := "()V" } : MethodName) ({ cls := "RopeRemembers", name := "passYear", desc := "()V" } : MethodName) ∈ u_big := u_tp (i := 38) rfl rfl
theorem qp_39 : Cond.selects "java/lang/Throwable" ({ cls := "java/lang/Throwable", name := "fillInStackTrace", desc := "(I)Ljava/lang/Throwable;" } : MethodName) ({ cls := "java/lang/Throwable", name := "fillInStackTrace", desc := "(I)Ljava/lang/Throwable;" } : MethodName) ∈ u_big := u_tp (i := 39) rfl rfl
theorem qp_40 : Cond.selects "RopeRemembersModel" ({ cls := "RopeRemembersModel", name := "beginText", desc := "(I)V" } : MethodName) ({ cls := "RopeRemembersModel", name := "beginText", desc := "(I)V" } : MethodName) ∈ u_big := u_tp (i := 40) rfl rfl
theorem qp_41 : Cond.selects "RopeRemembersModel" ({ cls := "RopeRemembersModel", name := "begin", desc := "([BII)V" } : MethodName) ({ cls := "RopeRemembersModel", name := "begin", desc := "([BII)V" } : MethodName) ∈ u_big := u_tp (i := 41) rfl rfl
theorem qp_42 : Cond.selects "RopeRemembersModel" ({ cls := "RopeRemembersModel", name := "fine", desc := "()Z" } : MethodName) ({ cls := "RopeRemembersModel", name := "fine", desc := "()Z" } : MethodName) ∈ u_big := u_tp (i := 42) rfl rfl
theorem qp_43 : Cond.selects "RopeRemembersModel" ({ cls := "RopeRemembersModel", name := "here", desc := "()I" } : MethodName) ({ cls := "RopeRemembersModel", name := "here", desc := "()I" } : MethodName) ∈ u_big := u_tp (i := 43) rfl rfl
theorem qp_44 : Cond.selects "RopeRemembersModel" ({ cls := "RopeRemembersModel", name := "oneOf", desc := "(CI)I" } : MethodName) ({ cls := "RopeRemembersModel", name := "oneOf", desc := "(CI)I" } : MethodName) ∈ u_big := u_tp (i := 44) rfl rfl
theorem qp_45 : Cond.selects "RopeRemembersModel" ({ cls := "RopeRemembersModel", name := "fault", desc := "(I)V" } : MethodName) ({ cls := "RopeRemembersModel", name := "fault", desc := "(I)V" } : MethodName) ∈ u_big := u_tp (i := 45) rfl rfl
theorem qp_46 : Cond.selects "RopeRemembersModel" ({ cls := "RopeRemembersModel", name := "wasRight", desc := "()Z" } : MethodName) ({ cls := "RopeRemembersModel", name := "wasRight", desc := "()Z" } : MethodName) ∈ u_big := u_tp (i := 46) rfl rfl
theorem qp_47 : Cond.selects "RopeRemembersModel" ({ cls := "RopeRemembersModel", name := "told", desc := "()V" } : MethodName) ({ cls := "RopeRemembersModel", name := "told", desc := "()V" } : MethodName) ∈ u_big := u_tp (i := 47) rfl rfl
theorem qp_48 : Cond.selects "RopeRemembersModel" ({ cls := "RopeRemembersModel", name := "readMan", desc := "(II)V" } : MethodName) ({ cls := "RopeRemembersModel", name := "readMan", desc := "(II)V" } : MethodName) ∈ u_big := u_tp (i := 48) rfl rfl
theorem qp_49 : Cond.selects "RopeRemembersModel" ({ cls := "RopeRemembersModel", name := "passes", desc := "(C)Z" } : MethodName) ({ cls := "RopeRemembersModel", name := "passes", desc := "(C)Z" } : MethodName) ∈ u_big := u_tp (i := 49) rfl rfl
theorem qp_50 : Cond.selects "RopeRemembersModel" ({ cls := "RopeRemembersModel", name := "readRule", desc := "()Z" } : MethodName) ({ cls := "RopeRemembersModel", name := "readRule", desc := "()Z" } : MethodName) ∈ u_big := u_tp (i := 50) rfl rfl
theorem qp_51 : Cond.selects "RopeRemembersModel" ({ cls := "RopeRemembersModel", name := "held", desc := "(I)I" } : MethodName) ({ cls := "RopeRemembersModel", name := "held", desc := "(I)I" } : MethodName) ∈ u_big := u_tp (i := 51) rfl rfl
theorem qp_52 : Cond.selects "RopeRemembersModel" ({ cls := "RopeRemembersModel", name := "sum", desc := "(I)I" } : MethodName) ({ cls := "RopeRemembersModel", name := "sum", desc := "(I)I" } : MethodName) ∈ u_big := u_tp (i := 52) rfl rfl
theorem qp_53 : Cond.selects "RopeRemembersModel" ({ cls := "RopeRemembersModel", name := "product", desc := "(I)I" } : MethodName) ({ cls := "RopeRemembersModel", name := "product", desc := "(I)I" } : MethodName) ∈ u_big := u_tp (i := 53) rfl rfl
theorem qp_54 : Cond.selects "RopeRemembersModel" ({ cls := "RopeRemembersModel", name := "thing", desc := "(I)I" } : MethodName) ({ cls := "RopeRemembersModel", name := "thing", desc := "(I)I" } : MethodName) ∈ u_big := u_tp (i := 54) rfl rfl
theorem qp_55 : Cond.selects "RopeRemembersModel" ({ cls := "RopeRemembersModel", name := "need", desc := "(C)V" } : MethodName) ({ cls := "RopeRemembersModel", name := "need", desc := "(C)V" } : MethodName) ∈ u_big := u_tp (i := 55) rfl rfl
theorem qp_56 : Cond.selects "RopeRemembersModel" ({ cls := "RopeRemembersModel", name := "number", desc := "(I)I" } : MethodName) ({ cls := "RopeRemembersModel", name := "number", desc := "(I)I" } : MethodName) ∈ u_big := u_tp (i := 56) rfl rfl
theorem qp_57 : Cond.selects "RopeRemembersModel" ({ cls := "RopeRemembersModel", name := "isFurrow", desc := "(I)Z" } : MethodName) ({ cls := "RopeRemembersModel", name := "isFurrow", desc := "(I)Z" } : MethodName) ∈ u_big := u_tp (i := 57) rfl rfl
theorem qp_58 : Cond.selects "RopeRemembersModel" ({ cls := "RopeRemembersModel", name := "lost", desc := "()I" } : MethodName) ({ cls := "RopeRemembersModel", name := "lost", desc := "()I" } : MethodName) ∈ u_big := u_tp (i := 58) rfl rfl
theorem qp_59 : Cond.selects "RopeRemembersModel" ({ cls := "RopeRemembersModel", name := "isMan", desc := "(I)Z" } : MethodName) ({ cls := "RopeRemembersModel", name := "isMan", desc := "(I)Z" } : MethodName) ∈ u_big := u_tp (i := 59) rfl rfl
theorem qp_60 : Cond.selects "RopeRemembersModel" ({ cls := "RopeRemembersModel", name := "sees", desc := "([II)I" } : MethodName) ({ cls := "RopeRemembersModel", name := "sees", desc := "([II)I" } : MethodName) ∈ u_big := u_tp (i := 60) rfl rfl
theorem qp_61 : Cond.selects "RopeRemembersModel" ({ cls := "RopeRemembersModel", name := "all", desc := "()I" } : MethodName) ({ cls := "RopeRemembersModel", name := "all", desc := "()I" } : MethodName) ∈ u_big := u_tp (i := 61) rfl rfl
theorem qp_62 : Cond.selects "RopeRemembersModel" ({ cls := "RopeRemembersModel", name := "isIn", desc := "([II)Z" } : MethodName) ({ cls := "RopeRemembersModel", name := "isIn", desc := "([II)Z" } : MethodName) ∈ u_big := u_tp (i := 62) rfl rfl
theorem qp_63 : Cond.selects "RopeRemembersModel" ({ cls := "RopeRemembersModel", name := "then0", desc := "([II)I" } : MethodName) ({ cls := "RopeRemembersModel", name := "then0", desc := "([II)I" } : MethodName) ∈ u_big := u_tp (i := 63) rfl rfl
theorem qp_64 : Cond.selects "RopeRemembersModel" ({ cls := "RopeRemembersModel", name := "beliefs", desc := "([II)I" } : MethodName) ({ cls := "RopeRemembersModel", name := "beliefs", desc := "([II)I" } : MethodName) ∈ u_big := u_tp (i := 64) rfl rfl
theorem qp_65 : Cond.selects "RopeRemembersModel" ({ cls := "RopeRemembersModel", name := "inBits", desc := "([I)I" } : MethodName) ({ cls := "RopeRemembersModel", name := "inBits", desc := "([I)I" } : MethodName) ∈ u_big := u_tp (i := 65) rfl rfl
theorem qp_66 : Cond.selects "RopeRemembersModel" ({ cls := "RopeRemembersModel", name := "seenBy", desc := "([II)I" } : MethodName) ({ cls := "RopeRemembersModel", name := "seenBy", desc := "([II)I" } : MethodName) ∈ u_big := u_tp (i := 66) rfl rfl
theorem qp_67 : Cond.selects "RopeRemembersModel" ({ cls := "RopeRemembersModel", name := "remember", desc := "([I)V" } : MethodName) ({ cls := "RopeRemembersModel", name := "remember", desc := "([I)V" } : MethodName) ∈ u_big := u_tp (i := 67) rfl rfl
theorem qp_68 : Cond.selects "RopeRemembersModel" ({ cls := "RopeRemembersModel", name := "goCrossings", desc := "([II)I" } : MethodName) ({ cls := "RopeRemembersModel", name := "goCrossings", desc := "([II)I" } : MethodName) ∈ u_big := u_tp (i := 68) rfl rfl
theorem qp_69 : Cond.selects "RopeRemembersModel" ({ cls := "RopeRemembersModel", name := "goCrossing", desc := "([I)I" } : MethodName) ({ cls := "RopeRemembersModel", name := "goCrossing", desc := "([I)I" } : MethodName) ∈ u_big := u_tp (i := 69) rfl rfl
theorem qp_70 : Cond.selects "RopeRemembersModel" ({ cls := "RopeRemembersModel", name := "corn", desc := "([III)I" } : MethodName) ({ cls := "RopeRemembersModel", name := "corn", desc := "([III)I" } : MethodName) ∈ u_big := u_tp (i := 70) rfl rfl
theorem qp_71 : Cond.selects "RopeRemembersModel" ({ cls := "RopeRemembersModel", name := "tell", desc := "(J)V" } : MethodName) ({ cls := "RopeRemembersModel", name := "tell", desc := "(J)V" } : MethodName) ∈ u_big := u_tp (i := 71) rfl rfl
theorem qp_72 : Cond.selects "RopeRemembersModel" ({ cls := "RopeRemembersModel", name := "refusesShow", desc := "(I)I" } : MethodName) ({ cls := "RopeRemembersModel", name := "refusesShow", desc := "(I)I" } : MethodName) ∈ u_big := u_tp (i := 72) rfl rfl
theorem qp_73 : Cond.selects "RopeRemembersModel" ({ cls := "RopeRemembersModel", name := "areTwo", desc := "(II)Z" } : MethodName) ({ cls := "RopeRemembersModel", name := "areTwo", desc := "(II)Z" } : MethodName) ∈ u_big := u_tp (i := 73) rfl rfl
theorem qp_74 : Cond.selects "RopeRemembersModel" ({ cls := "RopeRemembersModel", name := "readAct", desc := "(I)V" } : MethodName) ({ cls := "RopeRemembersModel", name := "readAct", desc := "(I)V" } : MethodName) ∈ u_big := u_tp (i := 74) rfl rfl
theorem qp_75 : Cond.selects "RopeRemembersModel" ({ cls := "RopeRemembersModel", name := "act", desc := "(III)Z" } : MethodName) ({ cls := "RopeRemembersModel", name := "act", desc := "(III)Z" } : MethodName) ∈ u_big := u_tp (i := 75) rfl rfl
theorem qp_76 : Cond.selects "RopeRemembersModel" ({ cls := "RopeRemembersModel", name := "coded", desc := "([I)J" } : MethodName) ({ cls := "RopeRemembersModel", name := "coded", desc := "([I)J" } : MethodName) ∈ u_big := u_tp (i := 76) rfl rfl
theorem qp_77 : Cond.selects "RopeRemembersModel" ({ cls := "RopeRemembersModel", name := "areMen", desc := "(I)Z" } : MethodName) ({ cls := "RopeRemembersModel", name := "areMen", desc := "(I)Z" } : MethodName) ∈ u_big := u_tp (i := 77) rfl rfl
theorem qp_78 : Cond.selects "RopeRemembersModel" ({ cls := "RopeRemembersModel", name := "laySigns", desc := "(I)V" } : MethodName) ({ cls := "RopeRemembersModel", name := "laySigns", desc := "(I)V" } : MethodName) ∈ u_big := u_tp (i := 78) rfl rfl
theorem qp_79 : Cond.selects "RopeRemembersModel" ({ cls := "RopeRemembersModel", name := "doEmpty", desc := "([II)Z" } : MethodName) ({ cls := "RopeRemembersModel", name := "doEmpty", desc := "([II)Z" } : MethodName) ∈ u_big := u_tp (i := 79) rfl rfl
theorem qp_80 : Cond.selects "RopeRemembersModel" ({ cls := "RopeRemembersModel", name := "leftBy", desc := "(II)I" } : MethodName) ({ cls := "RopeRemembersModel", name := "leftBy", desc := "(II)I" } : MethodName) ∈ u_big := u_tp (i := 80) rfl rfl
theorem qp_81 : Cond.selects "RopeRemembersModel" ({ cls := "RopeRemembersModel", name := "tellPart", desc := "(JJ)V" } : MethodName) ({ cls := "RopeRemembersModel", name := "tellPart", desc := "(JJ)V" } : MethodName) ∈ u_big := u_tp (i := 81) rfl rfl
theorem qp_82 : Cond.selects "RopeRemembersModel" ({ cls := "RopeRemembersModel", name := "reached", desc := "([II)I" } : MethodName) ({ cls := "RopeRemembersModel", name := "reached", desc := "([II)I" } : MethodName) ∈ u_big := u_tp (i := 82) rfl rfl
theorem qp_83 : Cond.selects "RopeRemembersModel" ({ cls := "RopeRemembersModel", name := "outOf", desc := "(I)I" } : MethodName) ({ cls := "RopeRemembersModel", name := "outOf", desc := "(I)I" } : MethodName) ∈ u_big := u_tp (i := 83) rfl rfl
theorem qp_84 : Cond.selects "RopeRemembersModel" ({ cls := "RopeRemembersModel", name := "knowBy", desc := "(I)I" } : MethodName) ({ cls := "RopeRemembersModel", name := "knowBy", desc := "(I)I" } : MethodName) ∈ u_big := u_tp (i := 84) rfl rfl
theorem qp_85 : Cond.selects "RopeRemembersModel" ({ cls := "RopeRemembersModel", name := "isCourse", desc := "(II)Z" } : MethodName) ({ cls := "RopeRemembersModel", name := "isCourse", desc := "(II)Z" } : MethodName) ∈ u_big := u_tp (i := 85) rfl rfl
theorem qp_86 : Cond.selects "RopeRemembersModel" ({ cls := "RopeRemembersModel", name := "coursesIf", desc := "(IZ)I" } : MethodName) ({ cls := "RopeRemembersModel", name := "coursesIf", desc := "(IZ)I" } : MethodName) ∈ u_big := u_tp (i := 86) rfl rfl
theorem qp_87 : Cond.selects "RopeRemembersModel" ({ cls := "RopeRemembersModel", name := "inBy10", desc := "()I" } : MethodName) ({ cls := "RopeRemembersModel", name := "inBy10", desc := "()I" } : MethodName) ∈ u_big := u_tp (i := 87) rfl rfl
theorem qp_88 : Cond.selects "RopeRemembersModel" ({ cls := "RopeRemembersModel", name := "draw", desc := "(I)I" } : MethodName) ({ cls := "RopeRemembersModel", name := "draw", desc := "(I)I" } : MethodName) ∈ u_big := u_tp (i := 88) rfl rfl
theorem qp_89 : Cond.selects "RopeRemembersModel" ({ cls := "RopeRemembersModel", name := "glances", desc := "()I" } : MethodName) ({ cls := "RopeRemembersModel", name := "glances", desc := "()I" } : MethodName) ∈ u_big := u_tp (i := 89) rfl rfl
def u_nestF : List (String × Nat × String × String × String × String) := [("RopeRemembers", 100, "RopeRemembers$Words", "length", "I", "RopeRemembers"), ("RopeRemembers$Reader", 9, "RopeRemembers$Words", "length", "I", "RopeRemembers"), ("RopeRemembers", 421, "RopeRemembers$Told", "size", "I", "RopeRemembers"), ("RopeRemembers", 150, "RopeRemembers$State", "corn", "[I", "RopeRemembers"), ("RopeRemembers", 161, "RopeRemembers$State", "belief", "[I", "RopeRemembers"), ("RopeRemembers$Rule", 112, "RopeRemembers$State", "belief", "[I", "RopeRemembers"), ("RopeRemembers", 164, "RopeRemembers$State", "edge", "[I", "RopeRemembers"), ("RopeRemembers$Rule", 115, "RopeRemembers$State", "edge", "[I", "RopeRemembers"), ("RopeRemembers$Rule", 109, "RopeRemembers$State", "seen", "[I", "RopeRemembers"), ("RopeRemembers", 351, "RopeRemembers$State", "seen", "[I", "RopeRemembers"), ("RopeRemembers", 119, "RopeRemembers$State", "furrows", "I", "RopeRemembers"), ("RopeRemembers", 266, "RopeRemembers$State", "left", "I", "RopeRemembers"), ("RopeRemembers", 269, "RopeRemembers$State", "right", "I", "RopeRemembers"), ("RopeRemembers", 122, "RopeRemembers$State", "people", "I", "RopeRemembers"), ("RopeRemembers$Rule", 104, "RopeRemembers$State", "people", "I", "RopeRemembers"), ("RopeRemembers$Rule", 118, "RopeRemembers$State", "signs", "I", "RopeRemembers"), ("RopeRemembers", 278, "RopeRemembers$State", "signs", "I", "RopeRemembers"), ("RopeRemembers$Rule", 121, "RopeRemembers$State", "day", "I", "RopeRemembers"), ("RopeRemembers", 418, "RopeRemembers$State", "day", "I", "RopeRemembers"), ("RopeRemembers", 217, "RopeRemembers$State", "paid", "I", "RopeRemembers"), ("RopeRemembers", 254, "RopeRemembers$Past", "size", "I", "RopeRemembers"), ("RopeRemembers", 354, "RopeRemembers$Digs", "size", "I", "RopeRemembers"), ("RopeRemembers$State", 69, "RopeRemembers$FieldReader", "corn", "[I", "RopeRemembers"), ("RopeRemembers$State", 55, "RopeRemembers$FieldReader", "size", "I", "RopeRemembers"), ("RopeRemembers$State", 75, "RopeRemembers$PeopleReader", "belief", "[I", "RopeRemembers"), ("RopeRemembers$State", 76, "RopeRemembers$PeopleReader", "edge", "[I", "RopeRemembers"), ("RopeRemembers$State", 77, "RopeRemembers$PeopleReader", "seen", "[I", "RopeRemembers"), ("RopeRemembers$State", 70, "RopeRemembers$PeopleReader", "lines", "I", "RopeRemembers"), ("RopeRemembers", 133, "RopeRemembers$PeopleReader", "lines", "I", "RopeRemembers"), ("RopeRemembers", 257, "RopeRemembers$WeekReader", "kinds", "[I", "RopeRemembers"), ("RopeRemembers", 260, "RopeRemembers$WeekReader", "firsts", "[I", "RopeRemembers"), ("RopeRemembers", 263, "RopeRemembers$WeekReader", "seconds", "[I", "RopeRemembers"), ("RopeRemembers", 244, "RopeRemembers$WeekReader", "acts", "I", "RopeRemembers"), ("RopeRemembers", 396, "RopeRemembers$Draws", "drawn", "I", "RopeRemembers"), ("RopeRemembers$State", 132, "RopeRemembers$Rule", "readsDay", "Z", "RopeRemembers")]
def u_nestM : List (String × Nat × MethodName × String) := [("RopeRemembers", 9, ⟨"RopeRemembers$Words", "<init>", "()V"⟩, "RopeRemembers"), ("RopeRemembers", 18, ⟨"RopeRemembers$Told", "<init>", "()V"⟩, "RopeRemembers"), ("RopeRemembers", 25, ⟨"RopeRemembers$State", "<init>", "()V"⟩, "RopeRemembers"), ("RopeRemembers$Past", 20, ⟨"RopeRemembers$State", "<init>", "()V"⟩, "RopeRemembers"), ("RopeRemembers", 45, ⟨"RopeRemembers$Digs", "<init>", "()V"⟩, "RopeRemembers"), ("RopeRemembers", 52, ⟨"RopeRemembers$FieldReader", "<init>", "()V"⟩, "RopeRemembers"), ("RopeRemembers$FieldReader", 3, ⟨"RopeRemembers$Reader", "<init>", "()V"⟩, "RopeRemembers"), ("RopeRemembers", 59, ⟨"RopeRemembers$PeopleReader", "<init>", "()V"⟩, "RopeRemembers"), ("RopeRemembers$PeopleReader", 3, ⟨"RopeRemembers$Reader", "<init>", "()V"⟩, "RopeRemembers"), ("RopeRemembers", 66, ⟨"RopeRemembers$WeekReader", "<init>", "()V"⟩, "RopeRemembers"), ("RopeRemembers$WeekReader", 3, ⟨"RopeRemembers$Reader", "<init>", "()V"⟩, "RopeRemembers"), ("RopeRemembers", 81, ⟨"RopeRemembers$Draws", "<init>", "()V"⟩, "RopeRemembers"), ("RopeRemembers", 88, ⟨"RopeRemembers$Rule", "<init>", "()V"⟩, "RopeRemembers"), ("RopeRemembers$Rule", 3, ⟨"RopeRemembers$Reader", "<init>", "()V"⟩, "RopeRemembers"), ("RopeRemembers$Rule", 101, ⟨"RopeRemembers", "digitOf", "(I)I"⟩, "RopeRemembers")]
theorem u_inX0 : ∀ w ∈ u_ws RX0 TX0 3, w ∈ u_big := by
  intro w hw
  obtain ⟨k, hk, rfl⟩ := List.mem_map.mp hw
  have hk := List.mem_range.mp hk
  match k, hk with
  | 0, _ => exact q_153
  | 1, _ => exact q_155
  | 2, _ => exact q_157
theorem u_inX1 : ∀ w ∈ u_ws RX1 TX1 1, w ∈ u_big := by
  intro w hw
  obtain ⟨k, hk, rfl⟩ := List.mem_map.mp hw
  have hk := List.mem_range.mp hk
  match k, hk with
  | 0, _ => exact q_245
theorem u_inX2 : ∀ w ∈ u_ws RX2 TX2 2, w ∈ u_big := by
  intro w hw
  obtain ⟨k, hk, rfl⟩ := List.mem_map.mp hw
  have hk := List.mem_range.mp hk
  match k, hk with
  | 0, _ => exact q_173
  | 1, _ => exact q_175
theorem u_inX3 : ∀ w ∈ u_ws RX3 TX3 4, w ∈ u_big := by
  intro w hw
  obtain ⟨k, hk, rfl⟩ := List.mem_map.mp hw
  have hk := List.mem_range.mp hk
  match k, hk with
  | 0, _ => exact q_134
  | 1, _ => exact q_136
  | 2, _ => exact q_138
  | 3, _ => exact q_140
theorem u_inX4 : ∀ w ∈ u_ws RX4 TX4 6, w ∈ u_big := by
  intro w hw
  obtain ⟨k, hk, rfl⟩ := List.mem_map.mp hw
  have hk := List.mem_range.mp hk
  match k, hk with
  | 0, _ => exact q_195
  | 1, _ => exact q_197
  | 2, _ => exact q_199
  | 3, _ => exact q_201
  | 4, _ => exact q_203
  | 5, _ => exact q_205
theorem u_inX6 : ∀ w ∈ u_ws RX6 TX6 11, w ∈ u_big := by
  intro w hw
  obtain ⟨k, hk, rfl⟩ := List.mem_map.mp hw
  have hk := List.mem_range.mp hk
  match k, hk with
  | 0, _ => exact q_266
  | 1, _ => exact q_268
  | 2, _ => exact q_270
  | 3, _ => exact q_272
  | 4, _ => exact q_274
  | 5, _ => exact q_276
  | 6, _ => exact q_278
  | 7, _ => exact q_280
  | 8, _ => exact q_282
  | 9, _ => exact q_284
  | 10, _ => exact q_286
theorem u_inX7 : ∀ w ∈ u_ws RX7 TX7 12, w ∈ u_big := by
  intro w hw
  obtain ⟨k, hk, rfl⟩ := List.mem_map.mp hw
  have hk := List.mem_range.mp hk
  match k, hk with
  | 0, _ => exact q_95
  | 1, _ => exact q_97
  | 2, _ => exact q_99
  | 3, _ => exact q_101
  | 4, _ => exact q_103
  | 5, _ => exact q_105
  | 6, _ => exact q_107
  | 7, _ => exact q_109
  | 8, _ => exact q_111
  | 9, _ => exact q_113
  | 10, _ => exact q_115
  | 11, _ => exact q_117
theorem u_inX8 : ∀ w ∈ u_ws RX8 TX8 2, w ∈ u_big := by
  intro w hw
  obtain ⟨k, hk, rfl⟩ := List.mem_map.mp hw
  have hk := List.mem_range.mp hk
  match k, hk with
  | 0, _ => exact q_54
  | 1, _ => exact q_56
theorem u_inX9 : ∀ w ∈ u_ws RX9 TX9 6, w ∈ u_big := by
  intro w hw
  obtain ⟨k, hk, rfl⟩ := List.mem_map.mp hw
  have hk := List.mem_range.mp hk
  match k, hk with
  | 0, _ => exact q_224
  | 1, _ => exact q_226
  | 2, _ => exact q_228
  | 3, _ => exact q_230
  | 4, _ => exact q_232
  | 5, _ => exact q_234
theorem u_inX10 : ∀ w ∈ u_ws RX10 TX10 2, w ∈ u_big := by
  intro w hw
  obtain ⟨k, hk, rfl⟩ := List.mem_map.mp hw
  have hk := List.mem_range.mp hk
  match k, hk with
  | 0, _ => exact q_39
  | 1, _ => exact q_41
theorem u_inX11 : ∀ w ∈ u_ws RX11 TX11 15, w ∈ u_big := by
  intro w hw
  obtain ⟨k, hk, rfl⟩ := List.mem_map.mp hw
  have hk := List.mem_range.mp hk
  match k, hk with
  | 0, _ => exact q_304
  | 1, _ => exact q_306
  | 2, _ => exact q_308
  | 3, _ => exact q_310
  | 4, _ => exact q_312
  | 5, _ => exact q_314
  | 6, _ => exact q_316
  | 7, _ => exact q_318
  | 8, _ => exact q_320
  | 9, _ => exact q_322
  | 10, _ => exact q_324
  | 11, _ => exact q_326
  | 12, _ => exact q_328
  | 13, _ => exact q_330
  | 14, _ => exact q_332
theorem u_inX12 : ∀ w ∈ u_ws RX12 TX12 37, w ∈ u_big := by
  intro w hw
  obtain ⟨k, hk, rfl⟩ := List.mem_map.mp hw
  have hk := List.mem_range.mp hk
  match k, hk with
  | 0, _ => exact q_1131
  | 1, _ => exact q_1133
  | 2, _ => exact q_1135
  | 3, _ => exact q_1137
  | 4, _ => exact q_1139
  | 5, _ => exact q_1141
  | 6, _ => exact q_1143
  | 7, _ => exact q_1145
  | 8, _ => exact q_1147
  | 9, _ => exact q_1149
  | 10, _ => exact q_1151
  | 11, _ => exact q_1153
  | 12, _ => exact q_1155
  | 13, _ => exact q_1157
  | 14, _ => exact q_1159
  | 15, _ => exact q_1161
  | 16, _ => exact q_1163
  | 17, _ => exact q_1165
  | 18, _ => exact q_1167
  | 19, _ => exact q_1169
  | 20, _ => exact q_1171
  | 21, _ => exact q_1173
  | 22, _ => exact q_1175
  | 23, _ => exact q_1177
  | 24, _ => exact q_1179
  | 25, _ => exact q_1181
  | 26, _ => exact q_1183
  | 27, _ => exact q_1185
  | 28, _ => exact q_1187
  | 29, _ => exact q_1189
  | 30, _ => exact q_1191
  | 31, _ => exact q_1193
  | 32, _ => exact q_1195
  | 33, _ => exact q_1197
  | 34, _ => exact q_1199
  | 35, _ => exact q_1201
  | 36, _ => exact q_1203
  | k + 37, hk => exact absurd hk (by omega)
