/-! THE TABLES' WORDS by their places: kn_all is all of them that stand at every call -/
def kn_all : List Cond := lw_tbl.filter goodWord
theorem kn_in {w : Cond} (h : w ∈ lw_tbl) (g : goodWord w = true) : w ∈ kn_all := List.mem_filter.mpr ⟨h, g⟩
theorem kn_sub {w : Cond} (h : w ∈ kn_all) : w ∈ lw_tbl := (List.mem_filter.mp h).1
theorem kn_good {w : Cond} (h : w ∈ kn_all) : goodWord w = true := (List.mem_filter.mp h).2
theorem kn_t1 {w : Cond} (h : w ∈ tables_1_1) (g : goodWord w = true) : w ∈ kn_all := kn_in (List.mem_append_right _ (List.mem_append_left _ h)) g
theorem kn_t2 {w : Cond} (h : w ∈ tables_1_2) (g : goodWord w = true) : w ∈ kn_all := kn_in (List.mem_append_right _ (List.mem_append_right _ (List.mem_append_left _ h))) g
theorem kn_t3 {w : Cond} (h : w ∈ tables_1_3) (g : goodWord w = true) : w ∈ kn_all := kn_in (List.mem_append_right _ (List.mem_append_right _ (List.mem_append_right _ (List.mem_append_left _ h)))) g
theorem kn_t4 {w : Cond} (h : w ∈ tables_1_4) (g : goodWord w = true) : w ∈ kn_all := kn_in (List.mem_append_right _ (List.mem_append_right _ (List.mem_append_right _ (List.mem_append_right _ (List.mem_append_left _ h))))) g
theorem kn_t5 {w : Cond} (h : w ∈ tables_1_5) (g : goodWord w = true) : w ∈ kn_all := kn_in (List.mem_append_right _ (List.mem_append_right _ (List.mem_append_right _ (List.mem_append_right _ (List.mem_append_right _ (List.mem_append_left _ h)))))) g
theorem kn_t6 {w : Cond} (h : w ∈ tables_1_6) (g : goodWord w = true) : w ∈ kn_all := kn_in (List.mem_append_right _ (List.mem_append_right _ (List.mem_append_right _ (List.mem_append_right _ (List.mem_append_right _ (List.mem_append_right _ (List.mem_append_left _ h))))))) g
theorem kn_t7 {w : Cond} (h : w ∈ tables_1_7) (g : goodWord w = true) : w ∈ kn_all := kn_in (List.mem_append_right _ (List.mem_append_right _ (List.mem_append_right _ (List.mem_append_right _ (List.mem_append_right _ (List.mem_append_right _ (List.mem_append_right _ (h)))))))) g
theorem kn_t0 {q : MethodName × Nat} (h : q ∈ lw_privs) : Cond.selects q.1.cls q.1 q.1 ∈ kn_all := kn_in (List.mem_append_left _ (List.mem_map.mpr ⟨q, h, rfl⟩)) rfl
theorem q1_0 : (Jvm.Cond.initialized "TinWallLaw") ∈ kn_all := kn_t1 (List.mem_of_getElem? (i := 0) rfl) rfl
theorem q1_1 : (Jvm.Cond.initialized "TinWall") ∈ kn_all := kn_t1 (List.mem_of_getElem? (i := 1) rfl) rfl
theorem q1_2 : (Jvm.Cond.initialized "TinWall$HillReader") ∈ kn_all := kn_t1 (List.mem_of_getElem? (i := 2) rfl) rfl
theorem q1_3 : (Jvm.Cond.initialized "TinWall$Reader") ∈ kn_all := kn_t1 (List.mem_of_getElem? (i := 3) rfl) rfl
theorem q1_4 : (Jvm.Cond.initialized "TinWall$RuleReader") ∈ kn_all := kn_t1 (List.mem_of_getElem? (i := 4) rfl) rfl
theorem q1_5 : (Jvm.Cond.initialized "TinWall$Rule") ∈ kn_all := kn_t1 (List.mem_of_getElem? (i := 5) rfl) rfl
theorem q1_6 : (Jvm.Cond.initialized "TinWall$Scene") ∈ kn_all := kn_t1 (List.mem_of_getElem? (i := 6) rfl) rfl
theorem q1_7 : (Jvm.Cond.initialized "TinWall$Hill") ∈ kn_all := kn_t1 (List.mem_of_getElem? (i := 7) rfl) rfl
theorem q1_8 : (Jvm.Cond.initialized "TinWall$State") ∈ kn_all := kn_t1 (List.mem_of_getElem? (i := 8) rfl) rfl
theorem q1_9 : (Jvm.Cond.initialized "TinWall$Walk") ∈ kn_all := kn_t1 (List.mem_of_getElem? (i := 9) rfl) rfl
theorem q1_10 : (Jvm.Cond.initialized "TinWallModel") ∈ kn_all := kn_t1 (List.mem_of_getElem? (i := 10) rfl) rfl
theorem q1_11 : (Jvm.Cond.initialized "java/lang/Math") ∈ kn_all := kn_t1 (List.mem_of_getElem? (i := 11) rfl) rfl
theorem q1_12 : (Jvm.Cond.initialized "java/lang/String") ∈ kn_all := kn_t1 (List.mem_of_getElem? (i := 12) rfl) rfl
theorem q1_13 : (Jvm.Cond.initialized "java/lang/StringLatin1") ∈ kn_all := kn_t1 (List.mem_of_getElem? (i := 13) rfl) rfl
theorem q1_14 : (Jvm.Cond.initialized "jdk/internal/util/Preconditions") ∈ kn_all := kn_t1 (List.mem_of_getElem? (i := 14) rfl) rfl
theorem q1_15 : (Jvm.Cond.initialized "java/lang/StringUTF16") ∈ kn_all := kn_t1 (List.mem_of_getElem? (i := 15) rfl) rfl
theorem q1_16 : (Jvm.Cond.initialized "java/lang/System") ∈ kn_all := kn_t1 (List.mem_of_getElem? (i := 16) rfl) rfl
theorem q1_17 : (Jvm.Cond.initialized "java/lang/Integer") ∈ kn_all := kn_t1 (List.mem_of_getElem? (i := 17) rfl) rfl
theorem q1_18 : (Jvm.Cond.classLink "TinWallLaw" (7 : Nat) "TinWall") ∈ kn_all := kn_t1 (List.mem_of_getElem? (i := 18) rfl) rfl
theorem q1_19 : (Jvm.Cond.instantiable "TinWall" (12 : Nat)) ∈ kn_all := kn_t1 (List.mem_of_getElem? (i := 19) rfl) rfl
theorem q1_20 : (Jvm.Cond.methodLink "TinWallLaw" (9 : Nat) ({ cls := "TinWall", name := "<init>", desc := "()V" } : Jvm.MethodName)) ∈ kn_all := kn_t1 (List.mem_of_getElem? (i := 20) rfl) rfl
theorem q1_21 : (Jvm.Cond.instanceMethod ({ cls := "TinWall", name := "<init>", desc := "()V" } : Jvm.MethodName)) ∈ kn_all := kn_t1 (List.mem_of_getElem? (i := 21) rfl) rfl
theorem q1_22 : (Jvm.Cond.code ({ cls := "TinWall", name := "<init>", desc := "()V" } : Jvm.MethodName) prog_1_method_1_code (1 : Nat) (Option.none : Option Jvm.ClassFile.FieldType)) ∈ kn_all := kn_t1 (List.mem_of_getElem? (i := 22) rfl) rfl
theorem q1_23 : (Jvm.Cond.methodLink "TinWall" (1 : Nat) ({ cls := "java/lang/Object", name := "<init>", desc := "()V" } : Jvm.MethodName)) ∈ kn_all := kn_t1 (List.mem_of_getElem? (i := 23) rfl) rfl
theorem q1_24 : (Jvm.Cond.instanceMethod ({ cls := "java/lang/Object", name := "<init>", desc := "()V" } : Jvm.MethodName)) ∈ kn_all := kn_t1 (List.mem_of_getElem? (i := 24) rfl) rfl
theorem q1_25 : (Jvm.Cond.code ({ cls := "java/lang/Object", name := "<init>", desc := "()V" } : Jvm.MethodName) object_method_1_code (1 : Nat) (Option.none : Option Jvm.ClassFile.FieldType)) ∈ kn_all := kn_t1 (List.mem_of_getElem? (i := 25) rfl) rfl
theorem q1_26 : (Jvm.Cond.classLink "TinWall" (13 : Nat) "TinWall$HillReader") ∈ kn_all := kn_t1 (List.mem_of_getElem? (i := 26) rfl) rfl
theorem q1_27 : (Jvm.Cond.instantiable "TinWall$HillReader" (1 : Nat)) ∈ kn_all := kn_t1 (List.mem_of_getElem? (i := 27) rfl) rfl
theorem q1_29 : (Jvm.Cond.instanceMethod ({ cls := "TinWall$HillReader", name := "<init>", desc := "()V" } : Jvm.MethodName)) ∈ kn_all := kn_t1 (List.mem_of_getElem? (i := 29) rfl) rfl
theorem q1_30 : (Jvm.Cond.code ({ cls := "TinWall$HillReader", name := "<init>", desc := "()V" } : Jvm.MethodName) prog_3_method_1_code (1 : Nat) (Option.none : Option Jvm.ClassFile.FieldType)) ∈ kn_all := kn_t1 (List.mem_of_getElem? (i := 30) rfl) rfl
theorem q1_31 : (Jvm.Cond.methodLink "TinWall$HillReader" (3 : Nat) ({ cls := "java/lang/Object", name := "<init>", desc := "()V" } : Jvm.MethodName)) ∈ kn_all := kn_t1 (List.mem_of_getElem? (i := 31) rfl) rfl
theorem q1_32 : (Jvm.Cond.classLink "TinWall$HillReader" (9 : Nat) "TinWall$Reader") ∈ kn_all := kn_t1 (List.mem_of_getElem? (i := 32) rfl) rfl
theorem q1_33 : (Jvm.Cond.instantiable "TinWall$Reader" (4 : Nat)) ∈ kn_all := kn_t1 (List.mem_of_getElem? (i := 33) rfl) rfl
theorem q1_35 : (Jvm.Cond.instanceMethod ({ cls := "TinWall$Reader", name := "<init>", desc := "()V" } : Jvm.MethodName)) ∈ kn_all := kn_t1 (List.mem_of_getElem? (i := 35) rfl) rfl
theorem q1_36 : (Jvm.Cond.code ({ cls := "TinWall$Reader", name := "<init>", desc := "()V" } : Jvm.MethodName) prog_4_method_1_code (1 : Nat) (Option.none : Option Jvm.ClassFile.FieldType)) ∈ kn_all := kn_t1 (List.mem_of_getElem? (i := 36) rfl) rfl
theorem q1_37 : (Jvm.Cond.methodLink "TinWall$Reader" (3 : Nat) ({ cls := "java/lang/Object", name := "<init>", desc := "()V" } : Jvm.MethodName)) ∈ kn_all := kn_t1 (List.mem_of_getElem? (i := 37) rfl) rfl
theorem q1_38 : (Jvm.Cond.fieldLink "TinWall$Reader" (9 : Nat) "TinWall$Reader" "text" "[I") ∈ kn_all := kn_t1 (List.mem_of_getElem? (i := 38) rfl) rfl
theorem q1_39 : (Jvm.Cond.fieldLink "TinWall$Reader" (21 : Nat) "TinWall$Reader" "length" "I") ∈ kn_all := kn_t1 (List.mem_of_getElem? (i := 39) rfl) rfl
theorem q1_40 : (Jvm.Cond.fieldLink "TinWall$Reader" (25 : Nat) "TinWall$Reader" "place" "I") ∈ kn_all := kn_t1 (List.mem_of_getElem? (i := 40) rfl) rfl
theorem q1_41 : (Jvm.Cond.fieldLink "TinWall$HillReader" (46 : Nat) "TinWall$Reader" "place" "I") ∈ kn_all := kn_t1 (List.mem_of_getElem? (i := 41) rfl) rfl
theorem q1_42 : (Jvm.Cond.fieldLink "TinWall$RuleReader" (71 : Nat) "TinWall$Reader" "place" "I") ∈ kn_all := kn_t1 (List.mem_of_getElem? (i := 42) rfl) rfl
theorem q1_43 : (Jvm.Cond.fieldLink "TinWall$Reader" (28 : Nat) "TinWall$Reader" "fault" "I") ∈ kn_all := kn_t1 (List.mem_of_getElem? (i := 43) rfl) rfl
theorem q1_44 : (Jvm.Cond.fieldLink "TinWall$HillReader" (30 : Nat) "TinWall$Reader" "fault" "I") ∈ kn_all := kn_t1 (List.mem_of_getElem? (i := 44) rfl) rfl
theorem q1_45 : (Jvm.Cond.fieldLink "TinWall$RuleReader" (62 : Nat) "TinWall$Reader" "fault" "I") ∈ kn_all := kn_t1 (List.mem_of_getElem? (i := 45) rfl) rfl
theorem q1_46 : (Jvm.Cond.lays "TinWall$Reader" "TinWall$Reader" "text" "[I") ∈ kn_all := kn_t1 (List.mem_of_getElem? (i := 46) rfl) rfl
theorem q1_48 : (Jvm.Cond.lays "TinWall$Reader" "TinWall$Reader" "length" "I") ∈ kn_all := kn_t1 (List.mem_of_getElem? (i := 48) rfl) rfl
theorem q1_50 : (Jvm.Cond.lays "TinWall$Reader" "TinWall$Reader" "place" "I") ∈ kn_all := kn_t1 (List.mem_of_getElem? (i := 50) rfl) rfl
theorem q1_52 : (Jvm.Cond.lays "TinWall$Reader" "TinWall$Reader" "fault" "I") ∈ kn_all := kn_t1 (List.mem_of_getElem? (i := 52) rfl) rfl
theorem q1_55 : (Jvm.Cond.arrayClass Jvm.ClassFile.FieldType.int) ∈ kn_all := kn_t1 (List.mem_of_getElem? (i := 55) rfl) rfl
theorem q1_56 : (Jvm.Cond.fieldLink "TinWall$HillReader" (12 : Nat) "TinWall$HillReader" "reader" "LTinWall$Reader;") ∈ kn_all := kn_t1 (List.mem_of_getElem? (i := 56) rfl) rfl
theorem q1_57 : (Jvm.Cond.laysFinal "TinWall$HillReader" "TinWall$HillReader" "reader" "LTinWall$Reader;") ∈ kn_all := kn_t1 (List.mem_of_getElem? (i := 57) rfl) rfl
theorem q1_60 : (Jvm.Cond.classLink "TinWall" (20 : Nat) "TinWall$RuleReader") ∈ kn_all := kn_t1 (List.mem_of_getElem? (i := 60) rfl) rfl
theorem q1_61 : (Jvm.Cond.instantiable "TinWall$RuleReader" (3 : Nat)) ∈ kn_all := kn_t1 (List.mem_of_getElem? (i := 61) rfl) rfl
theorem q1_63 : (Jvm.Cond.instanceMethod ({ cls := "TinWall$RuleReader", name := "<init>", desc := "()V" } : Jvm.MethodName)) ∈ kn_all := kn_t1 (List.mem_of_getElem? (i := 63) rfl) rfl
theorem q1_64 : (Jvm.Cond.code ({ cls := "TinWall$RuleReader", name := "<init>", desc := "()V" } : Jvm.MethodName) prog_6_method_1_code (1 : Nat) (Option.none : Option Jvm.ClassFile.FieldType)) ∈ kn_all := kn_t1 (List.mem_of_getElem? (i := 64) rfl) rfl
theorem q1_65 : (Jvm.Cond.methodLink "TinWall$RuleReader" (3 : Nat) ({ cls := "java/lang/Object", name := "<init>", desc := "()V" } : Jvm.MethodName)) ∈ kn_all := kn_t1 (List.mem_of_getElem? (i := 65) rfl) rfl
theorem q1_66 : (Jvm.Cond.classLink "TinWall$RuleReader" (9 : Nat) "TinWall$Reader") ∈ kn_all := kn_t1 (List.mem_of_getElem? (i := 66) rfl) rfl
theorem q1_68 : (Jvm.Cond.classLink "TinWall$RuleReader" (18 : Nat) "TinWall$Rule") ∈ kn_all := kn_t1 (List.mem_of_getElem? (i := 68) rfl) rfl
theorem q1_69 : (Jvm.Cond.instantiable "TinWall$Rule" (6 : Nat)) ∈ kn_all := kn_t1 (List.mem_of_getElem? (i := 69) rfl) rfl
theorem q1_71 : (Jvm.Cond.instanceMethod ({ cls := "TinWall$Rule", name := "<init>", desc := "()V" } : Jvm.MethodName)) ∈ kn_all := kn_t1 (List.mem_of_getElem? (i := 71) rfl) rfl
theorem q1_72 : (Jvm.Cond.code ({ cls := "TinWall$Rule", name := "<init>", desc := "()V" } : Jvm.MethodName) prog_5_method_1_code (1 : Nat) (Option.none : Option Jvm.ClassFile.FieldType)) ∈ kn_all := kn_t1 (List.mem_of_getElem? (i := 72) rfl) rfl
theorem q1_73 : (Jvm.Cond.methodLink "TinWall$Rule" (3 : Nat) ({ cls := "java/lang/Object", name := "<init>", desc := "()V" } : Jvm.MethodName)) ∈ kn_all := kn_t1 (List.mem_of_getElem? (i := 73) rfl) rfl
theorem q1_74 : (Jvm.Cond.fieldLink "TinWall$Rule" (9 : Nat) "TinWall$Rule" "steps" "[I") ∈ kn_all := kn_t1 (List.mem_of_getElem? (i := 74) rfl) rfl
theorem q1_75 : (Jvm.Cond.fieldLink "TinWall$Rule" (25 : Nat) "TinWall$Rule" "size" "I") ∈ kn_all := kn_t1 (List.mem_of_getElem? (i := 75) rfl) rfl
theorem q1_76 : (Jvm.Cond.fieldLink "TinWall$Rule" (15 : Nat) "TinWall$Rule" "start" "[I") ∈ kn_all := kn_t1 (List.mem_of_getElem? (i := 76) rfl) rfl
theorem q1_77 : (Jvm.Cond.fieldLink "TinWall$Rule" (18 : Nat) "TinWall$Rule" "testStart" "[I") ∈ kn_all := kn_t1 (List.mem_of_getElem? (i := 77) rfl) rfl
theorem q1_78 : (Jvm.Cond.fieldLink "TinWall$Rule" (29 : Nat) "TinWall$Rule" "clauses" "I") ∈ kn_all := kn_t1 (List.mem_of_getElem? (i := 78) rfl) rfl
theorem q1_79 : (Jvm.Cond.fieldLink "TinWall$Rule" (21 : Nat) "TinWall$Rule" "stack" "[J") ∈ kn_all := kn_t1 (List.mem_of_getElem? (i := 79) rfl) rfl
theorem q1_80 : (Jvm.Cond.laysFinal "TinWall$Rule" "TinWall$Rule" "steps" "[I") ∈ kn_all := kn_t1 (List.mem_of_getElem? (i := 80) rfl) rfl
theorem q1_82 : (Jvm.Cond.lays "TinWall$Rule" "TinWall$Rule" "size" "I") ∈ kn_all := kn_t1 (List.mem_of_getElem? (i := 82) rfl) rfl
theorem q1_84 : (Jvm.Cond.laysFinal "TinWall$Rule" "TinWall$Rule" "start" "[I") ∈ kn_all := kn_t1 (List.mem_of_getElem? (i := 84) rfl) rfl
theorem q1_86 : (Jvm.Cond.laysFinal "TinWall$Rule" "TinWall$Rule" "testStart" "[I") ∈ kn_all := kn_t1 (List.mem_of_getElem? (i := 86) rfl) rfl
theorem q1_88 : (Jvm.Cond.lays "TinWall$Rule" "TinWall$Rule" "clauses" "I") ∈ kn_all := kn_t1 (List.mem_of_getElem? (i := 88) rfl) rfl
theorem q1_90 : (Jvm.Cond.laysFinal "TinWall$Rule" "TinWall$Rule" "stack" "[J") ∈ kn_all := kn_t1 (List.mem_of_getElem? (i := 90) rfl) rfl
theorem q1_93 : (Jvm.Cond.arrayClass Jvm.ClassFile.FieldType.long) ∈ kn_all := kn_t1 (List.mem_of_getElem? (i := 93) rfl) rfl
theorem q1_94 : (Jvm.Cond.fieldLink "TinWall$RuleReader" (12 : Nat) "TinWall$RuleReader" "reader" "LTinWall$Reader;") ∈ kn_all := kn_t1 (List.mem_of_getElem? (i := 94) rfl) rfl
theorem q1_95 : (Jvm.Cond.fieldLink "TinWall$RuleReader" (21 : Nat) "TinWall$RuleReader" "rule" "LTinWall$Rule;") ∈ kn_all := kn_t1 (List.mem_of_getElem? (i := 95) rfl) rfl
theorem q1_96 : (Jvm.Cond.fieldLink "TinWall$RuleReader" (32 : Nat) "TinWall$RuleReader" "values" "I") ∈ kn_all := kn_t1 (List.mem_of_getElem? (i := 96) rfl) rfl
theorem q1_97 : (Jvm.Cond.laysFinal "TinWall$RuleReader" "TinWall$RuleReader" "reader" "LTinWall$Reader;") ∈ kn_all := kn_t1 (List.mem_of_getElem? (i := 97) rfl) rfl
theorem q1_99 : (Jvm.Cond.lays "TinWall$RuleReader" "TinWall$RuleReader" "rule" "LTinWall$Rule;") ∈ kn_all := kn_t1 (List.mem_of_getElem? (i := 99) rfl) rfl
theorem q1_101 : (Jvm.Cond.lays "TinWall$RuleReader" "TinWall$RuleReader" "values" "I") ∈ kn_all := kn_t1 (List.mem_of_getElem? (i := 101) rfl) rfl
theorem q1_104 : (Jvm.Cond.classLink "TinWall" (27 : Nat) "TinWall$Rule") ∈ kn_all := kn_t1 (List.mem_of_getElem? (i := 104) rfl) rfl
theorem q1_106 : (Jvm.Cond.classLink "TinWall" (33 : Nat) "TinWall$Scene") ∈ kn_all := kn_t1 (List.mem_of_getElem? (i := 106) rfl) rfl
theorem q1_107 : (Jvm.Cond.instantiable "TinWall$Scene" (10 : Nat)) ∈ kn_all := kn_t1 (List.mem_of_getElem? (i := 107) rfl) rfl
theorem q1_108 : (Jvm.Cond.methodLink "TinWall" (35 : Nat) ({ cls := "TinWall$Scene", name := "<init>", desc := "()V" } : Jvm.MethodName)) ∈ kn_all := kn_t1 (List.mem_of_getElem? (i := 108) rfl) rfl
theorem q1_109 : (Jvm.Cond.instanceMethod ({ cls := "TinWall$Scene", name := "<init>", desc := "()V" } : Jvm.MethodName)) ∈ kn_all := kn_t1 (List.mem_of_getElem? (i := 109) rfl) rfl
theorem q1_110 : (Jvm.Cond.code ({ cls := "TinWall$Scene", name := "<init>", desc := "()V" } : Jvm.MethodName) prog_7_method_1_code (2 : Nat) (Option.none : Option Jvm.ClassFile.FieldType)) ∈ kn_all := kn_t1 (List.mem_of_getElem? (i := 110) rfl) rfl
theorem q1_111 : (Jvm.Cond.methodLink "TinWall$Scene" (3 : Nat) ({ cls := "java/lang/Object", name := "<init>", desc := "()V" } : Jvm.MethodName)) ∈ kn_all := kn_t1 (List.mem_of_getElem? (i := 111) rfl) rfl
theorem q1_112 : (Jvm.Cond.classLink "TinWall$Scene" (9 : Nat) "TinWall$Hill") ∈ kn_all := kn_t1 (List.mem_of_getElem? (i := 112) rfl) rfl
theorem q1_113 : (Jvm.Cond.instantiable "TinWall$Hill" (18 : Nat)) ∈ kn_all := kn_t1 (List.mem_of_getElem? (i := 113) rfl) rfl
theorem q1_115 : (Jvm.Cond.instanceMethod ({ cls := "TinWall$Hill", name := "<init>", desc := "()V" } : Jvm.MethodName)) ∈ kn_all := kn_t1 (List.mem_of_getElem? (i := 115) rfl) rfl
theorem q1_116 : (Jvm.Cond.code ({ cls := "TinWall$Hill", name := "<init>", desc := "()V" } : Jvm.MethodName) prog_2_method_1_code (1 : Nat) (Option.none : Option Jvm.ClassFile.FieldType)) ∈ kn_all := kn_t1 (List.mem_of_getElem? (i := 116) rfl) rfl
theorem q1_117 : (Jvm.Cond.methodLink "TinWall$Hill" (3 : Nat) ({ cls := "java/lang/Object", name := "<init>", desc := "()V" } : Jvm.MethodName)) ∈ kn_all := kn_t1 (List.mem_of_getElem? (i := 117) rfl) rfl
theorem q1_118 : (Jvm.Cond.fieldLink "TinWall$HillReader" (34 : Nat) "TinWall$Hill" "told" "Z") ∈ kn_all := kn_t1 (List.mem_of_getElem? (i := 118) rfl) rfl
theorem q1_119 : (Jvm.Cond.fieldLink "TinWall" (158 : Nat) "TinWall$Hill" "told" "Z") ∈ kn_all := kn_t1 (List.mem_of_getElem? (i := 119) rfl) rfl
theorem q1_120 : (Jvm.Cond.fieldLink "TinWall$State" (37 : Nat) "TinWall$Hill" "figure" "I") ∈ kn_all := kn_t1 (List.mem_of_getElem? (i := 120) rfl) rfl
theorem q1_121 : (Jvm.Cond.fieldLink "TinWall$HillReader" (84 : Nat) "TinWall$Hill" "figure" "I") ∈ kn_all := kn_t1 (List.mem_of_getElem? (i := 121) rfl) rfl
theorem q1_122 : (Jvm.Cond.fieldLink "TinWall$HillReader" (87 : Nat) "TinWall$Hill" "notice" "I") ∈ kn_all := kn_t1 (List.mem_of_getElem? (i := 122) rfl) rfl
theorem q1_123 : (Jvm.Cond.fieldLink "TinWall$State" (65 : Nat) "TinWall$Hill" "notice" "I") ∈ kn_all := kn_t1 (List.mem_of_getElem? (i := 123) rfl) rfl
theorem q1_124 : (Jvm.Cond.fieldLink "TinWall$Walk" (147 : Nat) "TinWall$Hill" "notice" "I") ∈ kn_all := kn_t1 (List.mem_of_getElem? (i := 124) rfl) rfl
theorem q1_125 : (Jvm.Cond.fieldLink "TinWall" (281 : Nat) "TinWall$Hill" "notice" "I") ∈ kn_all := kn_t1 (List.mem_of_getElem? (i := 125) rfl) rfl
theorem q1_126 : (Jvm.Cond.fieldLink "TinWall$HillReader" (90 : Nat) "TinWall$Hill" "lost" "I") ∈ kn_all := kn_t1 (List.mem_of_getElem? (i := 126) rfl) rfl
theorem q1_127 : (Jvm.Cond.fieldLink "TinWall" (243 : Nat) "TinWall$Hill" "lost" "I") ∈ kn_all := kn_t1 (List.mem_of_getElem? (i := 127) rfl) rfl
theorem q1_128 : (Jvm.Cond.fieldLink "TinWall$Walk" (83 : Nat) "TinWall$Hill" "stones" "I") ∈ kn_all := kn_t1 (List.mem_of_getElem? (i := 128) rfl) rfl
theorem q1_129 : (Jvm.Cond.fieldLink "TinWall$Hill" (57 : Nat) "TinWall$Hill" "stones" "I") ∈ kn_all := kn_t1 (List.mem_of_getElem? (i := 129) rfl) rfl
theorem q1_130 : (Jvm.Cond.fieldLink "TinWall$HillReader" (68 : Nat) "TinWall$Hill" "stones" "I") ∈ kn_all := kn_t1 (List.mem_of_getElem? (i := 130) rfl) rfl
theorem q1_131 : (Jvm.Cond.fieldLink "TinWall" (85 : Nat) "TinWall$Hill" "stones" "I") ∈ kn_all := kn_t1 (List.mem_of_getElem? (i := 131) rfl) rfl
theorem q1_132 : (Jvm.Cond.fieldLink "TinWall$State" (62 : Nat) "TinWall$Hill" "stones" "I") ∈ kn_all := kn_t1 (List.mem_of_getElem? (i := 132) rfl) rfl
theorem q1_133 : (Jvm.Cond.fieldLink "TinWall$Hill" (9 : Nat) "TinWall$Hill" "feet" "[I") ∈ kn_all := kn_t1 (List.mem_of_getElem? (i := 133) rfl) rfl
theorem q1_134 : (Jvm.Cond.fieldLink "TinWall$Walk" (115 : Nat) "TinWall$Hill" "feet" "[I") ∈ kn_all := kn_t1 (List.mem_of_getElem? (i := 134) rfl) rfl
theorem q1_135 : (Jvm.Cond.fieldLink "TinWall$HillReader" (93 : Nat) "TinWall$Hill" "feet" "[I") ∈ kn_all := kn_t1 (List.mem_of_getElem? (i := 135) rfl) rfl
theorem q1_136 : (Jvm.Cond.fieldLink "TinWall" (109 : Nat) "TinWall$Hill" "feet" "[I") ∈ kn_all := kn_t1 (List.mem_of_getElem? (i := 136) rfl) rfl
theorem q1_137 : (Jvm.Cond.fieldLink "TinWall$Hill" (15 : Nat) "TinWall$Hill" "hard" "[I") ∈ kn_all := kn_t1 (List.mem_of_getElem? (i := 137) rfl) rfl
theorem q1_138 : (Jvm.Cond.fieldLink "TinWall$Walk" (122 : Nat) "TinWall$Hill" "hard" "[I") ∈ kn_all := kn_t1 (List.mem_of_getElem? (i := 138) rfl) rfl
theorem q1_139 : (Jvm.Cond.fieldLink "TinWall$HillReader" (97 : Nat) "TinWall$Hill" "hard" "[I") ∈ kn_all := kn_t1 (List.mem_of_getElem? (i := 139) rfl) rfl
theorem q1_140 : (Jvm.Cond.fieldLink "TinWall" (112 : Nat) "TinWall$Hill" "hard" "[I") ∈ kn_all := kn_t1 (List.mem_of_getElem? (i := 140) rfl) rfl
theorem q1_141 : (Jvm.Cond.fieldLink "TinWall$Hill" (18 : Nat) "TinWall$Hill" "odds" "[I") ∈ kn_all := kn_t1 (List.mem_of_getElem? (i := 141) rfl) rfl
theorem q1_142 : (Jvm.Cond.fieldLink "TinWall$Walk" (125 : Nat) "TinWall$Hill" "odds" "[I") ∈ kn_all := kn_t1 (List.mem_of_getElem? (i := 142) rfl) rfl
theorem q1_143 : (Jvm.Cond.fieldLink "TinWall$HillReader" (100 : Nat) "TinWall$Hill" "odds" "[I") ∈ kn_all := kn_t1 (List.mem_of_getElem? (i := 143) rfl) rfl
theorem q1_144 : (Jvm.Cond.fieldLink "TinWall" (115 : Nat) "TinWall$Hill" "odds" "[I") ∈ kn_all := kn_t1 (List.mem_of_getElem? (i := 144) rfl) rfl
theorem q1_145 : (Jvm.Cond.fieldLink "TinWall$Hill" (21 : Nat) "TinWall$Hill" "tin" "I") ∈ kn_all := kn_t1 (List.mem_of_getElem? (i := 145) rfl) rfl
theorem q1_146 : (Jvm.Cond.fieldLink "TinWall$State" (43 : Nat) "TinWall$Hill" "tin" "I") ∈ kn_all := kn_t1 (List.mem_of_getElem? (i := 146) rfl) rfl
theorem q1_147 : (Jvm.Cond.fieldLink "TinWall$HillReader" (103 : Nat) "TinWall$Hill" "tin" "I") ∈ kn_all := kn_t1 (List.mem_of_getElem? (i := 147) rfl) rfl
theorem q1_148 : (Jvm.Cond.fieldLink "TinWall$HillReader" (71 : Nat) "TinWall$Hill" "things" "I") ∈ kn_all := kn_t1 (List.mem_of_getElem? (i := 148) rfl) rfl
theorem q1_149 : (Jvm.Cond.fieldLink "TinWall$Walk" (138 : Nat) "TinWall$Hill" "things" "I") ∈ kn_all := kn_t1 (List.mem_of_getElem? (i := 149) rfl) rfl
theorem q1_150 : (Jvm.Cond.fieldLink "TinWall" (152 : Nat) "TinWall$Hill" "things" "I") ∈ kn_all := kn_t1 (List.mem_of_getElem? (i := 150) rfl) rfl
theorem q1_151 : (Jvm.Cond.fieldLink "TinWall$Hill" (25 : Nat) "TinWall$Hill" "worth" "[I") ∈ kn_all := kn_t1 (List.mem_of_getElem? (i := 151) rfl) rfl
theorem q1_152 : (Jvm.Cond.fieldLink "TinWall$State" (44 : Nat) "TinWall$Hill" "worth" "[I") ∈ kn_all := kn_t1 (List.mem_of_getElem? (i := 152) rfl) rfl
theorem q1_153 : (Jvm.Cond.fieldLink "TinWall$HillReader" (106 : Nat) "TinWall$Hill" "worth" "[I") ∈ kn_all := kn_t1 (List.mem_of_getElem? (i := 153) rfl) rfl
theorem q1_154 : (Jvm.Cond.fieldLink "TinWall$Walk" (24 : Nat) "TinWall$Hill" "seekers" "I") ∈ kn_all := kn_t1 (List.mem_of_getElem? (i := 154) rfl) rfl
theorem q1_155 : (Jvm.Cond.fieldLink "TinWall$HillReader" (74 : Nat) "TinWall$Hill" "seekers" "I") ∈ kn_all := kn_t1 (List.mem_of_getElem? (i := 155) rfl) rfl
theorem q1_156 : (Jvm.Cond.fieldLink "TinWall" (264 : Nat) "TinWall$Hill" "seekers" "I") ∈ kn_all := kn_t1 (List.mem_of_getElem? (i := 156) rfl) rfl
theorem q1_157 : (Jvm.Cond.fieldLink "TinWall$Hill" (28 : Nat) "TinWall$Hill" "skill" "[I") ∈ kn_all := kn_t1 (List.mem_of_getElem? (i := 157) rfl) rfl
theorem q1_158 : (Jvm.Cond.fieldLink "TinWall$Walk" (108 : Nat) "TinWall$Hill" "skill" "[I") ∈ kn_all := kn_t1 (List.mem_of_getElem? (i := 158) rfl) rfl
theorem q1_159 : (Jvm.Cond.fieldLink "TinWall$HillReader" (115 : Nat) "TinWall$Hill" "skill" "[I") ∈ kn_all := kn_t1 (List.mem_of_getElem? (i := 159) rfl) rfl
theorem q1_160 : (Jvm.Cond.fieldLink "TinWall" (131 : Nat) "TinWall$Hill" "skill" "[I") ∈ kn_all := kn_t1 (List.mem_of_getElem? (i := 160) rfl) rfl
theorem q1_161 : (Jvm.Cond.fieldLink "TinWall$Hill" (31 : Nat) "TinWall$Hill" "patience" "[I") ∈ kn_all := kn_t1 (List.mem_of_getElem? (i := 161) rfl) rfl
theorem q1_162 : (Jvm.Cond.fieldLink "TinWall$Walk" (102 : Nat) "TinWall$Hill" "patience" "[I") ∈ kn_all := kn_t1 (List.mem_of_getElem? (i := 162) rfl) rfl
theorem q1_163 : (Jvm.Cond.fieldLink "TinWall$HillReader" (118 : Nat) "TinWall$Hill" "patience" "[I") ∈ kn_all := kn_t1 (List.mem_of_getElem? (i := 163) rfl) rfl
theorem q1_164 : (Jvm.Cond.fieldLink "TinWall" (134 : Nat) "TinWall$Hill" "patience" "[I") ∈ kn_all := kn_t1 (List.mem_of_getElem? (i := 164) rfl) rfl
theorem q1_165 : (Jvm.Cond.fieldLink "TinWall$Hill" (34 : Nat) "TinWall$Hill" "carried" "[I") ∈ kn_all := kn_t1 (List.mem_of_getElem? (i := 165) rfl) rfl
theorem q1_166 : (Jvm.Cond.fieldLink "TinWall$State" (51 : Nat) "TinWall$Hill" "carried" "[I") ∈ kn_all := kn_t1 (List.mem_of_getElem? (i := 166) rfl) rfl
theorem q1_167 : (Jvm.Cond.fieldLink "TinWall$HillReader" (121 : Nat) "TinWall$Hill" "carried" "[I") ∈ kn_all := kn_t1 (List.mem_of_getElem? (i := 167) rfl) rfl
theorem q1_168 : (Jvm.Cond.fieldLink "TinWall$Hill" (37 : Nat) "TinWall$Hill" "shift" "[I") ∈ kn_all := kn_t1 (List.mem_of_getElem? (i := 168) rfl) rfl
theorem q1_169 : (Jvm.Cond.fieldLink "TinWall$Walk" (54 : Nat) "TinWall$Hill" "shift" "[I") ∈ kn_all := kn_t1 (List.mem_of_getElem? (i := 169) rfl) rfl
theorem q1_170 : (Jvm.Cond.fieldLink "TinWall$HillReader" (124 : Nat) "TinWall$Hill" "shift" "[I") ∈ kn_all := kn_t1 (List.mem_of_getElem? (i := 170) rfl) rfl
theorem q1_171 : (Jvm.Cond.fieldLink "TinWall" (140 : Nat) "TinWall$Hill" "shift" "[I") ∈ kn_all := kn_t1 (List.mem_of_getElem? (i := 171) rfl) rfl
theorem q1_172 : (Jvm.Cond.fieldLink "TinWall$Hill" (54 : Nat) "TinWall$Hill" "walkers" "I") ∈ kn_all := kn_t1 (List.mem_of_getElem? (i := 172) rfl) rfl
theorem q1_173 : (Jvm.Cond.fieldLink "TinWall$HillReader" (77 : Nat) "TinWall$Hill" "walkers" "I") ∈ kn_all := kn_t1 (List.mem_of_getElem? (i := 173) rfl) rfl
theorem q1_174 : (Jvm.Cond.fieldLink "TinWall$Hill" (40 : Nat) "TinWall$Hill" "walkerDay" "[I") ∈ kn_all := kn_t1 (List.mem_of_getElem? (i := 174) rfl) rfl
theorem q1_175 : (Jvm.Cond.fieldLink "TinWall$HillReader" (112 : Nat) "TinWall$Hill" "walkerDay" "[I") ∈ kn_all := kn_t1 (List.mem_of_getElem? (i := 175) rfl) rfl
theorem q1_176 : (Jvm.Cond.lays "TinWall$Hill" "TinWall$Hill" "told" "Z") ∈ kn_all := kn_t1 (List.mem_of_getElem? (i := 176) rfl) rfl
theorem q1_178 : (Jvm.Cond.lays "TinWall$Hill" "TinWall$Hill" "figure" "I") ∈ kn_all := kn_t1 (List.mem_of_getElem? (i := 178) rfl) rfl
theorem q1_180 : (Jvm.Cond.lays "TinWall$Hill" "TinWall$Hill" "notice" "I") ∈ kn_all := kn_t1 (List.mem_of_getElem? (i := 180) rfl) rfl
theorem q1_182 : (Jvm.Cond.lays "TinWall$Hill" "TinWall$Hill" "lost" "I") ∈ kn_all := kn_t1 (List.mem_of_getElem? (i := 182) rfl) rfl
theorem q1_184 : (Jvm.Cond.lays "TinWall$Hill" "TinWall$Hill" "stones" "I") ∈ kn_all := kn_t1 (List.mem_of_getElem? (i := 184) rfl) rfl
theorem q1_186 : (Jvm.Cond.laysFinal "TinWall$Hill" "TinWall$Hill" "feet" "[I") ∈ kn_all := kn_t1 (List.mem_of_getElem? (i := 186) rfl) rfl
theorem q1_188 : (Jvm.Cond.laysFinal "TinWall$Hill" "TinWall$Hill" "hard" "[I") ∈ kn_all := kn_t1 (List.mem_of_getElem? (i := 188) rfl) rfl
theorem q1_190 : (Jvm.Cond.laysFinal "TinWall$Hill" "TinWall$Hill" "odds" "[I") ∈ kn_all := kn_t1 (List.mem_of_getElem? (i := 190) rfl) rfl
theorem q1_192 : (Jvm.Cond.lays "TinWall$Hill" "TinWall$Hill" "tin" "I") ∈ kn_all := kn_t1 (List.mem_of_getElem? (i := 192) rfl) rfl
theorem q1_194 : (Jvm.Cond.lays "TinWall$Hill" "TinWall$Hill" "things" "I") ∈ kn_all := kn_t1 (List.mem_of_getElem? (i := 194) rfl) rfl
theorem q1_196 : (Jvm.Cond.laysFinal "TinWall$Hill" "TinWall$Hill" "worth" "[I") ∈ kn_all := kn_t1 (List.mem_of_getElem? (i := 196) rfl) rfl
theorem q1_198 : (Jvm.Cond.lays "TinWall$Hill" "TinWall$Hill" "seekers" "I") ∈ kn_all := kn_t1 (List.mem_of_getElem? (i := 198) rfl) rfl
theorem q1_200 : (Jvm.Cond.laysFinal "TinWall$Hill" "TinWall$Hill" "skill" "[I") ∈ kn_all := kn_t1 (List.mem_of_getElem? (i := 200) rfl) rfl
theorem q1_202 : (Jvm.Cond.laysFinal "TinWall$Hill" "TinWall$Hill" "patience" "[I") ∈ kn_all := kn_t1 (List.mem_of_getElem? (i := 202) rfl) rfl
theorem q1_204 : (Jvm.Cond.laysFinal "TinWall$Hill" "TinWall$Hill" "carried" "[I") ∈ kn_all := kn_t1 (List.mem_of_getElem? (i := 204) rfl) rfl
theorem q1_206 : (Jvm.Cond.laysFinal "TinWall$Hill" "TinWall$Hill" "shift" "[I") ∈ kn_all := kn_t1 (List.mem_of_getElem? (i := 206) rfl) rfl
theorem q1_208 : (Jvm.Cond.lays "TinWall$Hill" "TinWall$Hill" "walkers" "I") ∈ kn_all := kn_t1 (List.mem_of_getElem? (i := 208) rfl) rfl
theorem q1_210 : (Jvm.Cond.laysFinal "TinWall$Hill" "TinWall$Hill" "walkerDay" "[I") ∈ kn_all := kn_t1 (List.mem_of_getElem? (i := 210) rfl) rfl
theorem q1_213 : (Jvm.Cond.classLink "TinWall$Scene" (22 : Nat) "TinWall$State") ∈ kn_all := kn_t1 (List.mem_of_getElem? (i := 213) rfl) rfl
theorem q1_214 : (Jvm.Cond.instantiable "TinWall$State" (9 : Nat)) ∈ kn_all := kn_t1 (List.mem_of_getElem? (i := 214) rfl) rfl
theorem q1_216 : (Jvm.Cond.instanceMethod ({ cls := "TinWall$State", name := "<init>", desc := "()V" } : Jvm.MethodName)) ∈ kn_all := kn_t1 (List.mem_of_getElem? (i := 216) rfl) rfl
theorem q1_217 : (Jvm.Cond.code ({ cls := "TinWall$State", name := "<init>", desc := "()V" } : Jvm.MethodName) prog_8_method_1_code (1 : Nat) (Option.none : Option Jvm.ClassFile.FieldType)) ∈ kn_all := kn_t1 (List.mem_of_getElem? (i := 217) rfl) rfl
theorem q1_218 : (Jvm.Cond.methodLink "TinWall$State" (3 : Nat) ({ cls := "java/lang/Object", name := "<init>", desc := "()V" } : Jvm.MethodName)) ∈ kn_all := kn_t1 (List.mem_of_getElem? (i := 218) rfl) rfl
theorem q1_219 : (Jvm.Cond.fieldLink "TinWall$State" (34 : Nat) "TinWall$State" "day" "I") ∈ kn_all := kn_t1 (List.mem_of_getElem? (i := 219) rfl) rfl
theorem q1_220 : (Jvm.Cond.fieldLink "TinWall$Walk" (47 : Nat) "TinWall$State" "day" "I") ∈ kn_all := kn_t1 (List.mem_of_getElem? (i := 220) rfl) rfl
theorem q1_221 : (Jvm.Cond.fieldLink "TinWall" (162 : Nat) "TinWall$State" "day" "I") ∈ kn_all := kn_t1 (List.mem_of_getElem? (i := 221) rfl) rfl
theorem q1_222 : (Jvm.Cond.fieldLink "TinWall$State" (42 : Nat) "TinWall$State" "figure" "I") ∈ kn_all := kn_t1 (List.mem_of_getElem? (i := 222) rfl) rfl
theorem q1_223 : (Jvm.Cond.fieldLink "TinWall$Walk" (105 : Nat) "TinWall$State" "figure" "I") ∈ kn_all := kn_t1 (List.mem_of_getElem? (i := 223) rfl) rfl
theorem q1_224 : (Jvm.Cond.fieldLink "TinWall" (178 : Nat) "TinWall$State" "figure" "I") ∈ kn_all := kn_t1 (List.mem_of_getElem? (i := 224) rfl) rfl
theorem q1_225 : (Jvm.Cond.fieldLink "TinWall$State" (9 : Nat) "TinWall$State" "tin" "I") ∈ kn_all := kn_t1 (List.mem_of_getElem? (i := 225) rfl) rfl
theorem q1_226 : (Jvm.Cond.fieldLink "TinWall$Walk" (77 : Nat) "TinWall$State" "tin" "I") ∈ kn_all := kn_t1 (List.mem_of_getElem? (i := 226) rfl) rfl
theorem q1_227 : (Jvm.Cond.fieldLink "TinWall" (175 : Nat) "TinWall$State" "tin" "I") ∈ kn_all := kn_t1 (List.mem_of_getElem? (i := 227) rfl) rfl
theorem q1_228 : (Jvm.Cond.fieldLink "TinWall$State" (15 : Nat) "TinWall$State" "wear" "[I") ∈ kn_all := kn_t1 (List.mem_of_getElem? (i := 228) rfl) rfl
theorem q1_229 : (Jvm.Cond.fieldLink "TinWall$Hill" (43 : Nat) "TinWall$State" "wear" "[I") ∈ kn_all := kn_t1 (List.mem_of_getElem? (i := 229) rfl) rfl
theorem q1_230 : (Jvm.Cond.fieldLink "TinWall$Walk" (128 : Nat) "TinWall$State" "wear" "[I") ∈ kn_all := kn_t1 (List.mem_of_getElem? (i := 230) rfl) rfl
theorem q1_231 : (Jvm.Cond.fieldLink "TinWall" (121 : Nat) "TinWall$State" "wear" "[I") ∈ kn_all := kn_t1 (List.mem_of_getElem? (i := 231) rfl) rfl
theorem q1_232 : (Jvm.Cond.fieldLink "TinWall$State" (19 : Nat) "TinWall$State" "worth" "[I") ∈ kn_all := kn_t1 (List.mem_of_getElem? (i := 232) rfl) rfl
theorem q1_233 : (Jvm.Cond.fieldLink "TinWall$Walk" (141 : Nat) "TinWall$State" "worth" "[I") ∈ kn_all := kn_t1 (List.mem_of_getElem? (i := 233) rfl) rfl
theorem q1_234 : (Jvm.Cond.fieldLink "TinWall" (155 : Nat) "TinWall$State" "worth" "[I") ∈ kn_all := kn_t1 (List.mem_of_getElem? (i := 234) rfl) rfl
theorem q1_235 : (Jvm.Cond.fieldLink "TinWall$State" (22 : Nat) "TinWall$State" "carried" "[I") ∈ kn_all := kn_t1 (List.mem_of_getElem? (i := 235) rfl) rfl
theorem q1_236 : (Jvm.Cond.fieldLink "TinWall$Walk" (144 : Nat) "TinWall$State" "carried" "[I") ∈ kn_all := kn_t1 (List.mem_of_getElem? (i := 236) rfl) rfl
theorem q1_237 : (Jvm.Cond.fieldLink "TinWall" (137 : Nat) "TinWall$State" "carried" "[I") ∈ kn_all := kn_t1 (List.mem_of_getElem? (i := 237) rfl) rfl
theorem q1_238 : (Jvm.Cond.fieldLink "TinWall$State" (25 : Nat) "TinWall$State" "foundOn" "[I") ∈ kn_all := kn_t1 (List.mem_of_getElem? (i := 238) rfl) rfl
theorem q1_239 : (Jvm.Cond.fieldLink "TinWall$Walk" (30 : Nat) "TinWall$State" "foundOn" "[I") ∈ kn_all := kn_t1 (List.mem_of_getElem? (i := 239) rfl) rfl
theorem q2_0 : (Jvm.Cond.fieldLink "TinWall" (143 : Nat) "TinWall$State" "foundOn" "[I") ∈ kn_all := kn_t2 (List.mem_of_getElem? (i := 0) rfl) rfl
theorem q2_1 : (Jvm.Cond.fieldLink "TinWall$State" (28 : Nat) "TinWall$State" "vain" "[I") ∈ kn_all := kn_t2 (List.mem_of_getElem? (i := 1) rfl) rfl
theorem q2_2 : (Jvm.Cond.fieldLink "TinWall$Walk" (60 : Nat) "TinWall$State" "vain" "[I") ∈ kn_all := kn_t2 (List.mem_of_getElem? (i := 2) rfl) rfl
theorem q2_3 : (Jvm.Cond.fieldLink "TinWall" (146 : Nat) "TinWall$State" "vain" "[I") ∈ kn_all := kn_t2 (List.mem_of_getElem? (i := 3) rfl) rfl
theorem q2_4 : (Jvm.Cond.fieldLink "TinWall$State" (31 : Nat) "TinWall$State" "tried" "[I") ∈ kn_all := kn_t2 (List.mem_of_getElem? (i := 4) rfl) rfl
theorem q2_5 : (Jvm.Cond.fieldLink "TinWall$Walk" (131 : Nat) "TinWall$State" "tried" "[I") ∈ kn_all := kn_t2 (List.mem_of_getElem? (i := 5) rfl) rfl
theorem q2_6 : (Jvm.Cond.fieldLink "TinWall" (149 : Nat) "TinWall$State" "tried" "[I") ∈ kn_all := kn_t2 (List.mem_of_getElem? (i := 6) rfl) rfl
theorem q2_7 : (Jvm.Cond.lays "TinWall$State" "TinWall$State" "day" "I") ∈ kn_all := kn_t2 (List.mem_of_getElem? (i := 7) rfl) rfl
theorem q2_9 : (Jvm.Cond.lays "TinWall$State" "TinWall$State" "figure" "I") ∈ kn_all := kn_t2 (List.mem_of_getElem? (i := 9) rfl) rfl
theorem q2_11 : (Jvm.Cond.lays "TinWall$State" "TinWall$State" "tin" "I") ∈ kn_all := kn_t2 (List.mem_of_getElem? (i := 11) rfl) rfl
theorem q2_13 : (Jvm.Cond.laysFinal "TinWall$State" "TinWall$State" "wear" "[I") ∈ kn_all := kn_t2 (List.mem_of_getElem? (i := 13) rfl) rfl
theorem q2_15 : (Jvm.Cond.laysFinal "TinWall$State" "TinWall$State" "worth" "[I") ∈ kn_all := kn_t2 (List.mem_of_getElem? (i := 15) rfl) rfl
theorem q2_17 : (Jvm.Cond.laysFinal "TinWall$State" "TinWall$State" "carried" "[I") ∈ kn_all := kn_t2 (List.mem_of_getElem? (i := 17) rfl) rfl
theorem q2_19 : (Jvm.Cond.laysFinal "TinWall$State" "TinWall$State" "foundOn" "[I") ∈ kn_all := kn_t2 (List.mem_of_getElem? (i := 19) rfl) rfl
theorem q2_21 : (Jvm.Cond.laysFinal "TinWall$State" "TinWall$State" "vain" "[I") ∈ kn_all := kn_t2 (List.mem_of_getElem? (i := 21) rfl) rfl
theorem q2_23 : (Jvm.Cond.laysFinal "TinWall$State" "TinWall$State" "tried" "[I") ∈ kn_all := kn_t2 (List.mem_of_getElem? (i := 23) rfl) rfl
theorem q2_27 : (Jvm.Cond.fieldLink "TinWall$Scene" (12 : Nat) "TinWall$Scene" "hill" "LTinWall$Hill;") ∈ kn_all := kn_t2 (List.mem_of_getElem? (i := 27) rfl) rfl
theorem q2_28 : (Jvm.Cond.fieldLink "TinWall" (105 : Nat) "TinWall$Scene" "hill" "LTinWall$Hill;") ∈ kn_all := kn_t2 (List.mem_of_getElem? (i := 28) rfl) rfl
theorem q2_29 : (Jvm.Cond.fieldLink "TinWall$Scene" (18 : Nat) "TinWall$Scene" "inForce" "I") ∈ kn_all := kn_t2 (List.mem_of_getElem? (i := 29) rfl) rfl
theorem q2_30 : (Jvm.Cond.fieldLink "TinWall" (98 : Nat) "TinWall$Scene" "inForce" "I") ∈ kn_all := kn_t2 (List.mem_of_getElem? (i := 30) rfl) rfl
theorem q2_31 : (Jvm.Cond.fieldLink "TinWall$Scene" (50 : Nat) "TinWall$Scene" "x" "I") ∈ kn_all := kn_t2 (List.mem_of_getElem? (i := 31) rfl) rfl
theorem q2_32 : (Jvm.Cond.fieldLink "TinWall" (274 : Nat) "TinWall$Scene" "x" "I") ∈ kn_all := kn_t2 (List.mem_of_getElem? (i := 32) rfl) rfl
theorem q2_33 : (Jvm.Cond.fieldLink "TinWall$Scene" (25 : Nat) "TinWall$Scene" "now" "LTinWall$State;") ∈ kn_all := kn_t2 (List.mem_of_getElem? (i := 33) rfl) rfl
theorem q2_34 : (Jvm.Cond.fieldLink "TinWall" (118 : Nat) "TinWall$Scene" "now" "LTinWall$State;") ∈ kn_all := kn_t2 (List.mem_of_getElem? (i := 34) rfl) rfl
theorem q2_35 : (Jvm.Cond.fieldLink "TinWall$Scene" (29 : Nat) "TinWall$Scene" "past" "[LTinWall$State;") ∈ kn_all := kn_t2 (List.mem_of_getElem? (i := 35) rfl) rfl
theorem q2_36 : (Jvm.Cond.fieldLink "TinWall$Scene" (57 : Nat) "TinWall$Scene" "nextPast" "I") ∈ kn_all := kn_t2 (List.mem_of_getElem? (i := 36) rfl) rfl
theorem q2_37 : (Jvm.Cond.fieldLink "TinWall$Scene" (44 : Nat) "TinWall$Scene" "acts" "I") ∈ kn_all := kn_t2 (List.mem_of_getElem? (i := 37) rfl) rfl
theorem q2_38 : (Jvm.Cond.fieldLink "TinWall" (185 : Nat) "TinWall$Scene" "acts" "I") ∈ kn_all := kn_t2 (List.mem_of_getElem? (i := 38) rfl) rfl
theorem q2_39 : (Jvm.Cond.fieldLink "TinWall$Scene" (47 : Nat) "TinWall$Scene" "names" "I") ∈ kn_all := kn_t2 (List.mem_of_getElem? (i := 39) rfl) rfl
theorem q2_40 : (Jvm.Cond.fieldLink "TinWall" (249 : Nat) "TinWall$Scene" "names" "I") ∈ kn_all := kn_t2 (List.mem_of_getElem? (i := 40) rfl) rfl
theorem q2_41 : (Jvm.Cond.fieldLink "TinWall$Scene" (33 : Nat) "TinWall$Scene" "nameDay" "[I") ∈ kn_all := kn_t2 (List.mem_of_getElem? (i := 41) rfl) rfl
theorem q2_42 : (Jvm.Cond.fieldLink "TinWall" (252 : Nat) "TinWall$Scene" "nameDay" "[I") ∈ kn_all := kn_t2 (List.mem_of_getElem? (i := 42) rfl) rfl
theorem q2_43 : (Jvm.Cond.fieldLink "TinWall$Scene" (37 : Nat) "TinWall$Scene" "nameSeeker" "[I") ∈ kn_all := kn_t2 (List.mem_of_getElem? (i := 43) rfl) rfl
theorem q2_44 : (Jvm.Cond.fieldLink "TinWall" (255 : Nat) "TinWall$Scene" "nameSeeker" "[I") ∈ kn_all := kn_t2 (List.mem_of_getElem? (i := 44) rfl) rfl
theorem q2_45 : (Jvm.Cond.lays "TinWall$Scene" "TinWall$Scene" "hill" "LTinWall$Hill;") ∈ kn_all := kn_t2 (List.mem_of_getElem? (i := 45) rfl) rfl
theorem q2_47 : (Jvm.Cond.lays "TinWall$Scene" "TinWall$Scene" "inForce" "I") ∈ kn_all := kn_t2 (List.mem_of_getElem? (i := 47) rfl) rfl
theorem q2_49 : (Jvm.Cond.lays "TinWall$Scene" "TinWall$Scene" "x" "I") ∈ kn_all := kn_t2 (List.mem_of_getElem? (i := 49) rfl) rfl
theorem q2_51 : (Jvm.Cond.laysFinal "TinWall$Scene" "TinWall$Scene" "now" "LTinWall$State;") ∈ kn_all := kn_t2 (List.mem_of_getElem? (i := 51) rfl) rfl
theorem q2_53 : (Jvm.Cond.laysFinal "TinWall$Scene" "TinWall$Scene" "past" "[LTinWall$State;") ∈ kn_all := kn_t2 (List.mem_of_getElem? (i := 53) rfl) rfl
theorem q2_55 : (Jvm.Cond.lays "TinWall$Scene" "TinWall$Scene" "nextPast" "I") ∈ kn_all := kn_t2 (List.mem_of_getElem? (i := 55) rfl) rfl
theorem q2_57 : (Jvm.Cond.lays "TinWall$Scene" "TinWall$Scene" "acts" "I") ∈ kn_all := kn_t2 (List.mem_of_getElem? (i := 57) rfl) rfl
theorem q2_59 : (Jvm.Cond.lays "TinWall$Scene" "TinWall$Scene" "names" "I") ∈ kn_all := kn_t2 (List.mem_of_getElem? (i := 59) rfl) rfl
theorem q2_61 : (Jvm.Cond.laysFinal "TinWall$Scene" "TinWall$Scene" "nameDay" "[I") ∈ kn_all := kn_t2 (List.mem_of_getElem? (i := 61) rfl) rfl
theorem q2_63 : (Jvm.Cond.laysFinal "TinWall$Scene" "TinWall$Scene" "nameSeeker" "[I") ∈ kn_all := kn_t2 (List.mem_of_getElem? (i := 63) rfl) rfl
theorem q2_67 : (Jvm.Cond.classLink "TinWall" (44 : Nat) "TinWall$Walk") ∈ kn_all := kn_t2 (List.mem_of_getElem? (i := 67) rfl) rfl
theorem q2_68 : (Jvm.Cond.instantiable "TinWall$Walk" (6 : Nat)) ∈ kn_all := kn_t2 (List.mem_of_getElem? (i := 68) rfl) rfl
theorem q2_70 : (Jvm.Cond.instanceMethod ({ cls := "TinWall$Walk", name := "<init>", desc := "()V" } : Jvm.MethodName)) ∈ kn_all := kn_t2 (List.mem_of_getElem? (i := 70) rfl) rfl
theorem q2_71 : (Jvm.Cond.code ({ cls := "TinWall$Walk", name := "<init>", desc := "()V" } : Jvm.MethodName) prog_9_method_1_code (1 : Nat) (Option.none : Option Jvm.ClassFile.FieldType)) ∈ kn_all := kn_t2 (List.mem_of_getElem? (i := 71) rfl) rfl
theorem q2_72 : (Jvm.Cond.methodLink "TinWall$Walk" (3 : Nat) ({ cls := "java/lang/Object", name := "<init>", desc := "()V" } : Jvm.MethodName)) ∈ kn_all := kn_t2 (List.mem_of_getElem? (i := 72) rfl) rfl
theorem q2_73 : (Jvm.Cond.fieldLink "TinWall$Walk" (11 : Nat) "TinWall$Walk" "words" "[J") ∈ kn_all := kn_t2 (List.mem_of_getElem? (i := 73) rfl) rfl
theorem q2_74 : (Jvm.Cond.fieldLink "TinWall$Walk" (17 : Nat) "TinWall$Walk" "rating" "[J") ∈ kn_all := kn_t2 (List.mem_of_getElem? (i := 74) rfl) rfl
theorem q2_75 : (Jvm.Cond.fieldLink "TinWall$Walk" (20 : Nat) "TinWall$Walk" "looked" "[I") ∈ kn_all := kn_t2 (List.mem_of_getElem? (i := 75) rfl) rfl
theorem q2_76 : (Jvm.Cond.fieldLink "TinWall" (205 : Nat) "TinWall$Walk" "looked" "[I") ∈ kn_all := kn_t2 (List.mem_of_getElem? (i := 76) rfl) rfl
theorem q2_77 : (Jvm.Cond.fieldLink "TinWall$Walk" (90 : Nat) "TinWall$Walk" "lookedAt" "I") ∈ kn_all := kn_t2 (List.mem_of_getElem? (i := 77) rfl) rfl
theorem q2_78 : (Jvm.Cond.fieldLink "TinWall" (202 : Nat) "TinWall$Walk" "lookedAt" "I") ∈ kn_all := kn_t2 (List.mem_of_getElem? (i := 78) rfl) rfl
theorem q2_79 : (Jvm.Cond.fieldLink "TinWall$Walk" (93 : Nat) "TinWall$Walk" "minutes" "I") ∈ kn_all := kn_t2 (List.mem_of_getElem? (i := 79) rfl) rfl
theorem q2_80 : (Jvm.Cond.fieldLink "TinWall" (199 : Nat) "TinWall$Walk" "minutes" "I") ∈ kn_all := kn_t2 (List.mem_of_getElem? (i := 80) rfl) rfl
theorem q2_81 : (Jvm.Cond.fieldLink "TinWall$Walk" (43 : Nat) "TinWall$Walk" "found" "Z") ∈ kn_all := kn_t2 (List.mem_of_getElem? (i := 81) rfl) rfl
theorem q2_82 : (Jvm.Cond.laysFinal "TinWall$Walk" "TinWall$Walk" "words" "[J") ∈ kn_all := kn_t2 (List.mem_of_getElem? (i := 82) rfl) rfl
theorem q2_84 : (Jvm.Cond.laysFinal "TinWall$Walk" "TinWall$Walk" "rating" "[J") ∈ kn_all := kn_t2 (List.mem_of_getElem? (i := 84) rfl) rfl
theorem q2_86 : (Jvm.Cond.laysFinal "TinWall$Walk" "TinWall$Walk" "looked" "[I") ∈ kn_all := kn_t2 (List.mem_of_getElem? (i := 86) rfl) rfl
theorem q2_88 : (Jvm.Cond.lays "TinWall$Walk" "TinWall$Walk" "lookedAt" "I") ∈ kn_all := kn_t2 (List.mem_of_getElem? (i := 88) rfl) rfl
theorem q2_90 : (Jvm.Cond.lays "TinWall$Walk" "TinWall$Walk" "minutes" "I") ∈ kn_all := kn_t2 (List.mem_of_getElem? (i := 90) rfl) rfl
theorem q2_92 : (Jvm.Cond.lays "TinWall$Walk" "TinWall$Walk" "found" "Z") ∈ kn_all := kn_t2 (List.mem_of_getElem? (i := 92) rfl) rfl
theorem q2_95 : (Jvm.Cond.classLink "TinWall" (51 : Nat) "TinWall$State") ∈ kn_all := kn_t2 (List.mem_of_getElem? (i := 95) rfl) rfl
theorem q2_97 : (Jvm.Cond.classLink "TinWall" (58 : Nat) "[[I") ∈ kn_all := kn_t2 (List.mem_of_getElem? (i := 97) rfl) rfl
theorem q2_99 : (Jvm.Cond.fieldLink "TinWall" (9 : Nat) "TinWall" "tape" "[I") ∈ kn_all := kn_t2 (List.mem_of_getElem? (i := 99) rfl) rfl
theorem q2_100 : (Jvm.Cond.fieldLink "TinWall" (66 : Nat) "TinWall" "tapeLength" "I") ∈ kn_all := kn_t2 (List.mem_of_getElem? (i := 100) rfl) rfl
theorem q2_101 : (Jvm.Cond.fieldLink "TinWall" (16 : Nat) "TinWall" "hillReader" "LTinWall$HillReader;") ∈ kn_all := kn_t2 (List.mem_of_getElem? (i := 101) rfl) rfl
theorem q2_102 : (Jvm.Cond.fieldLink "TinWall" (23 : Nat) "TinWall" "ruleReader" "LTinWall$RuleReader;") ∈ kn_all := kn_t2 (List.mem_of_getElem? (i := 102) rfl) rfl
theorem q2_103 : (Jvm.Cond.fieldLink "TinWall" (29 : Nat) "TinWall" "rules" "[LTinWall$Rule;") ∈ kn_all := kn_t2 (List.mem_of_getElem? (i := 103) rfl) rfl
theorem q2_104 : (Jvm.Cond.fieldLink "TinWall" (88 : Nat) "TinWall" "ruleCount" "I") ∈ kn_all := kn_t2 (List.mem_of_getElem? (i := 104) rfl) rfl
theorem q2_105 : (Jvm.Cond.fieldLink "TinWall" (36 : Nat) "TinWall" "scene" "LTinWall$Scene;") ∈ kn_all := kn_t2 (List.mem_of_getElem? (i := 105) rfl) rfl
theorem q2_106 : (Jvm.Cond.fieldLink "TinWall" (40 : Nat) "TinWall" "images" "[LTinWall$Scene;") ∈ kn_all := kn_t2 (List.mem_of_getElem? (i := 106) rfl) rfl
theorem q2_107 : (Jvm.Cond.fieldLink "TinWall" (47 : Nat) "TinWall" "walk" "LTinWall$Walk;") ∈ kn_all := kn_t2 (List.mem_of_getElem? (i := 107) rfl) rfl
theorem q2_108 : (Jvm.Cond.fieldLink "TinWall" (54 : Nat) "TinWall" "trial" "LTinWall$State;") ∈ kn_all := kn_t2 (List.mem_of_getElem? (i := 108) rfl) rfl
theorem q2_109 : (Jvm.Cond.fieldLink "TinWall" (60 : Nat) "TinWall" "written" "[[I") ∈ kn_all := kn_t2 (List.mem_of_getElem? (i := 109) rfl) rfl
theorem q2_110 : (Jvm.Cond.fieldLink "TinWall" (63 : Nat) "TinWall" "ordered" "[I") ∈ kn_all := kn_t2 (List.mem_of_getElem? (i := 110) rfl) rfl
theorem q2_111 : (Jvm.Cond.laysFinal "TinWall" "TinWall" "tape" "[I") ∈ kn_all := kn_t2 (List.mem_of_getElem? (i := 111) rfl) rfl
theorem q2_113 : (Jvm.Cond.lays "TinWall" "TinWall" "tapeLength" "I") ∈ kn_all := kn_t2 (List.mem_of_getElem? (i := 113) rfl) rfl
theorem q2_115 : (Jvm.Cond.laysFinal "TinWall" "TinWall" "hillReader" "LTinWall$HillReader;") ∈ kn_all := kn_t2 (List.mem_of_getElem? (i := 115) rfl) rfl
theorem q2_117 : (Jvm.Cond.laysFinal "TinWall" "TinWall" "ruleReader" "LTinWall$RuleReader;") ∈ kn_all := kn_t2 (List.mem_of_getElem? (i := 117) rfl) rfl
theorem q2_119 : (Jvm.Cond.laysFinal "TinWall" "TinWall" "rules" "[LTinWall$Rule;") ∈ kn_all := kn_t2 (List.mem_of_getElem? (i := 119) rfl) rfl
theorem q2_121 : (Jvm.Cond.lays "TinWall" "TinWall" "ruleCount" "I") ∈ kn_all := kn_t2 (List.mem_of_getElem? (i := 121) rfl) rfl
theorem q2_123 : (Jvm.Cond.laysFinal "TinWall" "TinWall" "scene" "LTinWall$Scene;") ∈ kn_all := kn_t2 (List.mem_of_getElem? (i := 123) rfl) rfl
theorem q2_125 : (Jvm.Cond.laysFinal "TinWall" "TinWall" "images" "[LTinWall$Scene;") ∈ kn_all := kn_t2 (List.mem_of_getElem? (i := 125) rfl) rfl
theorem q2_127 : (Jvm.Cond.laysFinal "TinWall" "TinWall" "walk" "LTinWall$Walk;") ∈ kn_all := kn_t2 (List.mem_of_getElem? (i := 127) rfl) rfl
theorem q2_129 : (Jvm.Cond.laysFinal "TinWall" "TinWall" "trial" "LTinWall$State;") ∈ kn_all := kn_t2 (List.mem_of_getElem? (i := 129) rfl) rfl
theorem q2_131 : (Jvm.Cond.laysFinal "TinWall" "TinWall" "written" "[[I") ∈ kn_all := kn_t2 (List.mem_of_getElem? (i := 131) rfl) rfl
theorem q2_133 : (Jvm.Cond.laysFinal "TinWall" "TinWall" "ordered" "[I") ∈ kn_all := kn_t2 (List.mem_of_getElem? (i := 133) rfl) rfl
theorem q2_136 : (Jvm.Cond.methodLink "TinWallLaw" (13 : Nat) ({ cls := "TinWall", name := "feed", desc := "(IIIII)I" } : Jvm.MethodName)) ∈ kn_all := kn_t2 (List.mem_of_getElem? (i := 136) rfl) rfl
theorem q2_137 : (Jvm.Cond.instanceMethod ({ cls := "TinWall", name := "feed", desc := "(IIIII)I" } : Jvm.MethodName)) ∈ kn_all := kn_t2 (List.mem_of_getElem? (i := 137) rfl) rfl
theorem q2_138 : (Jvm.Cond.selects "TinWall" ({ cls := "TinWall", name := "feed", desc := "(IIIII)I" } : Jvm.MethodName) ({ cls := "TinWall", name := "feed", desc := "(IIIII)I" } : Jvm.MethodName)) ∈ kn_all := kn_t2 (List.mem_of_getElem? (i := 138) rfl) rfl
theorem q2_139 : (Jvm.Cond.code ({ cls := "TinWall", name := "feed", desc := "(IIIII)I" } : Jvm.MethodName) prog_1_method_2_code (6 : Nat) (Option.some Jvm.ClassFile.FieldType.int)) ∈ kn_all := kn_t2 (List.mem_of_getElem? (i := 139) rfl) rfl
theorem q2_140 : (Jvm.Cond.methodLink "TinWall" (70 : Nat) ({ cls := "TinWall", name := "append", desc := "(I)V" } : Jvm.MethodName)) ∈ kn_all := kn_t2 (List.mem_of_getElem? (i := 140) rfl) rfl
theorem q2_142 : (Jvm.Cond.instanceMethod ({ cls := "TinWall", name := "append", desc := "(I)V" } : Jvm.MethodName)) ∈ kn_all := kn_t2 (List.mem_of_getElem? (i := 142) rfl) rfl
theorem q2_143 : (Jvm.Cond.code ({ cls := "TinWall", name := "append", desc := "(I)V" } : Jvm.MethodName) prog_1_method_3_code (3 : Nat) (Option.none : Option Jvm.ClassFile.FieldType)) ∈ kn_all := kn_t2 (List.mem_of_getElem? (i := 143) rfl) rfl
theorem q2_144 : (Jvm.Cond.methodLink "TinWallLaw" (18 : Nat) ({ cls := "TinWall", name := "end", desc := "(I)I" } : Jvm.MethodName)) ∈ kn_all := kn_t2 (List.mem_of_getElem? (i := 144) rfl) rfl
theorem q2_145 : (Jvm.Cond.instanceMethod ({ cls := "TinWall", name := "end", desc := "(I)I" } : Jvm.MethodName)) ∈ kn_all := kn_t2 (List.mem_of_getElem? (i := 145) rfl) rfl
theorem q2_146 : (Jvm.Cond.selects "TinWall" ({ cls := "TinWall", name := "end", desc := "(I)I" } : Jvm.MethodName) ({ cls := "TinWall", name := "end", desc := "(I)I" } : Jvm.MethodName)) ∈ kn_all := kn_t2 (List.mem_of_getElem? (i := 146) rfl) rfl
theorem q2_147 : (Jvm.Cond.code ({ cls := "TinWall", name := "end", desc := "(I)I" } : Jvm.MethodName) prog_1_method_4_code (2 : Nat) (Option.some Jvm.ClassFile.FieldType.int)) ∈ kn_all := kn_t2 (List.mem_of_getElem? (i := 147) rfl) rfl
theorem q2_148 : (Jvm.Cond.methodLink "TinWallLaw" (23 : Nat) ({ cls := "TinWall", name := "hill", desc := "()I" } : Jvm.MethodName)) ∈ kn_all := kn_t2 (List.mem_of_getElem? (i := 148) rfl) rfl
theorem q2_149 : (Jvm.Cond.instanceMethod ({ cls := "TinWall", name := "hill", desc := "()I" } : Jvm.MethodName)) ∈ kn_all := kn_t2 (List.mem_of_getElem? (i := 149) rfl) rfl
theorem q2_150 : (Jvm.Cond.selects "TinWall" ({ cls := "TinWall", name := "hill", desc := "()I" } : Jvm.MethodName) ({ cls := "TinWall", name := "hill", desc := "()I" } : Jvm.MethodName)) ∈ kn_all := kn_t2 (List.mem_of_getElem? (i := 150) rfl) rfl
theorem q2_151 : (Jvm.Cond.code ({ cls := "TinWall", name := "hill", desc := "()I" } : Jvm.MethodName) prog_1_method_5_code (3 : Nat) (Option.some Jvm.ClassFile.FieldType.int)) ∈ kn_all := kn_t2 (List.mem_of_getElem? (i := 151) rfl) rfl
theorem q2_152 : (Jvm.Cond.classLink "TinWall" (74 : Nat) "TinWall$Hill") ∈ kn_all := kn_t2 (List.mem_of_getElem? (i := 152) rfl) rfl
theorem q2_154 : (Jvm.Cond.methodLink "TinWall" (77 : Nat) ({ cls := "TinWall$HillReader", name := "read", desc := "(LTinWall$Hill;[II)I" } : Jvm.MethodName)) ∈ kn_all := kn_t2 (List.mem_of_getElem? (i := 154) rfl) rfl
theorem q2_155 : (Jvm.Cond.instanceMethod ({ cls := "TinWall$HillReader", name := "read", desc := "(LTinWall$Hill;[II)I" } : Jvm.MethodName)) ∈ kn_all := kn_t2 (List.mem_of_getElem? (i := 155) rfl) rfl
theorem q2_156 : (Jvm.Cond.selects "TinWall$HillReader" ({ cls := "TinWall$HillReader", name := "read", desc := "(LTinWall$Hill;[II)I" } : Jvm.MethodName) ({ cls := "TinWall$HillReader", name := "read", desc := "(LTinWall$Hill;[II)I" } : Jvm.MethodName)) ∈ kn_all := kn_t2 (List.mem_of_getElem? (i := 156) rfl) rfl
theorem q2_157 : (Jvm.Cond.code ({ cls := "TinWall$HillReader", name := "read", desc := "(LTinWall$Hill;[II)I" } : Jvm.MethodName) prog_3_method_2_code (6 : Nat) (Option.some Jvm.ClassFile.FieldType.int)) ∈ kn_all := kn_t2 (List.mem_of_getElem? (i := 157) rfl) rfl
theorem q2_158 : (Jvm.Cond.methodLink "TinWall$HillReader" (18 : Nat) ({ cls := "TinWall$Reader", name := "open", desc := "([II)V" } : Jvm.MethodName)) ∈ kn_all := kn_t2 (List.mem_of_getElem? (i := 158) rfl) rfl
theorem q2_159 : (Jvm.Cond.instanceMethod ({ cls := "TinWall$Reader", name := "open", desc := "([II)V" } : Jvm.MethodName)) ∈ kn_all := kn_t2 (List.mem_of_getElem? (i := 159) rfl) rfl
theorem q2_160 : (Jvm.Cond.selects "TinWall$Reader" ({ cls := "TinWall$Reader", name := "open", desc := "([II)V" } : Jvm.MethodName) ({ cls := "TinWall$Reader", name := "open", desc := "([II)V" } : Jvm.MethodName)) ∈ kn_all := kn_t2 (List.mem_of_getElem? (i := 160) rfl) rfl
theorem q2_161 : (Jvm.Cond.code ({ cls := "TinWall$Reader", name := "open", desc := "([II)V" } : Jvm.MethodName) prog_4_method_2_code (3 : Nat) (Option.none : Option Jvm.ClassFile.FieldType)) ∈ kn_all := kn_t2 (List.mem_of_getElem? (i := 161) rfl) rfl
theorem q2_162 : (Jvm.Cond.methodLink "TinWall$Reader" (15 : Nat) ({ cls := "java/lang/Math", name := "min", desc := "(II)I" } : Jvm.MethodName)) ∈ kn_all := kn_t2 (List.mem_of_getElem? (i := 162) rfl) rfl
theorem q2_163 : (Jvm.Cond.static ({ cls := "java/lang/Math", name := "min", desc := "(II)I" } : Jvm.MethodName)) ∈ kn_all := kn_t2 (List.mem_of_getElem? (i := 163) rfl) rfl
theorem q2_164 : (Jvm.Cond.code ({ cls := "java/lang/Math", name := "min", desc := "(II)I" } : Jvm.MethodName) prog_13_method_69_code (2 : Nat) (Option.some Jvm.ClassFile.FieldType.int)) ∈ kn_all := kn_t2 (List.mem_of_getElem? (i := 164) rfl) rfl
theorem q2_165 : (Jvm.Cond.methodLink "TinWall$HillReader" (22 : Nat) ({ cls := "TinWall$HillReader", name := "readClause", desc := "(LTinWall$Hill;I)V" } : Jvm.MethodName)) ∈ kn_all := kn_t2 (List.mem_of_getElem? (i := 165) rfl) rfl
theorem q2_167 : (Jvm.Cond.instanceMethod ({ cls := "TinWall$HillReader", name := "readClause", desc := "(LTinWall$Hill;I)V" } : Jvm.MethodName)) ∈ kn_all := kn_t2 (List.mem_of_getElem? (i := 167) rfl) rfl
theorem q2_168 : (Jvm.Cond.code ({ cls := "TinWall$HillReader", name := "readClause", desc := "(LTinWall$Hill;I)V" } : Jvm.MethodName) prog_3_method_3_code (4 : Nat) (Option.none : Option Jvm.ClassFile.FieldType)) ∈ kn_all := kn_t2 (List.mem_of_getElem? (i := 168) rfl) rfl
theorem q2_170 : (Jvm.Cond.methodLink "TinWall$HillReader" (42 : Nat) ({ cls := "TinWall$Reader", name := "word", desc := "(Ljava/lang/String;)I" } : Jvm.MethodName)) ∈ kn_all := kn_t2 (List.mem_of_getElem? (i := 170) rfl) rfl
theorem q2_171 : (Jvm.Cond.instanceMethod ({ cls := "TinWall$Reader", name := "word", desc := "(Ljava/lang/String;)I" } : Jvm.MethodName)) ∈ kn_all := kn_t2 (List.mem_of_getElem? (i := 171) rfl) rfl
theorem q2_172 : (Jvm.Cond.selects "TinWall$Reader" ({ cls := "TinWall$Reader", name := "word", desc := "(Ljava/lang/String;)I" } : Jvm.MethodName) ({ cls := "TinWall$Reader", name := "word", desc := "(Ljava/lang/String;)I" } : Jvm.MethodName)) ∈ kn_all := kn_t2 (List.mem_of_getElem? (i := 172) rfl) rfl
theorem q2_173 : (Jvm.Cond.code ({ cls := "TinWall$Reader", name := "word", desc := "(Ljava/lang/String;)I" } : Jvm.MethodName) prog_4_method_11_code (6 : Nat) (Option.some Jvm.ClassFile.FieldType.int)) ∈ kn_all := kn_t2 (List.mem_of_getElem? (i := 173) rfl) rfl
theorem q2_174 : (Jvm.Cond.methodLink "TinWall$Reader" (31 : Nat) ({ cls := "TinWall$Reader", name := "next", desc := "()I" } : Jvm.MethodName)) ∈ kn_all := kn_t2 (List.mem_of_getElem? (i := 174) rfl) rfl
theorem q2_175 : (Jvm.Cond.instanceMethod ({ cls := "TinWall$Reader", name := "next", desc := "()I" } : Jvm.MethodName)) ∈ kn_all := kn_t2 (List.mem_of_getElem? (i := 175) rfl) rfl
theorem q2_176 : (Jvm.Cond.selects "TinWall$Reader" ({ cls := "TinWall$Reader", name := "next", desc := "()I" } : Jvm.MethodName) ({ cls := "TinWall$Reader", name := "next", desc := "()I" } : Jvm.MethodName)) ∈ kn_all := kn_t2 (List.mem_of_getElem? (i := 176) rfl) rfl
theorem q2_177 : (Jvm.Cond.code ({ cls := "TinWall$Reader", name := "next", desc := "()I" } : Jvm.MethodName) prog_4_method_4_code (1 : Nat) (Option.some Jvm.ClassFile.FieldType.int)) ∈ kn_all := kn_t2 (List.mem_of_getElem? (i := 177) rfl) rfl
theorem q2_178 : (Jvm.Cond.methodLink "TinWall$Reader" (50 : Nat) ({ cls := "TinWall$Reader", name := "wordSize", desc := "()I" } : Jvm.MethodName)) ∈ kn_all := kn_t2 (List.mem_of_getElem? (i := 178) rfl) rfl
theorem q2_179 : (Jvm.Cond.instanceMethod ({ cls := "TinWall$Reader", name := "wordSize", desc := "()I" } : Jvm.MethodName)) ∈ kn_all := kn_t2 (List.mem_of_getElem? (i := 179) rfl) rfl
theorem q2_180 : (Jvm.Cond.selects "TinWall$Reader" ({ cls := "TinWall$Reader", name := "wordSize", desc := "()I" } : Jvm.MethodName) ({ cls := "TinWall$Reader", name := "wordSize", desc := "()I" } : Jvm.MethodName)) ∈ kn_all := kn_t2 (List.mem_of_getElem? (i := 180) rfl) rfl
theorem q2_181 : (Jvm.Cond.code ({ cls := "TinWall$Reader", name := "wordSize", desc := "()I" } : Jvm.MethodName) prog_4_method_13_code (2 : Nat) (Option.some Jvm.ClassFile.FieldType.int)) ∈ kn_all := kn_t2 (List.mem_of_getElem? (i := 181) rfl) rfl
theorem q2_182 : (Jvm.Cond.methodLink "TinWall$Reader" (53 : Nat) ({ cls := "java/lang/String", name := "length", desc := "()I" } : Jvm.MethodName)) ∈ kn_all := kn_t2 (List.mem_of_getElem? (i := 182) rfl) rfl
theorem q2_183 : (Jvm.Cond.instanceMethod ({ cls := "java/lang/String", name := "length", desc := "()I" } : Jvm.MethodName)) ∈ kn_all := kn_t2 (List.mem_of_getElem? (i := 183) rfl) rfl
theorem q2_184 : (Jvm.Cond.selects "java/lang/String" ({ cls := "java/lang/String", name := "length", desc := "()I" } : Jvm.MethodName) ({ cls := "java/lang/String", name := "length", desc := "()I" } : Jvm.MethodName)) ∈ kn_all := kn_t2 (List.mem_of_getElem? (i := 184) rfl) rfl
theorem q2_185 : (Jvm.Cond.code ({ cls := "java/lang/String", name := "length", desc := "()I" } : Jvm.MethodName) prog_14_method_54_code (1 : Nat) (Option.some Jvm.ClassFile.FieldType.int)) ∈ kn_all := kn_t2 (List.mem_of_getElem? (i := 185) rfl) rfl
theorem q2_186 : (Jvm.Cond.methodLink "java/lang/String" (335 : Nat) ({ cls := "java/lang/String", name := "coder", desc := "()B" } : Jvm.MethodName)) ∈ kn_all := kn_t2 (List.mem_of_getElem? (i := 186) rfl) rfl
theorem q2_187 : (Jvm.Cond.instanceMethod ({ cls := "java/lang/String", name := "coder", desc := "()B" } : Jvm.MethodName)) ∈ kn_all := kn_t2 (List.mem_of_getElem? (i := 187) rfl) rfl
theorem q2_188 : (Jvm.Cond.selects "java/lang/String" ({ cls := "java/lang/String", name := "coder", desc := "()B" } : Jvm.MethodName) ({ cls := "java/lang/String", name := "coder", desc := "()B" } : Jvm.MethodName)) ∈ kn_all := kn_t2 (List.mem_of_getElem? (i := 188) rfl) rfl
theorem q2_189 : (Jvm.Cond.code ({ cls := "java/lang/String", name := "coder", desc := "()B" } : Jvm.MethodName) prog_14_method_152_code (1 : Nat) (Option.some Jvm.ClassFile.FieldType.byte)) ∈ kn_all := kn_t2 (List.mem_of_getElem? (i := 189) rfl) rfl
theorem q2_190 : (Jvm.Cond.fieldLink "java/lang/String" (38 : Nat) "java/lang/String" "COMPACT_STRINGS" "Z") ∈ kn_all := kn_t2 (List.mem_of_getElem? (i := 190) rfl) rfl
theorem q2_192 : (Jvm.Cond.methodLink "TinWall$Reader" (57 : Nat) ({ cls := "java/lang/String", name := "charAt", desc := "(I)C" } : Jvm.MethodName)) ∈ kn_all := kn_t2 (List.mem_of_getElem? (i := 192) rfl) rfl
theorem q2_193 : (Jvm.Cond.instanceMethod ({ cls := "java/lang/String", name := "charAt", desc := "(I)C" } : Jvm.MethodName)) ∈ kn_all := kn_t2 (List.mem_of_getElem? (i := 193) rfl) rfl
theorem q2_194 : (Jvm.Cond.selects "java/lang/String" ({ cls := "java/lang/String", name := "charAt", desc := "(I)C" } : Jvm.MethodName) ({ cls := "java/lang/String", name := "charAt", desc := "(I)C" } : Jvm.MethodName)) ∈ kn_all := kn_t2 (List.mem_of_getElem? (i := 194) rfl) rfl
theorem q2_195 : (Jvm.Cond.code ({ cls := "java/lang/String", name := "charAt", desc := "(I)C" } : Jvm.MethodName) prog_14_method_56_code (2 : Nat) (Option.some Jvm.ClassFile.FieldType.char)) ∈ kn_all := kn_t2 (List.mem_of_getElem? (i := 195) rfl) rfl
theorem q2_196 : (Jvm.Cond.methodLink "java/lang/String" (492 : Nat) ({ cls := "java/lang/String", name := "isLatin1", desc := "()Z" } : Jvm.MethodName)) ∈ kn_all := kn_t2 (List.mem_of_getElem? (i := 196) rfl) rfl
theorem q2_197 : (Jvm.Cond.instanceMethod ({ cls := "java/lang/String", name := "isLatin1", desc := "()Z" } : Jvm.MethodName)) ∈ kn_all := kn_t2 (List.mem_of_getElem? (i := 197) rfl) rfl
theorem q2_198 : (Jvm.Cond.selects "java/lang/String" ({ cls := "java/lang/String", name := "isLatin1", desc := "()Z" } : Jvm.MethodName) ({ cls := "java/lang/String", name := "isLatin1", desc := "()Z" } : Jvm.MethodName)) ∈ kn_all := kn_t2 (List.mem_of_getElem? (i := 198) rfl) rfl
theorem q2_199 : (Jvm.Cond.code ({ cls := "java/lang/String", name := "isLatin1", desc := "()Z" } : Jvm.MethodName) prog_14_method_154_code (1 : Nat) (Option.some Jvm.ClassFile.FieldType.boolean)) ∈ kn_all := kn_t2 (List.mem_of_getElem? (i := 199) rfl) rfl
theorem q2_200 : (Jvm.Cond.methodLink "java/lang/String" (495 : Nat) ({ cls := "java/lang/StringLatin1", name := "charAt", desc := "([BI)C" } : Jvm.MethodName)) ∈ kn_all := kn_t2 (List.mem_of_getElem? (i := 200) rfl) rfl
theorem q2_201 : (Jvm.Cond.static ({ cls := "java/lang/StringLatin1", name := "charAt", desc := "([BI)C" } : Jvm.MethodName)) ∈ kn_all := kn_t2 (List.mem_of_getElem? (i := 201) rfl) rfl
theorem q2_202 : (Jvm.Cond.code ({ cls := "java/lang/StringLatin1", name := "charAt", desc := "([BI)C" } : Jvm.MethodName) prog_15_method_2_code (2 : Nat) (Option.some Jvm.ClassFile.FieldType.char)) ∈ kn_all := kn_t2 (List.mem_of_getElem? (i := 202) rfl) rfl
theorem q2_203 : (Jvm.Cond.methodLink "java/lang/StringLatin1" (9 : Nat) ({ cls := "java/lang/String", name := "checkIndex", desc := "(II)V" } : Jvm.MethodName)) ∈ kn_all := kn_t2 (List.mem_of_getElem? (i := 203) rfl) rfl
theorem q2_204 : (Jvm.Cond.static ({ cls := "java/lang/String", name := "checkIndex", desc := "(II)V" } : Jvm.MethodName)) ∈ kn_all := kn_t2 (List.mem_of_getElem? (i := 204) rfl) rfl
theorem q2_205 : (Jvm.Cond.code ({ cls := "java/lang/String", name := "checkIndex", desc := "(II)V" } : Jvm.MethodName) prog_14_method_155_code (2 : Nat) (Option.none : Option Jvm.ClassFile.FieldType)) ∈ kn_all := kn_t2 (List.mem_of_getElem? (i := 205) rfl) rfl
theorem q2_206 : (Jvm.Cond.fieldLink "java/lang/String" (1053 : Nat) "jdk/internal/util/Preconditions" "SIOOBE_FORMATTER" "Ljava/util/function/BiFunction;") ∈ kn_all := kn_t2 (List.mem_of_getElem? (i := 206) rfl) rfl
theorem q2_208 : (Jvm.Cond.methodLink "java/lang/String" (1059 : Nat) ({ cls := "jdk/internal/util/Preconditions", name := "checkIndex", desc := "(IILjava/util/function/BiFunction;)I" } : Jvm.MethodName)) ∈ kn_all := kn_t2 (List.mem_of_getElem? (i := 208) rfl) rfl
theorem q2_209 : (Jvm.Cond.static ({ cls := "jdk/internal/util/Preconditions", name := "checkIndex", desc := "(IILjava/util/function/BiFunction;)I" } : Jvm.MethodName)) ∈ kn_all := kn_t2 (List.mem_of_getElem? (i := 209) rfl) rfl
theorem q2_210 : (Jvm.Cond.code ({ cls := "jdk/internal/util/Preconditions", name := "checkIndex", desc := "(IILjava/util/function/BiFunction;)I" } : Jvm.MethodName) prog_18_method_11_code (3 : Nat) (Option.some Jvm.ClassFile.FieldType.int)) ∈ kn_all := kn_t2 (List.mem_of_getElem? (i := 210) rfl) rfl
theorem q2_211 : (Jvm.Cond.methodLink "java/lang/String" (498 : Nat) ({ cls := "java/lang/StringUTF16", name := "charAt", desc := "([BI)C" } : Jvm.MethodName)) ∈ kn_all := kn_t2 (List.mem_of_getElem? (i := 211) rfl) rfl
theorem q2_212 : (Jvm.Cond.static ({ cls := "java/lang/StringUTF16", name := "charAt", desc := "([BI)C" } : Jvm.MethodName)) ∈ kn_all := kn_t2 (List.mem_of_getElem? (i := 212) rfl) rfl
theorem q2_213 : (Jvm.Cond.code ({ cls := "java/lang/StringUTF16", name := "charAt", desc := "([BI)C" } : Jvm.MethodName) prog_16_method_83_code (2 : Nat) (Option.some Jvm.ClassFile.FieldType.char)) ∈ kn_all := kn_t2 (List.mem_of_getElem? (i := 213) rfl) rfl
theorem q2_214 : (Jvm.Cond.methodLink "java/lang/StringUTF16" (67 : Nat) ({ cls := "java/lang/StringUTF16", name := "checkIndex", desc := "(I[B)V" } : Jvm.MethodName)) ∈ kn_all := kn_t2 (List.mem_of_getElem? (i := 214) rfl) rfl
theorem q2_215 : (Jvm.Cond.static ({ cls := "java/lang/StringUTF16", name := "checkIndex", desc := "(I[B)V" } : Jvm.MethodName)) ∈ kn_all := kn_t2 (List.mem_of_getElem? (i := 215) rfl) rfl
theorem q2_216 : (Jvm.Cond.code ({ cls := "java/lang/StringUTF16", name := "checkIndex", desc := "(I[B)V" } : Jvm.MethodName) prog_16_method_91_code (2 : Nat) (Option.none : Option Jvm.ClassFile.FieldType)) ∈ kn_all := kn_t2 (List.mem_of_getElem? (i := 216) rfl) rfl
theorem q2_217 : (Jvm.Cond.methodLink "java/lang/StringUTF16" (48 : Nat) ({ cls := "java/lang/StringUTF16", name := "length", desc := "([B)I" } : Jvm.MethodName)) ∈ kn_all := kn_t2 (List.mem_of_getElem? (i := 217) rfl) rfl
theorem q2_218 : (Jvm.Cond.static ({ cls := "java/lang/StringUTF16", name := "length", desc := "([B)I" } : Jvm.MethodName)) ∈ kn_all := kn_t2 (List.mem_of_getElem? (i := 218) rfl) rfl
theorem q2_219 : (Jvm.Cond.code ({ cls := "java/lang/StringUTF16", name := "length", desc := "([B)I" } : Jvm.MethodName) prog_16_method_6_code (1 : Nat) (Option.some Jvm.ClassFile.FieldType.int)) ∈ kn_all := kn_t2 (List.mem_of_getElem? (i := 219) rfl) rfl
theorem q2_220 : (Jvm.Cond.methodLink "java/lang/StringUTF16" (414 : Nat) ({ cls := "java/lang/String", name := "checkIndex", desc := "(II)V" } : Jvm.MethodName)) ∈ kn_all := kn_t2 (List.mem_of_getElem? (i := 220) rfl) rfl
theorem q2_221 : (Jvm.Cond.methodLink "java/lang/StringUTF16" (71 : Nat) ({ cls := "java/lang/StringUTF16", name := "getChar", desc := "([BI)C" } : Jvm.MethodName)) ∈ kn_all := kn_t2 (List.mem_of_getElem? (i := 221) rfl) rfl
theorem q2_222 : (Jvm.Cond.static ({ cls := "java/lang/StringUTF16", name := "getChar", desc := "([BI)C" } : Jvm.MethodName)) ∈ kn_all := kn_t2 (List.mem_of_getElem? (i := 222) rfl) rfl
theorem q2_223 : (Jvm.Cond.code ({ cls := "java/lang/StringUTF16", name := "getChar", desc := "([BI)C" } : Jvm.MethodName) prog_16_method_5_code (2 : Nat) (Option.some Jvm.ClassFile.FieldType.char)) ∈ kn_all := kn_t2 (List.mem_of_getElem? (i := 223) rfl) rfl
theorem q2_224 : (Jvm.Cond.fieldLink "java/lang/StringUTF16" (44 : Nat) "java/lang/StringUTF16" "$assertionsDisabled" "Z") ∈ kn_all := kn_t2 (List.mem_of_getElem? (i := 224) rfl) rfl
theorem q2_226 : (Jvm.Cond.fieldLink "java/lang/StringUTF16" (59 : Nat) "java/lang/StringUTF16" "HI_BYTE_SHIFT" "I") ∈ kn_all := kn_t2 (List.mem_of_getElem? (i := 226) rfl) rfl
theorem q2_228 : (Jvm.Cond.fieldLink "java/lang/StringUTF16" (63 : Nat) "java/lang/StringUTF16" "LO_BYTE_SHIFT" "I") ∈ kn_all := kn_t2 (List.mem_of_getElem? (i := 228) rfl) rfl
theorem q2_230 : (Jvm.Cond.methodLink "TinWall$Reader" (61 : Nat) ({ cls := "TinWall$Reader", name := "isSame", desc := "(Ljava/lang/String;II)Z" } : Jvm.MethodName)) ∈ kn_all := kn_t2 (List.mem_of_getElem? (i := 230) rfl) rfl
theorem q2_232 : (Jvm.Cond.instanceMethod ({ cls := "TinWall$Reader", name := "isSame", desc := "(Ljava/lang/String;II)Z" } : Jvm.MethodName)) ∈ kn_all := kn_t2 (List.mem_of_getElem? (i := 232) rfl) rfl
theorem q2_233 : (Jvm.Cond.code ({ cls := "TinWall$Reader", name := "isSame", desc := "(Ljava/lang/String;II)Z" } : Jvm.MethodName) prog_4_method_14_code (5 : Nat) (Option.some Jvm.ClassFile.FieldType.boolean)) ∈ kn_all := kn_t2 (List.mem_of_getElem? (i := 233) rfl) rfl
theorem q2_234 : (Jvm.Cond.methodLink "TinWall$HillReader" (49 : Nat) ({ cls := "TinWall$Reader", name := "failAt", desc := "(II)V" } : Jvm.MethodName)) ∈ kn_all := kn_t2 (List.mem_of_getElem? (i := 234) rfl) rfl
theorem q2_235 : (Jvm.Cond.instanceMethod ({ cls := "TinWall$Reader", name := "failAt", desc := "(II)V" } : Jvm.MethodName)) ∈ kn_all := kn_t2 (List.mem_of_getElem? (i := 235) rfl) rfl
theorem q2_236 : (Jvm.Cond.selects "TinWall$Reader" ({ cls := "TinWall$Reader", name := "failAt", desc := "(II)V" } : Jvm.MethodName) ({ cls := "TinWall$Reader", name := "failAt", desc := "(II)V" } : Jvm.MethodName)) ∈ kn_all := kn_t2 (List.mem_of_getElem? (i := 236) rfl) rfl
theorem q2_237 : (Jvm.Cond.code ({ cls := "TinWall$Reader", name := "failAt", desc := "(II)V" } : Jvm.MethodName) prog_4_method_3_code (3 : Nat) (Option.none : Option Jvm.ClassFile.FieldType)) ∈ kn_all := kn_t2 (List.mem_of_getElem? (i := 237) rfl) rfl
theorem q2_238 : (Jvm.Cond.methodLink "TinWall$HillReader" (53 : Nat) ({ cls := "TinWall$HillReader", name := "isFull", desc := "(LTinWall$Hill;I)Z" } : Jvm.MethodName)) ∈ kn_all := kn_t2 (List.mem_of_getElem? (i := 238) rfl) rfl
theorem q2_239 : (Jvm.Cond.static ({ cls := "TinWall$HillReader", name := "isFull", desc := "(LTinWall$Hill;I)Z" } : Jvm.MethodName)) ∈ kn_all := kn_t2 (List.mem_of_getElem? (i := 239) rfl) rfl
theorem q3_0 : (Jvm.Cond.code ({ cls := "TinWall$HillReader", name := "isFull", desc := "(LTinWall$Hill;I)Z" } : Jvm.MethodName) prog_3_method_4_code (2 : Nat) (Option.some Jvm.ClassFile.FieldType.boolean)) ∈ kn_all := kn_t3 (List.mem_of_getElem? (i := 0) rfl) rfl
theorem q3_1 : (Jvm.Cond.methodLink "TinWall$HillReader" (57 : Nat) ({ cls := "TinWall$Reader", name := "wordSize", desc := "()I" } : Jvm.MethodName)) ∈ kn_all := kn_t3 (List.mem_of_getElem? (i := 1) rfl) rfl
theorem q3_2 : (Jvm.Cond.methodLink "TinWall$HillReader" (61 : Nat) ({ cls := "TinWall$Reader", name := "pass", desc := "(I)V" } : Jvm.MethodName)) ∈ kn_all := kn_t3 (List.mem_of_getElem? (i := 2) rfl) rfl
theorem q3_3 : (Jvm.Cond.instanceMethod ({ cls := "TinWall$Reader", name := "pass", desc := "(I)V" } : Jvm.MethodName)) ∈ kn_all := kn_t3 (List.mem_of_getElem? (i := 3) rfl) rfl
theorem q3_4 : (Jvm.Cond.selects "TinWall$Reader" ({ cls := "TinWall$Reader", name := "pass", desc := "(I)V" } : Jvm.MethodName) ({ cls := "TinWall$Reader", name := "pass", desc := "(I)V" } : Jvm.MethodName)) ∈ kn_all := kn_t3 (List.mem_of_getElem? (i := 4) rfl) rfl
theorem q3_5 : (Jvm.Cond.code ({ cls := "TinWall$Reader", name := "pass", desc := "(I)V" } : Jvm.MethodName) prog_4_method_6_code (2 : Nat) (Option.none : Option Jvm.ClassFile.FieldType)) ∈ kn_all := kn_t3 (List.mem_of_getElem? (i := 5) rfl) rfl
theorem q3_6 : (Jvm.Cond.methodLink "TinWall$HillReader" (65 : Nat) ({ cls := "TinWall$HillReader", name := "readNumbers", desc := "(LTinWall$Hill;I)V" } : Jvm.MethodName)) ∈ kn_all := kn_t3 (List.mem_of_getElem? (i := 6) rfl) rfl
theorem q3_8 : (Jvm.Cond.instanceMethod ({ cls := "TinWall$HillReader", name := "readNumbers", desc := "(LTinWall$Hill;I)V" } : Jvm.MethodName)) ∈ kn_all := kn_t3 (List.mem_of_getElem? (i := 8) rfl) rfl
theorem q3_9 : (Jvm.Cond.code ({ cls := "TinWall$HillReader", name := "readNumbers", desc := "(LTinWall$Hill;I)V" } : Jvm.MethodName) prog_3_method_5_code (3 : Nat) (Option.none : Option Jvm.ClassFile.FieldType)) ∈ kn_all := kn_t3 (List.mem_of_getElem? (i := 9) rfl) rfl
theorem q3_10 : (Jvm.Cond.methodLink "TinWall$HillReader" (80 : Nat) ({ cls := "TinWall$Reader", name := "number", desc := "(II)I" } : Jvm.MethodName)) ∈ kn_all := kn_t3 (List.mem_of_getElem? (i := 10) rfl) rfl
theorem q3_11 : (Jvm.Cond.instanceMethod ({ cls := "TinWall$Reader", name := "number", desc := "(II)I" } : Jvm.MethodName)) ∈ kn_all := kn_t3 (List.mem_of_getElem? (i := 11) rfl) rfl
theorem q3_12 : (Jvm.Cond.selects "TinWall$Reader" ({ cls := "TinWall$Reader", name := "number", desc := "(II)I" } : Jvm.MethodName) ({ cls := "TinWall$Reader", name := "number", desc := "(II)I" } : Jvm.MethodName)) ∈ kn_all := kn_t3 (List.mem_of_getElem? (i := 12) rfl) rfl
theorem q3_13 : (Jvm.Cond.code ({ cls := "TinWall$Reader", name := "number", desc := "(II)I" } : Jvm.MethodName) prog_4_method_10_code (5 : Nat) (Option.some Jvm.ClassFile.FieldType.int)) ∈ kn_all := kn_t3 (List.mem_of_getElem? (i := 13) rfl) rfl
theorem q3_14 : (Jvm.Cond.methodLink "TinWall$Reader" (46 : Nat) ({ cls := "TinWall$Reader", name := "isDigit", desc := "(I)Z" } : Jvm.MethodName)) ∈ kn_all := kn_t3 (List.mem_of_getElem? (i := 14) rfl) rfl
theorem q3_15 : (Jvm.Cond.static ({ cls := "TinWall$Reader", name := "isDigit", desc := "(I)Z" } : Jvm.MethodName)) ∈ kn_all := kn_t3 (List.mem_of_getElem? (i := 15) rfl) rfl
theorem q3_16 : (Jvm.Cond.code ({ cls := "TinWall$Reader", name := "isDigit", desc := "(I)Z" } : Jvm.MethodName) prog_4_method_9_code (1 : Nat) (Option.some Jvm.ClassFile.FieldType.boolean)) ∈ kn_all := kn_t3 (List.mem_of_getElem? (i := 16) rfl) rfl
theorem q3_17 : (Jvm.Cond.methodLink "TinWall$Reader" (42 : Nat) ({ cls := "TinWall$Reader", name := "failAt", desc := "(II)V" } : Jvm.MethodName)) ∈ kn_all := kn_t3 (List.mem_of_getElem? (i := 17) rfl) rfl
theorem q3_18 : (Jvm.Cond.methodLink "TinWall$HillReader" (109 : Nat) ({ cls := "TinWall$HillReader", name := "readSeeker", desc := "(LTinWall$Hill;I)V" } : Jvm.MethodName)) ∈ kn_all := kn_t3 (List.mem_of_getElem? (i := 18) rfl) rfl
theorem q3_20 : (Jvm.Cond.instanceMethod ({ cls := "TinWall$HillReader", name := "readSeeker", desc := "(LTinWall$Hill;I)V" } : Jvm.MethodName)) ∈ kn_all := kn_t3 (List.mem_of_getElem? (i := 20) rfl) rfl
theorem q3_21 : (Jvm.Cond.code ({ cls := "TinWall$HillReader", name := "readSeeker", desc := "(LTinWall$Hill;I)V" } : Jvm.MethodName) prog_3_method_6_code (3 : Nat) (Option.none : Option Jvm.ClassFile.FieldType)) ∈ kn_all := kn_t3 (List.mem_of_getElem? (i := 21) rfl) rfl
theorem q3_22 : (Jvm.Cond.methodLink "TinWall$HillReader" (26 : Nat) ({ cls := "TinWall$Reader", name := "hasNextClause", desc := "()Z" } : Jvm.MethodName)) ∈ kn_all := kn_t3 (List.mem_of_getElem? (i := 22) rfl) rfl
theorem q3_23 : (Jvm.Cond.instanceMethod ({ cls := "TinWall$Reader", name := "hasNextClause", desc := "()Z" } : Jvm.MethodName)) ∈ kn_all := kn_t3 (List.mem_of_getElem? (i := 23) rfl) rfl
theorem q3_24 : (Jvm.Cond.selects "TinWall$Reader" ({ cls := "TinWall$Reader", name := "hasNextClause", desc := "()Z" } : Jvm.MethodName) ({ cls := "TinWall$Reader", name := "hasNextClause", desc := "()Z" } : Jvm.MethodName)) ∈ kn_all := kn_t3 (List.mem_of_getElem? (i := 24) rfl) rfl
theorem q3_25 : (Jvm.Cond.code ({ cls := "TinWall$Reader", name := "hasNextClause", desc := "()Z" } : Jvm.MethodName) prog_4_method_7_code (1 : Nat) (Option.some Jvm.ClassFile.FieldType.boolean)) ∈ kn_all := kn_t3 (List.mem_of_getElem? (i := 25) rfl) rfl
theorem q3_26 : (Jvm.Cond.methodLink "TinWall$Reader" (35 : Nat) ({ cls := "TinWall$Reader", name := "take", desc := "(I)V" } : Jvm.MethodName)) ∈ kn_all := kn_t3 (List.mem_of_getElem? (i := 26) rfl) rfl
theorem q3_27 : (Jvm.Cond.instanceMethod ({ cls := "TinWall$Reader", name := "take", desc := "(I)V" } : Jvm.MethodName)) ∈ kn_all := kn_t3 (List.mem_of_getElem? (i := 27) rfl) rfl
theorem q3_28 : (Jvm.Cond.selects "TinWall$Reader" ({ cls := "TinWall$Reader", name := "take", desc := "(I)V" } : Jvm.MethodName) ({ cls := "TinWall$Reader", name := "take", desc := "(I)V" } : Jvm.MethodName)) ∈ kn_all := kn_t3 (List.mem_of_getElem? (i := 28) rfl) rfl
theorem q3_29 : (Jvm.Cond.code ({ cls := "TinWall$Reader", name := "take", desc := "(I)V" } : Jvm.MethodName) prog_4_method_8_code (2 : Nat) (Option.none : Option Jvm.ClassFile.FieldType)) ∈ kn_all := kn_t3 (List.mem_of_getElem? (i := 29) rfl) rfl
theorem q3_30 : (Jvm.Cond.methodLink "TinWall$Reader" (39 : Nat) ({ cls := "TinWall$Reader", name := "pass", desc := "(I)V" } : Jvm.MethodName)) ∈ kn_all := kn_t3 (List.mem_of_getElem? (i := 30) rfl) rfl
theorem q3_31 : (Jvm.Cond.methodLink "TinWall" (81 : Nat) ({ cls := "TinWall$Scene", name := "begin", desc := "(LTinWall$Hill;)V" } : Jvm.MethodName)) ∈ kn_all := kn_t3 (List.mem_of_getElem? (i := 31) rfl) rfl
theorem q3_32 : (Jvm.Cond.instanceMethod ({ cls := "TinWall$Scene", name := "begin", desc := "(LTinWall$Hill;)V" } : Jvm.MethodName)) ∈ kn_all := kn_t3 (List.mem_of_getElem? (i := 32) rfl) rfl
theorem q3_33 : (Jvm.Cond.selects "TinWall$Scene" ({ cls := "TinWall$Scene", name := "begin", desc := "(LTinWall$Hill;)V" } : Jvm.MethodName) ({ cls := "TinWall$Scene", name := "begin", desc := "(LTinWall$Hill;)V" } : Jvm.MethodName)) ∈ kn_all := kn_t3 (List.mem_of_getElem? (i := 33) rfl) rfl
theorem q3_34 : (Jvm.Cond.code ({ cls := "TinWall$Scene", name := "begin", desc := "(LTinWall$Hill;)V" } : Jvm.MethodName) prog_7_method_2_code (2 : Nat) (Option.none : Option Jvm.ClassFile.FieldType)) ∈ kn_all := kn_t3 (List.mem_of_getElem? (i := 34) rfl) rfl
theorem q3_35 : (Jvm.Cond.methodLink "TinWall$Scene" (40 : Nat) ({ cls := "TinWall$State", name := "begin", desc := "(LTinWall$Hill;)V" } : Jvm.MethodName)) ∈ kn_all := kn_t3 (List.mem_of_getElem? (i := 35) rfl) rfl
theorem q3_36 : (Jvm.Cond.instanceMethod ({ cls := "TinWall$State", name := "begin", desc := "(LTinWall$Hill;)V" } : Jvm.MethodName)) ∈ kn_all := kn_t3 (List.mem_of_getElem? (i := 36) rfl) rfl
theorem q3_37 : (Jvm.Cond.selects "TinWall$State" ({ cls := "TinWall$State", name := "begin", desc := "(LTinWall$Hill;)V" } : Jvm.MethodName) ({ cls := "TinWall$State", name := "begin", desc := "(LTinWall$Hill;)V" } : Jvm.MethodName)) ∈ kn_all := kn_t3 (List.mem_of_getElem? (i := 37) rfl) rfl
theorem q3_38 : (Jvm.Cond.code ({ cls := "TinWall$State", name := "begin", desc := "(LTinWall$Hill;)V" } : Jvm.MethodName) prog_8_method_2_code (3 : Nat) (Option.none : Option Jvm.ClassFile.FieldType)) ∈ kn_all := kn_t3 (List.mem_of_getElem? (i := 38) rfl) rfl
theorem q3_39 : (Jvm.Cond.methodLink "TinWall$State" (45 : Nat) ({ cls := "java/lang/System", name := "arraycopy", desc := "(Ljava/lang/Object;ILjava/lang/Object;II)V" } : Jvm.MethodName)) ∈ kn_all := kn_t3 (List.mem_of_getElem? (i := 39) rfl) rfl
theorem q3_40 : (Jvm.Cond.static ({ cls := "java/lang/System", name := "arraycopy", desc := "(Ljava/lang/Object;ILjava/lang/Object;II)V" } : Jvm.MethodName)) ∈ kn_all := kn_t3 (List.mem_of_getElem? (i := 40) rfl) rfl
theorem q3_41 : (Jvm.Cond.native ({ cls := "java/lang/System", name := "arraycopy", desc := "(Ljava/lang/Object;ILjava/lang/Object;II)V" } : Jvm.MethodName)) ∈ kn_all := kn_t3 (List.mem_of_getElem? (i := 41) rfl) rfl
theorem q3_42 : (Jvm.Cond.arrayClass Jvm.ClassFile.FieldType.byte) ∈ kn_all := kn_t3 (List.mem_of_getElem? (i := 42) rfl) rfl
theorem q3_43 : (Jvm.Cond.methodLink "TinWallLaw" (28 : Nat) ({ cls := "TinWall", name := "rule", desc := "()I" } : Jvm.MethodName)) ∈ kn_all := kn_t3 (List.mem_of_getElem? (i := 43) rfl) rfl
theorem q3_44 : (Jvm.Cond.instanceMethod ({ cls := "TinWall", name := "rule", desc := "()I" } : Jvm.MethodName)) ∈ kn_all := kn_t3 (List.mem_of_getElem? (i := 44) rfl) rfl
theorem q3_45 : (Jvm.Cond.selects "TinWall" ({ cls := "TinWall", name := "rule", desc := "()I" } : Jvm.MethodName) ({ cls := "TinWall", name := "rule", desc := "()I" } : Jvm.MethodName)) ∈ kn_all := kn_t3 (List.mem_of_getElem? (i := 45) rfl) rfl
theorem q3_46 : (Jvm.Cond.code ({ cls := "TinWall", name := "rule", desc := "()I" } : Jvm.MethodName) prog_1_method_6_code (2 : Nat) (Option.some Jvm.ClassFile.FieldType.int)) ∈ kn_all := kn_t3 (List.mem_of_getElem? (i := 46) rfl) rfl
theorem q3_47 : (Jvm.Cond.methodLink "TinWall" (91 : Nat) ({ cls := "TinWall$RuleReader", name := "read", desc := "([II)I" } : Jvm.MethodName)) ∈ kn_all := kn_t3 (List.mem_of_getElem? (i := 47) rfl) rfl
theorem q3_48 : (Jvm.Cond.instanceMethod ({ cls := "TinWall$RuleReader", name := "read", desc := "([II)I" } : Jvm.MethodName)) ∈ kn_all := kn_t3 (List.mem_of_getElem? (i := 48) rfl) rfl
theorem q3_49 : (Jvm.Cond.selects "TinWall$RuleReader" ({ cls := "TinWall$RuleReader", name := "read", desc := "([II)I" } : Jvm.MethodName) ({ cls := "TinWall$RuleReader", name := "read", desc := "([II)I" } : Jvm.MethodName)) ∈ kn_all := kn_t3 (List.mem_of_getElem? (i := 49) rfl) rfl
theorem q3_50 : (Jvm.Cond.code ({ cls := "TinWall$RuleReader", name := "read", desc := "([II)I" } : Jvm.MethodName) prog_6_method_2_code (5 : Nat) (Option.some Jvm.ClassFile.FieldType.int)) ∈ kn_all := kn_t3 (List.mem_of_getElem? (i := 50) rfl) rfl
theorem q3_51 : (Jvm.Cond.methodLink "TinWall$RuleReader" (25 : Nat) ({ cls := "TinWall$Reader", name := "open", desc := "([II)V" } : Jvm.MethodName)) ∈ kn_all := kn_t3 (List.mem_of_getElem? (i := 51) rfl) rfl
theorem q3_52 : (Jvm.Cond.methodLink "TinWall$RuleReader" (29 : Nat) ({ cls := "TinWall$Rule", name := "clear", desc := "()V" } : Jvm.MethodName)) ∈ kn_all := kn_t3 (List.mem_of_getElem? (i := 52) rfl) rfl
theorem q3_53 : (Jvm.Cond.instanceMethod ({ cls := "TinWall$Rule", name := "clear", desc := "()V" } : Jvm.MethodName)) ∈ kn_all := kn_t3 (List.mem_of_getElem? (i := 53) rfl) rfl
theorem q3_54 : (Jvm.Cond.selects "TinWall$Rule" ({ cls := "TinWall$Rule", name := "clear", desc := "()V" } : Jvm.MethodName) ({ cls := "TinWall$Rule", name := "clear", desc := "()V" } : Jvm.MethodName)) ∈ kn_all := kn_t3 (List.mem_of_getElem? (i := 54) rfl) rfl
theorem q3_55 : (Jvm.Cond.code ({ cls := "TinWall$Rule", name := "clear", desc := "()V" } : Jvm.MethodName) prog_5_method_2_code (1 : Nat) (Option.none : Option Jvm.ClassFile.FieldType)) ∈ kn_all := kn_t3 (List.mem_of_getElem? (i := 55) rfl) rfl
theorem q3_56 : (Jvm.Cond.methodLink "TinWall$RuleReader" (36 : Nat) ({ cls := "TinWall$RuleReader", name := "beginClause", desc := "(I)V" } : Jvm.MethodName)) ∈ kn_all := kn_t3 (List.mem_of_getElem? (i := 56) rfl) rfl
theorem q3_58 : (Jvm.Cond.instanceMethod ({ cls := "TinWall$RuleReader", name := "beginClause", desc := "(I)V" } : Jvm.MethodName)) ∈ kn_all := kn_t3 (List.mem_of_getElem? (i := 58) rfl) rfl
theorem q3_59 : (Jvm.Cond.code ({ cls := "TinWall$RuleReader", name := "beginClause", desc := "(I)V" } : Jvm.MethodName) prog_6_method_4_code (2 : Nat) (Option.none : Option Jvm.ClassFile.FieldType)) ∈ kn_all := kn_t3 (List.mem_of_getElem? (i := 59) rfl) rfl
theorem q3_61 : (Jvm.Cond.methodLink "TinWall$RuleReader" (67 : Nat) ({ cls := "TinWall$Reader", name := "word", desc := "(Ljava/lang/String;)I" } : Jvm.MethodName)) ∈ kn_all := kn_t3 (List.mem_of_getElem? (i := 61) rfl) rfl
theorem q3_62 : (Jvm.Cond.methodLink "TinWall$RuleReader" (74 : Nat) ({ cls := "TinWall$Reader", name := "failAt", desc := "(II)V" } : Jvm.MethodName)) ∈ kn_all := kn_t3 (List.mem_of_getElem? (i := 62) rfl) rfl
theorem q3_63 : (Jvm.Cond.methodLink "TinWall$RuleReader" (48 : Nat) ({ cls := "TinWall$Reader", name := "takeWord", desc := "(Ljava/lang/String;)Z" } : Jvm.MethodName)) ∈ kn_all := kn_t3 (List.mem_of_getElem? (i := 63) rfl) rfl
theorem q3_64 : (Jvm.Cond.instanceMethod ({ cls := "TinWall$Reader", name := "takeWord", desc := "(Ljava/lang/String;)Z" } : Jvm.MethodName)) ∈ kn_all := kn_t3 (List.mem_of_getElem? (i := 64) rfl) rfl
theorem q3_65 : (Jvm.Cond.selects "TinWall$Reader" ({ cls := "TinWall$Reader", name := "takeWord", desc := "(Ljava/lang/String;)Z" } : Jvm.MethodName) ({ cls := "TinWall$Reader", name := "takeWord", desc := "(Ljava/lang/String;)Z" } : Jvm.MethodName)) ∈ kn_all := kn_t3 (List.mem_of_getElem? (i := 65) rfl) rfl
theorem q3_66 : (Jvm.Cond.code ({ cls := "TinWall$Reader", name := "takeWord", desc := "(Ljava/lang/String;)Z" } : Jvm.MethodName) prog_4_method_12_code (3 : Nat) (Option.some Jvm.ClassFile.FieldType.boolean)) ∈ kn_all := kn_t3 (List.mem_of_getElem? (i := 66) rfl) rfl
theorem q3_67 : (Jvm.Cond.methodLink "TinWall$Reader" (65 : Nat) ({ cls := "TinWall$Reader", name := "word", desc := "(Ljava/lang/String;)I" } : Jvm.MethodName)) ∈ kn_all := kn_t3 (List.mem_of_getElem? (i := 67) rfl) rfl
theorem q3_68 : (Jvm.Cond.methodLink "TinWall$RuleReader" (40 : Nat) ({ cls := "TinWall$RuleReader", name := "readSum", desc := "()V" } : Jvm.MethodName)) ∈ kn_all := kn_t3 (List.mem_of_getElem? (i := 68) rfl) rfl
theorem q3_70 : (Jvm.Cond.instanceMethod ({ cls := "TinWall$RuleReader", name := "readSum", desc := "()V" } : Jvm.MethodName)) ∈ kn_all := kn_t3 (List.mem_of_getElem? (i := 70) rfl) rfl
theorem q3_71 : (Jvm.Cond.code ({ cls := "TinWall$RuleReader", name := "readSum", desc := "()V" } : Jvm.MethodName) prog_6_method_8_code (4 : Nat) (Option.none : Option Jvm.ClassFile.FieldType)) ∈ kn_all := kn_t3 (List.mem_of_getElem? (i := 71) rfl) rfl
theorem q3_72 : (Jvm.Cond.methodLink "TinWall$RuleReader" (113 : Nat) ({ cls := "TinWall$RuleReader", name := "readValue", desc := "()V" } : Jvm.MethodName)) ∈ kn_all := kn_t3 (List.mem_of_getElem? (i := 72) rfl) rfl
theorem q3_74 : (Jvm.Cond.instanceMethod ({ cls := "TinWall$RuleReader", name := "readValue", desc := "()V" } : Jvm.MethodName)) ∈ kn_all := kn_t3 (List.mem_of_getElem? (i := 74) rfl) rfl
theorem q3_75 : (Jvm.Cond.code ({ cls := "TinWall$RuleReader", name := "readValue", desc := "()V" } : Jvm.MethodName) prog_6_method_9_code (4 : Nat) (Option.none : Option Jvm.ClassFile.FieldType)) ∈ kn_all := kn_t3 (List.mem_of_getElem? (i := 75) rfl) rfl
theorem q3_76 : (Jvm.Cond.methodLink "TinWall$RuleReader" (88 : Nat) ({ cls := "TinWall$Reader", name := "next", desc := "()I" } : Jvm.MethodName)) ∈ kn_all := kn_t3 (List.mem_of_getElem? (i := 76) rfl) rfl
theorem q3_77 : (Jvm.Cond.methodLink "TinWall$RuleReader" (123 : Nat) ({ cls := "TinWall$Reader", name := "isDigit", desc := "(I)Z" } : Jvm.MethodName)) ∈ kn_all := kn_t3 (List.mem_of_getElem? (i := 77) rfl) rfl
theorem q3_79 : (Jvm.Cond.constant "TinWall$RuleReader" (129 : Nat) (99999 : Int32)) ∈ kn_all := kn_t3 (List.mem_of_getElem? (i := 79) rfl) rfl
theorem q3_80 : (Jvm.Cond.methodLink "TinWall$RuleReader" (130 : Nat) ({ cls := "TinWall$Reader", name := "number", desc := "(II)I" } : Jvm.MethodName)) ∈ kn_all := kn_t3 (List.mem_of_getElem? (i := 80) rfl) rfl
theorem q3_81 : (Jvm.Cond.methodLink "TinWall$RuleReader" (81 : Nat) ({ cls := "TinWall$Rule", name := "put", desc := "(I)V" } : Jvm.MethodName)) ∈ kn_all := kn_t3 (List.mem_of_getElem? (i := 81) rfl) rfl
theorem q3_82 : (Jvm.Cond.instanceMethod ({ cls := "TinWall$Rule", name := "put", desc := "(I)V" } : Jvm.MethodName)) ∈ kn_all := kn_t3 (List.mem_of_getElem? (i := 82) rfl) rfl
theorem q3_83 : (Jvm.Cond.selects "TinWall$Rule" ({ cls := "TinWall$Rule", name := "put", desc := "(I)V" } : Jvm.MethodName) ({ cls := "TinWall$Rule", name := "put", desc := "(I)V" } : Jvm.MethodName)) ∈ kn_all := kn_t3 (List.mem_of_getElem? (i := 83) rfl) rfl
theorem q3_84 : (Jvm.Cond.code ({ cls := "TinWall$Rule", name := "put", desc := "(I)V" } : Jvm.MethodName) prog_5_method_3_code (2 : Nat) (Option.none : Option Jvm.ClassFile.FieldType)) ∈ kn_all := kn_t3 (List.mem_of_getElem? (i := 84) rfl) rfl
theorem q3_85 : (Jvm.Cond.methodLink "TinWall$RuleReader" (133 : Nat) ({ cls := "TinWall$Reader", name := "wordSize", desc := "()I" } : Jvm.MethodName)) ∈ kn_all := kn_t3 (List.mem_of_getElem? (i := 85) rfl) rfl
theorem q3_86 : (Jvm.Cond.methodLink "TinWall$RuleReader" (110 : Nat) ({ cls := "TinWall$Reader", name := "pass", desc := "(I)V" } : Jvm.MethodName)) ∈ kn_all := kn_t3 (List.mem_of_getElem? (i := 86) rfl) rfl
theorem q3_87 : (Jvm.Cond.methodLink "TinWall$RuleReader" (107 : Nat) ({ cls := "TinWall$RuleReader", name := "countAt", desc := "(I)V" } : Jvm.MethodName)) ∈ kn_all := kn_t3 (List.mem_of_getElem? (i := 87) rfl) rfl
theorem q3_89 : (Jvm.Cond.instanceMethod ({ cls := "TinWall$RuleReader", name := "countAt", desc := "(I)V" } : Jvm.MethodName)) ∈ kn_all := kn_t3 (List.mem_of_getElem? (i := 89) rfl) rfl
theorem q3_90 : (Jvm.Cond.code ({ cls := "TinWall$RuleReader", name := "countAt", desc := "(I)V" } : Jvm.MethodName) prog_6_method_10_code (2 : Nat) (Option.none : Option Jvm.ClassFile.FieldType)) ∈ kn_all := kn_t3 (List.mem_of_getElem? (i := 90) rfl) rfl
theorem q3_91 : (Jvm.Cond.methodLink "TinWall$RuleReader" (116 : Nat) ({ cls := "TinWall$RuleReader", name := "multiplier", desc := "(I)I" } : Jvm.MethodName)) ∈ kn_all := kn_t3 (List.mem_of_getElem? (i := 91) rfl) rfl
theorem q3_92 : (Jvm.Cond.static ({ cls := "TinWall$RuleReader", name := "multiplier", desc := "(I)I" } : Jvm.MethodName)) ∈ kn_all := kn_t3 (List.mem_of_getElem? (i := 92) rfl) rfl
theorem q3_93 : (Jvm.Cond.code ({ cls := "TinWall$RuleReader", name := "multiplier", desc := "(I)I" } : Jvm.MethodName) prog_6_method_12_code (1 : Nat) (Option.some Jvm.ClassFile.FieldType.int)) ∈ kn_all := kn_t3 (List.mem_of_getElem? (i := 93) rfl) rfl
theorem q3_94 : (Jvm.Cond.methodLink "TinWall$RuleReader" (120 : Nat) ({ cls := "TinWall$RuleReader", name := "adder", desc := "(I)I" } : Jvm.MethodName)) ∈ kn_all := kn_t3 (List.mem_of_getElem? (i := 94) rfl) rfl
theorem q3_95 : (Jvm.Cond.static ({ cls := "TinWall$RuleReader", name := "adder", desc := "(I)I" } : Jvm.MethodName)) ∈ kn_all := kn_t3 (List.mem_of_getElem? (i := 95) rfl) rfl
theorem q3_96 : (Jvm.Cond.code ({ cls := "TinWall$RuleReader", name := "adder", desc := "(I)I" } : Jvm.MethodName) prog_6_method_13_code (1 : Nat) (Option.some Jvm.ClassFile.FieldType.int)) ∈ kn_all := kn_t3 (List.mem_of_getElem? (i := 96) rfl) rfl
theorem q3_97 : (Jvm.Cond.methodLink "TinWall$RuleReader" (43 : Nat) ({ cls := "TinWall$Rule", name := "beginTest", desc := "()V" } : Jvm.MethodName)) ∈ kn_all := kn_t3 (List.mem_of_getElem? (i := 97) rfl) rfl
theorem q3_98 : (Jvm.Cond.instanceMethod ({ cls := "TinWall$Rule", name := "beginTest", desc := "()V" } : Jvm.MethodName)) ∈ kn_all := kn_t3 (List.mem_of_getElem? (i := 98) rfl) rfl
theorem q3_99 : (Jvm.Cond.selects "TinWall$Rule" ({ cls := "TinWall$Rule", name := "beginTest", desc := "()V" } : Jvm.MethodName) ({ cls := "TinWall$Rule", name := "beginTest", desc := "()V" } : Jvm.MethodName)) ∈ kn_all := kn_t3 (List.mem_of_getElem? (i := 99) rfl) rfl
theorem q3_100 : (Jvm.Cond.code ({ cls := "TinWall$Rule", name := "beginTest", desc := "()V" } : Jvm.MethodName) prog_5_method_4_code (1 : Nat) (Option.none : Option Jvm.ClassFile.FieldType)) ∈ kn_all := kn_t3 (List.mem_of_getElem? (i := 100) rfl) rfl
theorem q3_102 : (Jvm.Cond.methodLink "TinWall$RuleReader" (52 : Nat) ({ cls := "TinWall$RuleReader", name := "readTest", desc := "(I)V" } : Jvm.MethodName)) ∈ kn_all := kn_t3 (List.mem_of_getElem? (i := 102) rfl) rfl
theorem q3_104 : (Jvm.Cond.instanceMethod ({ cls := "TinWall$RuleReader", name := "readTest", desc := "(I)V" } : Jvm.MethodName)) ∈ kn_all := kn_t3 (List.mem_of_getElem? (i := 104) rfl) rfl
theorem q3_105 : (Jvm.Cond.code ({ cls := "TinWall$RuleReader", name := "readTest", desc := "(I)V" } : Jvm.MethodName) prog_6_method_5_code (5 : Nat) (Option.none : Option Jvm.ClassFile.FieldType)) ∈ kn_all := kn_t3 (List.mem_of_getElem? (i := 105) rfl) rfl
theorem q3_106 : (Jvm.Cond.methodLink "TinWall$RuleReader" (78 : Nat) ({ cls := "TinWall$RuleReader", name := "readFact", desc := "(I)V" } : Jvm.MethodName)) ∈ kn_all := kn_t3 (List.mem_of_getElem? (i := 106) rfl) rfl
theorem q3_108 : (Jvm.Cond.instanceMethod ({ cls := "TinWall$RuleReader", name := "readFact", desc := "(I)V" } : Jvm.MethodName)) ∈ kn_all := kn_t3 (List.mem_of_getElem? (i := 108) rfl) rfl
theorem q3_109 : (Jvm.Cond.code ({ cls := "TinWall$RuleReader", name := "readFact", desc := "(I)V" } : Jvm.MethodName) prog_6_method_6_code (5 : Nat) (Option.none : Option Jvm.ClassFile.FieldType)) ∈ kn_all := kn_t3 (List.mem_of_getElem? (i := 109) rfl) rfl
theorem q3_111 : (Jvm.Cond.methodLink "TinWall$RuleReader" (94 : Nat) ({ cls := "TinWall$Reader", name := "take", desc := "(I)V" } : Jvm.MethodName)) ∈ kn_all := kn_t3 (List.mem_of_getElem? (i := 111) rfl) rfl
theorem q3_112 : (Jvm.Cond.methodLink "TinWall$RuleReader" (97 : Nat) ({ cls := "TinWall$RuleReader", name := "readSign", desc := "()I" } : Jvm.MethodName)) ∈ kn_all := kn_t3 (List.mem_of_getElem? (i := 112) rfl) rfl
theorem q3_114 : (Jvm.Cond.instanceMethod ({ cls := "TinWall$RuleReader", name := "readSign", desc := "()I" } : Jvm.MethodName)) ∈ kn_all := kn_t3 (List.mem_of_getElem? (i := 114) rfl) rfl
theorem q3_115 : (Jvm.Cond.code ({ cls := "TinWall$RuleReader", name := "readSign", desc := "()I" } : Jvm.MethodName) prog_6_method_7_code (2 : Nat) (Option.some Jvm.ClassFile.FieldType.int)) ∈ kn_all := kn_t3 (List.mem_of_getElem? (i := 115) rfl) rfl
theorem q3_116 : (Jvm.Cond.methodLink "TinWall$RuleReader" (100 : Nat) ({ cls := "TinWall$Reader", name := "behind", desc := "()I" } : Jvm.MethodName)) ∈ kn_all := kn_t3 (List.mem_of_getElem? (i := 116) rfl) rfl
theorem q3_117 : (Jvm.Cond.instanceMethod ({ cls := "TinWall$Reader", name := "behind", desc := "()I" } : Jvm.MethodName)) ∈ kn_all := kn_t3 (List.mem_of_getElem? (i := 117) rfl) rfl
theorem q3_118 : (Jvm.Cond.selects "TinWall$Reader" ({ cls := "TinWall$Reader", name := "behind", desc := "()I" } : Jvm.MethodName) ({ cls := "TinWall$Reader", name := "behind", desc := "()I" } : Jvm.MethodName)) ∈ kn_all := kn_t3 (List.mem_of_getElem? (i := 118) rfl) rfl
theorem q3_119 : (Jvm.Cond.code ({ cls := "TinWall$Reader", name := "behind", desc := "()I" } : Jvm.MethodName) prog_4_method_5_code (1 : Nat) (Option.some Jvm.ClassFile.FieldType.int)) ∈ kn_all := kn_t3 (List.mem_of_getElem? (i := 119) rfl) rfl
theorem q3_120 : (Jvm.Cond.methodLink "TinWall$RuleReader" (103 : Nat) ({ cls := "TinWall$RuleReader", name := "comparison", desc := "(II)I" } : Jvm.MethodName)) ∈ kn_all := kn_t3 (List.mem_of_getElem? (i := 120) rfl) rfl
theorem q3_121 : (Jvm.Cond.static ({ cls := "TinWall$RuleReader", name := "comparison", desc := "(II)I" } : Jvm.MethodName)) ∈ kn_all := kn_t3 (List.mem_of_getElem? (i := 121) rfl) rfl
theorem q3_122 : (Jvm.Cond.code ({ cls := "TinWall$RuleReader", name := "comparison", desc := "(II)I" } : Jvm.MethodName) prog_6_method_11_code (2 : Nat) (Option.some Jvm.ClassFile.FieldType.int)) ∈ kn_all := kn_t3 (List.mem_of_getElem? (i := 122) rfl) rfl
theorem q3_125 : (Jvm.Cond.methodLink "TinWall$RuleReader" (55 : Nat) ({ cls := "TinWall$Rule", name := "endClause", desc := "()V" } : Jvm.MethodName)) ∈ kn_all := kn_t3 (List.mem_of_getElem? (i := 125) rfl) rfl
theorem q3_126 : (Jvm.Cond.instanceMethod ({ cls := "TinWall$Rule", name := "endClause", desc := "()V" } : Jvm.MethodName)) ∈ kn_all := kn_t3 (List.mem_of_getElem? (i := 126) rfl) rfl
theorem q3_127 : (Jvm.Cond.selects "TinWall$Rule" ({ cls := "TinWall$Rule", name := "endClause", desc := "()V" } : Jvm.MethodName) ({ cls := "TinWall$Rule", name := "endClause", desc := "()V" } : Jvm.MethodName)) ∈ kn_all := kn_t3 (List.mem_of_getElem? (i := 127) rfl) rfl
theorem q3_128 : (Jvm.Cond.code ({ cls := "TinWall$Rule", name := "endClause", desc := "()V" } : Jvm.MethodName) prog_5_method_5_code (1 : Nat) (Option.none : Option Jvm.ClassFile.FieldType)) ∈ kn_all := kn_t3 (List.mem_of_getElem? (i := 128) rfl) rfl
theorem q3_129 : (Jvm.Cond.methodLink "TinWall$RuleReader" (58 : Nat) ({ cls := "TinWall$Reader", name := "hasNextClause", desc := "()Z" } : Jvm.MethodName)) ∈ kn_all := kn_t3 (List.mem_of_getElem? (i := 129) rfl) rfl
theorem q3_130 : (Jvm.Cond.methodLink "TinWall" (94 : Nat) ({ cls := "TinWall$RuleReader", name := "handOver", desc := "()LTinWall$Rule;" } : Jvm.MethodName)) ∈ kn_all := kn_t3 (List.mem_of_getElem? (i := 130) rfl) rfl
theorem q3_131 : (Jvm.Cond.instanceMethod ({ cls := "TinWall$RuleReader", name := "handOver", desc := "()LTinWall$Rule;" } : Jvm.MethodName)) ∈ kn_all := kn_t3 (List.mem_of_getElem? (i := 131) rfl) rfl
theorem q3_132 : (Jvm.Cond.selects "TinWall$RuleReader" ({ cls := "TinWall$RuleReader", name := "handOver", desc := "()LTinWall$Rule;" } : Jvm.MethodName) ({ cls := "TinWall$RuleReader", name := "handOver", desc := "()LTinWall$Rule;" } : Jvm.MethodName)) ∈ kn_all := kn_t3 (List.mem_of_getElem? (i := 132) rfl) rfl
theorem q3_133 : (Jvm.Cond.code ({ cls := "TinWall$RuleReader", name := "handOver", desc := "()LTinWall$Rule;" } : Jvm.MethodName) prog_6_method_3_code (2 : Nat) (Option.some (Jvm.ClassFile.FieldType.object "TinWall$Rule"))) ∈ kn_all := kn_t3 (List.mem_of_getElem? (i := 133) rfl) rfl
theorem q3_134 : (Jvm.Cond.methodLink "TinWallLaw" (32 : Nat) ({ cls := "TinWall", name := "force", desc := "(I)I" } : Jvm.MethodName)) ∈ kn_all := kn_t3 (List.mem_of_getElem? (i := 134) rfl) rfl
theorem q3_135 : (Jvm.Cond.instanceMethod ({ cls := "TinWall", name := "force", desc := "(I)I" } : Jvm.MethodName)) ∈ kn_all := kn_t3 (List.mem_of_getElem? (i := 135) rfl) rfl
theorem q3_136 : (Jvm.Cond.selects "TinWall" ({ cls := "TinWall", name := "force", desc := "(I)I" } : Jvm.MethodName) ({ cls := "TinWall", name := "force", desc := "(I)I" } : Jvm.MethodName)) ∈ kn_all := kn_t3 (List.mem_of_getElem? (i := 136) rfl) rfl
theorem q3_137 : (Jvm.Cond.code ({ cls := "TinWall", name := "force", desc := "(I)I" } : Jvm.MethodName) prog_1_method_7_code (3 : Nat) (Option.some Jvm.ClassFile.FieldType.int)) ∈ kn_all := kn_t3 (List.mem_of_getElem? (i := 137) rfl) rfl
theorem q3_138 : (Jvm.Cond.methodLink "TinWallLaw" (36 : Nat) ({ cls := "TinWall", name := "stone", desc := "(II)I" } : Jvm.MethodName)) ∈ kn_all := kn_t3 (List.mem_of_getElem? (i := 138) rfl) rfl
theorem q3_139 : (Jvm.Cond.instanceMethod ({ cls := "TinWall", name := "stone", desc := "(II)I" } : Jvm.MethodName)) ∈ kn_all := kn_t3 (List.mem_of_getElem? (i := 139) rfl) rfl
theorem q3_140 : (Jvm.Cond.selects "TinWall" ({ cls := "TinWall", name := "stone", desc := "(II)I" } : Jvm.MethodName) ({ cls := "TinWall", name := "stone", desc := "(II)I" } : Jvm.MethodName)) ∈ kn_all := kn_t3 (List.mem_of_getElem? (i := 140) rfl) rfl
theorem q3_141 : (Jvm.Cond.code ({ cls := "TinWall", name := "stone", desc := "(II)I" } : Jvm.MethodName) prog_1_method_8_code (3 : Nat) (Option.some Jvm.ClassFile.FieldType.int)) ∈ kn_all := kn_t3 (List.mem_of_getElem? (i := 141) rfl) rfl
theorem q3_142 : (Jvm.Cond.methodLink "TinWall" (101 : Nat) ({ cls := "TinWall", name := "hasStone", desc := "(I)Z" } : Jvm.MethodName)) ∈ kn_all := kn_t3 (List.mem_of_getElem? (i := 142) rfl) rfl
theorem q3_144 : (Jvm.Cond.instanceMethod ({ cls := "TinWall", name := "hasStone", desc := "(I)Z" } : Jvm.MethodName)) ∈ kn_all := kn_t3 (List.mem_of_getElem? (i := 144) rfl) rfl
theorem q3_145 : (Jvm.Cond.code ({ cls := "TinWall", name := "hasStone", desc := "(I)Z" } : Jvm.MethodName) prog_1_method_37_code (2 : Nat) (Option.some Jvm.ClassFile.FieldType.boolean)) ∈ kn_all := kn_t3 (List.mem_of_getElem? (i := 145) rfl) rfl
theorem q3_146 : (Jvm.Cond.methodLink "TinWall" (124 : Nat) ({ cls := "TinWall$State", name := "triedBy", desc := "(I)I" } : Jvm.MethodName)) ∈ kn_all := kn_t3 (List.mem_of_getElem? (i := 146) rfl) rfl
theorem q3_147 : (Jvm.Cond.instanceMethod ({ cls := "TinWall$State", name := "triedBy", desc := "(I)I" } : Jvm.MethodName)) ∈ kn_all := kn_t3 (List.mem_of_getElem? (i := 147) rfl) rfl
theorem q3_148 : (Jvm.Cond.selects "TinWall$State" ({ cls := "TinWall$State", name := "triedBy", desc := "(I)I" } : Jvm.MethodName) ({ cls := "TinWall$State", name := "triedBy", desc := "(I)I" } : Jvm.MethodName)) ∈ kn_all := kn_t3 (List.mem_of_getElem? (i := 148) rfl) rfl
theorem q3_149 : (Jvm.Cond.code ({ cls := "TinWall$State", name := "triedBy", desc := "(I)I" } : Jvm.MethodName) prog_8_method_7_code (4 : Nat) (Option.some Jvm.ClassFile.FieldType.int)) ∈ kn_all := kn_t3 (List.mem_of_getElem? (i := 149) rfl) rfl
theorem q3_150 : (Jvm.Cond.methodLink "TinWallLaw" (41 : Nat) ({ cls := "TinWall", name := "seeker", desc := "(II)I" } : Jvm.MethodName)) ∈ kn_all := kn_t3 (List.mem_of_getElem? (i := 150) rfl) rfl
theorem q3_151 : (Jvm.Cond.instanceMethod ({ cls := "TinWall", name := "seeker", desc := "(II)I" } : Jvm.MethodName)) ∈ kn_all := kn_t3 (List.mem_of_getElem? (i := 151) rfl) rfl
theorem q3_152 : (Jvm.Cond.selects "TinWall" ({ cls := "TinWall", name := "seeker", desc := "(II)I" } : Jvm.MethodName) ({ cls := "TinWall", name := "seeker", desc := "(II)I" } : Jvm.MethodName)) ∈ kn_all := kn_t3 (List.mem_of_getElem? (i := 152) rfl) rfl
theorem q3_153 : (Jvm.Cond.code ({ cls := "TinWall", name := "seeker", desc := "(II)I" } : Jvm.MethodName) prog_1_method_9_code (3 : Nat) (Option.some Jvm.ClassFile.FieldType.int)) ∈ kn_all := kn_t3 (List.mem_of_getElem? (i := 153) rfl) rfl
theorem q3_154 : (Jvm.Cond.methodLink "TinWall" (128 : Nat) ({ cls := "TinWall", name := "hasSeeker", desc := "(I)Z" } : Jvm.MethodName)) ∈ kn_all := kn_t3 (List.mem_of_getElem? (i := 154) rfl) rfl
theorem q3_156 : (Jvm.Cond.instanceMethod ({ cls := "TinWall", name := "hasSeeker", desc := "(I)Z" } : Jvm.MethodName)) ∈ kn_all := kn_t3 (List.mem_of_getElem? (i := 156) rfl) rfl
theorem q3_157 : (Jvm.Cond.code ({ cls := "TinWall", name := "hasSeeker", desc := "(I)Z" } : Jvm.MethodName) prog_1_method_38_code (2 : Nat) (Option.some Jvm.ClassFile.FieldType.boolean)) ∈ kn_all := kn_t3 (List.mem_of_getElem? (i := 157) rfl) rfl
theorem q3_158 : (Jvm.Cond.methodLink "TinWallLaw" (45 : Nat) ({ cls := "TinWall", name := "thing", desc := "(I)I" } : Jvm.MethodName)) ∈ kn_all := kn_t3 (List.mem_of_getElem? (i := 158) rfl) rfl
theorem q3_159 : (Jvm.Cond.instanceMethod ({ cls := "TinWall", name := "thing", desc := "(I)I" } : Jvm.MethodName)) ∈ kn_all := kn_t3 (List.mem_of_getElem? (i := 159) rfl) rfl
theorem q3_160 : (Jvm.Cond.selects "TinWall" ({ cls := "TinWall", name := "thing", desc := "(I)I" } : Jvm.MethodName) ({ cls := "TinWall", name := "thing", desc := "(I)I" } : Jvm.MethodName)) ∈ kn_all := kn_t3 (List.mem_of_getElem? (i := 160) rfl) rfl
theorem q3_161 : (Jvm.Cond.code ({ cls := "TinWall", name := "thing", desc := "(I)I" } : Jvm.MethodName) prog_1_method_10_code (2 : Nat) (Option.some Jvm.ClassFile.FieldType.int)) ∈ kn_all := kn_t3 (List.mem_of_getElem? (i := 161) rfl) rfl
theorem q3_162 : (Jvm.Cond.methodLink "TinWallLaw" (49 : Nat) ({ cls := "TinWall", name := "day", desc := "()I" } : Jvm.MethodName)) ∈ kn_all := kn_t3 (List.mem_of_getElem? (i := 162) rfl) rfl
theorem q3_163 : (Jvm.Cond.instanceMethod ({ cls := "TinWall", name := "day", desc := "()I" } : Jvm.MethodName)) ∈ kn_all := kn_t3 (List.mem_of_getElem? (i := 163) rfl) rfl
theorem q3_164 : (Jvm.Cond.selects "TinWall" ({ cls := "TinWall", name := "day", desc := "()I" } : Jvm.MethodName) ({ cls := "TinWall", name := "day", desc := "()I" } : Jvm.MethodName)) ∈ kn_all := kn_t3 (List.mem_of_getElem? (i := 164) rfl) rfl
theorem q3_165 : (Jvm.Cond.code ({ cls := "TinWall", name := "day", desc := "()I" } : Jvm.MethodName) prog_1_method_11_code (1 : Nat) (Option.some Jvm.ClassFile.FieldType.int)) ∈ kn_all := kn_t3 (List.mem_of_getElem? (i := 165) rfl) rfl
theorem q3_166 : (Jvm.Cond.methodLink "TinWall" (165 : Nat) ({ cls := "TinWall$Scene", name := "remember", desc := "()V" } : Jvm.MethodName)) ∈ kn_all := kn_t3 (List.mem_of_getElem? (i := 166) rfl) rfl
theorem q3_167 : (Jvm.Cond.instanceMethod ({ cls := "TinWall$Scene", name := "remember", desc := "()V" } : Jvm.MethodName)) ∈ kn_all := kn_t3 (List.mem_of_getElem? (i := 167) rfl) rfl
theorem q3_168 : (Jvm.Cond.selects "TinWall$Scene" ({ cls := "TinWall$Scene", name := "remember", desc := "()V" } : Jvm.MethodName) ({ cls := "TinWall$Scene", name := "remember", desc := "()V" } : Jvm.MethodName)) ∈ kn_all := kn_t3 (List.mem_of_getElem? (i := 168) rfl) rfl
theorem q3_169 : (Jvm.Cond.code ({ cls := "TinWall$Scene", name := "remember", desc := "()V" } : Jvm.MethodName) prog_7_method_4_code (1 : Nat) (Option.none : Option Jvm.ClassFile.FieldType)) ∈ kn_all := kn_t3 (List.mem_of_getElem? (i := 169) rfl) rfl
theorem q3_170 : (Jvm.Cond.methodLink "TinWall$Scene" (53 : Nat) ({ cls := "TinWall$State", name := "copy", desc := "(LTinWall$State;)V" } : Jvm.MethodName)) ∈ kn_all := kn_t3 (List.mem_of_getElem? (i := 170) rfl) rfl
theorem q3_171 : (Jvm.Cond.instanceMethod ({ cls := "TinWall$State", name := "copy", desc := "(LTinWall$State;)V" } : Jvm.MethodName)) ∈ kn_all := kn_t3 (List.mem_of_getElem? (i := 171) rfl) rfl
theorem q3_172 : (Jvm.Cond.selects "TinWall$State" ({ cls := "TinWall$State", name := "copy", desc := "(LTinWall$State;)V" } : Jvm.MethodName) ({ cls := "TinWall$State", name := "copy", desc := "(LTinWall$State;)V" } : Jvm.MethodName)) ∈ kn_all := kn_t3 (List.mem_of_getElem? (i := 172) rfl) rfl
theorem q3_173 : (Jvm.Cond.code ({ cls := "TinWall$State", name := "copy", desc := "(LTinWall$State;)V" } : Jvm.MethodName) prog_8_method_3_code (2 : Nat) (Option.none : Option Jvm.ClassFile.FieldType)) ∈ kn_all := kn_t3 (List.mem_of_getElem? (i := 173) rfl) rfl
theorem q3_174 : (Jvm.Cond.methodLink "TinWall$Scene" (66 : Nat) ({ cls := "java/lang/Math", name := "min", desc := "(II)I" } : Jvm.MethodName)) ∈ kn_all := kn_t3 (List.mem_of_getElem? (i := 174) rfl) rfl
theorem q3_175 : (Jvm.Cond.methodLink "TinWall" (168 : Nat) ({ cls := "TinWall", name := "ruleInForce", desc := "()LTinWall$Rule;" } : Jvm.MethodName)) ∈ kn_all := kn_t3 (List.mem_of_getElem? (i := 175) rfl) rfl
theorem q3_177 : (Jvm.Cond.instanceMethod ({ cls := "TinWall", name := "ruleInForce", desc := "()LTinWall$Rule;" } : Jvm.MethodName)) ∈ kn_all := kn_t3 (List.mem_of_getElem? (i := 177) rfl) rfl
theorem q3_178 : (Jvm.Cond.code ({ cls := "TinWall", name := "ruleInForce", desc := "()LTinWall$Rule;" } : Jvm.MethodName) prog_1_method_41_code (1 : Nat) (Option.some (Jvm.ClassFile.FieldType.object "TinWall$Rule"))) ∈ kn_all := kn_t3 (List.mem_of_getElem? (i := 178) rfl) rfl
theorem q3_179 : (Jvm.Cond.methodLink "TinWall" (293 : Nat) ({ cls := "TinWall", name := "ruleOf", desc := "(I)LTinWall$Rule;" } : Jvm.MethodName)) ∈ kn_all := kn_t3 (List.mem_of_getElem? (i := 179) rfl) rfl
theorem q3_181 : (Jvm.Cond.instanceMethod ({ cls := "TinWall", name := "ruleOf", desc := "(I)LTinWall$Rule;" } : Jvm.MethodName)) ∈ kn_all := kn_t3 (List.mem_of_getElem? (i := 181) rfl) rfl
theorem q3_182 : (Jvm.Cond.code ({ cls := "TinWall", name := "ruleOf", desc := "(I)LTinWall$Rule;" } : Jvm.MethodName) prog_1_method_42_code (2 : Nat) (Option.some (Jvm.ClassFile.FieldType.object "TinWall$Rule"))) ∈ kn_all := kn_t3 (List.mem_of_getElem? (i := 182) rfl) rfl
theorem q3_183 : (Jvm.Cond.methodLink "TinWall" (171 : Nat) ({ cls := "TinWall$Walk", name := "pass", desc := "(LTinWall$Hill;LTinWall$Rule;LTinWall$State;Z)I" } : Jvm.MethodName)) ∈ kn_all := kn_t3 (List.mem_of_getElem? (i := 183) rfl) rfl
theorem q3_184 : (Jvm.Cond.instanceMethod ({ cls := "TinWall$Walk", name := "pass", desc := "(LTinWall$Hill;LTinWall$Rule;LTinWall$State;Z)I" } : Jvm.MethodName)) ∈ kn_all := kn_t3 (List.mem_of_getElem? (i := 184) rfl) rfl
theorem q3_185 : (Jvm.Cond.selects "TinWall$Walk" ({ cls := "TinWall$Walk", name := "pass", desc := "(LTinWall$Hill;LTinWall$Rule;LTinWall$State;Z)I" } : Jvm.MethodName) ({ cls := "TinWall$Walk", name := "pass", desc := "(LTinWall$Hill;LTinWall$Rule;LTinWall$State;Z)I" } : Jvm.MethodName)) ∈ kn_all := kn_t3 (List.mem_of_getElem? (i := 185) rfl) rfl
theorem q3_186 : (Jvm.Cond.code ({ cls := "TinWall$Walk", name := "pass", desc := "(LTinWall$Hill;LTinWall$Rule;LTinWall$State;Z)I" } : Jvm.MethodName) prog_9_method_2_code (7 : Nat) (Option.some Jvm.ClassFile.FieldType.int)) ∈ kn_all := kn_t3 (List.mem_of_getElem? (i := 186) rfl) rfl
theorem q3_187 : (Jvm.Cond.methodLink "TinWall$Walk" (35 : Nat) ({ cls := "TinWall$Walk", name := "look", desc := "(LTinWall$Hill;LTinWall$Rule;LTinWall$State;I)V" } : Jvm.MethodName)) ∈ kn_all := kn_t3 (List.mem_of_getElem? (i := 187) rfl) rfl
theorem q3_188 : (Jvm.Cond.instanceMethod ({ cls := "TinWall$Walk", name := "look", desc := "(LTinWall$Hill;LTinWall$Rule;LTinWall$State;I)V" } : Jvm.MethodName)) ∈ kn_all := kn_t3 (List.mem_of_getElem? (i := 188) rfl) rfl
theorem q3_189 : (Jvm.Cond.selects "TinWall$Walk" ({ cls := "TinWall$Walk", name := "look", desc := "(LTinWall$Hill;LTinWall$Rule;LTinWall$State;I)V" } : Jvm.MethodName) ({ cls := "TinWall$Walk", name := "look", desc := "(LTinWall$Hill;LTinWall$Rule;LTinWall$State;I)V" } : Jvm.MethodName)) ∈ kn_all := kn_t3 (List.mem_of_getElem? (i := 189) rfl) rfl
theorem q3_190 : (Jvm.Cond.code ({ cls := "TinWall$Walk", name := "look", desc := "(LTinWall$Hill;LTinWall$Rule;LTinWall$State;I)V" } : Jvm.MethodName) prog_9_method_3_code (9 : Nat) (Option.none : Option Jvm.ClassFile.FieldType)) ∈ kn_all := kn_t3 (List.mem_of_getElem? (i := 190) rfl) rfl
theorem q3_191 : (Jvm.Cond.methodLink "TinWall$Walk" (80 : Nat) ({ cls := "TinWall$Walk", name := "setSeekerWords", desc := "(LTinWall$Hill;LTinWall$State;I)V" } : Jvm.MethodName)) ∈ kn_all := kn_t3 (List.mem_of_getElem? (i := 191) rfl) rfl
theorem q3_193 : (Jvm.Cond.instanceMethod ({ cls := "TinWall$Walk", name := "setSeekerWords", desc := "(LTinWall$Hill;LTinWall$State;I)V" } : Jvm.MethodName)) ∈ kn_all := kn_t3 (List.mem_of_getElem? (i := 193) rfl) rfl
theorem q3_194 : (Jvm.Cond.code ({ cls := "TinWall$Walk", name := "setSeekerWords", desc := "(LTinWall$Hill;LTinWall$State;I)V" } : Jvm.MethodName) prog_9_method_4_code (4 : Nat) (Option.none : Option Jvm.ClassFile.FieldType)) ∈ kn_all := kn_t3 (List.mem_of_getElem? (i := 194) rfl) rfl
theorem q3_195 : (Jvm.Cond.methodLink "TinWall$Walk" (111 : Nat) ({ cls := "TinWall$State", name := "finders", desc := "()I" } : Jvm.MethodName)) ∈ kn_all := kn_t3 (List.mem_of_getElem? (i := 195) rfl) rfl
theorem q3_196 : (Jvm.Cond.instanceMethod ({ cls := "TinWall$State", name := "finders", desc := "()I" } : Jvm.MethodName)) ∈ kn_all := kn_t3 (List.mem_of_getElem? (i := 196) rfl) rfl
theorem q3_197 : (Jvm.Cond.selects "TinWall$State" ({ cls := "TinWall$State", name := "finders", desc := "()I" } : Jvm.MethodName) ({ cls := "TinWall$State", name := "finders", desc := "()I" } : Jvm.MethodName)) ∈ kn_all := kn_t3 (List.mem_of_getElem? (i := 197) rfl) rfl
theorem q3_198 : (Jvm.Cond.code ({ cls := "TinWall$State", name := "finders", desc := "()I" } : Jvm.MethodName) prog_8_method_5_code (1 : Nat) (Option.some Jvm.ClassFile.FieldType.int)) ∈ kn_all := kn_t3 (List.mem_of_getElem? (i := 198) rfl) rfl
theorem q3_199 : (Jvm.Cond.methodLink "TinWall$State" (52 : Nat) ({ cls := "TinWall$State", name := "finderBits", desc := "()I" } : Jvm.MethodName)) ∈ kn_all := kn_t3 (List.mem_of_getElem? (i := 199) rfl) rfl
theorem q3_200 : (Jvm.Cond.instanceMethod ({ cls := "TinWall$State", name := "finderBits", desc := "()I" } : Jvm.MethodName)) ∈ kn_all := kn_t3 (List.mem_of_getElem? (i := 200) rfl) rfl
theorem q3_201 : (Jvm.Cond.selects "TinWall$State" ({ cls := "TinWall$State", name := "finderBits", desc := "()I" } : Jvm.MethodName) ({ cls := "TinWall$State", name := "finderBits", desc := "()I" } : Jvm.MethodName)) ∈ kn_all := kn_t3 (List.mem_of_getElem? (i := 201) rfl) rfl
theorem q3_202 : (Jvm.Cond.code ({ cls := "TinWall$State", name := "finderBits", desc := "()I" } : Jvm.MethodName) prog_8_method_4_code (3 : Nat) (Option.some Jvm.ClassFile.FieldType.int)) ∈ kn_all := kn_t3 (List.mem_of_getElem? (i := 202) rfl) rfl
theorem q3_203 : (Jvm.Cond.methodLink "TinWall$State" (56 : Nat) ({ cls := "java/lang/Integer", name := "bitCount", desc := "(I)I" } : Jvm.MethodName)) ∈ kn_all := kn_t3 (List.mem_of_getElem? (i := 203) rfl) rfl
theorem q3_204 : (Jvm.Cond.static ({ cls := "java/lang/Integer", name := "bitCount", desc := "(I)I" } : Jvm.MethodName)) ∈ kn_all := kn_t3 (List.mem_of_getElem? (i := 204) rfl) rfl
theorem q3_205 : (Jvm.Cond.code ({ cls := "java/lang/Integer", name := "bitCount", desc := "(I)I" } : Jvm.MethodName) prog_12_method_49_code (1 : Nat) (Option.some Jvm.ClassFile.FieldType.int)) ∈ kn_all := kn_t3 (List.mem_of_getElem? (i := 205) rfl) rfl
theorem q3_206 : (Jvm.Cond.constant "java/lang/Integer" (265 : Nat) (1431655765 : Int32)) ∈ kn_all := kn_t3 (List.mem_of_getElem? (i := 206) rfl) rfl
theorem q3_207 : (Jvm.Cond.constant "java/lang/Integer" (266 : Nat) (858993459 : Int32)) ∈ kn_all := kn_t3 (List.mem_of_getElem? (i := 207) rfl) rfl
theorem q3_208 : (Jvm.Cond.constant "java/lang/Integer" (267 : Nat) (252645135 : Int32)) ∈ kn_all := kn_t3 (List.mem_of_getElem? (i := 208) rfl) rfl
theorem q3_209 : (Jvm.Cond.methodLink "TinWall$Walk" (86 : Nat) ({ cls := "TinWall$Walk", name := "rate", desc := "(LTinWall$Hill;LTinWall$Rule;LTinWall$State;II)J" } : Jvm.MethodName)) ∈ kn_all := kn_t3 (List.mem_of_getElem? (i := 209) rfl) rfl
theorem q3_211 : (Jvm.Cond.instanceMethod ({ cls := "TinWall$Walk", name := "rate", desc := "(LTinWall$Hill;LTinWall$Rule;LTinWall$State;II)J" } : Jvm.MethodName)) ∈ kn_all := kn_t3 (List.mem_of_getElem? (i := 211) rfl) rfl
theorem q3_212 : (Jvm.Cond.code ({ cls := "TinWall$Walk", name := "rate", desc := "(LTinWall$Hill;LTinWall$Rule;LTinWall$State;II)J" } : Jvm.MethodName) prog_9_method_5_code (7 : Nat) (Option.some Jvm.ClassFile.FieldType.long)) ∈ kn_all := kn_t3 (List.mem_of_getElem? (i := 212) rfl) rfl
theorem q3_213 : (Jvm.Cond.methodLink "TinWall$Walk" (118 : Nat) ({ cls := "java/lang/Math", name := "abs", desc := "(I)I" } : Jvm.MethodName)) ∈ kn_all := kn_t3 (List.mem_of_getElem? (i := 213) rfl) rfl
theorem q3_214 : (Jvm.Cond.static ({ cls := "java/lang/Math", name := "abs", desc := "(I)I" } : Jvm.MethodName)) ∈ kn_all := kn_t3 (List.mem_of_getElem? (i := 214) rfl) rfl
theorem q3_215 : (Jvm.Cond.code ({ cls := "java/lang/Math", name := "abs", desc := "(I)I" } : Jvm.MethodName) prog_13_method_59_code (1 : Nat) (Option.some Jvm.ClassFile.FieldType.int)) ∈ kn_all := kn_t3 (List.mem_of_getElem? (i := 215) rfl) rfl
theorem q3_216 : (Jvm.Cond.methodLink "TinWall$Walk" (99 : Nat) ({ cls := "TinWall$Hill", name := "minutes", desc := "(LTinWall$State;II)I" } : Jvm.MethodName)) ∈ kn_all := kn_t3 (List.mem_of_getElem? (i := 216) rfl) rfl
theorem q3_217 : (Jvm.Cond.instanceMethod ({ cls := "TinWall$Hill", name := "minutes", desc := "(LTinWall$State;II)I" } : Jvm.MethodName)) ∈ kn_all := kn_t3 (List.mem_of_getElem? (i := 217) rfl) rfl
theorem q3_218 : (Jvm.Cond.selects "TinWall$Hill" ({ cls := "TinWall$Hill", name := "minutes", desc := "(LTinWall$State;II)I" } : Jvm.MethodName) ({ cls := "TinWall$Hill", name := "minutes", desc := "(LTinWall$State;II)I" } : Jvm.MethodName)) ∈ kn_all := kn_t3 (List.mem_of_getElem? (i := 218) rfl) rfl
theorem q3_219 : (Jvm.Cond.code ({ cls := "TinWall$Hill", name := "minutes", desc := "(LTinWall$State;II)I" } : Jvm.MethodName) prog_2_method_2_code (4 : Nat) (Option.some Jvm.ClassFile.FieldType.int)) ∈ kn_all := kn_t3 (List.mem_of_getElem? (i := 219) rfl) rfl
theorem q3_220 : (Jvm.Cond.methodLink "TinWall$Hill" (48 : Nat) ({ cls := "java/lang/Math", name := "max", desc := "(II)I" } : Jvm.MethodName)) ∈ kn_all := kn_t3 (List.mem_of_getElem? (i := 220) rfl) rfl
theorem q3_221 : (Jvm.Cond.static ({ cls := "java/lang/Math", name := "max", desc := "(II)I" } : Jvm.MethodName)) ∈ kn_all := kn_t3 (List.mem_of_getElem? (i := 221) rfl) rfl
theorem q3_222 : (Jvm.Cond.code ({ cls := "java/lang/Math", name := "max", desc := "(II)I" } : Jvm.MethodName) prog_13_method_65_code (2 : Nat) (Option.some Jvm.ClassFile.FieldType.int)) ∈ kn_all := kn_t3 (List.mem_of_getElem? (i := 222) rfl) rfl
theorem q3_223 : (Jvm.Cond.methodLink "TinWall$Walk" (134 : Nat) ({ cls := "TinWall$Rule", name := "sum", desc := "([J)J" } : Jvm.MethodName)) ∈ kn_all := kn_t3 (List.mem_of_getElem? (i := 223) rfl) rfl
theorem q3_224 : (Jvm.Cond.instanceMethod ({ cls := "TinWall$Rule", name := "sum", desc := "([J)J" } : Jvm.MethodName)) ∈ kn_all := kn_t3 (List.mem_of_getElem? (i := 224) rfl) rfl
theorem q3_225 : (Jvm.Cond.selects "TinWall$Rule" ({ cls := "TinWall$Rule", name := "sum", desc := "([J)J" } : Jvm.MethodName) ({ cls := "TinWall$Rule", name := "sum", desc := "([J)J" } : Jvm.MethodName)) ∈ kn_all := kn_t3 (List.mem_of_getElem? (i := 225) rfl) rfl
theorem q3_226 : (Jvm.Cond.code ({ cls := "TinWall$Rule", name := "sum", desc := "([J)J" } : Jvm.MethodName) prog_5_method_6_code (4 : Nat) (Option.some Jvm.ClassFile.FieldType.long)) ∈ kn_all := kn_t3 (List.mem_of_getElem? (i := 226) rfl) rfl
theorem q3_227 : (Jvm.Cond.methodLink "TinWall$Rule" (32 : Nat) ({ cls := "TinWall$Rule", name := "run", desc := "(II[J)J" } : Jvm.MethodName)) ∈ kn_all := kn_t3 (List.mem_of_getElem? (i := 227) rfl) rfl
theorem q3_229 : (Jvm.Cond.instanceMethod ({ cls := "TinWall$Rule", name := "run", desc := "(II[J)J" } : Jvm.MethodName)) ∈ kn_all := kn_t3 (List.mem_of_getElem? (i := 229) rfl) rfl
theorem q3_230 : (Jvm.Cond.code ({ cls := "TinWall$Rule", name := "run", desc := "(II[J)J" } : Jvm.MethodName) prog_5_method_7_code (7 : Nat) (Option.some Jvm.ClassFile.FieldType.long)) ∈ kn_all := kn_t3 (List.mem_of_getElem? (i := 230) rfl) rfl
theorem q3_231 : (Jvm.Cond.methodLink "TinWall$Rule" (36 : Nat) ({ cls := "TinWall$Rule", name := "joined", desc := "(IJJ)J" } : Jvm.MethodName)) ∈ kn_all := kn_t3 (List.mem_of_getElem? (i := 231) rfl) rfl
theorem q3_232 : (Jvm.Cond.static ({ cls := "TinWall$Rule", name := "joined", desc := "(IJJ)J" } : Jvm.MethodName)) ∈ kn_all := kn_t3 (List.mem_of_getElem? (i := 232) rfl) rfl
theorem q3_233 : (Jvm.Cond.code ({ cls := "TinWall$Rule", name := "joined", desc := "(IJJ)J" } : Jvm.MethodName) prog_5_method_8_code (5 : Nat) (Option.some Jvm.ClassFile.FieldType.long)) ∈ kn_all := kn_t3 (List.mem_of_getElem? (i := 233) rfl) rfl
theorem q3_234 : (Jvm.Cond.methodLink "TinWall$Walk" (96 : Nat) ({ cls := "TinWall$Walk", name := "bestOf", desc := "(II)I" } : Jvm.MethodName)) ∈ kn_all := kn_t3 (List.mem_of_getElem? (i := 234) rfl) rfl
theorem q3_236 : (Jvm.Cond.instanceMethod ({ cls := "TinWall$Walk", name := "bestOf", desc := "(II)I" } : Jvm.MethodName)) ∈ kn_all := kn_t3 (List.mem_of_getElem? (i := 236) rfl) rfl
theorem q3_237 : (Jvm.Cond.code ({ cls := "TinWall$Walk", name := "bestOf", desc := "(II)I" } : Jvm.MethodName) prog_9_method_6_code (6 : Nat) (Option.some Jvm.ClassFile.FieldType.int)) ∈ kn_all := kn_t3 (List.mem_of_getElem? (i := 237) rfl) rfl
theorem q3_238 : (Jvm.Cond.methodLink "TinWall$Walk" (39 : Nat) ({ cls := "TinWall$Walk", name := "leaveTraces", desc := "(LTinWall$State;I)V" } : Jvm.MethodName)) ∈ kn_all := kn_t3 (List.mem_of_getElem? (i := 238) rfl) rfl
theorem q4_0 : (Jvm.Cond.instanceMethod ({ cls := "TinWall$Walk", name := "leaveTraces", desc := "(LTinWall$State;I)V" } : Jvm.MethodName)) ∈ kn_all := kn_t4 (List.mem_of_getElem? (i := 0) rfl) rfl
theorem q4_1 : (Jvm.Cond.code ({ cls := "TinWall$Walk", name := "leaveTraces", desc := "(LTinWall$State;I)V" } : Jvm.MethodName) prog_9_method_7_code (5 : Nat) (Option.none : Option Jvm.ClassFile.FieldType)) ∈ kn_all := kn_t4 (List.mem_of_getElem? (i := 1) rfl) rfl
theorem q4_2 : (Jvm.Cond.methodLink "TinWall$Walk" (63 : Nat) ({ cls := "java/lang/Math", name := "min", desc := "(II)I" } : Jvm.MethodName)) ∈ kn_all := kn_t4 (List.mem_of_getElem? (i := 2) rfl) rfl
theorem q4_3 : (Jvm.Cond.methodLink "TinWall$Walk" (50 : Nat) ({ cls := "TinWall$Walk", name := "swap", desc := "(LTinWall$Hill;LTinWall$State;I)V" } : Jvm.MethodName)) ∈ kn_all := kn_t4 (List.mem_of_getElem? (i := 3) rfl) rfl
theorem q4_4 : (Jvm.Cond.static ({ cls := "TinWall$Walk", name := "swap", desc := "(LTinWall$Hill;LTinWall$State;I)V" } : Jvm.MethodName)) ∈ kn_all := kn_t4 (List.mem_of_getElem? (i := 4) rfl) rfl
theorem q4_5 : (Jvm.Cond.code ({ cls := "TinWall$Walk", name := "swap", desc := "(LTinWall$Hill;LTinWall$State;I)V" } : Jvm.MethodName) prog_9_method_8_code (5 : Nat) (Option.none : Option Jvm.ClassFile.FieldType)) ∈ kn_all := kn_t4 (List.mem_of_getElem? (i := 5) rfl) rfl
theorem q4_6 : (Jvm.Cond.methodLink "TinWall$Walk" (57 : Nat) ({ cls := "TinWall$Walk", name := "putBack", desc := "(LTinWall$Hill;LTinWall$State;I)V" } : Jvm.MethodName)) ∈ kn_all := kn_t4 (List.mem_of_getElem? (i := 6) rfl) rfl
theorem q4_7 : (Jvm.Cond.static ({ cls := "TinWall$Walk", name := "putBack", desc := "(LTinWall$Hill;LTinWall$State;I)V" } : Jvm.MethodName)) ∈ kn_all := kn_t4 (List.mem_of_getElem? (i := 7) rfl) rfl
theorem q4_8 : (Jvm.Cond.code ({ cls := "TinWall$Walk", name := "putBack", desc := "(LTinWall$Hill;LTinWall$State;I)V" } : Jvm.MethodName) prog_9_method_9_code (3 : Nat) (Option.none : Option Jvm.ClassFile.FieldType)) ∈ kn_all := kn_t4 (List.mem_of_getElem? (i := 8) rfl) rfl
theorem q4_9 : (Jvm.Cond.methodLink "TinWall$Walk" (69 : Nat) ({ cls := "TinWall$Hill", name := "walkersCome", desc := "(I)Z" } : Jvm.MethodName)) ∈ kn_all := kn_t4 (List.mem_of_getElem? (i := 9) rfl) rfl
theorem q4_10 : (Jvm.Cond.instanceMethod ({ cls := "TinWall$Hill", name := "walkersCome", desc := "(I)Z" } : Jvm.MethodName)) ∈ kn_all := kn_t4 (List.mem_of_getElem? (i := 10) rfl) rfl
theorem q4_11 : (Jvm.Cond.selects "TinWall$Hill" ({ cls := "TinWall$Hill", name := "walkersCome", desc := "(I)Z" } : Jvm.MethodName) ({ cls := "TinWall$Hill", name := "walkersCome", desc := "(I)Z" } : Jvm.MethodName)) ∈ kn_all := kn_t4 (List.mem_of_getElem? (i := 11) rfl) rfl
theorem q4_12 : (Jvm.Cond.code ({ cls := "TinWall$Hill", name := "walkersCome", desc := "(I)Z" } : Jvm.MethodName) prog_2_method_3_code (3 : Nat) (Option.some Jvm.ClassFile.FieldType.boolean)) ∈ kn_all := kn_t4 (List.mem_of_getElem? (i := 12) rfl) rfl
theorem q4_13 : (Jvm.Cond.methodLink "TinWall$Walk" (73 : Nat) ({ cls := "TinWall$Walk", name := "isSeen", desc := "(LTinWall$Hill;LTinWall$State;)Z" } : Jvm.MethodName)) ∈ kn_all := kn_t4 (List.mem_of_getElem? (i := 13) rfl) rfl
theorem q4_14 : (Jvm.Cond.static ({ cls := "TinWall$Walk", name := "isSeen", desc := "(LTinWall$Hill;LTinWall$State;)Z" } : Jvm.MethodName)) ∈ kn_all := kn_t4 (List.mem_of_getElem? (i := 14) rfl) rfl
theorem q4_15 : (Jvm.Cond.code ({ cls := "TinWall$Walk", name := "isSeen", desc := "(LTinWall$Hill;LTinWall$State;)Z" } : Jvm.MethodName) prog_9_method_10_code (3 : Nat) (Option.some Jvm.ClassFile.FieldType.boolean)) ∈ kn_all := kn_t4 (List.mem_of_getElem? (i := 15) rfl) rfl
theorem q4_16 : (Jvm.Cond.methodLink "TinWallLaw" (53 : Nat) ({ cls := "TinWall", name := "hide", desc := "(I)I" } : Jvm.MethodName)) ∈ kn_all := kn_t4 (List.mem_of_getElem? (i := 16) rfl) rfl
theorem q4_17 : (Jvm.Cond.instanceMethod ({ cls := "TinWall", name := "hide", desc := "(I)I" } : Jvm.MethodName)) ∈ kn_all := kn_t4 (List.mem_of_getElem? (i := 17) rfl) rfl
theorem q4_18 : (Jvm.Cond.selects "TinWall" ({ cls := "TinWall", name := "hide", desc := "(I)I" } : Jvm.MethodName) ({ cls := "TinWall", name := "hide", desc := "(I)I" } : Jvm.MethodName)) ∈ kn_all := kn_t4 (List.mem_of_getElem? (i := 18) rfl) rfl
theorem q4_19 : (Jvm.Cond.code ({ cls := "TinWall", name := "hide", desc := "(I)I" } : Jvm.MethodName) prog_1_method_12_code (3 : Nat) (Option.some Jvm.ClassFile.FieldType.int)) ∈ kn_all := kn_t4 (List.mem_of_getElem? (i := 19) rfl) rfl
theorem q4_20 : (Jvm.Cond.methodLink "TinWallLaw" (57 : Nat) ({ cls := "TinWall", name := "rest", desc := "(I)I" } : Jvm.MethodName)) ∈ kn_all := kn_t4 (List.mem_of_getElem? (i := 20) rfl) rfl
theorem q4_21 : (Jvm.Cond.instanceMethod ({ cls := "TinWall", name := "rest", desc := "(I)I" } : Jvm.MethodName)) ∈ kn_all := kn_t4 (List.mem_of_getElem? (i := 21) rfl) rfl
theorem q4_22 : (Jvm.Cond.selects "TinWall" ({ cls := "TinWall", name := "rest", desc := "(I)I" } : Jvm.MethodName) ({ cls := "TinWall", name := "rest", desc := "(I)I" } : Jvm.MethodName)) ∈ kn_all := kn_t4 (List.mem_of_getElem? (i := 22) rfl) rfl
theorem q4_23 : (Jvm.Cond.code ({ cls := "TinWall", name := "rest", desc := "(I)I" } : Jvm.MethodName) prog_1_method_13_code (3 : Nat) (Option.some Jvm.ClassFile.FieldType.int)) ∈ kn_all := kn_t4 (List.mem_of_getElem? (i := 23) rfl) rfl
theorem q4_24 : (Jvm.Cond.methodLink "TinWallLaw" (61 : Nat) ({ cls := "TinWall", name := "figure", desc := "(I)I" } : Jvm.MethodName)) ∈ kn_all := kn_t4 (List.mem_of_getElem? (i := 24) rfl) rfl
theorem q4_25 : (Jvm.Cond.instanceMethod ({ cls := "TinWall", name := "figure", desc := "(I)I" } : Jvm.MethodName)) ∈ kn_all := kn_t4 (List.mem_of_getElem? (i := 25) rfl) rfl
theorem q4_26 : (Jvm.Cond.selects "TinWall" ({ cls := "TinWall", name := "figure", desc := "(I)I" } : Jvm.MethodName) ({ cls := "TinWall", name := "figure", desc := "(I)I" } : Jvm.MethodName)) ∈ kn_all := kn_t4 (List.mem_of_getElem? (i := 26) rfl) rfl
theorem q4_27 : (Jvm.Cond.code ({ cls := "TinWall", name := "figure", desc := "(I)I" } : Jvm.MethodName) prog_1_method_14_code (3 : Nat) (Option.some Jvm.ClassFile.FieldType.int)) ∈ kn_all := kn_t4 (List.mem_of_getElem? (i := 27) rfl) rfl
theorem q4_28 : (Jvm.Cond.methodLink "TinWallLaw" (65 : Nat) ({ cls := "TinWall", name := "forget", desc := "(I)I" } : Jvm.MethodName)) ∈ kn_all := kn_t4 (List.mem_of_getElem? (i := 28) rfl) rfl
theorem q4_29 : (Jvm.Cond.instanceMethod ({ cls := "TinWall", name := "forget", desc := "(I)I" } : Jvm.MethodName)) ∈ kn_all := kn_t4 (List.mem_of_getElem? (i := 29) rfl) rfl
theorem q4_30 : (Jvm.Cond.selects "TinWall" ({ cls := "TinWall", name := "forget", desc := "(I)I" } : Jvm.MethodName) ({ cls := "TinWall", name := "forget", desc := "(I)I" } : Jvm.MethodName)) ∈ kn_all := kn_t4 (List.mem_of_getElem? (i := 30) rfl) rfl
theorem q4_31 : (Jvm.Cond.code ({ cls := "TinWall", name := "forget", desc := "(I)I" } : Jvm.MethodName) prog_1_method_15_code (3 : Nat) (Option.some Jvm.ClassFile.FieldType.int)) ∈ kn_all := kn_t4 (List.mem_of_getElem? (i := 31) rfl) rfl
theorem q4_32 : (Jvm.Cond.methodLink "TinWallLaw" (69 : Nat) ({ cls := "TinWall", name := "undo", desc := "()I" } : Jvm.MethodName)) ∈ kn_all := kn_t4 (List.mem_of_getElem? (i := 32) rfl) rfl
theorem q4_33 : (Jvm.Cond.instanceMethod ({ cls := "TinWall", name := "undo", desc := "()I" } : Jvm.MethodName)) ∈ kn_all := kn_t4 (List.mem_of_getElem? (i := 33) rfl) rfl
theorem q4_34 : (Jvm.Cond.selects "TinWall" ({ cls := "TinWall", name := "undo", desc := "()I" } : Jvm.MethodName) ({ cls := "TinWall", name := "undo", desc := "()I" } : Jvm.MethodName)) ∈ kn_all := kn_t4 (List.mem_of_getElem? (i := 34) rfl) rfl
theorem q4_35 : (Jvm.Cond.code ({ cls := "TinWall", name := "undo", desc := "()I" } : Jvm.MethodName) prog_1_method_16_code (1 : Nat) (Option.some Jvm.ClassFile.FieldType.int)) ∈ kn_all := kn_t4 (List.mem_of_getElem? (i := 35) rfl) rfl
theorem q4_36 : (Jvm.Cond.methodLink "TinWall" (181 : Nat) ({ cls := "TinWall$Scene", name := "takeBack", desc := "()Z" } : Jvm.MethodName)) ∈ kn_all := kn_t4 (List.mem_of_getElem? (i := 36) rfl) rfl
theorem q4_37 : (Jvm.Cond.instanceMethod ({ cls := "TinWall$Scene", name := "takeBack", desc := "()Z" } : Jvm.MethodName)) ∈ kn_all := kn_t4 (List.mem_of_getElem? (i := 37) rfl) rfl
theorem q4_38 : (Jvm.Cond.selects "TinWall$Scene" ({ cls := "TinWall$Scene", name := "takeBack", desc := "()Z" } : Jvm.MethodName) ({ cls := "TinWall$Scene", name := "takeBack", desc := "()Z" } : Jvm.MethodName)) ∈ kn_all := kn_t4 (List.mem_of_getElem? (i := 38) rfl) rfl
theorem q4_39 : (Jvm.Cond.code ({ cls := "TinWall$Scene", name := "takeBack", desc := "()Z" } : Jvm.MethodName) prog_7_method_5_code (1 : Nat) (Option.some Jvm.ClassFile.FieldType.boolean)) ∈ kn_all := kn_t4 (List.mem_of_getElem? (i := 39) rfl) rfl
theorem q4_40 : (Jvm.Cond.methodLink "TinWallLaw" (73 : Nat) ({ cls := "TinWall", name := "ahead", desc := "(III)I" } : Jvm.MethodName)) ∈ kn_all := kn_t4 (List.mem_of_getElem? (i := 40) rfl) rfl
theorem q4_41 : (Jvm.Cond.instanceMethod ({ cls := "TinWall", name := "ahead", desc := "(III)I" } : Jvm.MethodName)) ∈ kn_all := kn_t4 (List.mem_of_getElem? (i := 41) rfl) rfl
theorem q4_42 : (Jvm.Cond.selects "TinWall" ({ cls := "TinWall", name := "ahead", desc := "(III)I" } : Jvm.MethodName) ({ cls := "TinWall", name := "ahead", desc := "(III)I" } : Jvm.MethodName)) ∈ kn_all := kn_t4 (List.mem_of_getElem? (i := 42) rfl) rfl
theorem q4_43 : (Jvm.Cond.code ({ cls := "TinWall", name := "ahead", desc := "(III)I" } : Jvm.MethodName) prog_1_method_17_code (4 : Nat) (Option.some Jvm.ClassFile.FieldType.int)) ∈ kn_all := kn_t4 (List.mem_of_getElem? (i := 43) rfl) rfl
theorem q4_44 : (Jvm.Cond.methodLink "TinWall" (188 : Nat) ({ cls := "TinWall$State", name := "copy", desc := "(LTinWall$State;)V" } : Jvm.MethodName)) ∈ kn_all := kn_t4 (List.mem_of_getElem? (i := 44) rfl) rfl
theorem q4_45 : (Jvm.Cond.methodLink "TinWall" (192 : Nat) ({ cls := "TinWall", name := "goOn", desc := "(I)I" } : Jvm.MethodName)) ∈ kn_all := kn_t4 (List.mem_of_getElem? (i := 45) rfl) rfl
theorem q4_47 : (Jvm.Cond.instanceMethod ({ cls := "TinWall", name := "goOn", desc := "(I)I" } : Jvm.MethodName)) ∈ kn_all := kn_t4 (List.mem_of_getElem? (i := 47) rfl) rfl
theorem q4_48 : (Jvm.Cond.code ({ cls := "TinWall", name := "goOn", desc := "(I)I" } : Jvm.MethodName) prog_1_method_43_code (5 : Nat) (Option.some Jvm.ClassFile.FieldType.int)) ∈ kn_all := kn_t4 (List.mem_of_getElem? (i := 48) rfl) rfl
theorem q4_49 : (Jvm.Cond.methodLink "TinWallLaw" (78 : Nat) ({ cls := "TinWall", name := "today", desc := "(II)I" } : Jvm.MethodName)) ∈ kn_all := kn_t4 (List.mem_of_getElem? (i := 49) rfl) rfl
theorem q4_50 : (Jvm.Cond.instanceMethod ({ cls := "TinWall", name := "today", desc := "(II)I" } : Jvm.MethodName)) ∈ kn_all := kn_t4 (List.mem_of_getElem? (i := 50) rfl) rfl
theorem q4_51 : (Jvm.Cond.selects "TinWall" ({ cls := "TinWall", name := "today", desc := "(II)I" } : Jvm.MethodName) ({ cls := "TinWall", name := "today", desc := "(II)I" } : Jvm.MethodName)) ∈ kn_all := kn_t4 (List.mem_of_getElem? (i := 51) rfl) rfl
theorem q4_52 : (Jvm.Cond.code ({ cls := "TinWall", name := "today", desc := "(II)I" } : Jvm.MethodName) prog_1_method_18_code (3 : Nat) (Option.some Jvm.ClassFile.FieldType.int)) ∈ kn_all := kn_t4 (List.mem_of_getElem? (i := 52) rfl) rfl
theorem q4_53 : (Jvm.Cond.methodLink "TinWall" (195 : Nat) ({ cls := "TinWall$Walk", name := "look", desc := "(LTinWall$Hill;LTinWall$Rule;LTinWall$State;I)V" } : Jvm.MethodName)) ∈ kn_all := kn_t4 (List.mem_of_getElem? (i := 53) rfl) rfl
theorem q4_54 : (Jvm.Cond.methodLink "TinWallLaw" (82 : Nat) ({ cls := "TinWall", name := "first", desc := "(I)I" } : Jvm.MethodName)) ∈ kn_all := kn_t4 (List.mem_of_getElem? (i := 54) rfl) rfl
theorem q4_55 : (Jvm.Cond.instanceMethod ({ cls := "TinWall", name := "first", desc := "(I)I" } : Jvm.MethodName)) ∈ kn_all := kn_t4 (List.mem_of_getElem? (i := 55) rfl) rfl
theorem q4_56 : (Jvm.Cond.selects "TinWall" ({ cls := "TinWall", name := "first", desc := "(I)I" } : Jvm.MethodName) ({ cls := "TinWall", name := "first", desc := "(I)I" } : Jvm.MethodName)) ∈ kn_all := kn_t4 (List.mem_of_getElem? (i := 56) rfl) rfl
theorem q4_57 : (Jvm.Cond.code ({ cls := "TinWall", name := "first", desc := "(I)I" } : Jvm.MethodName) prog_1_method_19_code (4 : Nat) (Option.some Jvm.ClassFile.FieldType.int)) ∈ kn_all := kn_t4 (List.mem_of_getElem? (i := 57) rfl) rfl
theorem q4_58 : (Jvm.Cond.methodLink "TinWall" (208 : Nat) ({ cls := "TinWall", name := "isTold", desc := "(I)Z" } : Jvm.MethodName)) ∈ kn_all := kn_t4 (List.mem_of_getElem? (i := 58) rfl) rfl
theorem q4_60 : (Jvm.Cond.instanceMethod ({ cls := "TinWall", name := "isTold", desc := "(I)Z" } : Jvm.MethodName)) ∈ kn_all := kn_t4 (List.mem_of_getElem? (i := 60) rfl) rfl
theorem q4_61 : (Jvm.Cond.code ({ cls := "TinWall", name := "isTold", desc := "(I)Z" } : Jvm.MethodName) prog_1_method_40_code (2 : Nat) (Option.some Jvm.ClassFile.FieldType.boolean)) ∈ kn_all := kn_t4 (List.mem_of_getElem? (i := 61) rfl) rfl
theorem q4_62 : (Jvm.Cond.methodLink "TinWall" (233 : Nat) ({ cls := "TinWall", name := "isPart", desc := "(I)Z" } : Jvm.MethodName)) ∈ kn_all := kn_t4 (List.mem_of_getElem? (i := 62) rfl) rfl
theorem q4_63 : (Jvm.Cond.static ({ cls := "TinWall", name := "isPart", desc := "(I)Z" } : Jvm.MethodName)) ∈ kn_all := kn_t4 (List.mem_of_getElem? (i := 63) rfl) rfl
theorem q4_64 : (Jvm.Cond.code ({ cls := "TinWall", name := "isPart", desc := "(I)Z" } : Jvm.MethodName) prog_1_method_39_code (1 : Nat) (Option.some Jvm.ClassFile.FieldType.boolean)) ∈ kn_all := kn_t4 (List.mem_of_getElem? (i := 64) rfl) rfl
theorem q4_65 : (Jvm.Cond.methodLink "TinWall" (211 : Nat) ({ cls := "TinWall$State", name := "finderOn", desc := "(I)I" } : Jvm.MethodName)) ∈ kn_all := kn_t4 (List.mem_of_getElem? (i := 65) rfl) rfl
theorem q4_66 : (Jvm.Cond.instanceMethod ({ cls := "TinWall$State", name := "finderOn", desc := "(I)I" } : Jvm.MethodName)) ∈ kn_all := kn_t4 (List.mem_of_getElem? (i := 66) rfl) rfl
theorem q4_67 : (Jvm.Cond.selects "TinWall$State" ({ cls := "TinWall$State", name := "finderOn", desc := "(I)I" } : Jvm.MethodName) ({ cls := "TinWall$State", name := "finderOn", desc := "(I)I" } : Jvm.MethodName)) ∈ kn_all := kn_t4 (List.mem_of_getElem? (i := 67) rfl) rfl
theorem q4_68 : (Jvm.Cond.code ({ cls := "TinWall$State", name := "finderOn", desc := "(I)I" } : Jvm.MethodName) prog_8_method_6_code (3 : Nat) (Option.some Jvm.ClassFile.FieldType.int)) ∈ kn_all := kn_t4 (List.mem_of_getElem? (i := 68) rfl) rfl
theorem q4_69 : (Jvm.Cond.methodLink "TinWallLaw" (86 : Nat) ({ cls := "TinWall", name := "hiding", desc := "(II)I" } : Jvm.MethodName)) ∈ kn_all := kn_t4 (List.mem_of_getElem? (i := 69) rfl) rfl
theorem q4_70 : (Jvm.Cond.instanceMethod ({ cls := "TinWall", name := "hiding", desc := "(II)I" } : Jvm.MethodName)) ∈ kn_all := kn_t4 (List.mem_of_getElem? (i := 70) rfl) rfl
theorem q4_71 : (Jvm.Cond.selects "TinWall" ({ cls := "TinWall", name := "hiding", desc := "(II)I" } : Jvm.MethodName) ({ cls := "TinWall", name := "hiding", desc := "(II)I" } : Jvm.MethodName)) ∈ kn_all := kn_t4 (List.mem_of_getElem? (i := 71) rfl) rfl
theorem q4_72 : (Jvm.Cond.code ({ cls := "TinWall", name := "hiding", desc := "(II)I" } : Jvm.MethodName) prog_1_method_20_code (9 : Nat) (Option.some Jvm.ClassFile.FieldType.int)) ∈ kn_all := kn_t4 (List.mem_of_getElem? (i := 72) rfl) rfl
theorem q4_73 : (Jvm.Cond.methodLink "TinWall" (214 : Nat) ({ cls := "TinWall$State", name := "finders", desc := "()I" } : Jvm.MethodName)) ∈ kn_all := kn_t4 (List.mem_of_getElem? (i := 73) rfl) rfl
theorem q4_74 : (Jvm.Cond.methodLink "TinWallLaw" (106 : Nat) ({ cls := "TinWall", name := "worth", desc := "(I)I" } : Jvm.MethodName)) ∈ kn_all := kn_t4 (List.mem_of_getElem? (i := 74) rfl) rfl
theorem q4_75 : (Jvm.Cond.instanceMethod ({ cls := "TinWall", name := "worth", desc := "(I)I" } : Jvm.MethodName)) ∈ kn_all := kn_t4 (List.mem_of_getElem? (i := 75) rfl) rfl
theorem q4_76 : (Jvm.Cond.selects "TinWall" ({ cls := "TinWall", name := "worth", desc := "(I)I" } : Jvm.MethodName) ({ cls := "TinWall", name := "worth", desc := "(I)I" } : Jvm.MethodName)) ∈ kn_all := kn_t4 (List.mem_of_getElem? (i := 76) rfl) rfl
theorem q4_77 : (Jvm.Cond.code ({ cls := "TinWall", name := "worth", desc := "(I)I" } : Jvm.MethodName) prog_1_method_21_code (4 : Nat) (Option.some Jvm.ClassFile.FieldType.int)) ∈ kn_all := kn_t4 (List.mem_of_getElem? (i := 77) rfl) rfl
theorem q4_78 : (Jvm.Cond.methodLink "TinWallLaw" (110 : Nat) ({ cls := "TinWall", name := "wanders", desc := "(I)I" } : Jvm.MethodName)) ∈ kn_all := kn_t4 (List.mem_of_getElem? (i := 78) rfl) rfl
theorem q4_79 : (Jvm.Cond.instanceMethod ({ cls := "TinWall", name := "wanders", desc := "(I)I" } : Jvm.MethodName)) ∈ kn_all := kn_t4 (List.mem_of_getElem? (i := 79) rfl) rfl
theorem q4_80 : (Jvm.Cond.selects "TinWall" ({ cls := "TinWall", name := "wanders", desc := "(I)I" } : Jvm.MethodName) ({ cls := "TinWall", name := "wanders", desc := "(I)I" } : Jvm.MethodName)) ∈ kn_all := kn_t4 (List.mem_of_getElem? (i := 80) rfl) rfl
theorem q4_81 : (Jvm.Cond.code ({ cls := "TinWall", name := "wanders", desc := "(I)I" } : Jvm.MethodName) prog_1_method_22_code (4 : Nat) (Option.some Jvm.ClassFile.FieldType.int)) ∈ kn_all := kn_t4 (List.mem_of_getElem? (i := 81) rfl) rfl
theorem q4_82 : (Jvm.Cond.methodLink "TinWall" (218 : Nat) ({ cls := "TinWall", name := "bit", desc := "(I)I" } : Jvm.MethodName)) ∈ kn_all := kn_t4 (List.mem_of_getElem? (i := 82) rfl) rfl
theorem q4_83 : (Jvm.Cond.static ({ cls := "TinWall", name := "bit", desc := "(I)I" } : Jvm.MethodName)) ∈ kn_all := kn_t4 (List.mem_of_getElem? (i := 83) rfl) rfl
theorem q4_84 : (Jvm.Cond.code ({ cls := "TinWall", name := "bit", desc := "(I)I" } : Jvm.MethodName) prog_1_method_44_code (1 : Nat) (Option.some Jvm.ClassFile.FieldType.int)) ∈ kn_all := kn_t4 (List.mem_of_getElem? (i := 84) rfl) rfl
theorem q4_85 : (Jvm.Cond.methodLink "TinWall" (221 : Nat) ({ cls := "java/lang/Integer", name := "bitCount", desc := "(I)I" } : Jvm.MethodName)) ∈ kn_all := kn_t4 (List.mem_of_getElem? (i := 85) rfl) rfl
theorem q4_86 : (Jvm.Cond.methodLink "TinWallLaw" (114 : Nat) ({ cls := "TinWall", name := "shows", desc := "(I)I" } : Jvm.MethodName)) ∈ kn_all := kn_t4 (List.mem_of_getElem? (i := 86) rfl) rfl
theorem q4_87 : (Jvm.Cond.instanceMethod ({ cls := "TinWall", name := "shows", desc := "(I)I" } : Jvm.MethodName)) ∈ kn_all := kn_t4 (List.mem_of_getElem? (i := 87) rfl) rfl
theorem q4_88 : (Jvm.Cond.selects "TinWall" ({ cls := "TinWall", name := "shows", desc := "(I)I" } : Jvm.MethodName) ({ cls := "TinWall", name := "shows", desc := "(I)I" } : Jvm.MethodName)) ∈ kn_all := kn_t4 (List.mem_of_getElem? (i := 88) rfl) rfl
theorem q4_89 : (Jvm.Cond.code ({ cls := "TinWall", name := "shows", desc := "(I)I" } : Jvm.MethodName) prog_1_method_23_code (4 : Nat) (Option.some Jvm.ClassFile.FieldType.int)) ∈ kn_all := kn_t4 (List.mem_of_getElem? (i := 89) rfl) rfl
theorem q4_90 : (Jvm.Cond.methodLink "TinWall" (226 : Nat) ({ cls := "TinWall$State", name := "firstWorn", desc := "(LTinWall$Hill;)I" } : Jvm.MethodName)) ∈ kn_all := kn_t4 (List.mem_of_getElem? (i := 90) rfl) rfl
theorem q4_91 : (Jvm.Cond.instanceMethod ({ cls := "TinWall$State", name := "firstWorn", desc := "(LTinWall$Hill;)I" } : Jvm.MethodName)) ∈ kn_all := kn_t4 (List.mem_of_getElem? (i := 91) rfl) rfl
theorem q4_92 : (Jvm.Cond.selects "TinWall$State" ({ cls := "TinWall$State", name := "firstWorn", desc := "(LTinWall$Hill;)I" } : Jvm.MethodName) ({ cls := "TinWall$State", name := "firstWorn", desc := "(LTinWall$Hill;)I" } : Jvm.MethodName)) ∈ kn_all := kn_t4 (List.mem_of_getElem? (i := 92) rfl) rfl
theorem q4_93 : (Jvm.Cond.code ({ cls := "TinWall$State", name := "firstWorn", desc := "(LTinWall$Hill;)I" } : Jvm.MethodName) prog_8_method_8_code (3 : Nat) (Option.some Jvm.ClassFile.FieldType.int)) ∈ kn_all := kn_t4 (List.mem_of_getElem? (i := 93) rfl) rfl
theorem q4_94 : (Jvm.Cond.methodLink "TinWallLaw" (90 : Nat) ({ cls := "TinWall", name := "order", desc := "(II)I" } : Jvm.MethodName)) ∈ kn_all := kn_t4 (List.mem_of_getElem? (i := 94) rfl) rfl
theorem q4_95 : (Jvm.Cond.instanceMethod ({ cls := "TinWall", name := "order", desc := "(II)I" } : Jvm.MethodName)) ∈ kn_all := kn_t4 (List.mem_of_getElem? (i := 95) rfl) rfl
theorem q4_96 : (Jvm.Cond.selects "TinWall" ({ cls := "TinWall", name := "order", desc := "(II)I" } : Jvm.MethodName) ({ cls := "TinWall", name := "order", desc := "(II)I" } : Jvm.MethodName)) ∈ kn_all := kn_t4 (List.mem_of_getElem? (i := 96) rfl) rfl
theorem q4_97 : (Jvm.Cond.code ({ cls := "TinWall", name := "order", desc := "(II)I" } : Jvm.MethodName) prog_1_method_24_code (4 : Nat) (Option.some Jvm.ClassFile.FieldType.int)) ∈ kn_all := kn_t4 (List.mem_of_getElem? (i := 97) rfl) rfl
theorem q4_98 : (Jvm.Cond.methodLink "TinWall" (230 : Nat) ({ cls := "TinWall", name := "putInOrder", desc := "(I)I" } : Jvm.MethodName)) ∈ kn_all := kn_t4 (List.mem_of_getElem? (i := 98) rfl) rfl
theorem q4_100 : (Jvm.Cond.instanceMethod ({ cls := "TinWall", name := "putInOrder", desc := "(I)I" } : Jvm.MethodName)) ∈ kn_all := kn_t4 (List.mem_of_getElem? (i := 100) rfl) rfl
theorem q4_101 : (Jvm.Cond.code ({ cls := "TinWall", name := "putInOrder", desc := "(I)I" } : Jvm.MethodName) prog_1_method_46_code (5 : Nat) (Option.some Jvm.ClassFile.FieldType.int)) ∈ kn_all := kn_t4 (List.mem_of_getElem? (i := 101) rfl) rfl
theorem q4_102 : (Jvm.Cond.methodLink "TinWall" (303 : Nat) ({ cls := "TinWall", name := "isBetter", desc := "(III)Z" } : Jvm.MethodName)) ∈ kn_all := kn_t4 (List.mem_of_getElem? (i := 102) rfl) rfl
theorem q4_104 : (Jvm.Cond.instanceMethod ({ cls := "TinWall", name := "isBetter", desc := "(III)Z" } : Jvm.MethodName)) ∈ kn_all := kn_t4 (List.mem_of_getElem? (i := 104) rfl) rfl
theorem q4_105 : (Jvm.Cond.code ({ cls := "TinWall", name := "isBetter", desc := "(III)Z" } : Jvm.MethodName) prog_1_method_47_code (6 : Nat) (Option.some Jvm.ClassFile.FieldType.boolean)) ∈ kn_all := kn_t4 (List.mem_of_getElem? (i := 105) rfl) rfl
theorem q4_106 : (Jvm.Cond.methodLink "TinWall" (236 : Nat) ({ cls := "TinWall$Hill", name := "minutes", desc := "(LTinWall$State;II)I" } : Jvm.MethodName)) ∈ kn_all := kn_t4 (List.mem_of_getElem? (i := 106) rfl) rfl
theorem q4_107 : (Jvm.Cond.methodLink "TinWallLaw" (94 : Nat) ({ cls := "TinWall", name := "mean", desc := "(II)I" } : Jvm.MethodName)) ∈ kn_all := kn_t4 (List.mem_of_getElem? (i := 107) rfl) rfl
theorem q4_108 : (Jvm.Cond.instanceMethod ({ cls := "TinWall", name := "mean", desc := "(II)I" } : Jvm.MethodName)) ∈ kn_all := kn_t4 (List.mem_of_getElem? (i := 108) rfl) rfl
theorem q4_109 : (Jvm.Cond.selects "TinWall" ({ cls := "TinWall", name := "mean", desc := "(II)I" } : Jvm.MethodName) ({ cls := "TinWall", name := "mean", desc := "(II)I" } : Jvm.MethodName)) ∈ kn_all := kn_t4 (List.mem_of_getElem? (i := 109) rfl) rfl
theorem q4_110 : (Jvm.Cond.code ({ cls := "TinWall", name := "mean", desc := "(II)I" } : Jvm.MethodName) prog_1_method_25_code (9 : Nat) (Option.some Jvm.ClassFile.FieldType.int)) ∈ kn_all := kn_t4 (List.mem_of_getElem? (i := 110) rfl) rfl
theorem q4_111 : (Jvm.Cond.methodLink "TinWall" (239 : Nat) ({ cls := "TinWall", name := "ofLowestTerms", desc := "(III)I" } : Jvm.MethodName)) ∈ kn_all := kn_t4 (List.mem_of_getElem? (i := 111) rfl) rfl
theorem q4_112 : (Jvm.Cond.static ({ cls := "TinWall", name := "ofLowestTerms", desc := "(III)I" } : Jvm.MethodName)) ∈ kn_all := kn_t4 (List.mem_of_getElem? (i := 112) rfl) rfl
theorem q4_113 : (Jvm.Cond.code ({ cls := "TinWall", name := "ofLowestTerms", desc := "(III)I" } : Jvm.MethodName) prog_1_method_48_code (7 : Nat) (Option.some Jvm.ClassFile.FieldType.int)) ∈ kn_all := kn_t4 (List.mem_of_getElem? (i := 113) rfl) rfl
theorem q4_114 : (Jvm.Cond.methodLink "TinWallLaw" (98 : Nat) ({ cls := "TinWall", name := "gone", desc := "(I)I" } : Jvm.MethodName)) ∈ kn_all := kn_t4 (List.mem_of_getElem? (i := 114) rfl) rfl
theorem q4_115 : (Jvm.Cond.instanceMethod ({ cls := "TinWall", name := "gone", desc := "(I)I" } : Jvm.MethodName)) ∈ kn_all := kn_t4 (List.mem_of_getElem? (i := 115) rfl) rfl
theorem q4_116 : (Jvm.Cond.selects "TinWall" ({ cls := "TinWall", name := "gone", desc := "(I)I" } : Jvm.MethodName) ({ cls := "TinWall", name := "gone", desc := "(I)I" } : Jvm.MethodName)) ∈ kn_all := kn_t4 (List.mem_of_getElem? (i := 116) rfl) rfl
theorem q4_117 : (Jvm.Cond.code ({ cls := "TinWall", name := "gone", desc := "(I)I" } : Jvm.MethodName) prog_1_method_26_code (6 : Nat) (Option.some Jvm.ClassFile.FieldType.int)) ∈ kn_all := kn_t4 (List.mem_of_getElem? (i := 117) rfl) rfl
theorem q4_118 : (Jvm.Cond.methodLink "TinWallLaw" (102 : Nat) ({ cls := "TinWall", name := "hint", desc := "(I)I" } : Jvm.MethodName)) ∈ kn_all := kn_t4 (List.mem_of_getElem? (i := 118) rfl) rfl
theorem q4_119 : (Jvm.Cond.instanceMethod ({ cls := "TinWall", name := "hint", desc := "(I)I" } : Jvm.MethodName)) ∈ kn_all := kn_t4 (List.mem_of_getElem? (i := 119) rfl) rfl
theorem q4_120 : (Jvm.Cond.selects "TinWall" ({ cls := "TinWall", name := "hint", desc := "(I)I" } : Jvm.MethodName) ({ cls := "TinWall", name := "hint", desc := "(I)I" } : Jvm.MethodName)) ∈ kn_all := kn_t4 (List.mem_of_getElem? (i := 120) rfl) rfl
theorem q4_121 : (Jvm.Cond.code ({ cls := "TinWall", name := "hint", desc := "(I)I" } : Jvm.MethodName) prog_1_method_27_code (6 : Nat) (Option.some Jvm.ClassFile.FieldType.int)) ∈ kn_all := kn_t4 (List.mem_of_getElem? (i := 121) rfl) rfl
theorem q4_122 : (Jvm.Cond.methodLink "TinWall" (246 : Nat) ({ cls := "TinWall$Hill", name := "greaterPart", desc := "(I)I" } : Jvm.MethodName)) ∈ kn_all := kn_t4 (List.mem_of_getElem? (i := 122) rfl) rfl
theorem q4_123 : (Jvm.Cond.instanceMethod ({ cls := "TinWall$Hill", name := "greaterPart", desc := "(I)I" } : Jvm.MethodName)) ∈ kn_all := kn_t4 (List.mem_of_getElem? (i := 123) rfl) rfl
theorem q4_124 : (Jvm.Cond.selects "TinWall$Hill" ({ cls := "TinWall$Hill", name := "greaterPart", desc := "(I)I" } : Jvm.MethodName) ({ cls := "TinWall$Hill", name := "greaterPart", desc := "(I)I" } : Jvm.MethodName)) ∈ kn_all := kn_t4 (List.mem_of_getElem? (i := 124) rfl) rfl
theorem q4_125 : (Jvm.Cond.code ({ cls := "TinWall$Hill", name := "greaterPart", desc := "(I)I" } : Jvm.MethodName) prog_2_method_4_code (5 : Nat) (Option.some Jvm.ClassFile.FieldType.int)) ∈ kn_all := kn_t4 (List.mem_of_getElem? (i := 125) rfl) rfl
theorem q4_126 : (Jvm.Cond.methodLink "TinWallLaw" (118 : Nat) ({ cls := "TinWall", name := "name", desc := "(II)I" } : Jvm.MethodName)) ∈ kn_all := kn_t4 (List.mem_of_getElem? (i := 126) rfl) rfl
theorem q4_127 : (Jvm.Cond.instanceMethod ({ cls := "TinWall", name := "name", desc := "(II)I" } : Jvm.MethodName)) ∈ kn_all := kn_t4 (List.mem_of_getElem? (i := 127) rfl) rfl
theorem q4_128 : (Jvm.Cond.selects "TinWall" ({ cls := "TinWall", name := "name", desc := "(II)I" } : Jvm.MethodName) ({ cls := "TinWall", name := "name", desc := "(II)I" } : Jvm.MethodName)) ∈ kn_all := kn_t4 (List.mem_of_getElem? (i := 128) rfl) rfl
theorem q4_129 : (Jvm.Cond.code ({ cls := "TinWall", name := "name", desc := "(II)I" } : Jvm.MethodName) prog_1_method_28_code (3 : Nat) (Option.some Jvm.ClassFile.FieldType.int)) ∈ kn_all := kn_t4 (List.mem_of_getElem? (i := 129) rfl) rfl
theorem q4_130 : (Jvm.Cond.methodLink "TinWallLaw" (122 : Nat) ({ cls := "TinWall", name := "ruled", desc := "(I)I" } : Jvm.MethodName)) ∈ kn_all := kn_t4 (List.mem_of_getElem? (i := 130) rfl) rfl
theorem q4_131 : (Jvm.Cond.instanceMethod ({ cls := "TinWall", name := "ruled", desc := "(I)I" } : Jvm.MethodName)) ∈ kn_all := kn_t4 (List.mem_of_getElem? (i := 131) rfl) rfl
theorem q4_132 : (Jvm.Cond.selects "TinWall" ({ cls := "TinWall", name := "ruled", desc := "(I)I" } : Jvm.MethodName) ({ cls := "TinWall", name := "ruled", desc := "(I)I" } : Jvm.MethodName)) ∈ kn_all := kn_t4 (List.mem_of_getElem? (i := 132) rfl) rfl
theorem q4_133 : (Jvm.Cond.code ({ cls := "TinWall", name := "ruled", desc := "(I)I" } : Jvm.MethodName) prog_1_method_29_code (5 : Nat) (Option.some Jvm.ClassFile.FieldType.int)) ∈ kn_all := kn_t4 (List.mem_of_getElem? (i := 133) rfl) rfl
theorem q4_134 : (Jvm.Cond.methodLink "TinWall" (258 : Nat) ({ cls := "TinWall", name := "fillWritten", desc := "()V" } : Jvm.MethodName)) ∈ kn_all := kn_t4 (List.mem_of_getElem? (i := 134) rfl) rfl
theorem q4_136 : (Jvm.Cond.instanceMethod ({ cls := "TinWall", name := "fillWritten", desc := "()V" } : Jvm.MethodName)) ∈ kn_all := kn_t4 (List.mem_of_getElem? (i := 136) rfl) rfl
theorem q4_137 : (Jvm.Cond.code ({ cls := "TinWall", name := "fillWritten", desc := "()V" } : Jvm.MethodName) prog_1_method_49_code (4 : Nat) (Option.none : Option Jvm.ClassFile.FieldType)) ∈ kn_all := kn_t4 (List.mem_of_getElem? (i := 137) rfl) rfl
theorem q4_138 : (Jvm.Cond.methodLink "TinWall" (307 : Nat) ({ cls := "TinWall$State", name := "begin", desc := "(LTinWall$Hill;)V" } : Jvm.MethodName)) ∈ kn_all := kn_t4 (List.mem_of_getElem? (i := 138) rfl) rfl
theorem q4_139 : (Jvm.Cond.methodLink "TinWall" (308 : Nat) ({ cls := "java/lang/System", name := "arraycopy", desc := "(Ljava/lang/Object;ILjava/lang/Object;II)V" } : Jvm.MethodName)) ∈ kn_all := kn_t4 (List.mem_of_getElem? (i := 139) rfl) rfl
theorem q4_140 : (Jvm.Cond.methodLink "TinWall" (261 : Nat) ({ cls := "TinWall", name := "isAsNamed", desc := "(I)Z" } : Jvm.MethodName)) ∈ kn_all := kn_t4 (List.mem_of_getElem? (i := 140) rfl) rfl
theorem q4_142 : (Jvm.Cond.instanceMethod ({ cls := "TinWall", name := "isAsNamed", desc := "(I)Z" } : Jvm.MethodName)) ∈ kn_all := kn_t4 (List.mem_of_getElem? (i := 142) rfl) rfl
theorem q4_143 : (Jvm.Cond.code ({ cls := "TinWall", name := "isAsNamed", desc := "(I)Z" } : Jvm.MethodName) prog_1_method_51_code (3 : Nat) (Option.some Jvm.ClassFile.FieldType.boolean)) ∈ kn_all := kn_t4 (List.mem_of_getElem? (i := 143) rfl) rfl
theorem q4_144 : (Jvm.Cond.methodLink "TinWall" (270 : Nat) ({ cls := "TinWall", name := "holds", desc := "(II)Z" } : Jvm.MethodName)) ∈ kn_all := kn_t4 (List.mem_of_getElem? (i := 144) rfl) rfl
theorem q4_146 : (Jvm.Cond.instanceMethod ({ cls := "TinWall", name := "holds", desc := "(II)Z" } : Jvm.MethodName)) ∈ kn_all := kn_t4 (List.mem_of_getElem? (i := 146) rfl) rfl
theorem q4_147 : (Jvm.Cond.code ({ cls := "TinWall", name := "holds", desc := "(II)Z" } : Jvm.MethodName) prog_1_method_50_code (3 : Nat) (Option.some Jvm.ClassFile.FieldType.boolean)) ∈ kn_all := kn_t4 (List.mem_of_getElem? (i := 147) rfl) rfl
theorem q4_148 : (Jvm.Cond.methodLink "TinWallLaw" (126 : Nat) ({ cls := "TinWall", name := "ask", desc := "(I)I" } : Jvm.MethodName)) ∈ kn_all := kn_t4 (List.mem_of_getElem? (i := 148) rfl) rfl
theorem q4_149 : (Jvm.Cond.instanceMethod ({ cls := "TinWall", name := "ask", desc := "(I)I" } : Jvm.MethodName)) ∈ kn_all := kn_t4 (List.mem_of_getElem? (i := 149) rfl) rfl
theorem q4_150 : (Jvm.Cond.selects "TinWall" ({ cls := "TinWall", name := "ask", desc := "(I)I" } : Jvm.MethodName) ({ cls := "TinWall", name := "ask", desc := "(I)I" } : Jvm.MethodName)) ∈ kn_all := kn_t4 (List.mem_of_getElem? (i := 150) rfl) rfl
theorem q4_151 : (Jvm.Cond.code ({ cls := "TinWall", name := "ask", desc := "(I)I" } : Jvm.MethodName) prog_1_method_30_code (6 : Nat) (Option.some Jvm.ClassFile.FieldType.int)) ∈ kn_all := kn_t4 (List.mem_of_getElem? (i := 151) rfl) rfl
theorem q4_152 : (Jvm.Cond.methodLink "TinWall" (267 : Nat) ({ cls := "TinWall", name := "mostAlike", desc := "(I)I" } : Jvm.MethodName)) ∈ kn_all := kn_t4 (List.mem_of_getElem? (i := 152) rfl) rfl
theorem q4_154 : (Jvm.Cond.instanceMethod ({ cls := "TinWall", name := "mostAlike", desc := "(I)I" } : Jvm.MethodName)) ∈ kn_all := kn_t4 (List.mem_of_getElem? (i := 154) rfl) rfl
theorem q4_155 : (Jvm.Cond.code ({ cls := "TinWall", name := "mostAlike", desc := "(I)I" } : Jvm.MethodName) prog_1_method_52_code (6 : Nat) (Option.some Jvm.ClassFile.FieldType.int)) ∈ kn_all := kn_t4 (List.mem_of_getElem? (i := 155) rfl) rfl
theorem q4_156 : (Jvm.Cond.methodLink "TinWall" (314 : Nat) ({ cls := "java/lang/Math", name := "max", desc := "(II)I" } : Jvm.MethodName)) ∈ kn_all := kn_t4 (List.mem_of_getElem? (i := 156) rfl) rfl
theorem q4_157 : (Jvm.Cond.methodLink "TinWallLaw" (130 : Nat) ({ cls := "TinWall", name := "forged", desc := "()I" } : Jvm.MethodName)) ∈ kn_all := kn_t4 (List.mem_of_getElem? (i := 157) rfl) rfl
theorem q4_158 : (Jvm.Cond.instanceMethod ({ cls := "TinWall", name := "forged", desc := "()I" } : Jvm.MethodName)) ∈ kn_all := kn_t4 (List.mem_of_getElem? (i := 158) rfl) rfl
theorem q4_159 : (Jvm.Cond.selects "TinWall" ({ cls := "TinWall", name := "forged", desc := "()I" } : Jvm.MethodName) ({ cls := "TinWall", name := "forged", desc := "()I" } : Jvm.MethodName)) ∈ kn_all := kn_t4 (List.mem_of_getElem? (i := 159) rfl) rfl
theorem q4_160 : (Jvm.Cond.code ({ cls := "TinWall", name := "forged", desc := "()I" } : Jvm.MethodName) prog_1_method_31_code (5 : Nat) (Option.some Jvm.ClassFile.FieldType.int)) ∈ kn_all := kn_t4 (List.mem_of_getElem? (i := 160) rfl) rfl
theorem q4_161 : (Jvm.Cond.methodLink "TinWallLaw" (134 : Nat) ({ cls := "TinWall", name := "seed", desc := "(I)I" } : Jvm.MethodName)) ∈ kn_all := kn_t4 (List.mem_of_getElem? (i := 161) rfl) rfl
theorem q4_162 : (Jvm.Cond.instanceMethod ({ cls := "TinWall", name := "seed", desc := "(I)I" } : Jvm.MethodName)) ∈ kn_all := kn_t4 (List.mem_of_getElem? (i := 162) rfl) rfl
theorem q4_163 : (Jvm.Cond.selects "TinWall" ({ cls := "TinWall", name := "seed", desc := "(I)I" } : Jvm.MethodName) ({ cls := "TinWall", name := "seed", desc := "(I)I" } : Jvm.MethodName)) ∈ kn_all := kn_t4 (List.mem_of_getElem? (i := 163) rfl) rfl
theorem q4_164 : (Jvm.Cond.code ({ cls := "TinWall", name := "seed", desc := "(I)I" } : Jvm.MethodName) prog_1_method_32_code (3 : Nat) (Option.some Jvm.ClassFile.FieldType.int)) ∈ kn_all := kn_t4 (List.mem_of_getElem? (i := 164) rfl) rfl
theorem q4_165 : (Jvm.Cond.methodLink "TinWallLaw" (138 : Nat) ({ cls := "TinWall", name := "years", desc := "(IIII)I" } : Jvm.MethodName)) ∈ kn_all := kn_t4 (List.mem_of_getElem? (i := 165) rfl) rfl
theorem q4_166 : (Jvm.Cond.instanceMethod ({ cls := "TinWall", name := "years", desc := "(IIII)I" } : Jvm.MethodName)) ∈ kn_all := kn_t4 (List.mem_of_getElem? (i := 166) rfl) rfl
theorem q4_167 : (Jvm.Cond.selects "TinWall" ({ cls := "TinWall", name := "years", desc := "(IIII)I" } : Jvm.MethodName) ({ cls := "TinWall", name := "years", desc := "(IIII)I" } : Jvm.MethodName)) ∈ kn_all := kn_t4 (List.mem_of_getElem? (i := 167) rfl) rfl
theorem q4_168 : (Jvm.Cond.code ({ cls := "TinWall", name := "years", desc := "(IIII)I" } : Jvm.MethodName) prog_1_method_33_code (10 : Nat) (Option.some Jvm.ClassFile.FieldType.int)) ∈ kn_all := kn_t4 (List.mem_of_getElem? (i := 168) rfl) rfl
theorem q4_169 : (Jvm.Cond.methodLink "TinWall" (277 : Nat) ({ cls := "TinWall", name := "drawnAfter", desc := "(I)I" } : Jvm.MethodName)) ∈ kn_all := kn_t4 (List.mem_of_getElem? (i := 169) rfl) rfl
theorem q4_170 : (Jvm.Cond.static ({ cls := "TinWall", name := "drawnAfter", desc := "(I)I" } : Jvm.MethodName)) ∈ kn_all := kn_t4 (List.mem_of_getElem? (i := 170) rfl) rfl
theorem q4_171 : (Jvm.Cond.code ({ cls := "TinWall", name := "drawnAfter", desc := "(I)I" } : Jvm.MethodName) prog_1_method_45_code (1 : Nat) (Option.some Jvm.ClassFile.FieldType.int)) ∈ kn_all := kn_t4 (List.mem_of_getElem? (i := 171) rfl) rfl
theorem q4_172 : (Jvm.Cond.constantLong "TinWall" (297 : Nat) (1103515245 : Int64)) ∈ kn_all := kn_t4 (List.mem_of_getElem? (i := 172) rfl) rfl
theorem q4_173 : (Jvm.Cond.constantLong "TinWall" (299 : Nat) (12345 : Int64)) ∈ kn_all := kn_t4 (List.mem_of_getElem? (i := 173) rfl) rfl
theorem q4_174 : (Jvm.Cond.constantLong "TinWall" (301 : Nat) (2147483647 : Int64)) ∈ kn_all := kn_t4 (List.mem_of_getElem? (i := 174) rfl) rfl
theorem q4_175 : (Jvm.Cond.constant "TinWall" (280 : Nat) (65536 : Int32)) ∈ kn_all := kn_t4 (List.mem_of_getElem? (i := 175) rfl) rfl
theorem q4_176 : (Jvm.Cond.methodLink "TinWallLaw" (143 : Nat) ({ cls := "TinWall", name := "count", desc := "(I)I" } : Jvm.MethodName)) ∈ kn_all := kn_t4 (List.mem_of_getElem? (i := 176) rfl) rfl
theorem q4_177 : (Jvm.Cond.instanceMethod ({ cls := "TinWall", name := "count", desc := "(I)I" } : Jvm.MethodName)) ∈ kn_all := kn_t4 (List.mem_of_getElem? (i := 177) rfl) rfl
theorem q4_178 : (Jvm.Cond.selects "TinWall" ({ cls := "TinWall", name := "count", desc := "(I)I" } : Jvm.MethodName) ({ cls := "TinWall", name := "count", desc := "(I)I" } : Jvm.MethodName)) ∈ kn_all := kn_t4 (List.mem_of_getElem? (i := 178) rfl) rfl
theorem q4_179 : (Jvm.Cond.code ({ cls := "TinWall", name := "count", desc := "(I)I" } : Jvm.MethodName) prog_1_method_34_code (2 : Nat) (Option.some Jvm.ClassFile.FieldType.int)) ∈ kn_all := kn_t4 (List.mem_of_getElem? (i := 179) rfl) rfl
theorem q4_180 : (Jvm.Cond.methodLink "TinWall" (284 : Nat) ({ cls := "TinWall$State", name := "finderBits", desc := "()I" } : Jvm.MethodName)) ∈ kn_all := kn_t4 (List.mem_of_getElem? (i := 180) rfl) rfl
theorem q4_181 : (Jvm.Cond.methodLink "TinWall" (287 : Nat) ({ cls := "TinWall$Hill", name := "walkersCome", desc := "(I)Z" } : Jvm.MethodName)) ∈ kn_all := kn_t4 (List.mem_of_getElem? (i := 181) rfl) rfl
theorem q4_182 : (Jvm.Cond.methodLink "TinWallLaw" (147 : Nat) ({ cls := "TinWall", name := "image", desc := "(I)I" } : Jvm.MethodName)) ∈ kn_all := kn_t4 (List.mem_of_getElem? (i := 182) rfl) rfl
theorem q4_183 : (Jvm.Cond.instanceMethod ({ cls := "TinWall", name := "image", desc := "(I)I" } : Jvm.MethodName)) ∈ kn_all := kn_t4 (List.mem_of_getElem? (i := 183) rfl) rfl
theorem q4_184 : (Jvm.Cond.selects "TinWall" ({ cls := "TinWall", name := "image", desc := "(I)I" } : Jvm.MethodName) ({ cls := "TinWall", name := "image", desc := "(I)I" } : Jvm.MethodName)) ∈ kn_all := kn_t4 (List.mem_of_getElem? (i := 184) rfl) rfl
theorem q4_185 : (Jvm.Cond.code ({ cls := "TinWall", name := "image", desc := "(I)I" } : Jvm.MethodName) prog_1_method_35_code (2 : Nat) (Option.some Jvm.ClassFile.FieldType.int)) ∈ kn_all := kn_t4 (List.mem_of_getElem? (i := 185) rfl) rfl
theorem q4_186 : (Jvm.Cond.methodLink "TinWall" (290 : Nat) ({ cls := "TinWall$Scene", name := "copy", desc := "(LTinWall$Scene;)V" } : Jvm.MethodName)) ∈ kn_all := kn_t4 (List.mem_of_getElem? (i := 186) rfl) rfl
theorem q4_187 : (Jvm.Cond.instanceMethod ({ cls := "TinWall$Scene", name := "copy", desc := "(LTinWall$Scene;)V" } : Jvm.MethodName)) ∈ kn_all := kn_t4 (List.mem_of_getElem? (i := 187) rfl) rfl
theorem q4_188 : (Jvm.Cond.selects "TinWall$Scene" ({ cls := "TinWall$Scene", name := "copy", desc := "(LTinWall$Scene;)V" } : Jvm.MethodName) ({ cls := "TinWall$Scene", name := "copy", desc := "(LTinWall$Scene;)V" } : Jvm.MethodName)) ∈ kn_all := kn_t4 (List.mem_of_getElem? (i := 188) rfl) rfl
theorem q4_189 : (Jvm.Cond.code ({ cls := "TinWall$Scene", name := "copy", desc := "(LTinWall$Scene;)V" } : Jvm.MethodName) prog_7_method_3_code (3 : Nat) (Option.none : Option Jvm.ClassFile.FieldType)) ∈ kn_all := kn_t4 (List.mem_of_getElem? (i := 189) rfl) rfl
theorem q4_190 : (Jvm.Cond.methodLink "TinWall$Scene" (60 : Nat) ({ cls := "java/lang/System", name := "arraycopy", desc := "(Ljava/lang/Object;ILjava/lang/Object;II)V" } : Jvm.MethodName)) ∈ kn_all := kn_t4 (List.mem_of_getElem? (i := 190) rfl) rfl
theorem q4_191 : (Jvm.Cond.methodLink "TinWallLaw" (151 : Nat) ({ cls := "TinWall", name := "back", desc := "(I)I" } : Jvm.MethodName)) ∈ kn_all := kn_t4 (List.mem_of_getElem? (i := 191) rfl) rfl
theorem q4_192 : (Jvm.Cond.instanceMethod ({ cls := "TinWall", name := "back", desc := "(I)I" } : Jvm.MethodName)) ∈ kn_all := kn_t4 (List.mem_of_getElem? (i := 192) rfl) rfl
theorem q4_193 : (Jvm.Cond.selects "TinWall" ({ cls := "TinWall", name := "back", desc := "(I)I" } : Jvm.MethodName) ({ cls := "TinWall", name := "back", desc := "(I)I" } : Jvm.MethodName)) ∈ kn_all := kn_t4 (List.mem_of_getElem? (i := 193) rfl) rfl
theorem q4_194 : (Jvm.Cond.code ({ cls := "TinWall", name := "back", desc := "(I)I" } : Jvm.MethodName) prog_1_method_36_code (2 : Nat) (Option.some Jvm.ClassFile.FieldType.int)) ∈ kn_all := kn_t4 (List.mem_of_getElem? (i := 194) rfl) rfl
theorem q4_195 : (Jvm.Cond.classLink "TinWallLaw" (10 : Nat) "TinWallModel") ∈ kn_all := kn_t4 (List.mem_of_getElem? (i := 195) rfl) rfl
theorem q4_196 : (Jvm.Cond.instantiable "TinWallModel" (67 : Nat)) ∈ kn_all := kn_t4 (List.mem_of_getElem? (i := 196) rfl) rfl
theorem q4_197 : (Jvm.Cond.methodLink "TinWallLaw" (12 : Nat) ({ cls := "TinWallModel", name := "<init>", desc := "()V" } : Jvm.MethodName)) ∈ kn_all := kn_t4 (List.mem_of_getElem? (i := 197) rfl) rfl
theorem q4_198 : (Jvm.Cond.instanceMethod ({ cls := "TinWallModel", name := "<init>", desc := "()V" } : Jvm.MethodName)) ∈ kn_all := kn_t4 (List.mem_of_getElem? (i := 198) rfl) rfl
theorem q4_199 : (Jvm.Cond.code ({ cls := "TinWallModel", name := "<init>", desc := "()V" } : Jvm.MethodName) prog_11_method_1_code (1 : Nat) (Option.none : Option Jvm.ClassFile.FieldType)) ∈ kn_all := kn_t4 (List.mem_of_getElem? (i := 199) rfl) rfl
theorem q4_200 : (Jvm.Cond.methodLink "TinWallModel" (3 : Nat) ({ cls := "java/lang/Object", name := "<init>", desc := "()V" } : Jvm.MethodName)) ∈ kn_all := kn_t4 (List.mem_of_getElem? (i := 200) rfl) rfl
theorem q4_201 : (Jvm.Cond.fieldLink "TinWallModel" (9 : Nat) "TinWallModel" "scalar" "[I") ∈ kn_all := kn_t4 (List.mem_of_getElem? (i := 201) rfl) rfl
theorem q4_202 : (Jvm.Cond.fieldLink "TinWallModel" (13 : Nat) "TinWallModel" "feet" "[I") ∈ kn_all := kn_t4 (List.mem_of_getElem? (i := 202) rfl) rfl
theorem q4_203 : (Jvm.Cond.fieldLink "TinWallModel" (16 : Nat) "TinWallModel" "hard" "[I") ∈ kn_all := kn_t4 (List.mem_of_getElem? (i := 203) rfl) rfl
theorem q4_204 : (Jvm.Cond.fieldLink "TinWallModel" (19 : Nat) "TinWallModel" "odds" "[I") ∈ kn_all := kn_t4 (List.mem_of_getElem? (i := 204) rfl) rfl
theorem q4_205 : (Jvm.Cond.fieldLink "TinWallModel" (22 : Nat) "TinWallModel" "wear" "[I") ∈ kn_all := kn_t4 (List.mem_of_getElem? (i := 205) rfl) rfl
theorem q4_206 : (Jvm.Cond.fieldLink "TinWallModel" (25 : Nat) "TinWallModel" "inTin" "[I") ∈ kn_all := kn_t4 (List.mem_of_getElem? (i := 206) rfl) rfl
theorem q4_207 : (Jvm.Cond.fieldLink "TinWallModel" (28 : Nat) "TinWallModel" "skill" "[I") ∈ kn_all := kn_t4 (List.mem_of_getElem? (i := 207) rfl) rfl
theorem q4_208 : (Jvm.Cond.fieldLink "TinWallModel" (31 : Nat) "TinWallModel" "patience" "[I") ∈ kn_all := kn_t4 (List.mem_of_getElem? (i := 208) rfl) rfl
theorem q4_209 : (Jvm.Cond.fieldLink "TinWallModel" (34 : Nat) "TinWallModel" "carries" "[I") ∈ kn_all := kn_t4 (List.mem_of_getElem? (i := 209) rfl) rfl
theorem q4_210 : (Jvm.Cond.fieldLink "TinWallModel" (37 : Nat) "TinWallModel" "shift" "[I") ∈ kn_all := kn_t4 (List.mem_of_getElem? (i := 210) rfl) rfl
theorem q4_211 : (Jvm.Cond.fieldLink "TinWallModel" (40 : Nat) "TinWallModel" "foundOn" "[I") ∈ kn_all := kn_t4 (List.mem_of_getElem? (i := 211) rfl) rfl
theorem q4_212 : (Jvm.Cond.fieldLink "TinWallModel" (43 : Nat) "TinWallModel" "vain" "[I") ∈ kn_all := kn_t4 (List.mem_of_getElem? (i := 212) rfl) rfl
theorem q4_213 : (Jvm.Cond.fieldLink "TinWallModel" (46 : Nat) "TinWallModel" "tried" "[I") ∈ kn_all := kn_t4 (List.mem_of_getElem? (i := 213) rfl) rfl
theorem q4_214 : (Jvm.Cond.fieldLink "TinWallModel" (49 : Nat) "TinWallModel" "walks" "[I") ∈ kn_all := kn_t4 (List.mem_of_getElem? (i := 214) rfl) rfl
theorem q4_215 : (Jvm.Cond.fieldLink "TinWallModel" (52 : Nat) "TinWallModel" "nameDay" "[I") ∈ kn_all := kn_t4 (List.mem_of_getElem? (i := 215) rfl) rfl
theorem q4_216 : (Jvm.Cond.fieldLink "TinWallModel" (55 : Nat) "TinWallModel" "nameWho" "[I") ∈ kn_all := kn_t4 (List.mem_of_getElem? (i := 216) rfl) rfl
theorem q4_217 : (Jvm.Cond.fieldLink "TinWallModel" (58 : Nat) "TinWallModel" "toldThings" "[I") ∈ kn_all := kn_t4 (List.mem_of_getElem? (i := 217) rfl) rfl
theorem q4_218 : (Jvm.Cond.fieldLink "TinWallModel" (61 : Nat) "TinWallModel" "toldCarries" "[I") ∈ kn_all := kn_t4 (List.mem_of_getElem? (i := 218) rfl) rfl
theorem q4_219 : (Jvm.Cond.fieldLink "TinWallModel" (64 : Nat) "TinWallModel" "toldOthers" "[I") ∈ kn_all := kn_t4 (List.mem_of_getElem? (i := 219) rfl) rfl
theorem q4_220 : (Jvm.Cond.fieldLink "TinWallModel" (67 : Nat) "TinWallModel" "newScalar" "[I") ∈ kn_all := kn_t4 (List.mem_of_getElem? (i := 220) rfl) rfl
theorem q4_221 : (Jvm.Cond.fieldLink "TinWallModel" (70 : Nat) "TinWallModel" "newFeet" "[I") ∈ kn_all := kn_t4 (List.mem_of_getElem? (i := 221) rfl) rfl
theorem q4_222 : (Jvm.Cond.fieldLink "TinWallModel" (73 : Nat) "TinWallModel" "newHard" "[I") ∈ kn_all := kn_t4 (List.mem_of_getElem? (i := 222) rfl) rfl
theorem q4_223 : (Jvm.Cond.fieldLink "TinWallModel" (76 : Nat) "TinWallModel" "newOdds" "[I") ∈ kn_all := kn_t4 (List.mem_of_getElem? (i := 223) rfl) rfl
theorem q4_224 : (Jvm.Cond.fieldLink "TinWallModel" (79 : Nat) "TinWallModel" "newThings" "[I") ∈ kn_all := kn_t4 (List.mem_of_getElem? (i := 224) rfl) rfl
theorem q4_225 : (Jvm.Cond.fieldLink "TinWallModel" (82 : Nat) "TinWallModel" "newSkill" "[I") ∈ kn_all := kn_t4 (List.mem_of_getElem? (i := 225) rfl) rfl
theorem q4_226 : (Jvm.Cond.fieldLink "TinWallModel" (85 : Nat) "TinWallModel" "newPatience" "[I") ∈ kn_all := kn_t4 (List.mem_of_getElem? (i := 226) rfl) rfl
theorem q4_227 : (Jvm.Cond.fieldLink "TinWallModel" (88 : Nat) "TinWallModel" "newCarries" "[I") ∈ kn_all := kn_t4 (List.mem_of_getElem? (i := 227) rfl) rfl
theorem q4_228 : (Jvm.Cond.fieldLink "TinWallModel" (91 : Nat) "TinWallModel" "newShift" "[I") ∈ kn_all := kn_t4 (List.mem_of_getElem? (i := 228) rfl) rfl
theorem q4_229 : (Jvm.Cond.fieldLink "TinWallModel" (94 : Nat) "TinWallModel" "newWalks" "[I") ∈ kn_all := kn_t4 (List.mem_of_getElem? (i := 229) rfl) rfl
theorem q4_230 : (Jvm.Cond.fieldLink "TinWallModel" (168 : Nat) "TinWallModel" "taped" "I") ∈ kn_all := kn_t4 (List.mem_of_getElem? (i := 230) rfl) rfl
theorem q4_231 : (Jvm.Cond.fieldLink "TinWallModel" (199 : Nat) "TinWallModel" "p" "I") ∈ kn_all := kn_t4 (List.mem_of_getElem? (i := 231) rfl) rfl
theorem q4_232 : (Jvm.Cond.fieldLink "TinWallModel" (196 : Nat) "TinWallModel" "fault" "I") ∈ kn_all := kn_t4 (List.mem_of_getElem? (i := 232) rfl) rfl
theorem q4_233 : (Jvm.Cond.fieldLink "TinWallModel" (226 : Nat) "TinWallModel" "slot" "I") ∈ kn_all := kn_t4 (List.mem_of_getElem? (i := 233) rfl) rfl
theorem q4_234 : (Jvm.Cond.fieldLink "TinWallModel" (351 : Nat) "TinWallModel" "rules" "I") ∈ kn_all := kn_t4 (List.mem_of_getElem? (i := 234) rfl) rfl
theorem q4_235 : (Jvm.Cond.fieldLink "TinWallModel" (229 : Nat) "TinWallModel" "entries" "I") ∈ kn_all := kn_t4 (List.mem_of_getElem? (i := 235) rfl) rfl
theorem q4_236 : (Jvm.Cond.fieldLink "TinWallModel" (270 : Nat) "TinWallModel" "deep" "I") ∈ kn_all := kn_t4 (List.mem_of_getElem? (i := 236) rfl) rfl
theorem q4_237 : (Jvm.Cond.fieldLink "TinWallModel" (232 : Nat) "TinWallModel" "counted" "I") ∈ kn_all := kn_t4 (List.mem_of_getElem? (i := 237) rfl) rfl
theorem q4_238 : (Jvm.Cond.fieldLink "TinWallModel" (267 : Nat) "TinWallModel" "opened" "I") ∈ kn_all := kn_t4 (List.mem_of_getElem? (i := 238) rfl) rfl
theorem q4_239 : (Jvm.Cond.fieldLink "TinWallModel" (97 : Nat) "TinWallModel" "words" "I") ∈ kn_all := kn_t4 (List.mem_of_getElem? (i := 239) rfl) rfl
theorem q5_0 : (Jvm.Cond.fieldLink "TinWallModel" (101 : Nat) "TinWallModel" "tape" "[B") ∈ kn_all := kn_t5 (List.mem_of_getElem? (i := 0) rfl) rfl
theorem q5_1 : (Jvm.Cond.fieldLink "TinWallModel" (105 : Nat) "TinWallModel" "sort" "[I") ∈ kn_all := kn_t5 (List.mem_of_getElem? (i := 1) rfl) rfl
theorem q5_2 : (Jvm.Cond.fieldLink "TinWallModel" (108 : Nat) "TinWallModel" "number" "[I") ∈ kn_all := kn_t5 (List.mem_of_getElem? (i := 2) rfl) rfl
theorem q5_3 : (Jvm.Cond.fieldLink "TinWallModel" (111 : Nat) "TinWallModel" "clauses" "[I") ∈ kn_all := kn_t5 (List.mem_of_getElem? (i := 3) rfl) rfl
theorem q5_4 : (Jvm.Cond.fieldLink "TinWallModel" (114 : Nat) "TinWallModel" "sumAt" "[I") ∈ kn_all := kn_t5 (List.mem_of_getElem? (i := 4) rfl) rfl
theorem q5_5 : (Jvm.Cond.fieldLink "TinWallModel" (117 : Nat) "TinWallModel" "testAt" "[I") ∈ kn_all := kn_t5 (List.mem_of_getElem? (i := 5) rfl) rfl
theorem q5_6 : (Jvm.Cond.fieldLink "TinWallModel" (120 : Nat) "TinWallModel" "endAt" "[I") ∈ kn_all := kn_t5 (List.mem_of_getElem? (i := 6) rfl) rfl
theorem q5_7 : (Jvm.Cond.fieldLink "TinWallModel" (123 : Nat) "TinWallModel" "open" "[I") ∈ kn_all := kn_t5 (List.mem_of_getElem? (i := 7) rfl) rfl
theorem q5_8 : (Jvm.Cond.fieldLink "TinWallModel" (126 : Nat) "TinWallModel" "asked" "[J") ∈ kn_all := kn_t5 (List.mem_of_getElem? (i := 8) rfl) rfl
theorem q5_9 : (Jvm.Cond.fieldLink "TinWallModel" (130 : Nat) "TinWallModel" "stack" "[J") ∈ kn_all := kn_t5 (List.mem_of_getElem? (i := 9) rfl) rfl
theorem q5_10 : (Jvm.Cond.fieldLink "TinWallModel" (384 : Nat) "TinWallModel" "isDrawnWalk" "Z") ∈ kn_all := kn_t5 (List.mem_of_getElem? (i := 10) rfl) rfl
theorem q5_11 : (Jvm.Cond.fieldLink "TinWallModel" (133 : Nat) "TinWallModel" "looksAt" "[I") ∈ kn_all := kn_t5 (List.mem_of_getElem? (i := 11) rfl) rfl
theorem q5_12 : (Jvm.Cond.fieldLink "TinWallModel" (136 : Nat) "TinWallModel" "sums" "[J") ∈ kn_all := kn_t5 (List.mem_of_getElem? (i := 12) rfl) rfl
theorem q5_13 : (Jvm.Cond.fieldLink "TinWallModel" (408 : Nat) "TinWallModel" "looked" "I") ∈ kn_all := kn_t5 (List.mem_of_getElem? (i := 13) rfl) rfl
theorem q5_14 : (Jvm.Cond.fieldLink "TinWallModel" (411 : Nat) "TinWallModel" "spent" "I") ∈ kn_all := kn_t5 (List.mem_of_getElem? (i := 14) rfl) rfl
theorem q5_15 : (Jvm.Cond.fieldLink "TinWallModel" (139 : Nat) "TinWallModel" "past" "[I") ∈ kn_all := kn_t5 (List.mem_of_getElem? (i := 15) rfl) rfl
theorem q5_16 : (Jvm.Cond.fieldLink "TinWallModel" (142 : Nat) "TinWallModel" "ring" "[I") ∈ kn_all := kn_t5 (List.mem_of_getElem? (i := 16) rfl) rfl
theorem q5_17 : (Jvm.Cond.fieldLink "TinWallModel" (338 : Nat) "TinWallModel" "pastMany" "I") ∈ kn_all := kn_t5 (List.mem_of_getElem? (i := 17) rfl) rfl
theorem q5_18 : (Jvm.Cond.fieldLink "TinWallModel" (435 : Nat) "TinWallModel" "pastAt" "I") ∈ kn_all := kn_t5 (List.mem_of_getElem? (i := 18) rfl) rfl
theorem q5_19 : (Jvm.Cond.fieldLink "TinWallModel" (432 : Nat) "TinWallModel" "takesBack" "Z") ∈ kn_all := kn_t5 (List.mem_of_getElem? (i := 19) rfl) rfl
theorem q5_20 : (Jvm.Cond.fieldLink "TinWallModel" (145 : Nat) "TinWallModel" "ordered" "[I") ∈ kn_all := kn_t5 (List.mem_of_getElem? (i := 20) rfl) rfl
theorem q5_21 : (Jvm.Cond.fieldLink "TinWallModel" (148 : Nat) "TinWallModel" "wrote" "[I") ∈ kn_all := kn_t5 (List.mem_of_getElem? (i := 21) rfl) rfl
theorem q5_22 : (Jvm.Cond.fieldLink "TinWallModel" (151 : Nat) "TinWallModel" "alike" "[I") ∈ kn_all := kn_t5 (List.mem_of_getElem? (i := 22) rfl) rfl
theorem q5_23 : (Jvm.Cond.fieldLink "TinWallModel" (154 : Nat) "TinWallModel" "images" "[I") ∈ kn_all := kn_t5 (List.mem_of_getElem? (i := 23) rfl) rfl
theorem q5_24 : (Jvm.Cond.fieldLink "TinWallModel" (157 : Nat) "TinWallModel" "isMade" "[Z") ∈ kn_all := kn_t5 (List.mem_of_getElem? (i := 24) rfl) rfl
theorem q5_25 : (Jvm.Cond.fieldLink "TinWallModel" (507 : Nat) "TinWallModel" "imageAt" "I") ∈ kn_all := kn_t5 (List.mem_of_getElem? (i := 25) rfl) rfl
theorem q5_26 : (Jvm.Cond.fieldLink "TinWallModel" (504 : Nat) "TinWallModel" "goesBack" "Z") ∈ kn_all := kn_t5 (List.mem_of_getElem? (i := 26) rfl) rfl
theorem q5_27 : (Jvm.Cond.lays "TinWallModel" "TinWallModel" "thrown" "I") ∈ kn_all := kn_t5 (List.mem_of_getElem? (i := 27) rfl) rfl
theorem q5_29 : (Jvm.Cond.laysFinal "TinWallModel" "TinWallModel" "scalar" "[I") ∈ kn_all := kn_t5 (List.mem_of_getElem? (i := 29) rfl) rfl
theorem q5_31 : (Jvm.Cond.laysFinal "TinWallModel" "TinWallModel" "feet" "[I") ∈ kn_all := kn_t5 (List.mem_of_getElem? (i := 31) rfl) rfl
theorem q5_33 : (Jvm.Cond.laysFinal "TinWallModel" "TinWallModel" "hard" "[I") ∈ kn_all := kn_t5 (List.mem_of_getElem? (i := 33) rfl) rfl
theorem q5_35 : (Jvm.Cond.laysFinal "TinWallModel" "TinWallModel" "odds" "[I") ∈ kn_all := kn_t5 (List.mem_of_getElem? (i := 35) rfl) rfl
theorem q5_37 : (Jvm.Cond.laysFinal "TinWallModel" "TinWallModel" "wear" "[I") ∈ kn_all := kn_t5 (List.mem_of_getElem? (i := 37) rfl) rfl
theorem q5_39 : (Jvm.Cond.laysFinal "TinWallModel" "TinWallModel" "inTin" "[I") ∈ kn_all := kn_t5 (List.mem_of_getElem? (i := 39) rfl) rfl
theorem q5_41 : (Jvm.Cond.laysFinal "TinWallModel" "TinWallModel" "skill" "[I") ∈ kn_all := kn_t5 (List.mem_of_getElem? (i := 41) rfl) rfl
theorem q5_43 : (Jvm.Cond.laysFinal "TinWallModel" "TinWallModel" "patience" "[I") ∈ kn_all := kn_t5 (List.mem_of_getElem? (i := 43) rfl) rfl
theorem q5_45 : (Jvm.Cond.laysFinal "TinWallModel" "TinWallModel" "carries" "[I") ∈ kn_all := kn_t5 (List.mem_of_getElem? (i := 45) rfl) rfl
theorem q5_47 : (Jvm.Cond.laysFinal "TinWallModel" "TinWallModel" "shift" "[I") ∈ kn_all := kn_t5 (List.mem_of_getElem? (i := 47) rfl) rfl
theorem q5_49 : (Jvm.Cond.laysFinal "TinWallModel" "TinWallModel" "foundOn" "[I") ∈ kn_all := kn_t5 (List.mem_of_getElem? (i := 49) rfl) rfl
theorem q5_51 : (Jvm.Cond.laysFinal "TinWallModel" "TinWallModel" "vain" "[I") ∈ kn_all := kn_t5 (List.mem_of_getElem? (i := 51) rfl) rfl
theorem q5_53 : (Jvm.Cond.laysFinal "TinWallModel" "TinWallModel" "tried" "[I") ∈ kn_all := kn_t5 (List.mem_of_getElem? (i := 53) rfl) rfl
theorem q5_55 : (Jvm.Cond.laysFinal "TinWallModel" "TinWallModel" "walks" "[I") ∈ kn_all := kn_t5 (List.mem_of_getElem? (i := 55) rfl) rfl
theorem q5_57 : (Jvm.Cond.laysFinal "TinWallModel" "TinWallModel" "nameDay" "[I") ∈ kn_all := kn_t5 (List.mem_of_getElem? (i := 57) rfl) rfl
theorem q5_59 : (Jvm.Cond.laysFinal "TinWallModel" "TinWallModel" "nameWho" "[I") ∈ kn_all := kn_t5 (List.mem_of_getElem? (i := 59) rfl) rfl
theorem q5_61 : (Jvm.Cond.laysFinal "TinWallModel" "TinWallModel" "toldThings" "[I") ∈ kn_all := kn_t5 (List.mem_of_getElem? (i := 61) rfl) rfl
theorem q5_63 : (Jvm.Cond.laysFinal "TinWallModel" "TinWallModel" "toldCarries" "[I") ∈ kn_all := kn_t5 (List.mem_of_getElem? (i := 63) rfl) rfl
theorem q5_65 : (Jvm.Cond.laysFinal "TinWallModel" "TinWallModel" "toldOthers" "[I") ∈ kn_all := kn_t5 (List.mem_of_getElem? (i := 65) rfl) rfl
theorem q5_67 : (Jvm.Cond.laysFinal "TinWallModel" "TinWallModel" "newScalar" "[I") ∈ kn_all := kn_t5 (List.mem_of_getElem? (i := 67) rfl) rfl
theorem q5_69 : (Jvm.Cond.laysFinal "TinWallModel" "TinWallModel" "newFeet" "[I") ∈ kn_all := kn_t5 (List.mem_of_getElem? (i := 69) rfl) rfl
theorem q5_71 : (Jvm.Cond.laysFinal "TinWallModel" "TinWallModel" "newHard" "[I") ∈ kn_all := kn_t5 (List.mem_of_getElem? (i := 71) rfl) rfl
theorem q5_73 : (Jvm.Cond.laysFinal "TinWallModel" "TinWallModel" "newOdds" "[I") ∈ kn_all := kn_t5 (List.mem_of_getElem? (i := 73) rfl) rfl
theorem q5_75 : (Jvm.Cond.laysFinal "TinWallModel" "TinWallModel" "newThings" "[I") ∈ kn_all := kn_t5 (List.mem_of_getElem? (i := 75) rfl) rfl
theorem q5_77 : (Jvm.Cond.laysFinal "TinWallModel" "TinWallModel" "newSkill" "[I") ∈ kn_all := kn_t5 (List.mem_of_getElem? (i := 77) rfl) rfl
theorem q5_79 : (Jvm.Cond.laysFinal "TinWallModel" "TinWallModel" "newPatience" "[I") ∈ kn_all := kn_t5 (List.mem_of_getElem? (i := 79) rfl) rfl
theorem q5_81 : (Jvm.Cond.laysFinal "TinWallModel" "TinWallModel" "newCarries" "[I") ∈ kn_all := kn_t5 (List.mem_of_getElem? (i := 81) rfl) rfl
theorem q5_83 : (Jvm.Cond.laysFinal "TinWallModel" "TinWallModel" "newShift" "[I") ∈ kn_all := kn_t5 (List.mem_of_getElem? (i := 83) rfl) rfl
theorem q5_85 : (Jvm.Cond.laysFinal "TinWallModel" "TinWallModel" "newWalks" "[I") ∈ kn_all := kn_t5 (List.mem_of_getElem? (i := 85) rfl) rfl
theorem q5_87 : (Jvm.Cond.lays "TinWallModel" "TinWallModel" "taped" "I") ∈ kn_all := kn_t5 (List.mem_of_getElem? (i := 87) rfl) rfl
theorem q5_89 : (Jvm.Cond.lays "TinWallModel" "TinWallModel" "p" "I") ∈ kn_all := kn_t5 (List.mem_of_getElem? (i := 89) rfl) rfl
theorem q5_91 : (Jvm.Cond.lays "TinWallModel" "TinWallModel" "fault" "I") ∈ kn_all := kn_t5 (List.mem_of_getElem? (i := 91) rfl) rfl
theorem q5_93 : (Jvm.Cond.lays "TinWallModel" "TinWallModel" "slot" "I") ∈ kn_all := kn_t5 (List.mem_of_getElem? (i := 93) rfl) rfl
theorem q5_95 : (Jvm.Cond.lays "TinWallModel" "TinWallModel" "rules" "I") ∈ kn_all := kn_t5 (List.mem_of_getElem? (i := 95) rfl) rfl
theorem q5_97 : (Jvm.Cond.lays "TinWallModel" "TinWallModel" "entries" "I") ∈ kn_all := kn_t5 (List.mem_of_getElem? (i := 97) rfl) rfl
theorem q5_99 : (Jvm.Cond.lays "TinWallModel" "TinWallModel" "deep" "I") ∈ kn_all := kn_t5 (List.mem_of_getElem? (i := 99) rfl) rfl
theorem q5_101 : (Jvm.Cond.lays "TinWallModel" "TinWallModel" "counted" "I") ∈ kn_all := kn_t5 (List.mem_of_getElem? (i := 101) rfl) rfl
theorem q5_103 : (Jvm.Cond.lays "TinWallModel" "TinWallModel" "opened" "I") ∈ kn_all := kn_t5 (List.mem_of_getElem? (i := 103) rfl) rfl
theorem q5_105 : (Jvm.Cond.lays "TinWallModel" "TinWallModel" "words" "I") ∈ kn_all := kn_t5 (List.mem_of_getElem? (i := 105) rfl) rfl
theorem q5_107 : (Jvm.Cond.laysFinal "TinWallModel" "TinWallModel" "tape" "[B") ∈ kn_all := kn_t5 (List.mem_of_getElem? (i := 107) rfl) rfl
theorem q5_109 : (Jvm.Cond.laysFinal "TinWallModel" "TinWallModel" "sort" "[I") ∈ kn_all := kn_t5 (List.mem_of_getElem? (i := 109) rfl) rfl
theorem q5_111 : (Jvm.Cond.laysFinal "TinWallModel" "TinWallModel" "number" "[I") ∈ kn_all := kn_t5 (List.mem_of_getElem? (i := 111) rfl) rfl
theorem q5_113 : (Jvm.Cond.laysFinal "TinWallModel" "TinWallModel" "clauses" "[I") ∈ kn_all := kn_t5 (List.mem_of_getElem? (i := 113) rfl) rfl
theorem q5_115 : (Jvm.Cond.laysFinal "TinWallModel" "TinWallModel" "sumAt" "[I") ∈ kn_all := kn_t5 (List.mem_of_getElem? (i := 115) rfl) rfl
theorem q5_117 : (Jvm.Cond.laysFinal "TinWallModel" "TinWallModel" "testAt" "[I") ∈ kn_all := kn_t5 (List.mem_of_getElem? (i := 117) rfl) rfl
theorem q5_119 : (Jvm.Cond.laysFinal "TinWallModel" "TinWallModel" "endAt" "[I") ∈ kn_all := kn_t5 (List.mem_of_getElem? (i := 119) rfl) rfl
theorem q5_121 : (Jvm.Cond.laysFinal "TinWallModel" "TinWallModel" "open" "[I") ∈ kn_all := kn_t5 (List.mem_of_getElem? (i := 121) rfl) rfl
theorem q5_123 : (Jvm.Cond.laysFinal "TinWallModel" "TinWallModel" "asked" "[J") ∈ kn_all := kn_t5 (List.mem_of_getElem? (i := 123) rfl) rfl
theorem q5_125 : (Jvm.Cond.laysFinal "TinWallModel" "TinWallModel" "stack" "[J") ∈ kn_all := kn_t5 (List.mem_of_getElem? (i := 125) rfl) rfl
theorem q5_127 : (Jvm.Cond.lays "TinWallModel" "TinWallModel" "isDrawnWalk" "Z") ∈ kn_all := kn_t5 (List.mem_of_getElem? (i := 127) rfl) rfl
theorem q5_129 : (Jvm.Cond.laysFinal "TinWallModel" "TinWallModel" "looksAt" "[I") ∈ kn_all := kn_t5 (List.mem_of_getElem? (i := 129) rfl) rfl
theorem q5_131 : (Jvm.Cond.laysFinal "TinWallModel" "TinWallModel" "sums" "[J") ∈ kn_all := kn_t5 (List.mem_of_getElem? (i := 131) rfl) rfl
theorem q5_133 : (Jvm.Cond.lays "TinWallModel" "TinWallModel" "looked" "I") ∈ kn_all := kn_t5 (List.mem_of_getElem? (i := 133) rfl) rfl
theorem q5_135 : (Jvm.Cond.lays "TinWallModel" "TinWallModel" "spent" "I") ∈ kn_all := kn_t5 (List.mem_of_getElem? (i := 135) rfl) rfl
theorem q5_137 : (Jvm.Cond.laysFinal "TinWallModel" "TinWallModel" "past" "[I") ∈ kn_all := kn_t5 (List.mem_of_getElem? (i := 137) rfl) rfl
theorem q5_139 : (Jvm.Cond.laysFinal "TinWallModel" "TinWallModel" "ring" "[I") ∈ kn_all := kn_t5 (List.mem_of_getElem? (i := 139) rfl) rfl
theorem q5_141 : (Jvm.Cond.lays "TinWallModel" "TinWallModel" "pastMany" "I") ∈ kn_all := kn_t5 (List.mem_of_getElem? (i := 141) rfl) rfl
theorem q5_143 : (Jvm.Cond.lays "TinWallModel" "TinWallModel" "pastAt" "I") ∈ kn_all := kn_t5 (List.mem_of_getElem? (i := 143) rfl) rfl
theorem q5_145 : (Jvm.Cond.lays "TinWallModel" "TinWallModel" "takesBack" "Z") ∈ kn_all := kn_t5 (List.mem_of_getElem? (i := 145) rfl) rfl
theorem q5_147 : (Jvm.Cond.laysFinal "TinWallModel" "TinWallModel" "ordered" "[I") ∈ kn_all := kn_t5 (List.mem_of_getElem? (i := 147) rfl) rfl
theorem q5_149 : (Jvm.Cond.laysFinal "TinWallModel" "TinWallModel" "wrote" "[I") ∈ kn_all := kn_t5 (List.mem_of_getElem? (i := 149) rfl) rfl
theorem q5_151 : (Jvm.Cond.laysFinal "TinWallModel" "TinWallModel" "alike" "[I") ∈ kn_all := kn_t5 (List.mem_of_getElem? (i := 151) rfl) rfl
theorem q5_153 : (Jvm.Cond.laysFinal "TinWallModel" "TinWallModel" "images" "[I") ∈ kn_all := kn_t5 (List.mem_of_getElem? (i := 153) rfl) rfl
theorem q5_155 : (Jvm.Cond.laysFinal "TinWallModel" "TinWallModel" "isMade" "[Z") ∈ kn_all := kn_t5 (List.mem_of_getElem? (i := 155) rfl) rfl
theorem q5_157 : (Jvm.Cond.lays "TinWallModel" "TinWallModel" "imageAt" "I") ∈ kn_all := kn_t5 (List.mem_of_getElem? (i := 157) rfl) rfl
theorem q5_159 : (Jvm.Cond.lays "TinWallModel" "TinWallModel" "goesBack" "Z") ∈ kn_all := kn_t5 (List.mem_of_getElem? (i := 159) rfl) rfl
theorem q5_162 : (Jvm.Cond.arrayClass Jvm.ClassFile.FieldType.boolean) ∈ kn_all := kn_t5 (List.mem_of_getElem? (i := 162) rfl) rfl
theorem q5_163 : (Jvm.Cond.methodLink "TinWallLaw" (17 : Nat) ({ cls := "TinWallModel", name := "feed", desc := "(IIIII)I" } : Jvm.MethodName)) ∈ kn_all := kn_t5 (List.mem_of_getElem? (i := 163) rfl) rfl
theorem q5_164 : (Jvm.Cond.instanceMethod ({ cls := "TinWallModel", name := "feed", desc := "(IIIII)I" } : Jvm.MethodName)) ∈ kn_all := kn_t5 (List.mem_of_getElem? (i := 164) rfl) rfl
theorem q5_165 : (Jvm.Cond.selects "TinWallModel" ({ cls := "TinWallModel", name := "feed", desc := "(IIIII)I" } : Jvm.MethodName) ({ cls := "TinWallModel", name := "feed", desc := "(IIIII)I" } : Jvm.MethodName)) ∈ kn_all := kn_t5 (List.mem_of_getElem? (i := 165) rfl) rfl
theorem q5_166 : (Jvm.Cond.code ({ cls := "TinWallModel", name := "feed", desc := "(IIIII)I" } : Jvm.MethodName) prog_11_method_9_code (6 : Nat) (Option.some Jvm.ClassFile.FieldType.int)) ∈ kn_all := kn_t5 (List.mem_of_getElem? (i := 166) rfl) rfl
theorem q5_167 : (Jvm.Cond.methodLink "TinWallModel" (171 : Nat) ({ cls := "TinWallModel", name := "put", desc := "(I)V" } : Jvm.MethodName)) ∈ kn_all := kn_t5 (List.mem_of_getElem? (i := 167) rfl) rfl
theorem q5_169 : (Jvm.Cond.instanceMethod ({ cls := "TinWallModel", name := "put", desc := "(I)V" } : Jvm.MethodName)) ∈ kn_all := kn_t5 (List.mem_of_getElem? (i := 169) rfl) rfl
theorem q5_170 : (Jvm.Cond.code ({ cls := "TinWallModel", name := "put", desc := "(I)V" } : Jvm.MethodName) prog_11_method_10_code (3 : Nat) (Option.none : Option Jvm.ClassFile.FieldType)) ∈ kn_all := kn_t5 (List.mem_of_getElem? (i := 170) rfl) rfl
theorem q5_171 : (Jvm.Cond.methodLink "TinWallLaw" (22 : Nat) ({ cls := "TinWallModel", name := "end", desc := "(I)I" } : Jvm.MethodName)) ∈ kn_all := kn_t5 (List.mem_of_getElem? (i := 171) rfl) rfl
theorem q5_172 : (Jvm.Cond.instanceMethod ({ cls := "TinWallModel", name := "end", desc := "(I)I" } : Jvm.MethodName)) ∈ kn_all := kn_t5 (List.mem_of_getElem? (i := 172) rfl) rfl
theorem q5_173 : (Jvm.Cond.selects "TinWallModel" ({ cls := "TinWallModel", name := "end", desc := "(I)I" } : Jvm.MethodName) ({ cls := "TinWallModel", name := "end", desc := "(I)I" } : Jvm.MethodName)) ∈ kn_all := kn_t5 (List.mem_of_getElem? (i := 173) rfl) rfl
theorem q5_174 : (Jvm.Cond.code ({ cls := "TinWallModel", name := "end", desc := "(I)I" } : Jvm.MethodName) prog_11_method_11_code (2 : Nat) (Option.some Jvm.ClassFile.FieldType.int)) ∈ kn_all := kn_t5 (List.mem_of_getElem? (i := 174) rfl) rfl
theorem q5_175 : (Jvm.Cond.methodLink "TinWallLaw" (27 : Nat) ({ cls := "TinWallModel", name := "hill", desc := "()I" } : Jvm.MethodName)) ∈ kn_all := kn_t5 (List.mem_of_getElem? (i := 175) rfl) rfl
theorem q5_176 : (Jvm.Cond.instanceMethod ({ cls := "TinWallModel", name := "hill", desc := "()I" } : Jvm.MethodName)) ∈ kn_all := kn_t5 (List.mem_of_getElem? (i := 176) rfl) rfl
theorem q5_177 : (Jvm.Cond.selects "TinWallModel" ({ cls := "TinWallModel", name := "hill", desc := "()I" } : Jvm.MethodName) ({ cls := "TinWallModel", name := "hill", desc := "()I" } : Jvm.MethodName)) ∈ kn_all := kn_t5 (List.mem_of_getElem? (i := 177) rfl) rfl
theorem q5_178 : (Jvm.Cond.code ({ cls := "TinWallModel", name := "hill", desc := "()I" } : Jvm.MethodName) prog_11_method_42_code (2 : Nat) (Option.some Jvm.ClassFile.FieldType.int)) ∈ kn_all := kn_t5 (List.mem_of_getElem? (i := 178) rfl) rfl
theorem q5_179 : (Jvm.Cond.methodLink "TinWallModel" (332 : Nat) ({ cls := "TinWallModel", name := "readsAll", desc := "()V" } : Jvm.MethodName)) ∈ kn_all := kn_t5 (List.mem_of_getElem? (i := 179) rfl) rfl
theorem q5_181 : (Jvm.Cond.instanceMethod ({ cls := "TinWallModel", name := "readsAll", desc := "()V" } : Jvm.MethodName)) ∈ kn_all := kn_t5 (List.mem_of_getElem? (i := 181) rfl) rfl
theorem q5_182 : (Jvm.Cond.code ({ cls := "TinWallModel", name := "readsAll", desc := "()V" } : Jvm.MethodName) prog_11_method_40_code (3 : Nat) (Option.none : Option Jvm.ClassFile.FieldType)) ∈ kn_all := kn_t5 (List.mem_of_getElem? (i := 182) rfl) rfl
theorem q5_183 : (Jvm.Cond.methodLink "TinWallModel" (319 : Nat) ({ cls := "TinWallModel", name := "starts", desc := "()V" } : Jvm.MethodName)) ∈ kn_all := kn_t5 (List.mem_of_getElem? (i := 183) rfl) rfl
theorem q5_185 : (Jvm.Cond.instanceMethod ({ cls := "TinWallModel", name := "starts", desc := "()V" } : Jvm.MethodName)) ∈ kn_all := kn_t5 (List.mem_of_getElem? (i := 185) rfl) rfl
theorem q5_186 : (Jvm.Cond.code ({ cls := "TinWallModel", name := "starts", desc := "()V" } : Jvm.MethodName) prog_11_method_39_code (1 : Nat) (Option.none : Option Jvm.ClassFile.FieldType)) ∈ kn_all := kn_t5 (List.mem_of_getElem? (i := 186) rfl) rfl
theorem q5_187 : (Jvm.Cond.methodLink "TinWallModel" (322 : Nat) ({ cls := "TinWallModel", name := "hillClause", desc := "(I)V" } : Jvm.MethodName)) ∈ kn_all := kn_t5 (List.mem_of_getElem? (i := 187) rfl) rfl
theorem q5_189 : (Jvm.Cond.instanceMethod ({ cls := "TinWallModel", name := "hillClause", desc := "(I)V" } : Jvm.MethodName)) ∈ kn_all := kn_t5 (List.mem_of_getElem? (i := 189) rfl) rfl
theorem q5_190 : (Jvm.Cond.code ({ cls := "TinWallModel", name := "hillClause", desc := "(I)V" } : Jvm.MethodName) prog_11_method_36_code (4 : Nat) (Option.none : Option Jvm.ClassFile.FieldType)) ∈ kn_all := kn_t5 (List.mem_of_getElem? (i := 190) rfl) rfl
theorem q5_191 : (Jvm.Cond.methodLink "TinWallModel" (219 : Nat) ({ cls := "TinWallModel", name := "blanks", desc := "()V" } : Jvm.MethodName)) ∈ kn_all := kn_t5 (List.mem_of_getElem? (i := 191) rfl) rfl
theorem q5_193 : (Jvm.Cond.instanceMethod ({ cls := "TinWallModel", name := "blanks", desc := "()V" } : Jvm.MethodName)) ∈ kn_all := kn_t5 (List.mem_of_getElem? (i := 193) rfl) rfl
theorem q5_194 : (Jvm.Cond.code ({ cls := "TinWallModel", name := "blanks", desc := "()V" } : Jvm.MethodName) prog_11_method_15_code (1 : Nat) (Option.none : Option Jvm.ClassFile.FieldType)) ∈ kn_all := kn_t5 (List.mem_of_getElem? (i := 194) rfl) rfl
theorem q5_195 : (Jvm.Cond.methodLink "TinWallModel" (202 : Nat) ({ cls := "TinWallModel", name := "sign", desc := "()I" } : Jvm.MethodName)) ∈ kn_all := kn_t5 (List.mem_of_getElem? (i := 195) rfl) rfl
theorem q5_197 : (Jvm.Cond.instanceMethod ({ cls := "TinWallModel", name := "sign", desc := "()I" } : Jvm.MethodName)) ∈ kn_all := kn_t5 (List.mem_of_getElem? (i := 197) rfl) rfl
theorem q5_198 : (Jvm.Cond.code ({ cls := "TinWallModel", name := "sign", desc := "()I" } : Jvm.MethodName) prog_11_method_14_code (1 : Nat) (Option.some Jvm.ClassFile.FieldType.int)) ∈ kn_all := kn_t5 (List.mem_of_getElem? (i := 198) rfl) rfl
theorem q5_199 : (Jvm.Cond.methodLink "TinWallModel" (309 : Nat) ({ cls := "TinWallModel", name := "hillWord", desc := "(I)Ljava/lang/String;" } : Jvm.MethodName)) ∈ kn_all := kn_t5 (List.mem_of_getElem? (i := 199) rfl) rfl
theorem q5_200 : (Jvm.Cond.static ({ cls := "TinWallModel", name := "hillWord", desc := "(I)Ljava/lang/String;" } : Jvm.MethodName)) ∈ kn_all := kn_t5 (List.mem_of_getElem? (i := 200) rfl) rfl
theorem q5_201 : (Jvm.Cond.code ({ cls := "TinWallModel", name := "hillWord", desc := "(I)Ljava/lang/String;" } : Jvm.MethodName) prog_11_method_32_code (1 : Nat) (Option.some (Jvm.ClassFile.FieldType.object "java/lang/String"))) ∈ kn_all := kn_t5 (List.mem_of_getElem? (i := 201) rfl) rfl
theorem q5_208 : (Jvm.Cond.methodLink "TinWallModel" (222 : Nat) ({ cls := "TinWallModel", name := "stood", desc := "(Ljava/lang/String;)Z" } : Jvm.MethodName)) ∈ kn_all := kn_t5 (List.mem_of_getElem? (i := 208) rfl) rfl
theorem q5_210 : (Jvm.Cond.instanceMethod ({ cls := "TinWallModel", name := "stood", desc := "(Ljava/lang/String;)Z" } : Jvm.MethodName)) ∈ kn_all := kn_t5 (List.mem_of_getElem? (i := 210) rfl) rfl
theorem q5_211 : (Jvm.Cond.code ({ cls := "TinWallModel", name := "stood", desc := "(Ljava/lang/String;)Z" } : Jvm.MethodName) prog_11_method_17_code (5 : Nat) (Option.some Jvm.ClassFile.FieldType.boolean)) ∈ kn_all := kn_t5 (List.mem_of_getElem? (i := 211) rfl) rfl
theorem q5_212 : (Jvm.Cond.methodLink "TinWallModel" (210 : Nat) ({ cls := "java/lang/String", name := "length", desc := "()I" } : Jvm.MethodName)) ∈ kn_all := kn_t5 (List.mem_of_getElem? (i := 212) rfl) rfl
theorem q5_213 : (Jvm.Cond.methodLink "TinWallModel" (215 : Nat) ({ cls := "java/lang/String", name := "charAt", desc := "(I)C" } : Jvm.MethodName)) ∈ kn_all := kn_t5 (List.mem_of_getElem? (i := 213) rfl) rfl
theorem q5_214 : (Jvm.Cond.methodLink "TinWallModel" (235 : Nat) ({ cls := "TinWallModel", name := "fails", desc := "(II)V" } : Jvm.MethodName)) ∈ kn_all := kn_t5 (List.mem_of_getElem? (i := 214) rfl) rfl
theorem q5_216 : (Jvm.Cond.instanceMethod ({ cls := "TinWallModel", name := "fails", desc := "(II)V" } : Jvm.MethodName)) ∈ kn_all := kn_t5 (List.mem_of_getElem? (i := 216) rfl) rfl
theorem q5_217 : (Jvm.Cond.code ({ cls := "TinWallModel", name := "fails", desc := "(II)V" } : Jvm.MethodName) prog_11_method_13_code (3 : Nat) (Option.none : Option Jvm.ClassFile.FieldType)) ∈ kn_all := kn_t5 (List.mem_of_getElem? (i := 217) rfl) rfl
theorem q5_218 : (Jvm.Cond.methodLink "TinWallModel" (312 : Nat) ({ cls := "TinWallModel", name := "isFull", desc := "(II)Z" } : Jvm.MethodName)) ∈ kn_all := kn_t5 (List.mem_of_getElem? (i := 218) rfl) rfl
theorem q5_220 : (Jvm.Cond.instanceMethod ({ cls := "TinWallModel", name := "isFull", desc := "(II)Z" } : Jvm.MethodName)) ∈ kn_all := kn_t5 (List.mem_of_getElem? (i := 220) rfl) rfl
theorem q5_221 : (Jvm.Cond.code ({ cls := "TinWallModel", name := "isFull", desc := "(II)Z" } : Jvm.MethodName) prog_11_method_35_code (3 : Nat) (Option.some Jvm.ClassFile.FieldType.boolean)) ∈ kn_all := kn_t5 (List.mem_of_getElem? (i := 221) rfl) rfl
theorem q5_222 : (Jvm.Cond.methodLink "TinWallModel" (316 : Nat) ({ cls := "TinWallModel", name := "hillPart", desc := "(I)V" } : Jvm.MethodName)) ∈ kn_all := kn_t5 (List.mem_of_getElem? (i := 222) rfl) rfl
theorem q5_224 : (Jvm.Cond.instanceMethod ({ cls := "TinWallModel", name := "hillPart", desc := "(I)V" } : Jvm.MethodName)) ∈ kn_all := kn_t5 (List.mem_of_getElem? (i := 224) rfl) rfl
theorem q5_225 : (Jvm.Cond.code ({ cls := "TinWallModel", name := "hillPart", desc := "(I)V" } : Jvm.MethodName) prog_11_method_34_code (3 : Nat) (Option.none : Option Jvm.ClassFile.FieldType)) ∈ kn_all := kn_t5 (List.mem_of_getElem? (i := 225) rfl) rfl
theorem q5_226 : (Jvm.Cond.methodLink "TinWallModel" (302 : Nat) ({ cls := "TinWallModel", name := "amount", desc := "(II)I" } : Jvm.MethodName)) ∈ kn_all := kn_t5 (List.mem_of_getElem? (i := 226) rfl) rfl
theorem q5_228 : (Jvm.Cond.instanceMethod ({ cls := "TinWallModel", name := "amount", desc := "(II)I" } : Jvm.MethodName)) ∈ kn_all := kn_t5 (List.mem_of_getElem? (i := 228) rfl) rfl
theorem q5_229 : (Jvm.Cond.code ({ cls := "TinWallModel", name := "amount", desc := "(II)I" } : Jvm.MethodName) prog_11_method_31_code (5 : Nat) (Option.some Jvm.ClassFile.FieldType.int)) ∈ kn_all := kn_t5 (List.mem_of_getElem? (i := 229) rfl) rfl
theorem q5_230 : (Jvm.Cond.constant "TinWallModel" (243 : Nat) (99999 : Int32)) ∈ kn_all := kn_t5 (List.mem_of_getElem? (i := 230) rfl) rfl
theorem q5_231 : (Jvm.Cond.methodLink "TinWallModel" (244 : Nat) ({ cls := "TinWallModel", name := "digits", desc := "(I)I" } : Jvm.MethodName)) ∈ kn_all := kn_t5 (List.mem_of_getElem? (i := 231) rfl) rfl
theorem q5_233 : (Jvm.Cond.instanceMethod ({ cls := "TinWallModel", name := "digits", desc := "(I)I" } : Jvm.MethodName)) ∈ kn_all := kn_t5 (List.mem_of_getElem? (i := 233) rfl) rfl
theorem q5_234 : (Jvm.Cond.code ({ cls := "TinWallModel", name := "digits", desc := "(I)I" } : Jvm.MethodName) prog_11_method_21_code (4 : Nat) (Option.some Jvm.ClassFile.FieldType.int)) ∈ kn_all := kn_t5 (List.mem_of_getElem? (i := 234) rfl) rfl
theorem q5_235 : (Jvm.Cond.methodLink "TinWallModel" (239 : Nat) ({ cls := "TinWallModel", name := "isDigit", desc := "()Z" } : Jvm.MethodName)) ∈ kn_all := kn_t5 (List.mem_of_getElem? (i := 235) rfl) rfl
theorem q5_237 : (Jvm.Cond.instanceMethod ({ cls := "TinWallModel", name := "isDigit", desc := "()Z" } : Jvm.MethodName)) ∈ kn_all := kn_t5 (List.mem_of_getElem? (i := 237) rfl) rfl
theorem q5_238 : (Jvm.Cond.code ({ cls := "TinWallModel", name := "isDigit", desc := "()Z" } : Jvm.MethodName) prog_11_method_16_code (1 : Nat) (Option.some Jvm.ClassFile.FieldType.boolean)) ∈ kn_all := kn_t5 (List.mem_of_getElem? (i := 238) rfl) rfl
theorem q5_239 : (Jvm.Cond.constantLong "TinWallModel" (206 : Nat) (48 : Int64)) ∈ kn_all := kn_t5 (List.mem_of_getElem? (i := 239) rfl) rfl
theorem q6_0 : (Jvm.Cond.constantLong "TinWallModel" (208 : Nat) (57 : Int64)) ∈ kn_all := kn_t6 (List.mem_of_getElem? (i := 0) rfl) rfl
theorem q6_1 : (Jvm.Cond.methodLink "TinWallModel" (164 : Nat) ({ cls := "TinWallModel", name := "in", desc := "(JJJ)Z" } : Jvm.MethodName)) ∈ kn_all := kn_t6 (List.mem_of_getElem? (i := 1) rfl) rfl
theorem q6_2 : (Jvm.Cond.static ({ cls := "TinWallModel", name := "in", desc := "(JJJ)Z" } : Jvm.MethodName)) ∈ kn_all := kn_t6 (List.mem_of_getElem? (i := 2) rfl) rfl
theorem q6_3 : (Jvm.Cond.code ({ cls := "TinWallModel", name := "in", desc := "(JJJ)Z" } : Jvm.MethodName) prog_11_method_3_code (6 : Nat) (Option.some Jvm.ClassFile.FieldType.boolean)) ∈ kn_all := kn_t6 (List.mem_of_getElem? (i := 3) rfl) rfl
theorem q6_4 : (Jvm.Cond.methodLink "TinWallModel" (306 : Nat) ({ cls := "TinWallModel", name := "readsSeeker", desc := "()V" } : Jvm.MethodName)) ∈ kn_all := kn_t6 (List.mem_of_getElem? (i := 4) rfl) rfl
theorem q6_6 : (Jvm.Cond.instanceMethod ({ cls := "TinWallModel", name := "readsSeeker", desc := "()V" } : Jvm.MethodName)) ∈ kn_all := kn_t6 (List.mem_of_getElem? (i := 6) rfl) rfl
theorem q6_7 : (Jvm.Cond.code ({ cls := "TinWallModel", name := "readsSeeker", desc := "()V" } : Jvm.MethodName) prog_11_method_33_code (2 : Nat) (Option.none : Option Jvm.ClassFile.FieldType)) ∈ kn_all := kn_t6 (List.mem_of_getElem? (i := 7) rfl) rfl
theorem q6_8 : (Jvm.Cond.methodLink "TinWallModel" (325 : Nat) ({ cls := "TinWallModel", name := "goesOn", desc := "()Z" } : Jvm.MethodName)) ∈ kn_all := kn_t6 (List.mem_of_getElem? (i := 8) rfl) rfl
theorem q6_10 : (Jvm.Cond.instanceMethod ({ cls := "TinWallModel", name := "goesOn", desc := "()Z" } : Jvm.MethodName)) ∈ kn_all := kn_t6 (List.mem_of_getElem? (i := 10) rfl) rfl
theorem q6_11 : (Jvm.Cond.code ({ cls := "TinWallModel", name := "goesOn", desc := "()Z" } : Jvm.MethodName) prog_11_method_38_code (2 : Nat) (Option.some Jvm.ClassFile.FieldType.boolean)) ∈ kn_all := kn_t6 (List.mem_of_getElem? (i := 11) rfl) rfl
theorem q6_12 : (Jvm.Cond.methodLink "TinWallModel" (328 : Nat) ({ cls := "TinWallModel", name := "copies", desc := "([I[I)V" } : Jvm.MethodName)) ∈ kn_all := kn_t6 (List.mem_of_getElem? (i := 12) rfl) rfl
theorem q6_13 : (Jvm.Cond.static ({ cls := "TinWallModel", name := "copies", desc := "([I[I)V" } : Jvm.MethodName)) ∈ kn_all := kn_t6 (List.mem_of_getElem? (i := 13) rfl) rfl
theorem q6_14 : (Jvm.Cond.code ({ cls := "TinWallModel", name := "copies", desc := "([I[I)V" } : Jvm.MethodName) prog_11_method_37_code (3 : Nat) (Option.none : Option Jvm.ClassFile.FieldType)) ∈ kn_all := kn_t6 (List.mem_of_getElem? (i := 14) rfl) rfl
theorem q6_15 : (Jvm.Cond.methodLink "TinWallModel" (335 : Nat) ({ cls := "TinWallModel", name := "begins", desc := "()V" } : Jvm.MethodName)) ∈ kn_all := kn_t6 (List.mem_of_getElem? (i := 15) rfl) rfl
theorem q6_17 : (Jvm.Cond.instanceMethod ({ cls := "TinWallModel", name := "begins", desc := "()V" } : Jvm.MethodName)) ∈ kn_all := kn_t6 (List.mem_of_getElem? (i := 17) rfl) rfl
theorem q6_18 : (Jvm.Cond.code ({ cls := "TinWallModel", name := "begins", desc := "()V" } : Jvm.MethodName) prog_11_method_41_code (2 : Nat) (Option.none : Option Jvm.ClassFile.FieldType)) ∈ kn_all := kn_t6 (List.mem_of_getElem? (i := 18) rfl) rfl
theorem q6_19 : (Jvm.Cond.methodLink "TinWallLaw" (31 : Nat) ({ cls := "TinWallModel", name := "rule", desc := "()I" } : Jvm.MethodName)) ∈ kn_all := kn_t6 (List.mem_of_getElem? (i := 19) rfl) rfl
theorem q6_20 : (Jvm.Cond.instanceMethod ({ cls := "TinWallModel", name := "rule", desc := "()I" } : Jvm.MethodName)) ∈ kn_all := kn_t6 (List.mem_of_getElem? (i := 20) rfl) rfl
theorem q6_21 : (Jvm.Cond.selects "TinWallModel" ({ cls := "TinWallModel", name := "rule", desc := "()I" } : Jvm.MethodName) ({ cls := "TinWallModel", name := "rule", desc := "()I" } : Jvm.MethodName)) ∈ kn_all := kn_t6 (List.mem_of_getElem? (i := 21) rfl) rfl
theorem q6_22 : (Jvm.Cond.code ({ cls := "TinWallModel", name := "rule", desc := "()I" } : Jvm.MethodName) prog_11_method_44_code (3 : Nat) (Option.some Jvm.ClassFile.FieldType.int)) ∈ kn_all := kn_t6 (List.mem_of_getElem? (i := 22) rfl) rfl
theorem q6_23 : (Jvm.Cond.methodLink "TinWallModel" (354 : Nat) ({ cls := "TinWallModel", name := "ruleClause", desc := "(I)V" } : Jvm.MethodName)) ∈ kn_all := kn_t6 (List.mem_of_getElem? (i := 23) rfl) rfl
theorem q6_25 : (Jvm.Cond.instanceMethod ({ cls := "TinWallModel", name := "ruleClause", desc := "(I)V" } : Jvm.MethodName)) ∈ kn_all := kn_t6 (List.mem_of_getElem? (i := 25) rfl) rfl
theorem q6_26 : (Jvm.Cond.code ({ cls := "TinWallModel", name := "ruleClause", desc := "(I)V" } : Jvm.MethodName) prog_11_method_43_code (4 : Nat) (Option.none : Option Jvm.ClassFile.FieldType)) ∈ kn_all := kn_t6 (List.mem_of_getElem? (i := 26) rfl) rfl
theorem q6_28 : (Jvm.Cond.methodLink "TinWallModel" (264 : Nat) ({ cls := "TinWallModel", name := "sum", desc := "()V" } : Jvm.MethodName)) ∈ kn_all := kn_t6 (List.mem_of_getElem? (i := 28) rfl) rfl
theorem q6_30 : (Jvm.Cond.instanceMethod ({ cls := "TinWallModel", name := "sum", desc := "()V" } : Jvm.MethodName)) ∈ kn_all := kn_t6 (List.mem_of_getElem? (i := 30) rfl) rfl
theorem q6_31 : (Jvm.Cond.code ({ cls := "TinWallModel", name := "sum", desc := "()V" } : Jvm.MethodName) prog_11_method_24_code (2 : Nat) (Option.none : Option Jvm.ClassFile.FieldType)) ∈ kn_all := kn_t6 (List.mem_of_getElem? (i := 31) rfl) rfl
theorem q6_32 : (Jvm.Cond.methodLink "TinWallModel" (261 : Nat) ({ cls := "TinWallModel", name := "term", desc := "()V" } : Jvm.MethodName)) ∈ kn_all := kn_t6 (List.mem_of_getElem? (i := 32) rfl) rfl
theorem q6_34 : (Jvm.Cond.instanceMethod ({ cls := "TinWallModel", name := "term", desc := "()V" } : Jvm.MethodName)) ∈ kn_all := kn_t6 (List.mem_of_getElem? (i := 34) rfl) rfl
theorem q6_35 : (Jvm.Cond.code ({ cls := "TinWallModel", name := "term", desc := "()V" } : Jvm.MethodName) prog_11_method_23_code (2 : Nat) (Option.none : Option Jvm.ClassFile.FieldType)) ∈ kn_all := kn_t6 (List.mem_of_getElem? (i := 35) rfl) rfl
theorem q6_36 : (Jvm.Cond.methodLink "TinWallModel" (258 : Nat) ({ cls := "TinWallModel", name := "value", desc := "()V" } : Jvm.MethodName)) ∈ kn_all := kn_t6 (List.mem_of_getElem? (i := 36) rfl) rfl
theorem q6_38 : (Jvm.Cond.instanceMethod ({ cls := "TinWallModel", name := "value", desc := "()V" } : Jvm.MethodName)) ∈ kn_all := kn_t6 (List.mem_of_getElem? (i := 38) rfl) rfl
theorem q6_39 : (Jvm.Cond.code ({ cls := "TinWallModel", name := "value", desc := "()V" } : Jvm.MethodName) prog_11_method_22_code (3 : Nat) (Option.none : Option Jvm.ClassFile.FieldType)) ∈ kn_all := kn_t6 (List.mem_of_getElem? (i := 39) rfl) rfl
theorem q6_40 : (Jvm.Cond.methodLink "TinWallModel" (248 : Nat) ({ cls := "TinWallModel", name := "isCounted", desc := "(I)V" } : Jvm.MethodName)) ∈ kn_all := kn_t6 (List.mem_of_getElem? (i := 40) rfl) rfl
theorem q6_42 : (Jvm.Cond.instanceMethod ({ cls := "TinWallModel", name := "isCounted", desc := "(I)V" } : Jvm.MethodName)) ∈ kn_all := kn_t6 (List.mem_of_getElem? (i := 42) rfl) rfl
theorem q6_43 : (Jvm.Cond.code ({ cls := "TinWallModel", name := "isCounted", desc := "(I)V" } : Jvm.MethodName) prog_11_method_20_code (2 : Nat) (Option.none : Option Jvm.ClassFile.FieldType)) ∈ kn_all := kn_t6 (List.mem_of_getElem? (i := 43) rfl) rfl
theorem q6_44 : (Jvm.Cond.methodLink "TinWallModel" (251 : Nat) ({ cls := "TinWallModel", name := "entry", desc := "(II)V" } : Jvm.MethodName)) ∈ kn_all := kn_t6 (List.mem_of_getElem? (i := 44) rfl) rfl
theorem q6_46 : (Jvm.Cond.instanceMethod ({ cls := "TinWallModel", name := "entry", desc := "(II)V" } : Jvm.MethodName)) ∈ kn_all := kn_t6 (List.mem_of_getElem? (i := 46) rfl) rfl
theorem q6_47 : (Jvm.Cond.code ({ cls := "TinWallModel", name := "entry", desc := "(II)V" } : Jvm.MethodName) prog_11_method_19_code (3 : Nat) (Option.none : Option Jvm.ClassFile.FieldType)) ∈ kn_all := kn_t6 (List.mem_of_getElem? (i := 47) rfl) rfl
theorem q6_48 : (Jvm.Cond.methodLink "TinWallModel" (254 : Nat) ({ cls := "TinWallModel", name := "wordOf", desc := "(I)Ljava/lang/String;" } : Jvm.MethodName)) ∈ kn_all := kn_t6 (List.mem_of_getElem? (i := 48) rfl) rfl
theorem q6_49 : (Jvm.Cond.static ({ cls := "TinWallModel", name := "wordOf", desc := "(I)Ljava/lang/String;" } : Jvm.MethodName)) ∈ kn_all := kn_t6 (List.mem_of_getElem? (i := 49) rfl) rfl
theorem q6_50 : (Jvm.Cond.code ({ cls := "TinWallModel", name := "wordOf", desc := "(I)Ljava/lang/String;" } : Jvm.MethodName) prog_11_method_12_code (1 : Nat) (Option.some (Jvm.ClassFile.FieldType.object "java/lang/String"))) ∈ kn_all := kn_t6 (List.mem_of_getElem? (i := 50) rfl) rfl
theorem q6_64 : (Jvm.Cond.methodLink "TinWallModel" (345 : Nat) ({ cls := "TinWallModel", name := "takes", desc := "(Ljava/lang/String;)Z" } : Jvm.MethodName)) ∈ kn_all := kn_t6 (List.mem_of_getElem? (i := 64) rfl) rfl
theorem q6_66 : (Jvm.Cond.instanceMethod ({ cls := "TinWallModel", name := "takes", desc := "(Ljava/lang/String;)Z" } : Jvm.MethodName)) ∈ kn_all := kn_t6 (List.mem_of_getElem? (i := 66) rfl) rfl
theorem q6_67 : (Jvm.Cond.code ({ cls := "TinWallModel", name := "takes", desc := "(Ljava/lang/String;)Z" } : Jvm.MethodName) prog_11_method_18_code (3 : Nat) (Option.some Jvm.ClassFile.FieldType.boolean)) ∈ kn_all := kn_t6 (List.mem_of_getElem? (i := 67) rfl) rfl
theorem q6_68 : (Jvm.Cond.methodLink "TinWallModel" (348 : Nat) ({ cls := "TinWallModel", name := "test", desc := "()V" } : Jvm.MethodName)) ∈ kn_all := kn_t6 (List.mem_of_getElem? (i := 68) rfl) rfl
theorem q6_70 : (Jvm.Cond.instanceMethod ({ cls := "TinWallModel", name := "test", desc := "()V" } : Jvm.MethodName)) ∈ kn_all := kn_t6 (List.mem_of_getElem? (i := 70) rfl) rfl
theorem q6_71 : (Jvm.Cond.code ({ cls := "TinWallModel", name := "test", desc := "()V" } : Jvm.MethodName) prog_11_method_30_code (5 : Nat) (Option.none : Option Jvm.ClassFile.FieldType)) ∈ kn_all := kn_t6 (List.mem_of_getElem? (i := 71) rfl) rfl
theorem q6_72 : (Jvm.Cond.methodLink "TinWallModel" (284 : Nat) ({ cls := "TinWallModel", name := "fact", desc := "()Z" } : Jvm.MethodName)) ∈ kn_all := kn_t6 (List.mem_of_getElem? (i := 72) rfl) rfl
theorem q6_74 : (Jvm.Cond.instanceMethod ({ cls := "TinWallModel", name := "fact", desc := "()Z" } : Jvm.MethodName)) ∈ kn_all := kn_t6 (List.mem_of_getElem? (i := 74) rfl) rfl
theorem q6_75 : (Jvm.Cond.code ({ cls := "TinWallModel", name := "fact", desc := "()Z" } : Jvm.MethodName) prog_11_method_29_code (1 : Nat) (Option.some Jvm.ClassFile.FieldType.boolean)) ∈ kn_all := kn_t6 (List.mem_of_getElem? (i := 75) rfl) rfl
theorem q6_77 : (Jvm.Cond.methodLink "TinWallModel" (278 : Nat) ({ cls := "TinWallModel", name := "opens", desc := "(I)V" } : Jvm.MethodName)) ∈ kn_all := kn_t6 (List.mem_of_getElem? (i := 77) rfl) rfl
theorem q6_79 : (Jvm.Cond.instanceMethod ({ cls := "TinWallModel", name := "opens", desc := "(I)V" } : Jvm.MethodName)) ∈ kn_all := kn_t6 (List.mem_of_getElem? (i := 79) rfl) rfl
theorem q6_80 : (Jvm.Cond.code ({ cls := "TinWallModel", name := "opens", desc := "(I)V" } : Jvm.MethodName) prog_11_method_27_code (2 : Nat) (Option.none : Option Jvm.ClassFile.FieldType)) ∈ kn_all := kn_t6 (List.mem_of_getElem? (i := 80) rfl) rfl
theorem q6_81 : (Jvm.Cond.methodLink "TinWallModel" (281 : Nat) ({ cls := "TinWallModel", name := "compared", desc := "()V" } : Jvm.MethodName)) ∈ kn_all := kn_t6 (List.mem_of_getElem? (i := 81) rfl) rfl
theorem q6_83 : (Jvm.Cond.instanceMethod ({ cls := "TinWallModel", name := "compared", desc := "()V" } : Jvm.MethodName)) ∈ kn_all := kn_t6 (List.mem_of_getElem? (i := 83) rfl) rfl
theorem q6_84 : (Jvm.Cond.code ({ cls := "TinWallModel", name := "compared", desc := "()V" } : Jvm.MethodName) prog_11_method_25_code (3 : Nat) (Option.none : Option Jvm.ClassFile.FieldType)) ∈ kn_all := kn_t6 (List.mem_of_getElem? (i := 84) rfl) rfl
theorem q6_85 : (Jvm.Cond.methodLink "TinWallModel" (287 : Nat) ({ cls := "TinWallModel", name := "answers", desc := "(I)V" } : Jvm.MethodName)) ∈ kn_all := kn_t6 (List.mem_of_getElem? (i := 85) rfl) rfl
theorem q6_87 : (Jvm.Cond.instanceMethod ({ cls := "TinWallModel", name := "answers", desc := "(I)V" } : Jvm.MethodName)) ∈ kn_all := kn_t6 (List.mem_of_getElem? (i := 87) rfl) rfl
theorem q6_88 : (Jvm.Cond.code ({ cls := "TinWallModel", name := "answers", desc := "(I)V" } : Jvm.MethodName) prog_11_method_28_code (2 : Nat) (Option.none : Option Jvm.ClassFile.FieldType)) ∈ kn_all := kn_t6 (List.mem_of_getElem? (i := 88) rfl) rfl
theorem q6_89 : (Jvm.Cond.methodLink "TinWallModel" (273 : Nat) ({ cls := "TinWallModel", name := "top", desc := "()I" } : Jvm.MethodName)) ∈ kn_all := kn_t6 (List.mem_of_getElem? (i := 89) rfl) rfl
theorem q6_91 : (Jvm.Cond.instanceMethod ({ cls := "TinWallModel", name := "top", desc := "()I" } : Jvm.MethodName)) ∈ kn_all := kn_t6 (List.mem_of_getElem? (i := 91) rfl) rfl
theorem q6_92 : (Jvm.Cond.code ({ cls := "TinWallModel", name := "top", desc := "()I" } : Jvm.MethodName) prog_11_method_26_code (1 : Nat) (Option.some Jvm.ClassFile.FieldType.int)) ∈ kn_all := kn_t6 (List.mem_of_getElem? (i := 92) rfl) rfl
theorem q6_95 : (Jvm.Cond.methodLink "TinWallLaw" (35 : Nat) ({ cls := "TinWallModel", name := "force", desc := "(I)I" } : Jvm.MethodName)) ∈ kn_all := kn_t6 (List.mem_of_getElem? (i := 95) rfl) rfl
theorem q6_96 : (Jvm.Cond.instanceMethod ({ cls := "TinWallModel", name := "force", desc := "(I)I" } : Jvm.MethodName)) ∈ kn_all := kn_t6 (List.mem_of_getElem? (i := 96) rfl) rfl
theorem q6_97 : (Jvm.Cond.selects "TinWallModel" ({ cls := "TinWallModel", name := "force", desc := "(I)I" } : Jvm.MethodName) ({ cls := "TinWallModel", name := "force", desc := "(I)I" } : Jvm.MethodName)) ∈ kn_all := kn_t6 (List.mem_of_getElem? (i := 97) rfl) rfl
theorem q6_98 : (Jvm.Cond.code ({ cls := "TinWallModel", name := "force", desc := "(I)I" } : Jvm.MethodName) prog_11_method_45_code (3 : Nat) (Option.some Jvm.ClassFile.FieldType.int)) ∈ kn_all := kn_t6 (List.mem_of_getElem? (i := 98) rfl) rfl
theorem q6_99 : (Jvm.Cond.constantLong "TinWallModel" (357 : Nat) (-1 : Int64)) ∈ kn_all := kn_t6 (List.mem_of_getElem? (i := 99) rfl) rfl
theorem q6_100 : (Jvm.Cond.methodLink "TinWallLaw" (40 : Nat) ({ cls := "TinWallModel", name := "stone", desc := "(II)I" } : Jvm.MethodName)) ∈ kn_all := kn_t6 (List.mem_of_getElem? (i := 100) rfl) rfl
theorem q6_101 : (Jvm.Cond.instanceMethod ({ cls := "TinWallModel", name := "stone", desc := "(II)I" } : Jvm.MethodName)) ∈ kn_all := kn_t6 (List.mem_of_getElem? (i := 101) rfl) rfl
theorem q6_102 : (Jvm.Cond.selects "TinWallModel" ({ cls := "TinWallModel", name := "stone", desc := "(II)I" } : Jvm.MethodName) ({ cls := "TinWallModel", name := "stone", desc := "(II)I" } : Jvm.MethodName)) ∈ kn_all := kn_t6 (List.mem_of_getElem? (i := 102) rfl) rfl
theorem q6_103 : (Jvm.Cond.code ({ cls := "TinWallModel", name := "stone", desc := "(II)I" } : Jvm.MethodName) prog_11_method_53_code (3 : Nat) (Option.some Jvm.ClassFile.FieldType.int)) ∈ kn_all := kn_t6 (List.mem_of_getElem? (i := 103) rfl) rfl
theorem q6_104 : (Jvm.Cond.methodLink "TinWallModel" (374 : Nat) ({ cls := "TinWallModel", name := "isStone", desc := "(I)Z" } : Jvm.MethodName)) ∈ kn_all := kn_t6 (List.mem_of_getElem? (i := 104) rfl) rfl
theorem q6_106 : (Jvm.Cond.instanceMethod ({ cls := "TinWallModel", name := "isStone", desc := "(I)Z" } : Jvm.MethodName)) ∈ kn_all := kn_t6 (List.mem_of_getElem? (i := 106) rfl) rfl
theorem q6_107 : (Jvm.Cond.code ({ cls := "TinWallModel", name := "isStone", desc := "(I)Z" } : Jvm.MethodName) prog_11_method_7_code (2 : Nat) (Option.some Jvm.ClassFile.FieldType.boolean)) ∈ kn_all := kn_t6 (List.mem_of_getElem? (i := 107) rfl) rfl
theorem q6_108 : (Jvm.Cond.methodLink "TinWallModel" (378 : Nat) ({ cls := "TinWallModel", name := "whoTried", desc := "(I)I" } : Jvm.MethodName)) ∈ kn_all := kn_t6 (List.mem_of_getElem? (i := 108) rfl) rfl
theorem q6_110 : (Jvm.Cond.instanceMethod ({ cls := "TinWallModel", name := "whoTried", desc := "(I)I" } : Jvm.MethodName)) ∈ kn_all := kn_t6 (List.mem_of_getElem? (i := 110) rfl) rfl
theorem q6_111 : (Jvm.Cond.code ({ cls := "TinWallModel", name := "whoTried", desc := "(I)I" } : Jvm.MethodName) prog_11_method_52_code (4 : Nat) (Option.some Jvm.ClassFile.FieldType.int)) ∈ kn_all := kn_t6 (List.mem_of_getElem? (i := 111) rfl) rfl
theorem q6_112 : (Jvm.Cond.methodLink "TinWallModel" (371 : Nat) ({ cls := "TinWallModel", name := "has", desc := "(II)Z" } : Jvm.MethodName)) ∈ kn_all := kn_t6 (List.mem_of_getElem? (i := 112) rfl) rfl
theorem q6_113 : (Jvm.Cond.static ({ cls := "TinWallModel", name := "has", desc := "(II)Z" } : Jvm.MethodName)) ∈ kn_all := kn_t6 (List.mem_of_getElem? (i := 113) rfl) rfl
theorem q6_114 : (Jvm.Cond.code ({ cls := "TinWallModel", name := "has", desc := "(II)Z" } : Jvm.MethodName) prog_11_method_5_code (2 : Nat) (Option.some Jvm.ClassFile.FieldType.boolean)) ∈ kn_all := kn_t6 (List.mem_of_getElem? (i := 114) rfl) rfl
theorem q6_115 : (Jvm.Cond.methodLink "TinWallLaw" (44 : Nat) ({ cls := "TinWallModel", name := "seeker", desc := "(II)I" } : Jvm.MethodName)) ∈ kn_all := kn_t6 (List.mem_of_getElem? (i := 115) rfl) rfl
theorem q6_116 : (Jvm.Cond.instanceMethod ({ cls := "TinWallModel", name := "seeker", desc := "(II)I" } : Jvm.MethodName)) ∈ kn_all := kn_t6 (List.mem_of_getElem? (i := 116) rfl) rfl
theorem q6_117 : (Jvm.Cond.selects "TinWallModel" ({ cls := "TinWallModel", name := "seeker", desc := "(II)I" } : Jvm.MethodName) ({ cls := "TinWallModel", name := "seeker", desc := "(II)I" } : Jvm.MethodName)) ∈ kn_all := kn_t6 (List.mem_of_getElem? (i := 117) rfl) rfl
theorem q6_118 : (Jvm.Cond.code ({ cls := "TinWallModel", name := "seeker", desc := "(II)I" } : Jvm.MethodName) prog_11_method_54_code (3 : Nat) (Option.some Jvm.ClassFile.FieldType.int)) ∈ kn_all := kn_t6 (List.mem_of_getElem? (i := 118) rfl) rfl
theorem q6_119 : (Jvm.Cond.methodLink "TinWallModel" (381 : Nat) ({ cls := "TinWallModel", name := "isSeeker", desc := "(I)Z" } : Jvm.MethodName)) ∈ kn_all := kn_t6 (List.mem_of_getElem? (i := 119) rfl) rfl
theorem q6_121 : (Jvm.Cond.instanceMethod ({ cls := "TinWallModel", name := "isSeeker", desc := "(I)Z" } : Jvm.MethodName)) ∈ kn_all := kn_t6 (List.mem_of_getElem? (i := 121) rfl) rfl
theorem q6_122 : (Jvm.Cond.code ({ cls := "TinWallModel", name := "isSeeker", desc := "(I)Z" } : Jvm.MethodName) prog_11_method_8_code (2 : Nat) (Option.some Jvm.ClassFile.FieldType.boolean)) ∈ kn_all := kn_t6 (List.mem_of_getElem? (i := 122) rfl) rfl
theorem q6_123 : (Jvm.Cond.methodLink "TinWallLaw" (48 : Nat) ({ cls := "TinWallModel", name := "thing", desc := "(I)I" } : Jvm.MethodName)) ∈ kn_all := kn_t6 (List.mem_of_getElem? (i := 123) rfl) rfl
theorem q6_124 : (Jvm.Cond.instanceMethod ({ cls := "TinWallModel", name := "thing", desc := "(I)I" } : Jvm.MethodName)) ∈ kn_all := kn_t6 (List.mem_of_getElem? (i := 124) rfl) rfl
theorem q6_125 : (Jvm.Cond.selects "TinWallModel" ({ cls := "TinWallModel", name := "thing", desc := "(I)I" } : Jvm.MethodName) ({ cls := "TinWallModel", name := "thing", desc := "(I)I" } : Jvm.MethodName)) ∈ kn_all := kn_t6 (List.mem_of_getElem? (i := 125) rfl) rfl
theorem q6_126 : (Jvm.Cond.code ({ cls := "TinWallModel", name := "thing", desc := "(I)I" } : Jvm.MethodName) prog_11_method_55_code (2 : Nat) (Option.some Jvm.ClassFile.FieldType.int)) ∈ kn_all := kn_t6 (List.mem_of_getElem? (i := 126) rfl) rfl
theorem q6_127 : (Jvm.Cond.methodLink "TinWallLaw" (72 : Nat) ({ cls := "TinWallModel", name := "undo", desc := "()I" } : Jvm.MethodName)) ∈ kn_all := kn_t6 (List.mem_of_getElem? (i := 127) rfl) rfl
theorem q6_128 : (Jvm.Cond.instanceMethod ({ cls := "TinWallModel", name := "undo", desc := "()I" } : Jvm.MethodName)) ∈ kn_all := kn_t6 (List.mem_of_getElem? (i := 128) rfl) rfl
theorem q6_129 : (Jvm.Cond.selects "TinWallModel" ({ cls := "TinWallModel", name := "undo", desc := "()I" } : Jvm.MethodName) ({ cls := "TinWallModel", name := "undo", desc := "()I" } : Jvm.MethodName)) ∈ kn_all := kn_t6 (List.mem_of_getElem? (i := 129) rfl) rfl
theorem q6_130 : (Jvm.Cond.code ({ cls := "TinWallModel", name := "undo", desc := "()I" } : Jvm.MethodName) prog_11_method_69_code (1 : Nat) (Option.some Jvm.ClassFile.FieldType.int)) ∈ kn_all := kn_t6 (List.mem_of_getElem? (i := 130) rfl) rfl
theorem q6_131 : (Jvm.Cond.methodLink "TinWallModel" (445 : Nat) ({ cls := "TinWallModel", name := "movesAll", desc := "(IZ)V" } : Jvm.MethodName)) ∈ kn_all := kn_t6 (List.mem_of_getElem? (i := 131) rfl) rfl
theorem q6_133 : (Jvm.Cond.instanceMethod ({ cls := "TinWallModel", name := "movesAll", desc := "(IZ)V" } : Jvm.MethodName)) ∈ kn_all := kn_t6 (List.mem_of_getElem? (i := 133) rfl) rfl
theorem q6_134 : (Jvm.Cond.code ({ cls := "TinWallModel", name := "movesAll", desc := "(IZ)V" } : Jvm.MethodName) prog_11_method_67_code (3 : Nat) (Option.none : Option Jvm.ClassFile.FieldType)) ∈ kn_all := kn_t6 (List.mem_of_getElem? (i := 134) rfl) rfl
theorem q6_135 : (Jvm.Cond.methodLink "TinWallModel" (438 : Nat) ({ cls := "TinWallModel", name := "moves", desc := "(I)I" } : Jvm.MethodName)) ∈ kn_all := kn_t6 (List.mem_of_getElem? (i := 135) rfl) rfl
theorem q6_137 : (Jvm.Cond.instanceMethod ({ cls := "TinWallModel", name := "moves", desc := "(I)I" } : Jvm.MethodName)) ∈ kn_all := kn_t6 (List.mem_of_getElem? (i := 137) rfl) rfl
theorem q6_138 : (Jvm.Cond.code ({ cls := "TinWallModel", name := "moves", desc := "(I)I" } : Jvm.MethodName) prog_11_method_65_code (3 : Nat) (Option.some Jvm.ClassFile.FieldType.int)) ∈ kn_all := kn_t6 (List.mem_of_getElem? (i := 138) rfl) rfl
theorem q6_139 : (Jvm.Cond.methodLink "TinWallModel" (441 : Nat) ({ cls := "TinWallModel", name := "movesRow", desc := "([I)V" } : Jvm.MethodName)) ∈ kn_all := kn_t6 (List.mem_of_getElem? (i := 139) rfl) rfl
theorem q6_141 : (Jvm.Cond.instanceMethod ({ cls := "TinWallModel", name := "movesRow", desc := "([I)V" } : Jvm.MethodName)) ∈ kn_all := kn_t6 (List.mem_of_getElem? (i := 141) rfl) rfl
theorem q6_142 : (Jvm.Cond.code ({ cls := "TinWallModel", name := "movesRow", desc := "([I)V" } : Jvm.MethodName) prog_11_method_66_code (3 : Nat) (Option.none : Option Jvm.ClassFile.FieldType)) ∈ kn_all := kn_t6 (List.mem_of_getElem? (i := 142) rfl) rfl
theorem q6_143 : (Jvm.Cond.methodLink "TinWallLaw" (52 : Nat) ({ cls := "TinWallModel", name := "day", desc := "()I" } : Jvm.MethodName)) ∈ kn_all := kn_t6 (List.mem_of_getElem? (i := 143) rfl) rfl
theorem q6_144 : (Jvm.Cond.instanceMethod ({ cls := "TinWallModel", name := "day", desc := "()I" } : Jvm.MethodName)) ∈ kn_all := kn_t6 (List.mem_of_getElem? (i := 144) rfl) rfl
theorem q6_145 : (Jvm.Cond.selects "TinWallModel" ({ cls := "TinWallModel", name := "day", desc := "()I" } : Jvm.MethodName) ({ cls := "TinWallModel", name := "day", desc := "()I" } : Jvm.MethodName)) ∈ kn_all := kn_t6 (List.mem_of_getElem? (i := 145) rfl) rfl
theorem q6_146 : (Jvm.Cond.code ({ cls := "TinWallModel", name := "day", desc := "()I" } : Jvm.MethodName) prog_11_method_70_code (1 : Nat) (Option.some Jvm.ClassFile.FieldType.int)) ∈ kn_all := kn_t6 (List.mem_of_getElem? (i := 146) rfl) rfl
theorem q6_147 : (Jvm.Cond.methodLink "TinWallModel" (449 : Nat) ({ cls := "TinWallModel", name := "isHill", desc := "()Z" } : Jvm.MethodName)) ∈ kn_all := kn_t6 (List.mem_of_getElem? (i := 147) rfl) rfl
theorem q6_149 : (Jvm.Cond.instanceMethod ({ cls := "TinWallModel", name := "isHill", desc := "()Z" } : Jvm.MethodName)) ∈ kn_all := kn_t6 (List.mem_of_getElem? (i := 149) rfl) rfl
theorem q6_150 : (Jvm.Cond.code ({ cls := "TinWallModel", name := "isHill", desc := "()Z" } : Jvm.MethodName) prog_11_method_6_code (1 : Nat) (Option.some Jvm.ClassFile.FieldType.boolean)) ∈ kn_all := kn_t6 (List.mem_of_getElem? (i := 150) rfl) rfl
theorem q6_151 : (Jvm.Cond.methodLink "TinWallModel" (452 : Nat) ({ cls := "TinWallModel", name := "keepsAct", desc := "()V" } : Jvm.MethodName)) ∈ kn_all := kn_t6 (List.mem_of_getElem? (i := 151) rfl) rfl
theorem q6_153 : (Jvm.Cond.instanceMethod ({ cls := "TinWallModel", name := "keepsAct", desc := "()V" } : Jvm.MethodName)) ∈ kn_all := kn_t6 (List.mem_of_getElem? (i := 153) rfl) rfl
theorem q6_154 : (Jvm.Cond.code ({ cls := "TinWallModel", name := "keepsAct", desc := "()V" } : Jvm.MethodName) prog_11_method_68_code (2 : Nat) (Option.none : Option Jvm.ClassFile.FieldType)) ∈ kn_all := kn_t6 (List.mem_of_getElem? (i := 154) rfl) rfl
theorem q6_155 : (Jvm.Cond.methodLink "TinWallModel" (429 : Nat) ({ cls := "TinWallModel", name := "goes", desc := "()I" } : Jvm.MethodName)) ∈ kn_all := kn_t6 (List.mem_of_getElem? (i := 155) rfl) rfl
theorem q6_157 : (Jvm.Cond.instanceMethod ({ cls := "TinWallModel", name := "goes", desc := "()I" } : Jvm.MethodName)) ∈ kn_all := kn_t6 (List.mem_of_getElem? (i := 157) rfl) rfl
theorem q6_158 : (Jvm.Cond.code ({ cls := "TinWallModel", name := "goes", desc := "()I" } : Jvm.MethodName) prog_11_method_63_code (3 : Nat) (Option.some Jvm.ClassFile.FieldType.int)) ∈ kn_all := kn_t6 (List.mem_of_getElem? (i := 158) rfl) rfl
theorem q6_159 : (Jvm.Cond.methodLink "TinWallModel" (423 : Nat) ({ cls := "TinWallModel", name := "looksFor", desc := "(I)Z" } : Jvm.MethodName)) ∈ kn_all := kn_t6 (List.mem_of_getElem? (i := 159) rfl) rfl
theorem q6_161 : (Jvm.Cond.instanceMethod ({ cls := "TinWallModel", name := "looksFor", desc := "(I)Z" } : Jvm.MethodName)) ∈ kn_all := kn_t6 (List.mem_of_getElem? (i := 161) rfl) rfl
theorem q6_162 : (Jvm.Cond.code ({ cls := "TinWallModel", name := "looksFor", desc := "(I)Z" } : Jvm.MethodName) prog_11_method_62_code (5 : Nat) (Option.some Jvm.ClassFile.FieldType.boolean)) ∈ kn_all := kn_t6 (List.mem_of_getElem? (i := 162) rfl) rfl
theorem q6_163 : (Jvm.Cond.methodLink "TinWallModel" (414 : Nat) ({ cls := "TinWallModel", name := "laysLooking", desc := "(I)Z" } : Jvm.MethodName)) ∈ kn_all := kn_t6 (List.mem_of_getElem? (i := 163) rfl) rfl
theorem q6_165 : (Jvm.Cond.instanceMethod ({ cls := "TinWallModel", name := "laysLooking", desc := "(I)Z" } : Jvm.MethodName)) ∈ kn_all := kn_t6 (List.mem_of_getElem? (i := 165) rfl) rfl
theorem q6_166 : (Jvm.Cond.code ({ cls := "TinWallModel", name := "laysLooking", desc := "(I)Z" } : Jvm.MethodName) prog_11_method_59_code (5 : Nat) (Option.some Jvm.ClassFile.FieldType.boolean)) ∈ kn_all := kn_t6 (List.mem_of_getElem? (i := 166) rfl) rfl
theorem q6_167 : (Jvm.Cond.methodLink "TinWallModel" (404 : Nat) ({ cls := "TinWallModel", name := "sumOf", desc := "(II)J" } : Jvm.MethodName)) ∈ kn_all := kn_t6 (List.mem_of_getElem? (i := 167) rfl) rfl
theorem q6_169 : (Jvm.Cond.instanceMethod ({ cls := "TinWallModel", name := "sumOf", desc := "(II)J" } : Jvm.MethodName)) ∈ kn_all := kn_t6 (List.mem_of_getElem? (i := 169) rfl) rfl
theorem q6_170 : (Jvm.Cond.code ({ cls := "TinWallModel", name := "sumOf", desc := "(II)J" } : Jvm.MethodName) prog_11_method_58_code (3 : Nat) (Option.some Jvm.ClassFile.FieldType.long)) ∈ kn_all := kn_t6 (List.mem_of_getElem? (i := 170) rfl) rfl
theorem q6_171 : (Jvm.Cond.methodLink "TinWallModel" (388 : Nat) ({ cls := "TinWallModel", name := "apart", desc := "(II)I" } : Jvm.MethodName)) ∈ kn_all := kn_t6 (List.mem_of_getElem? (i := 171) rfl) rfl
theorem q6_172 : (Jvm.Cond.static ({ cls := "TinWallModel", name := "apart", desc := "(II)I" } : Jvm.MethodName)) ∈ kn_all := kn_t6 (List.mem_of_getElem? (i := 172) rfl) rfl
theorem q6_173 : (Jvm.Cond.code ({ cls := "TinWallModel", name := "apart", desc := "(II)I" } : Jvm.MethodName) prog_11_method_50_code (2 : Nat) (Option.some Jvm.ClassFile.FieldType.int)) ∈ kn_all := kn_t6 (List.mem_of_getElem? (i := 173) rfl) rfl
theorem q6_174 : (Jvm.Cond.methodLink "TinWallModel" (391 : Nat) ({ cls := "TinWallModel", name := "minutesOf", desc := "(II)I" } : Jvm.MethodName)) ∈ kn_all := kn_t6 (List.mem_of_getElem? (i := 174) rfl) rfl
theorem q6_176 : (Jvm.Cond.instanceMethod ({ cls := "TinWallModel", name := "minutesOf", desc := "(II)I" } : Jvm.MethodName)) ∈ kn_all := kn_t6 (List.mem_of_getElem? (i := 176) rfl) rfl
theorem q6_177 : (Jvm.Cond.code ({ cls := "TinWallModel", name := "minutesOf", desc := "(II)I" } : Jvm.MethodName) prog_11_method_51_code (4 : Nat) (Option.some Jvm.ClassFile.FieldType.int)) ∈ kn_all := kn_t6 (List.mem_of_getElem? (i := 177) rfl) rfl
theorem q6_178 : (Jvm.Cond.methodLink "TinWallModel" (394 : Nat) ({ cls := "TinWallModel", name := "foundBy", desc := "()I" } : Jvm.MethodName)) ∈ kn_all := kn_t6 (List.mem_of_getElem? (i := 178) rfl) rfl
theorem q6_180 : (Jvm.Cond.instanceMethod ({ cls := "TinWallModel", name := "foundBy", desc := "()I" } : Jvm.MethodName)) ∈ kn_all := kn_t6 (List.mem_of_getElem? (i := 180) rfl) rfl
theorem q6_181 : (Jvm.Cond.code ({ cls := "TinWallModel", name := "foundBy", desc := "()I" } : Jvm.MethodName) prog_11_method_56_code (3 : Nat) (Option.some Jvm.ClassFile.FieldType.int)) ∈ kn_all := kn_t6 (List.mem_of_getElem? (i := 181) rfl) rfl
theorem q6_182 : (Jvm.Cond.methodLink "TinWallModel" (397 : Nat) ({ cls := "TinWallModel", name := "bits", desc := "(I)I" } : Jvm.MethodName)) ∈ kn_all := kn_t6 (List.mem_of_getElem? (i := 182) rfl) rfl
theorem q6_183 : (Jvm.Cond.static ({ cls := "TinWallModel", name := "bits", desc := "(I)I" } : Jvm.MethodName)) ∈ kn_all := kn_t6 (List.mem_of_getElem? (i := 183) rfl) rfl
theorem q6_184 : (Jvm.Cond.code ({ cls := "TinWallModel", name := "bits", desc := "(I)I" } : Jvm.MethodName) prog_11_method_4_code (3 : Nat) (Option.some Jvm.ClassFile.FieldType.int)) ∈ kn_all := kn_t6 (List.mem_of_getElem? (i := 184) rfl) rfl
theorem q6_185 : (Jvm.Cond.methodLink "TinWallModel" (400 : Nat) ({ cls := "TinWallModel", name := "wanted", desc := "()J" } : Jvm.MethodName)) ∈ kn_all := kn_t6 (List.mem_of_getElem? (i := 185) rfl) rfl
theorem q6_187 : (Jvm.Cond.instanceMethod ({ cls := "TinWallModel", name := "wanted", desc := "()J" } : Jvm.MethodName)) ∈ kn_all := kn_t6 (List.mem_of_getElem? (i := 187) rfl) rfl
theorem q6_188 : (Jvm.Cond.code ({ cls := "TinWallModel", name := "wanted", desc := "()J" } : Jvm.MethodName) prog_11_method_46_code (3 : Nat) (Option.some Jvm.ClassFile.FieldType.long)) ∈ kn_all := kn_t6 (List.mem_of_getElem? (i := 188) rfl) rfl
theorem q6_189 : (Jvm.Cond.methodLink "TinWallModel" (359 : Nat) ({ cls := "TinWallModel", name := "answer", desc := "(III)J" } : Jvm.MethodName)) ∈ kn_all := kn_t6 (List.mem_of_getElem? (i := 189) rfl) rfl
theorem q6_191 : (Jvm.Cond.instanceMethod ({ cls := "TinWallModel", name := "answer", desc := "(III)J" } : Jvm.MethodName)) ∈ kn_all := kn_t6 (List.mem_of_getElem? (i := 191) rfl) rfl
theorem q6_192 : (Jvm.Cond.code ({ cls := "TinWallModel", name := "answer", desc := "(III)J" } : Jvm.MethodName) prog_11_method_49_code (8 : Nat) (Option.some Jvm.ClassFile.FieldType.long)) ∈ kn_all := kn_t6 (List.mem_of_getElem? (i := 192) rfl) rfl
theorem q6_193 : (Jvm.Cond.methodLink "TinWallModel" (367 : Nat) ({ cls := "TinWallModel", name := "both", desc := "(IJJ)J" } : Jvm.MethodName)) ∈ kn_all := kn_t6 (List.mem_of_getElem? (i := 193) rfl) rfl
theorem q6_194 : (Jvm.Cond.static ({ cls := "TinWallModel", name := "both", desc := "(IJJ)J" } : Jvm.MethodName)) ∈ kn_all := kn_t6 (List.mem_of_getElem? (i := 194) rfl) rfl
theorem q6_195 : (Jvm.Cond.code ({ cls := "TinWallModel", name := "both", desc := "(IJJ)J" } : Jvm.MethodName) prog_11_method_48_code (5 : Nat) (Option.some Jvm.ClassFile.FieldType.long)) ∈ kn_all := kn_t6 (List.mem_of_getElem? (i := 195) rfl) rfl
theorem q6_196 : (Jvm.Cond.methodLink "TinWallModel" (363 : Nat) ({ cls := "TinWallModel", name := "truth", desc := "(Z)J" } : Jvm.MethodName)) ∈ kn_all := kn_t6 (List.mem_of_getElem? (i := 196) rfl) rfl
theorem q6_197 : (Jvm.Cond.static ({ cls := "TinWallModel", name := "truth", desc := "(Z)J" } : Jvm.MethodName)) ∈ kn_all := kn_t6 (List.mem_of_getElem? (i := 197) rfl) rfl
theorem q6_198 : (Jvm.Cond.code ({ cls := "TinWallModel", name := "truth", desc := "(Z)J" } : Jvm.MethodName) prog_11_method_47_code (1 : Nat) (Option.some Jvm.ClassFile.FieldType.long)) ∈ kn_all := kn_t6 (List.mem_of_getElem? (i := 198) rfl) rfl
theorem q6_199 : (Jvm.Cond.methodLink "TinWallModel" (417 : Nat) ({ cls := "TinWallModel", name := "swaps", desc := "(I)V" } : Jvm.MethodName)) ∈ kn_all := kn_t6 (List.mem_of_getElem? (i := 199) rfl) rfl
theorem q6_201 : (Jvm.Cond.instanceMethod ({ cls := "TinWallModel", name := "swaps", desc := "(I)V" } : Jvm.MethodName)) ∈ kn_all := kn_t6 (List.mem_of_getElem? (i := 201) rfl) rfl
theorem q6_202 : (Jvm.Cond.code ({ cls := "TinWallModel", name := "swaps", desc := "(I)V" } : Jvm.MethodName) prog_11_method_60_code (4 : Nat) (Option.none : Option Jvm.ClassFile.FieldType)) ∈ kn_all := kn_t6 (List.mem_of_getElem? (i := 202) rfl) rfl
theorem q6_203 : (Jvm.Cond.methodLink "TinWallModel" (420 : Nat) ({ cls := "TinWallModel", name := "putsBack", desc := "(I)V" } : Jvm.MethodName)) ∈ kn_all := kn_t6 (List.mem_of_getElem? (i := 203) rfl) rfl
theorem q6_205 : (Jvm.Cond.instanceMethod ({ cls := "TinWallModel", name := "putsBack", desc := "(I)V" } : Jvm.MethodName)) ∈ kn_all := kn_t6 (List.mem_of_getElem? (i := 205) rfl) rfl
theorem q6_206 : (Jvm.Cond.code ({ cls := "TinWallModel", name := "putsBack", desc := "(I)V" } : Jvm.MethodName) prog_11_method_61_code (3 : Nat) (Option.none : Option Jvm.ClassFile.FieldType)) ∈ kn_all := kn_t6 (List.mem_of_getElem? (i := 206) rfl) rfl
theorem q6_207 : (Jvm.Cond.methodLink "TinWallModel" (426 : Nat) ({ cls := "TinWallModel", name := "walksBy", desc := "()V" } : Jvm.MethodName)) ∈ kn_all := kn_t6 (List.mem_of_getElem? (i := 207) rfl) rfl
theorem q6_209 : (Jvm.Cond.instanceMethod ({ cls := "TinWallModel", name := "walksBy", desc := "()V" } : Jvm.MethodName)) ∈ kn_all := kn_t6 (List.mem_of_getElem? (i := 209) rfl) rfl
theorem q6_210 : (Jvm.Cond.code ({ cls := "TinWallModel", name := "walksBy", desc := "()V" } : Jvm.MethodName) prog_11_method_80_code (1 : Nat) (Option.none : Option Jvm.ClassFile.FieldType)) ∈ kn_all := kn_t6 (List.mem_of_getElem? (i := 210) rfl) rfl
theorem q6_211 : (Jvm.Cond.methodLink "TinWallModel" (471 : Nat) ({ cls := "TinWallModel", name := "doWalk", desc := "(I)Z" } : Jvm.MethodName)) ∈ kn_all := kn_t6 (List.mem_of_getElem? (i := 211) rfl) rfl
theorem q6_213 : (Jvm.Cond.instanceMethod ({ cls := "TinWallModel", name := "doWalk", desc := "(I)Z" } : Jvm.MethodName)) ∈ kn_all := kn_t6 (List.mem_of_getElem? (i := 213) rfl) rfl
theorem q6_214 : (Jvm.Cond.code ({ cls := "TinWallModel", name := "doWalk", desc := "(I)Z" } : Jvm.MethodName) prog_11_method_57_code (3 : Nat) (Option.some Jvm.ClassFile.FieldType.boolean)) ∈ kn_all := kn_t6 (List.mem_of_getElem? (i := 214) rfl) rfl
theorem q6_215 : (Jvm.Cond.methodLink "TinWallLaw" (56 : Nat) ({ cls := "TinWallModel", name := "hide", desc := "(I)I" } : Jvm.MethodName)) ∈ kn_all := kn_t6 (List.mem_of_getElem? (i := 215) rfl) rfl
theorem q6_216 : (Jvm.Cond.instanceMethod ({ cls := "TinWallModel", name := "hide", desc := "(I)I" } : Jvm.MethodName)) ∈ kn_all := kn_t6 (List.mem_of_getElem? (i := 216) rfl) rfl
theorem q6_217 : (Jvm.Cond.selects "TinWallModel" ({ cls := "TinWallModel", name := "hide", desc := "(I)I" } : Jvm.MethodName) ({ cls := "TinWallModel", name := "hide", desc := "(I)I" } : Jvm.MethodName)) ∈ kn_all := kn_t6 (List.mem_of_getElem? (i := 217) rfl) rfl
theorem q6_218 : (Jvm.Cond.code ({ cls := "TinWallModel", name := "hide", desc := "(I)I" } : Jvm.MethodName) prog_11_method_71_code (3 : Nat) (Option.some Jvm.ClassFile.FieldType.int)) ∈ kn_all := kn_t6 (List.mem_of_getElem? (i := 218) rfl) rfl
theorem q6_219 : (Jvm.Cond.methodLink "TinWallLaw" (60 : Nat) ({ cls := "TinWallModel", name := "rest", desc := "(I)I" } : Jvm.MethodName)) ∈ kn_all := kn_t6 (List.mem_of_getElem? (i := 219) rfl) rfl
theorem q6_220 : (Jvm.Cond.instanceMethod ({ cls := "TinWallModel", name := "rest", desc := "(I)I" } : Jvm.MethodName)) ∈ kn_all := kn_t6 (List.mem_of_getElem? (i := 220) rfl) rfl
theorem q6_221 : (Jvm.Cond.selects "TinWallModel" ({ cls := "TinWallModel", name := "rest", desc := "(I)I" } : Jvm.MethodName) ({ cls := "TinWallModel", name := "rest", desc := "(I)I" } : Jvm.MethodName)) ∈ kn_all := kn_t6 (List.mem_of_getElem? (i := 221) rfl) rfl
theorem q6_222 : (Jvm.Cond.code ({ cls := "TinWallModel", name := "rest", desc := "(I)I" } : Jvm.MethodName) prog_11_method_72_code (3 : Nat) (Option.some Jvm.ClassFile.FieldType.int)) ∈ kn_all := kn_t6 (List.mem_of_getElem? (i := 222) rfl) rfl
theorem q6_223 : (Jvm.Cond.methodLink "TinWallLaw" (64 : Nat) ({ cls := "TinWallModel", name := "figure", desc := "(I)I" } : Jvm.MethodName)) ∈ kn_all := kn_t6 (List.mem_of_getElem? (i := 223) rfl) rfl
theorem q6_224 : (Jvm.Cond.instanceMethod ({ cls := "TinWallModel", name := "figure", desc := "(I)I" } : Jvm.MethodName)) ∈ kn_all := kn_t6 (List.mem_of_getElem? (i := 224) rfl) rfl
theorem q6_225 : (Jvm.Cond.selects "TinWallModel" ({ cls := "TinWallModel", name := "figure", desc := "(I)I" } : Jvm.MethodName) ({ cls := "TinWallModel", name := "figure", desc := "(I)I" } : Jvm.MethodName)) ∈ kn_all := kn_t6 (List.mem_of_getElem? (i := 225) rfl) rfl
theorem q6_226 : (Jvm.Cond.code ({ cls := "TinWallModel", name := "figure", desc := "(I)I" } : Jvm.MethodName) prog_11_method_73_code (3 : Nat) (Option.some Jvm.ClassFile.FieldType.int)) ∈ kn_all := kn_t6 (List.mem_of_getElem? (i := 226) rfl) rfl
theorem q6_227 : (Jvm.Cond.constantLong "TinWallModel" (455 : Nat) (99 : Int64)) ∈ kn_all := kn_t6 (List.mem_of_getElem? (i := 227) rfl) rfl
theorem q6_228 : (Jvm.Cond.methodLink "TinWallLaw" (68 : Nat) ({ cls := "TinWallModel", name := "forget", desc := "(I)I" } : Jvm.MethodName)) ∈ kn_all := kn_t6 (List.mem_of_getElem? (i := 228) rfl) rfl
theorem q6_229 : (Jvm.Cond.instanceMethod ({ cls := "TinWallModel", name := "forget", desc := "(I)I" } : Jvm.MethodName)) ∈ kn_all := kn_t6 (List.mem_of_getElem? (i := 229) rfl) rfl
theorem q6_230 : (Jvm.Cond.selects "TinWallModel" ({ cls := "TinWallModel", name := "forget", desc := "(I)I" } : Jvm.MethodName) ({ cls := "TinWallModel", name := "forget", desc := "(I)I" } : Jvm.MethodName)) ∈ kn_all := kn_t6 (List.mem_of_getElem? (i := 230) rfl) rfl
theorem q6_231 : (Jvm.Cond.code ({ cls := "TinWallModel", name := "forget", desc := "(I)I" } : Jvm.MethodName) prog_11_method_74_code (3 : Nat) (Option.some Jvm.ClassFile.FieldType.int)) ∈ kn_all := kn_t6 (List.mem_of_getElem? (i := 231) rfl) rfl
theorem q6_232 : (Jvm.Cond.methodLink "TinWallLaw" (77 : Nat) ({ cls := "TinWallModel", name := "ahead", desc := "(III)I" } : Jvm.MethodName)) ∈ kn_all := kn_t6 (List.mem_of_getElem? (i := 232) rfl) rfl
theorem q6_233 : (Jvm.Cond.instanceMethod ({ cls := "TinWallModel", name := "ahead", desc := "(III)I" } : Jvm.MethodName)) ∈ kn_all := kn_t6 (List.mem_of_getElem? (i := 233) rfl) rfl
theorem q6_234 : (Jvm.Cond.selects "TinWallModel" ({ cls := "TinWallModel", name := "ahead", desc := "(III)I" } : Jvm.MethodName) ({ cls := "TinWallModel", name := "ahead", desc := "(III)I" } : Jvm.MethodName)) ∈ kn_all := kn_t6 (List.mem_of_getElem? (i := 234) rfl) rfl
theorem q6_235 : (Jvm.Cond.code ({ cls := "TinWallModel", name := "ahead", desc := "(III)I" } : Jvm.MethodName) prog_11_method_77_code (6 : Nat) (Option.some Jvm.ClassFile.FieldType.int)) ∈ kn_all := kn_t6 (List.mem_of_getElem? (i := 235) rfl) rfl
theorem q6_236 : (Jvm.Cond.constantLong "TinWallModel" (460 : Nat) (100 : Int64)) ∈ kn_all := kn_t6 (List.mem_of_getElem? (i := 236) rfl) rfl
theorem q6_237 : (Jvm.Cond.methodLink "TinWallModel" (462 : Nat) ({ cls := "TinWallModel", name := "keepsAll", desc := "()V" } : Jvm.MethodName)) ∈ kn_all := kn_t6 (List.mem_of_getElem? (i := 237) rfl) rfl
theorem q6_239 : (Jvm.Cond.instanceMethod ({ cls := "TinWallModel", name := "keepsAll", desc := "()V" } : Jvm.MethodName)) ∈ kn_all := kn_t6 (List.mem_of_getElem? (i := 239) rfl) rfl
theorem q7_0 : (Jvm.Cond.code ({ cls := "TinWallModel", name := "keepsAll", desc := "()V" } : Jvm.MethodName) prog_11_method_75_code (1 : Nat) (Option.none : Option Jvm.ClassFile.FieldType)) ∈ kn_all := kn_t7 (List.mem_of_getElem? (i := 0) rfl) rfl
theorem q7_1 : (Jvm.Cond.methodLink "TinWallModel" (457 : Nat) ({ cls := "TinWallModel", name := "carriesAll", desc := "(IZ)V" } : Jvm.MethodName)) ∈ kn_all := kn_t7 (List.mem_of_getElem? (i := 1) rfl) rfl
theorem q7_3 : (Jvm.Cond.instanceMethod ({ cls := "TinWallModel", name := "carriesAll", desc := "(IZ)V" } : Jvm.MethodName)) ∈ kn_all := kn_t7 (List.mem_of_getElem? (i := 3) rfl) rfl
theorem q7_4 : (Jvm.Cond.code ({ cls := "TinWallModel", name := "carriesAll", desc := "(IZ)V" } : Jvm.MethodName) prog_11_method_103_code (3 : Nat) (Option.none : Option Jvm.ClassFile.FieldType)) ∈ kn_all := kn_t7 (List.mem_of_getElem? (i := 4) rfl) rfl
theorem q7_5 : (Jvm.Cond.methodLink "TinWallModel" (510 : Nat) ({ cls := "TinWallModel", name := "carryRow", desc := "([I)V" } : Jvm.MethodName)) ∈ kn_all := kn_t7 (List.mem_of_getElem? (i := 5) rfl) rfl
theorem q7_7 : (Jvm.Cond.instanceMethod ({ cls := "TinWallModel", name := "carryRow", desc := "([I)V" } : Jvm.MethodName)) ∈ kn_all := kn_t7 (List.mem_of_getElem? (i := 7) rfl) rfl
theorem q7_8 : (Jvm.Cond.code ({ cls := "TinWallModel", name := "carryRow", desc := "([I)V" } : Jvm.MethodName) prog_11_method_102_code (3 : Nat) (Option.none : Option Jvm.ClassFile.FieldType)) ∈ kn_all := kn_t7 (List.mem_of_getElem? (i := 8) rfl) rfl
theorem q7_9 : (Jvm.Cond.methodLink "TinWallModel" (465 : Nat) ({ cls := "TinWallModel", name := "goFor", desc := "(I)V" } : Jvm.MethodName)) ∈ kn_all := kn_t7 (List.mem_of_getElem? (i := 9) rfl) rfl
theorem q7_11 : (Jvm.Cond.instanceMethod ({ cls := "TinWallModel", name := "goFor", desc := "(I)V" } : Jvm.MethodName)) ∈ kn_all := kn_t7 (List.mem_of_getElem? (i := 11) rfl) rfl
theorem q7_12 : (Jvm.Cond.code ({ cls := "TinWallModel", name := "goFor", desc := "(I)V" } : Jvm.MethodName) prog_11_method_64_code (3 : Nat) (Option.none : Option Jvm.ClassFile.FieldType)) ∈ kn_all := kn_t7 (List.mem_of_getElem? (i := 12) rfl) rfl
theorem q7_13 : (Jvm.Cond.methodLink "TinWallModel" (468 : Nat) ({ cls := "TinWallModel", name := "laysBack", desc := "()V" } : Jvm.MethodName)) ∈ kn_all := kn_t7 (List.mem_of_getElem? (i := 13) rfl) rfl
theorem q7_15 : (Jvm.Cond.instanceMethod ({ cls := "TinWallModel", name := "laysBack", desc := "()V" } : Jvm.MethodName)) ∈ kn_all := kn_t7 (List.mem_of_getElem? (i := 15) rfl) rfl
theorem q7_16 : (Jvm.Cond.code ({ cls := "TinWallModel", name := "laysBack", desc := "()V" } : Jvm.MethodName) prog_11_method_76_code (1 : Nat) (Option.none : Option Jvm.ClassFile.FieldType)) ∈ kn_all := kn_t7 (List.mem_of_getElem? (i := 16) rfl) rfl
theorem q7_17 : (Jvm.Cond.methodLink "TinWallLaw" (81 : Nat) ({ cls := "TinWallModel", name := "today", desc := "(II)I" } : Jvm.MethodName)) ∈ kn_all := kn_t7 (List.mem_of_getElem? (i := 17) rfl) rfl
theorem q7_18 : (Jvm.Cond.instanceMethod ({ cls := "TinWallModel", name := "today", desc := "(II)I" } : Jvm.MethodName)) ∈ kn_all := kn_t7 (List.mem_of_getElem? (i := 18) rfl) rfl
theorem q7_19 : (Jvm.Cond.selects "TinWallModel" ({ cls := "TinWallModel", name := "today", desc := "(II)I" } : Jvm.MethodName) ({ cls := "TinWallModel", name := "today", desc := "(II)I" } : Jvm.MethodName)) ∈ kn_all := kn_t7 (List.mem_of_getElem? (i := 19) rfl) rfl
theorem q7_20 : (Jvm.Cond.code ({ cls := "TinWallModel", name := "today", desc := "(II)I" } : Jvm.MethodName) prog_11_method_78_code (4 : Nat) (Option.some Jvm.ClassFile.FieldType.int)) ∈ kn_all := kn_t7 (List.mem_of_getElem? (i := 20) rfl) rfl
theorem q7_21 : (Jvm.Cond.methodLink "TinWallLaw" (85 : Nat) ({ cls := "TinWallModel", name := "first", desc := "(I)I" } : Jvm.MethodName)) ∈ kn_all := kn_t7 (List.mem_of_getElem? (i := 21) rfl) rfl
theorem q7_22 : (Jvm.Cond.instanceMethod ({ cls := "TinWallModel", name := "first", desc := "(I)I" } : Jvm.MethodName)) ∈ kn_all := kn_t7 (List.mem_of_getElem? (i := 22) rfl) rfl
theorem q7_23 : (Jvm.Cond.selects "TinWallModel" ({ cls := "TinWallModel", name := "first", desc := "(I)I" } : Jvm.MethodName) ({ cls := "TinWallModel", name := "first", desc := "(I)I" } : Jvm.MethodName)) ∈ kn_all := kn_t7 (List.mem_of_getElem? (i := 23) rfl) rfl
theorem q7_24 : (Jvm.Cond.code ({ cls := "TinWallModel", name := "first", desc := "(I)I" } : Jvm.MethodName) prog_11_method_79_code (6 : Nat) (Option.some Jvm.ClassFile.FieldType.int)) ∈ kn_all := kn_t7 (List.mem_of_getElem? (i := 24) rfl) rfl
theorem q7_25 : (Jvm.Cond.methodLink "TinWallLaw" (89 : Nat) ({ cls := "TinWallModel", name := "hiding", desc := "(II)I" } : Jvm.MethodName)) ∈ kn_all := kn_t7 (List.mem_of_getElem? (i := 25) rfl) rfl
theorem q7_26 : (Jvm.Cond.instanceMethod ({ cls := "TinWallModel", name := "hiding", desc := "(II)I" } : Jvm.MethodName)) ∈ kn_all := kn_t7 (List.mem_of_getElem? (i := 26) rfl) rfl
theorem q7_27 : (Jvm.Cond.selects "TinWallModel" ({ cls := "TinWallModel", name := "hiding", desc := "(II)I" } : Jvm.MethodName) ({ cls := "TinWallModel", name := "hiding", desc := "(II)I" } : Jvm.MethodName)) ∈ kn_all := kn_t7 (List.mem_of_getElem? (i := 27) rfl) rfl
theorem q7_28 : (Jvm.Cond.code ({ cls := "TinWallModel", name := "hiding", desc := "(II)I" } : Jvm.MethodName) prog_11_method_81_code (9 : Nat) (Option.some Jvm.ClassFile.FieldType.int)) ∈ kn_all := kn_t7 (List.mem_of_getElem? (i := 28) rfl) rfl
theorem q7_29 : (Jvm.Cond.constantLong "TinWallModel" (474 : Nat) (60 : Int64)) ∈ kn_all := kn_t7 (List.mem_of_getElem? (i := 29) rfl) rfl
theorem q7_30 : (Jvm.Cond.methodLink "TinWallLaw" (93 : Nat) ({ cls := "TinWallModel", name := "order", desc := "(II)I" } : Jvm.MethodName)) ∈ kn_all := kn_t7 (List.mem_of_getElem? (i := 30) rfl) rfl
theorem q7_31 : (Jvm.Cond.instanceMethod ({ cls := "TinWallModel", name := "order", desc := "(II)I" } : Jvm.MethodName)) ∈ kn_all := kn_t7 (List.mem_of_getElem? (i := 31) rfl) rfl
theorem q7_32 : (Jvm.Cond.selects "TinWallModel" ({ cls := "TinWallModel", name := "order", desc := "(II)I" } : Jvm.MethodName) ({ cls := "TinWallModel", name := "order", desc := "(II)I" } : Jvm.MethodName)) ∈ kn_all := kn_t7 (List.mem_of_getElem? (i := 32) rfl) rfl
theorem q7_33 : (Jvm.Cond.code ({ cls := "TinWallModel", name := "order", desc := "(II)I" } : Jvm.MethodName) prog_11_method_84_code (3 : Nat) (Option.some Jvm.ClassFile.FieldType.int)) ∈ kn_all := kn_t7 (List.mem_of_getElem? (i := 33) rfl) rfl
theorem q7_34 : (Jvm.Cond.methodLink "TinWallModel" (476 : Nat) ({ cls := "TinWallModel", name := "laysOrder", desc := "(I)I" } : Jvm.MethodName)) ∈ kn_all := kn_t7 (List.mem_of_getElem? (i := 34) rfl) rfl
theorem q7_36 : (Jvm.Cond.instanceMethod ({ cls := "TinWallModel", name := "laysOrder", desc := "(I)I" } : Jvm.MethodName)) ∈ kn_all := kn_t7 (List.mem_of_getElem? (i := 36) rfl) rfl
theorem q7_37 : (Jvm.Cond.code ({ cls := "TinWallModel", name := "laysOrder", desc := "(I)I" } : Jvm.MethodName) prog_11_method_83_code (5 : Nat) (Option.some Jvm.ClassFile.FieldType.int)) ∈ kn_all := kn_t7 (List.mem_of_getElem? (i := 37) rfl) rfl
theorem q7_38 : (Jvm.Cond.methodLink "TinWallLaw" (97 : Nat) ({ cls := "TinWallModel", name := "mean", desc := "(II)I" } : Jvm.MethodName)) ∈ kn_all := kn_t7 (List.mem_of_getElem? (i := 38) rfl) rfl
theorem q7_39 : (Jvm.Cond.instanceMethod ({ cls := "TinWallModel", name := "mean", desc := "(II)I" } : Jvm.MethodName)) ∈ kn_all := kn_t7 (List.mem_of_getElem? (i := 39) rfl) rfl
theorem q7_40 : (Jvm.Cond.selects "TinWallModel" ({ cls := "TinWallModel", name := "mean", desc := "(II)I" } : Jvm.MethodName) ({ cls := "TinWallModel", name := "mean", desc := "(II)I" } : Jvm.MethodName)) ∈ kn_all := kn_t7 (List.mem_of_getElem? (i := 40) rfl) rfl
theorem q7_41 : (Jvm.Cond.code ({ cls := "TinWallModel", name := "mean", desc := "(II)I" } : Jvm.MethodName) prog_11_method_86_code (7 : Nat) (Option.some Jvm.ClassFile.FieldType.int)) ∈ kn_all := kn_t7 (List.mem_of_getElem? (i := 41) rfl) rfl
theorem q7_42 : (Jvm.Cond.methodLink "TinWallModel" (479 : Nat) ({ cls := "TinWallModel", name := "allOdds", desc := "()I" } : Jvm.MethodName)) ∈ kn_all := kn_t7 (List.mem_of_getElem? (i := 42) rfl) rfl
theorem q7_44 : (Jvm.Cond.instanceMethod ({ cls := "TinWallModel", name := "allOdds", desc := "()I" } : Jvm.MethodName)) ∈ kn_all := kn_t7 (List.mem_of_getElem? (i := 44) rfl) rfl
theorem q7_45 : (Jvm.Cond.code ({ cls := "TinWallModel", name := "allOdds", desc := "()I" } : Jvm.MethodName) prog_11_method_82_code (3 : Nat) (Option.some Jvm.ClassFile.FieldType.int)) ∈ kn_all := kn_t7 (List.mem_of_getElem? (i := 45) rfl) rfl
theorem q7_46 : (Jvm.Cond.methodLink "TinWallModel" (482 : Nat) ({ cls := "TinWallModel", name := "fraction", desc := "(III)I" } : Jvm.MethodName)) ∈ kn_all := kn_t7 (List.mem_of_getElem? (i := 46) rfl) rfl
theorem q7_47 : (Jvm.Cond.static ({ cls := "TinWallModel", name := "fraction", desc := "(III)I" } : Jvm.MethodName)) ∈ kn_all := kn_t7 (List.mem_of_getElem? (i := 47) rfl) rfl
theorem q7_48 : (Jvm.Cond.code ({ cls := "TinWallModel", name := "fraction", desc := "(III)I" } : Jvm.MethodName) prog_11_method_85_code (6 : Nat) (Option.some Jvm.ClassFile.FieldType.int)) ∈ kn_all := kn_t7 (List.mem_of_getElem? (i := 48) rfl) rfl
theorem q7_49 : (Jvm.Cond.methodLink "TinWallLaw" (101 : Nat) ({ cls := "TinWallModel", name := "gone", desc := "(I)I" } : Jvm.MethodName)) ∈ kn_all := kn_t7 (List.mem_of_getElem? (i := 49) rfl) rfl
theorem q7_50 : (Jvm.Cond.instanceMethod ({ cls := "TinWallModel", name := "gone", desc := "(I)I" } : Jvm.MethodName)) ∈ kn_all := kn_t7 (List.mem_of_getElem? (i := 50) rfl) rfl
theorem q7_51 : (Jvm.Cond.selects "TinWallModel" ({ cls := "TinWallModel", name := "gone", desc := "(I)I" } : Jvm.MethodName) ({ cls := "TinWallModel", name := "gone", desc := "(I)I" } : Jvm.MethodName)) ∈ kn_all := kn_t7 (List.mem_of_getElem? (i := 51) rfl) rfl
theorem q7_52 : (Jvm.Cond.code ({ cls := "TinWallModel", name := "gone", desc := "(I)I" } : Jvm.MethodName) prog_11_method_87_code (4 : Nat) (Option.some Jvm.ClassFile.FieldType.int)) ∈ kn_all := kn_t7 (List.mem_of_getElem? (i := 52) rfl) rfl
theorem q7_53 : (Jvm.Cond.methodLink "TinWallLaw" (105 : Nat) ({ cls := "TinWallModel", name := "hint", desc := "(I)I" } : Jvm.MethodName)) ∈ kn_all := kn_t7 (List.mem_of_getElem? (i := 53) rfl) rfl
theorem q7_54 : (Jvm.Cond.instanceMethod ({ cls := "TinWallModel", name := "hint", desc := "(I)I" } : Jvm.MethodName)) ∈ kn_all := kn_t7 (List.mem_of_getElem? (i := 54) rfl) rfl
theorem q7_55 : (Jvm.Cond.selects "TinWallModel" ({ cls := "TinWallModel", name := "hint", desc := "(I)I" } : Jvm.MethodName) ({ cls := "TinWallModel", name := "hint", desc := "(I)I" } : Jvm.MethodName)) ∈ kn_all := kn_t7 (List.mem_of_getElem? (i := 55) rfl) rfl
theorem q7_56 : (Jvm.Cond.code ({ cls := "TinWallModel", name := "hint", desc := "(I)I" } : Jvm.MethodName) prog_11_method_88_code (8 : Nat) (Option.some Jvm.ClassFile.FieldType.int)) ∈ kn_all := kn_t7 (List.mem_of_getElem? (i := 56) rfl) rfl
theorem q7_57 : (Jvm.Cond.methodLink "TinWallLaw" (109 : Nat) ({ cls := "TinWallModel", name := "worth", desc := "(I)I" } : Jvm.MethodName)) ∈ kn_all := kn_t7 (List.mem_of_getElem? (i := 57) rfl) rfl
theorem q7_58 : (Jvm.Cond.instanceMethod ({ cls := "TinWallModel", name := "worth", desc := "(I)I" } : Jvm.MethodName)) ∈ kn_all := kn_t7 (List.mem_of_getElem? (i := 58) rfl) rfl
theorem q7_59 : (Jvm.Cond.selects "TinWallModel" ({ cls := "TinWallModel", name := "worth", desc := "(I)I" } : Jvm.MethodName) ({ cls := "TinWallModel", name := "worth", desc := "(I)I" } : Jvm.MethodName)) ∈ kn_all := kn_t7 (List.mem_of_getElem? (i := 59) rfl) rfl
theorem q7_60 : (Jvm.Cond.code ({ cls := "TinWallModel", name := "worth", desc := "(I)I" } : Jvm.MethodName) prog_11_method_89_code (4 : Nat) (Option.some Jvm.ClassFile.FieldType.int)) ∈ kn_all := kn_t7 (List.mem_of_getElem? (i := 60) rfl) rfl
theorem q7_61 : (Jvm.Cond.methodLink "TinWallLaw" (113 : Nat) ({ cls := "TinWallModel", name := "wanders", desc := "(I)I" } : Jvm.MethodName)) ∈ kn_all := kn_t7 (List.mem_of_getElem? (i := 61) rfl) rfl
theorem q7_62 : (Jvm.Cond.instanceMethod ({ cls := "TinWallModel", name := "wanders", desc := "(I)I" } : Jvm.MethodName)) ∈ kn_all := kn_t7 (List.mem_of_getElem? (i := 62) rfl) rfl
theorem q7_63 : (Jvm.Cond.selects "TinWallModel" ({ cls := "TinWallModel", name := "wanders", desc := "(I)I" } : Jvm.MethodName) ({ cls := "TinWallModel", name := "wanders", desc := "(I)I" } : Jvm.MethodName)) ∈ kn_all := kn_t7 (List.mem_of_getElem? (i := 63) rfl) rfl
theorem q7_64 : (Jvm.Cond.code ({ cls := "TinWallModel", name := "wanders", desc := "(I)I" } : Jvm.MethodName) prog_11_method_90_code (4 : Nat) (Option.some Jvm.ClassFile.FieldType.int)) ∈ kn_all := kn_t7 (List.mem_of_getElem? (i := 64) rfl) rfl
theorem q7_65 : (Jvm.Cond.methodLink "TinWallLaw" (117 : Nat) ({ cls := "TinWallModel", name := "shows", desc := "(I)I" } : Jvm.MethodName)) ∈ kn_all := kn_t7 (List.mem_of_getElem? (i := 65) rfl) rfl
theorem q7_66 : (Jvm.Cond.instanceMethod ({ cls := "TinWallModel", name := "shows", desc := "(I)I" } : Jvm.MethodName)) ∈ kn_all := kn_t7 (List.mem_of_getElem? (i := 66) rfl) rfl
theorem q7_67 : (Jvm.Cond.selects "TinWallModel" ({ cls := "TinWallModel", name := "shows", desc := "(I)I" } : Jvm.MethodName) ({ cls := "TinWallModel", name := "shows", desc := "(I)I" } : Jvm.MethodName)) ∈ kn_all := kn_t7 (List.mem_of_getElem? (i := 67) rfl) rfl
theorem q7_68 : (Jvm.Cond.code ({ cls := "TinWallModel", name := "shows", desc := "(I)I" } : Jvm.MethodName) prog_11_method_91_code (6 : Nat) (Option.some Jvm.ClassFile.FieldType.int)) ∈ kn_all := kn_t7 (List.mem_of_getElem? (i := 68) rfl) rfl
theorem q7_69 : (Jvm.Cond.methodLink "TinWallLaw" (121 : Nat) ({ cls := "TinWallModel", name := "name", desc := "(II)I" } : Jvm.MethodName)) ∈ kn_all := kn_t7 (List.mem_of_getElem? (i := 69) rfl) rfl
theorem q7_70 : (Jvm.Cond.instanceMethod ({ cls := "TinWallModel", name := "name", desc := "(II)I" } : Jvm.MethodName)) ∈ kn_all := kn_t7 (List.mem_of_getElem? (i := 70) rfl) rfl
theorem q7_71 : (Jvm.Cond.selects "TinWallModel" ({ cls := "TinWallModel", name := "name", desc := "(II)I" } : Jvm.MethodName) ({ cls := "TinWallModel", name := "name", desc := "(II)I" } : Jvm.MethodName)) ∈ kn_all := kn_t7 (List.mem_of_getElem? (i := 71) rfl) rfl
theorem q7_72 : (Jvm.Cond.code ({ cls := "TinWallModel", name := "name", desc := "(II)I" } : Jvm.MethodName) prog_11_method_92_code (4 : Nat) (Option.some Jvm.ClassFile.FieldType.int)) ∈ kn_all := kn_t7 (List.mem_of_getElem? (i := 72) rfl) rfl
theorem q7_73 : (Jvm.Cond.methodLink "TinWallLaw" (125 : Nat) ({ cls := "TinWallModel", name := "ruled", desc := "(I)I" } : Jvm.MethodName)) ∈ kn_all := kn_t7 (List.mem_of_getElem? (i := 73) rfl) rfl
theorem q7_74 : (Jvm.Cond.instanceMethod ({ cls := "TinWallModel", name := "ruled", desc := "(I)I" } : Jvm.MethodName)) ∈ kn_all := kn_t7 (List.mem_of_getElem? (i := 74) rfl) rfl
theorem q7_75 : (Jvm.Cond.selects "TinWallModel" ({ cls := "TinWallModel", name := "ruled", desc := "(I)I" } : Jvm.MethodName) ({ cls := "TinWallModel", name := "ruled", desc := "(I)I" } : Jvm.MethodName)) ∈ kn_all := kn_t7 (List.mem_of_getElem? (i := 75) rfl) rfl
theorem q7_76 : (Jvm.Cond.code ({ cls := "TinWallModel", name := "ruled", desc := "(I)I" } : Jvm.MethodName) prog_11_method_95_code (5 : Nat) (Option.some Jvm.ClassFile.FieldType.int)) ∈ kn_all := kn_t7 (List.mem_of_getElem? (i := 76) rfl) rfl
theorem q7_77 : (Jvm.Cond.methodLink "TinWallModel" (486 : Nat) ({ cls := "TinWallModel", name := "laysWriting", desc := "(I)V" } : Jvm.MethodName)) ∈ kn_all := kn_t7 (List.mem_of_getElem? (i := 77) rfl) rfl
theorem q7_79 : (Jvm.Cond.instanceMethod ({ cls := "TinWallModel", name := "laysWriting", desc := "(I)V" } : Jvm.MethodName)) ∈ kn_all := kn_t7 (List.mem_of_getElem? (i := 79) rfl) rfl
theorem q7_80 : (Jvm.Cond.code ({ cls := "TinWallModel", name := "laysWriting", desc := "(I)V" } : Jvm.MethodName) prog_11_method_93_code (2 : Nat) (Option.none : Option Jvm.ClassFile.FieldType)) ∈ kn_all := kn_t7 (List.mem_of_getElem? (i := 80) rfl) rfl
theorem q7_81 : (Jvm.Cond.methodLink "TinWallModel" (489 : Nat) ({ cls := "TinWallModel", name := "areNamesSo", desc := "()Z" } : Jvm.MethodName)) ∈ kn_all := kn_t7 (List.mem_of_getElem? (i := 81) rfl) rfl
theorem q7_83 : (Jvm.Cond.instanceMethod ({ cls := "TinWallModel", name := "areNamesSo", desc := "()Z" } : Jvm.MethodName)) ∈ kn_all := kn_t7 (List.mem_of_getElem? (i := 83) rfl) rfl
theorem q7_84 : (Jvm.Cond.code ({ cls := "TinWallModel", name := "areNamesSo", desc := "()Z" } : Jvm.MethodName) prog_11_method_94_code (2 : Nat) (Option.some Jvm.ClassFile.FieldType.boolean)) ∈ kn_all := kn_t7 (List.mem_of_getElem? (i := 84) rfl) rfl
theorem q7_85 : (Jvm.Cond.methodLink "TinWallLaw" (129 : Nat) ({ cls := "TinWallModel", name := "ask", desc := "(I)I" } : Jvm.MethodName)) ∈ kn_all := kn_t7 (List.mem_of_getElem? (i := 85) rfl) rfl
theorem q7_86 : (Jvm.Cond.instanceMethod ({ cls := "TinWallModel", name := "ask", desc := "(I)I" } : Jvm.MethodName)) ∈ kn_all := kn_t7 (List.mem_of_getElem? (i := 86) rfl) rfl
theorem q7_87 : (Jvm.Cond.selects "TinWallModel" ({ cls := "TinWallModel", name := "ask", desc := "(I)I" } : Jvm.MethodName) ({ cls := "TinWallModel", name := "ask", desc := "(I)I" } : Jvm.MethodName)) ∈ kn_all := kn_t7 (List.mem_of_getElem? (i := 87) rfl) rfl
theorem q7_88 : (Jvm.Cond.code ({ cls := "TinWallModel", name := "ask", desc := "(I)I" } : Jvm.MethodName) prog_11_method_96_code (8 : Nat) (Option.some Jvm.ClassFile.FieldType.int)) ∈ kn_all := kn_t7 (List.mem_of_getElem? (i := 88) rfl) rfl
theorem q7_89 : (Jvm.Cond.methodLink "TinWallLaw" (133 : Nat) ({ cls := "TinWallModel", name := "forged", desc := "()I" } : Jvm.MethodName)) ∈ kn_all := kn_t7 (List.mem_of_getElem? (i := 89) rfl) rfl
theorem q7_90 : (Jvm.Cond.instanceMethod ({ cls := "TinWallModel", name := "forged", desc := "()I" } : Jvm.MethodName)) ∈ kn_all := kn_t7 (List.mem_of_getElem? (i := 90) rfl) rfl
theorem q7_91 : (Jvm.Cond.selects "TinWallModel" ({ cls := "TinWallModel", name := "forged", desc := "()I" } : Jvm.MethodName) ({ cls := "TinWallModel", name := "forged", desc := "()I" } : Jvm.MethodName)) ∈ kn_all := kn_t7 (List.mem_of_getElem? (i := 91) rfl) rfl
theorem q7_92 : (Jvm.Cond.code ({ cls := "TinWallModel", name := "forged", desc := "()I" } : Jvm.MethodName) prog_11_method_97_code (4 : Nat) (Option.some Jvm.ClassFile.FieldType.int)) ∈ kn_all := kn_t7 (List.mem_of_getElem? (i := 92) rfl) rfl
theorem q7_93 : (Jvm.Cond.methodLink "TinWallLaw" (137 : Nat) ({ cls := "TinWallModel", name := "seed", desc := "(I)I" } : Jvm.MethodName)) ∈ kn_all := kn_t7 (List.mem_of_getElem? (i := 93) rfl) rfl
theorem q7_94 : (Jvm.Cond.instanceMethod ({ cls := "TinWallModel", name := "seed", desc := "(I)I" } : Jvm.MethodName)) ∈ kn_all := kn_t7 (List.mem_of_getElem? (i := 94) rfl) rfl
theorem q7_95 : (Jvm.Cond.selects "TinWallModel" ({ cls := "TinWallModel", name := "seed", desc := "(I)I" } : Jvm.MethodName) ({ cls := "TinWallModel", name := "seed", desc := "(I)I" } : Jvm.MethodName)) ∈ kn_all := kn_t7 (List.mem_of_getElem? (i := 95) rfl) rfl
theorem q7_96 : (Jvm.Cond.code ({ cls := "TinWallModel", name := "seed", desc := "(I)I" } : Jvm.MethodName) prog_11_method_98_code (3 : Nat) (Option.some Jvm.ClassFile.FieldType.int)) ∈ kn_all := kn_t7 (List.mem_of_getElem? (i := 96) rfl) rfl
theorem q7_97 : (Jvm.Cond.methodLink "TinWallLaw" (142 : Nat) ({ cls := "TinWallModel", name := "years", desc := "(IIII)I" } : Jvm.MethodName)) ∈ kn_all := kn_t7 (List.mem_of_getElem? (i := 97) rfl) rfl
theorem q7_98 : (Jvm.Cond.instanceMethod ({ cls := "TinWallModel", name := "years", desc := "(IIII)I" } : Jvm.MethodName)) ∈ kn_all := kn_t7 (List.mem_of_getElem? (i := 98) rfl) rfl
theorem q7_99 : (Jvm.Cond.selects "TinWallModel" ({ cls := "TinWallModel", name := "years", desc := "(IIII)I" } : Jvm.MethodName) ({ cls := "TinWallModel", name := "years", desc := "(IIII)I" } : Jvm.MethodName)) ∈ kn_all := kn_t7 (List.mem_of_getElem? (i := 99) rfl) rfl
theorem q7_100 : (Jvm.Cond.code ({ cls := "TinWallModel", name := "years", desc := "(IIII)I" } : Jvm.MethodName) prog_11_method_100_code (11 : Nat) (Option.some Jvm.ClassFile.FieldType.int)) ∈ kn_all := kn_t7 (List.mem_of_getElem? (i := 100) rfl) rfl
theorem q7_101 : (Jvm.Cond.constantLong "TinWallModel" (499 : Nat) (10 : Int64)) ∈ kn_all := kn_t7 (List.mem_of_getElem? (i := 101) rfl) rfl
theorem q7_102 : (Jvm.Cond.methodLink "TinWallModel" (501 : Nat) ({ cls := "TinWallModel", name := "draws", desc := "(I)I" } : Jvm.MethodName)) ∈ kn_all := kn_t7 (List.mem_of_getElem? (i := 102) rfl) rfl
theorem q7_104 : (Jvm.Cond.instanceMethod ({ cls := "TinWallModel", name := "draws", desc := "(I)I" } : Jvm.MethodName)) ∈ kn_all := kn_t7 (List.mem_of_getElem? (i := 104) rfl) rfl
theorem q7_105 : (Jvm.Cond.code ({ cls := "TinWallModel", name := "draws", desc := "(I)I" } : Jvm.MethodName) prog_11_method_99_code (2 : Nat) (Option.some Jvm.ClassFile.FieldType.int)) ∈ kn_all := kn_t7 (List.mem_of_getElem? (i := 105) rfl) rfl
theorem q7_106 : (Jvm.Cond.constantLong "TinWallModel" (492 : Nat) (1103515245 : Int64)) ∈ kn_all := kn_t7 (List.mem_of_getElem? (i := 106) rfl) rfl
theorem q7_107 : (Jvm.Cond.constantLong "TinWallModel" (494 : Nat) (12345 : Int64)) ∈ kn_all := kn_t7 (List.mem_of_getElem? (i := 107) rfl) rfl
theorem q7_108 : (Jvm.Cond.constantLong "TinWallModel" (496 : Nat) (2147483648 : Int64)) ∈ kn_all := kn_t7 (List.mem_of_getElem? (i := 108) rfl) rfl
theorem q7_109 : (Jvm.Cond.constant "TinWallModel" (498 : Nat) (65536 : Int32)) ∈ kn_all := kn_t7 (List.mem_of_getElem? (i := 109) rfl) rfl
theorem q7_110 : (Jvm.Cond.methodLink "TinWallLaw" (146 : Nat) ({ cls := "TinWallModel", name := "count", desc := "(I)I" } : Jvm.MethodName)) ∈ kn_all := kn_t7 (List.mem_of_getElem? (i := 110) rfl) rfl
theorem q7_111 : (Jvm.Cond.instanceMethod ({ cls := "TinWallModel", name := "count", desc := "(I)I" } : Jvm.MethodName)) ∈ kn_all := kn_t7 (List.mem_of_getElem? (i := 111) rfl) rfl
theorem q7_112 : (Jvm.Cond.selects "TinWallModel" ({ cls := "TinWallModel", name := "count", desc := "(I)I" } : Jvm.MethodName) ({ cls := "TinWallModel", name := "count", desc := "(I)I" } : Jvm.MethodName)) ∈ kn_all := kn_t7 (List.mem_of_getElem? (i := 112) rfl) rfl
theorem q7_113 : (Jvm.Cond.code ({ cls := "TinWallModel", name := "count", desc := "(I)I" } : Jvm.MethodName) prog_11_method_101_code (2 : Nat) (Option.some Jvm.ClassFile.FieldType.int)) ∈ kn_all := kn_t7 (List.mem_of_getElem? (i := 113) rfl) rfl
theorem q7_114 : (Jvm.Cond.methodLink "TinWallLaw" (150 : Nat) ({ cls := "TinWallModel", name := "image", desc := "(I)I" } : Jvm.MethodName)) ∈ kn_all := kn_t7 (List.mem_of_getElem? (i := 114) rfl) rfl
theorem q7_115 : (Jvm.Cond.instanceMethod ({ cls := "TinWallModel", name := "image", desc := "(I)I" } : Jvm.MethodName)) ∈ kn_all := kn_t7 (List.mem_of_getElem? (i := 115) rfl) rfl
theorem q7_116 : (Jvm.Cond.selects "TinWallModel" ({ cls := "TinWallModel", name := "image", desc := "(I)I" } : Jvm.MethodName) ({ cls := "TinWallModel", name := "image", desc := "(I)I" } : Jvm.MethodName)) ∈ kn_all := kn_t7 (List.mem_of_getElem? (i := 116) rfl) rfl
theorem q7_117 : (Jvm.Cond.code ({ cls := "TinWallModel", name := "image", desc := "(I)I" } : Jvm.MethodName) prog_11_method_104_code (2 : Nat) (Option.some Jvm.ClassFile.FieldType.int)) ∈ kn_all := kn_t7 (List.mem_of_getElem? (i := 117) rfl) rfl
theorem q7_118 : (Jvm.Cond.constantLong "TinWallModel" (513 : Nat) (3 : Int64)) ∈ kn_all := kn_t7 (List.mem_of_getElem? (i := 118) rfl) rfl
theorem q7_119 : (Jvm.Cond.methodLink "TinWallLaw" (154 : Nat) ({ cls := "TinWallModel", name := "back", desc := "(I)I" } : Jvm.MethodName)) ∈ kn_all := kn_t7 (List.mem_of_getElem? (i := 119) rfl) rfl
theorem q7_120 : (Jvm.Cond.instanceMethod ({ cls := "TinWallModel", name := "back", desc := "(I)I" } : Jvm.MethodName)) ∈ kn_all := kn_t7 (List.mem_of_getElem? (i := 120) rfl) rfl
theorem q7_121 : (Jvm.Cond.selects "TinWallModel" ({ cls := "TinWallModel", name := "back", desc := "(I)I" } : Jvm.MethodName) ({ cls := "TinWallModel", name := "back", desc := "(I)I" } : Jvm.MethodName)) ∈ kn_all := kn_t7 (List.mem_of_getElem? (i := 121) rfl) rfl
theorem q7_122 : (Jvm.Cond.code ({ cls := "TinWallModel", name := "back", desc := "(I)I" } : Jvm.MethodName) prog_11_method_105_code (2 : Nat) (Option.some Jvm.ClassFile.FieldType.int)) ∈ kn_all := kn_t7 (List.mem_of_getElem? (i := 122) rfl) rfl
theorem q7_123 : (Jvm.Cond.fieldLink "java/lang/String" (9 : Nat) "java/lang/String" "value" "[B") ∈ kn_all := kn_t7 (List.mem_of_getElem? (i := 123) rfl) rfl
theorem q7_124 : (Jvm.Cond.fieldLink "java/lang/String" (15 : Nat) "java/lang/String" "coder" "B") ∈ kn_all := kn_t7 (List.mem_of_getElem? (i := 124) rfl) rfl
theorem q0_0 : Cond.selects "TinWall" ⟨"TinWall", "append", "(I)V"⟩ ⟨"TinWall", "append", "(I)V"⟩ ∈ kn_all := kn_t0 (List.mem_append_left _ (List.mem_of_getElem? (i := 0) rfl))
theorem q0_1 : Cond.selects "TinWall$HillReader" ⟨"TinWall$HillReader", "readClause", "(LTinWall$Hill;I)V"⟩ ⟨"TinWall$HillReader", "readClause", "(LTinWall$Hill;I)V"⟩ ∈ kn_all := kn_t0 (List.mem_append_left _ (List.mem_of_getElem? (i := 1) rfl))
theorem q0_2 : Cond.selects "TinWall$Reader" ⟨"TinWall$Reader", "isSame", "(Ljava/lang/String;II)Z"⟩ ⟨"TinWall$Reader", "isSame", "(Ljava/lang/String;II)Z"⟩ ∈ kn_all := kn_t0 (List.mem_append_left _ (List.mem_of_getElem? (i := 2) rfl))
theorem q0_3 : Cond.selects "TinWall$HillReader" ⟨"TinWall$HillReader", "readNumbers", "(LTinWall$Hill;I)V"⟩ ⟨"TinWall$HillReader", "readNumbers", "(LTinWall$Hill;I)V"⟩ ∈ kn_all := kn_t0 (List.mem_append_left _ (List.mem_of_getElem? (i := 3) rfl))
theorem q0_4 : Cond.selects "TinWall$HillReader" ⟨"TinWall$HillReader", "readSeeker", "(LTinWall$Hill;I)V"⟩ ⟨"TinWall$HillReader", "readSeeker", "(LTinWall$Hill;I)V"⟩ ∈ kn_all := kn_t0 (List.mem_append_left _ (List.mem_of_getElem? (i := 4) rfl))
theorem q0_5 : Cond.selects "TinWall$RuleReader" ⟨"TinWall$RuleReader", "beginClause", "(I)V"⟩ ⟨"TinWall$RuleReader", "beginClause", "(I)V"⟩ ∈ kn_all := kn_t0 (List.mem_append_left _ (List.mem_of_getElem? (i := 5) rfl))
theorem q0_6 : Cond.selects "TinWall$RuleReader" ⟨"TinWall$RuleReader", "readSum", "()V"⟩ ⟨"TinWall$RuleReader", "readSum", "()V"⟩ ∈ kn_all := kn_t0 (List.mem_append_left _ (List.mem_of_getElem? (i := 6) rfl))
theorem q0_7 : Cond.selects "TinWall$RuleReader" ⟨"TinWall$RuleReader", "readValue", "()V"⟩ ⟨"TinWall$RuleReader", "readValue", "()V"⟩ ∈ kn_all := kn_t0 (List.mem_append_left _ (List.mem_of_getElem? (i := 7) rfl))
theorem q0_8 : Cond.selects "TinWall$RuleReader" ⟨"TinWall$RuleReader", "countAt", "(I)V"⟩ ⟨"TinWall$RuleReader", "countAt", "(I)V"⟩ ∈ kn_all := kn_t0 (List.mem_append_left _ (List.mem_of_getElem? (i := 8) rfl))
theorem q0_9 : Cond.selects "TinWall$RuleReader" ⟨"TinWall$RuleReader", "readTest", "(I)V"⟩ ⟨"TinWall$RuleReader", "readTest", "(I)V"⟩ ∈ kn_all := kn_t0 (List.mem_append_left _ (List.mem_of_getElem? (i := 9) rfl))
theorem q0_10 : Cond.selects "TinWall$RuleReader" ⟨"TinWall$RuleReader", "readFact", "(I)V"⟩ ⟨"TinWall$RuleReader", "readFact", "(I)V"⟩ ∈ kn_all := kn_t0 (List.mem_append_left _ (List.mem_of_getElem? (i := 10) rfl))
theorem q0_11 : Cond.selects "TinWall$RuleReader" ⟨"TinWall$RuleReader", "readSign", "()I"⟩ ⟨"TinWall$RuleReader", "readSign", "()I"⟩ ∈ kn_all := kn_t0 (List.mem_append_left _ (List.mem_of_getElem? (i := 11) rfl))
theorem q0_12 : Cond.selects "TinWall" ⟨"TinWall", "hasStone", "(I)Z"⟩ ⟨"TinWall", "hasStone", "(I)Z"⟩ ∈ kn_all := kn_t0 (List.mem_append_left _ (List.mem_of_getElem? (i := 12) rfl))
theorem q0_13 : Cond.selects "TinWall" ⟨"TinWall", "hasSeeker", "(I)Z"⟩ ⟨"TinWall", "hasSeeker", "(I)Z"⟩ ∈ kn_all := kn_t0 (List.mem_append_left _ (List.mem_of_getElem? (i := 13) rfl))
theorem q0_14 : Cond.selects "TinWall" ⟨"TinWall", "ruleInForce", "()LTinWall$Rule;"⟩ ⟨"TinWall", "ruleInForce", "()LTinWall$Rule;"⟩ ∈ kn_all := kn_t0 (List.mem_append_left _ (List.mem_of_getElem? (i := 14) rfl))
theorem q0_15 : Cond.selects "TinWall" ⟨"TinWall", "ruleOf", "(I)LTinWall$Rule;"⟩ ⟨"TinWall", "ruleOf", "(I)LTinWall$Rule;"⟩ ∈ kn_all := kn_t0 (List.mem_append_left _ (List.mem_of_getElem? (i := 15) rfl))
theorem q0_16 : Cond.selects "TinWall$Walk" ⟨"TinWall$Walk", "setSeekerWords", "(LTinWall$Hill;LTinWall$State;I)V"⟩ ⟨"TinWall$Walk", "setSeekerWords", "(LTinWall$Hill;LTinWall$State;I)V"⟩ ∈ kn_all := kn_t0 (List.mem_append_right _ (List.mem_append_left _ (List.mem_of_getElem? (i := 0) rfl)))
theorem q0_17 : Cond.selects "TinWall$Walk" ⟨"TinWall$Walk", "rate", "(LTinWall$Hill;LTinWall$Rule;LTinWall$State;II)J"⟩ ⟨"TinWall$Walk", "rate", "(LTinWall$Hill;LTinWall$Rule;LTinWall$State;II)J"⟩ ∈ kn_all := kn_t0 (List.mem_append_right _ (List.mem_append_left _ (List.mem_of_getElem? (i := 1) rfl)))
theorem q0_18 : Cond.selects "TinWall$Rule" ⟨"TinWall$Rule", "run", "(II[J)J"⟩ ⟨"TinWall$Rule", "run", "(II[J)J"⟩ ∈ kn_all := kn_t0 (List.mem_append_right _ (List.mem_append_left _ (List.mem_of_getElem? (i := 2) rfl)))
theorem q0_19 : Cond.selects "TinWall$Walk" ⟨"TinWall$Walk", "bestOf", "(II)I"⟩ ⟨"TinWall$Walk", "bestOf", "(II)I"⟩ ∈ kn_all := kn_t0 (List.mem_append_right _ (List.mem_append_left _ (List.mem_of_getElem? (i := 3) rfl)))
theorem q0_20 : Cond.selects "TinWall$Walk" ⟨"TinWall$Walk", "leaveTraces", "(LTinWall$State;I)V"⟩ ⟨"TinWall$Walk", "leaveTraces", "(LTinWall$State;I)V"⟩ ∈ kn_all := kn_t0 (List.mem_append_right _ (List.mem_append_left _ (List.mem_of_getElem? (i := 4) rfl)))
theorem q0_21 : Cond.selects "TinWall" ⟨"TinWall", "goOn", "(I)I"⟩ ⟨"TinWall", "goOn", "(I)I"⟩ ∈ kn_all := kn_t0 (List.mem_append_right _ (List.mem_append_left _ (List.mem_of_getElem? (i := 5) rfl)))
theorem q0_22 : Cond.selects "TinWall" ⟨"TinWall", "isTold", "(I)Z"⟩ ⟨"TinWall", "isTold", "(I)Z"⟩ ∈ kn_all := kn_t0 (List.mem_append_right _ (List.mem_append_left _ (List.mem_of_getElem? (i := 6) rfl)))
theorem q0_23 : Cond.selects "TinWall" ⟨"TinWall", "putInOrder", "(I)I"⟩ ⟨"TinWall", "putInOrder", "(I)I"⟩ ∈ kn_all := kn_t0 (List.mem_append_right _ (List.mem_append_left _ (List.mem_of_getElem? (i := 7) rfl)))
theorem q0_24 : Cond.selects "TinWall" ⟨"TinWall", "isBetter", "(III)Z"⟩ ⟨"TinWall", "isBetter", "(III)Z"⟩ ∈ kn_all := kn_t0 (List.mem_append_right _ (List.mem_append_left _ (List.mem_of_getElem? (i := 8) rfl)))
theorem q0_25 : Cond.selects "TinWall" ⟨"TinWall", "fillWritten", "()V"⟩ ⟨"TinWall", "fillWritten", "()V"⟩ ∈ kn_all := kn_t0 (List.mem_append_right _ (List.mem_append_left _ (List.mem_of_getElem? (i := 9) rfl)))
theorem q0_26 : Cond.selects "TinWall" ⟨"TinWall", "isAsNamed", "(I)Z"⟩ ⟨"TinWall", "isAsNamed", "(I)Z"⟩ ∈ kn_all := kn_t0 (List.mem_append_right _ (List.mem_append_left _ (List.mem_of_getElem? (i := 10) rfl)))
theorem q0_27 : Cond.selects "TinWall" ⟨"TinWall", "holds", "(II)Z"⟩ ⟨"TinWall", "holds", "(II)Z"⟩ ∈ kn_all := kn_t0 (List.mem_append_right _ (List.mem_append_left _ (List.mem_of_getElem? (i := 11) rfl)))
theorem q0_28 : Cond.selects "TinWall" ⟨"TinWall", "mostAlike", "(I)I"⟩ ⟨"TinWall", "mostAlike", "(I)I"⟩ ∈ kn_all := kn_t0 (List.mem_append_right _ (List.mem_append_left _ (List.mem_of_getElem? (i := 12) rfl)))
theorem q0_29 : Cond.selects "TinWallModel" ⟨"TinWallModel", "put", "(I)V"⟩ ⟨"TinWallModel", "put", "(I)V"⟩ ∈ kn_all := kn_t0 (List.mem_append_right _ (List.mem_append_left _ (List.mem_of_getElem? (i := 13) rfl)))
theorem q0_30 : Cond.selects "TinWallModel" ⟨"TinWallModel", "readsAll", "()V"⟩ ⟨"TinWallModel", "readsAll", "()V"⟩ ∈ kn_all := kn_t0 (List.mem_append_right _ (List.mem_append_left _ (List.mem_of_getElem? (i := 14) rfl)))
theorem q0_31 : Cond.selects "TinWallModel" ⟨"TinWallModel", "starts", "()V"⟩ ⟨"TinWallModel", "starts", "()V"⟩ ∈ kn_all := kn_t0 (List.mem_append_right _ (List.mem_append_left _ (List.mem_of_getElem? (i := 15) rfl)))
theorem q0_32 : Cond.selects "TinWallModel" ⟨"TinWallModel", "hillClause", "(I)V"⟩ ⟨"TinWallModel", "hillClause", "(I)V"⟩ ∈ kn_all := kn_t0 (List.mem_append_right _ (List.mem_append_right _ (List.mem_append_left _ (List.mem_of_getElem? (i := 0) rfl))))
theorem q0_33 : Cond.selects "TinWallModel" ⟨"TinWallModel", "blanks", "()V"⟩ ⟨"TinWallModel", "blanks", "()V"⟩ ∈ kn_all := kn_t0 (List.mem_append_right _ (List.mem_append_right _ (List.mem_append_left _ (List.mem_of_getElem? (i := 1) rfl))))
theorem q0_34 : Cond.selects "TinWallModel" ⟨"TinWallModel", "sign", "()I"⟩ ⟨"TinWallModel", "sign", "()I"⟩ ∈ kn_all := kn_t0 (List.mem_append_right _ (List.mem_append_right _ (List.mem_append_left _ (List.mem_of_getElem? (i := 2) rfl))))
theorem q0_35 : Cond.selects "TinWallModel" ⟨"TinWallModel", "stood", "(Ljava/lang/String;)Z"⟩ ⟨"TinWallModel", "stood", "(Ljava/lang/String;)Z"⟩ ∈ kn_all := kn_t0 (List.mem_append_right _ (List.mem_append_right _ (List.mem_append_left _ (List.mem_of_getElem? (i := 3) rfl))))
theorem q0_36 : Cond.selects "TinWallModel" ⟨"TinWallModel", "fails", "(II)V"⟩ ⟨"TinWallModel", "fails", "(II)V"⟩ ∈ kn_all := kn_t0 (List.mem_append_right _ (List.mem_append_right _ (List.mem_append_left _ (List.mem_of_getElem? (i := 4) rfl))))
theorem q0_37 : Cond.selects "TinWallModel" ⟨"TinWallModel", "isFull", "(II)Z"⟩ ⟨"TinWallModel", "isFull", "(II)Z"⟩ ∈ kn_all := kn_t0 (List.mem_append_right _ (List.mem_append_right _ (List.mem_append_left _ (List.mem_of_getElem? (i := 5) rfl))))
theorem q0_38 : Cond.selects "TinWallModel" ⟨"TinWallModel", "hillPart", "(I)V"⟩ ⟨"TinWallModel", "hillPart", "(I)V"⟩ ∈ kn_all := kn_t0 (List.mem_append_right _ (List.mem_append_right _ (List.mem_append_left _ (List.mem_of_getElem? (i := 6) rfl))))
theorem q0_39 : Cond.selects "TinWallModel" ⟨"TinWallModel", "amount", "(II)I"⟩ ⟨"TinWallModel", "amount", "(II)I"⟩ ∈ kn_all := kn_t0 (List.mem_append_right _ (List.mem_append_right _ (List.mem_append_left _ (List.mem_of_getElem? (i := 7) rfl))))
theorem q0_40 : Cond.selects "TinWallModel" ⟨"TinWallModel", "digits", "(I)I"⟩ ⟨"TinWallModel", "digits", "(I)I"⟩ ∈ kn_all := kn_t0 (List.mem_append_right _ (List.mem_append_right _ (List.mem_append_left _ (List.mem_of_getElem? (i := 8) rfl))))
theorem q0_41 : Cond.selects "TinWallModel" ⟨"TinWallModel", "isDigit", "()Z"⟩ ⟨"TinWallModel", "isDigit", "()Z"⟩ ∈ kn_all := kn_t0 (List.mem_append_right _ (List.mem_append_right _ (List.mem_append_left _ (List.mem_of_getElem? (i := 9) rfl))))
theorem q0_42 : Cond.selects "TinWallModel" ⟨"TinWallModel", "readsSeeker", "()V"⟩ ⟨"TinWallModel", "readsSeeker", "()V"⟩ ∈ kn_all := kn_t0 (List.mem_append_right _ (List.mem_append_right _ (List.mem_append_left _ (List.mem_of_getElem? (i := 10) rfl))))
theorem q0_43 : Cond.selects "TinWallModel" ⟨"TinWallModel", "goesOn", "()Z"⟩ ⟨"TinWallModel", "goesOn", "()Z"⟩ ∈ kn_all := kn_t0 (List.mem_append_right _ (List.mem_append_right _ (List.mem_append_left _ (List.mem_of_getElem? (i := 11) rfl))))
theorem q0_44 : Cond.selects "TinWallModel" ⟨"TinWallModel", "begins", "()V"⟩ ⟨"TinWallModel", "begins", "()V"⟩ ∈ kn_all := kn_t0 (List.mem_append_right _ (List.mem_append_right _ (List.mem_append_left _ (List.mem_of_getElem? (i := 12) rfl))))
theorem q0_45 : Cond.selects "TinWallModel" ⟨"TinWallModel", "ruleClause", "(I)V"⟩ ⟨"TinWallModel", "ruleClause", "(I)V"⟩ ∈ kn_all := kn_t0 (List.mem_append_right _ (List.mem_append_right _ (List.mem_append_left _ (List.mem_of_getElem? (i := 13) rfl))))
theorem q0_46 : Cond.selects "TinWallModel" ⟨"TinWallModel", "sum", "()V"⟩ ⟨"TinWallModel", "sum", "()V"⟩ ∈ kn_all := kn_t0 (List.mem_append_right _ (List.mem_append_right _ (List.mem_append_left _ (List.mem_of_getElem? (i := 14) rfl))))
theorem q0_47 : Cond.selects "TinWallModel" ⟨"TinWallModel", "term", "()V"⟩ ⟨"TinWallModel", "term", "()V"⟩ ∈ kn_all := kn_t0 (List.mem_append_right _ (List.mem_append_right _ (List.mem_append_left _ (List.mem_of_getElem? (i := 15) rfl))))
theorem q0_48 : Cond.selects "TinWallModel" ⟨"TinWallModel", "value", "()V"⟩ ⟨"TinWallModel", "value", "()V"⟩ ∈ kn_all := kn_t0 (List.mem_append_right _ (List.mem_append_right _ (List.mem_append_right _ (List.mem_append_left _ (List.mem_of_getElem? (i := 0) rfl)))))
theorem q0_49 : Cond.selects "TinWallModel" ⟨"TinWallModel", "isCounted", "(I)V"⟩ ⟨"TinWallModel", "isCounted", "(I)V"⟩ ∈ kn_all := kn_t0 (List.mem_append_right _ (List.mem_append_right _ (List.mem_append_right _ (List.mem_append_left _ (List.mem_of_getElem? (i := 1) rfl)))))
theorem q0_50 : Cond.selects "TinWallModel" ⟨"TinWallModel", "entry", "(II)V"⟩ ⟨"TinWallModel", "entry", "(II)V"⟩ ∈ kn_all := kn_t0 (List.mem_append_right _ (List.mem_append_right _ (List.mem_append_right _ (List.mem_append_left _ (List.mem_of_getElem? (i := 2) rfl)))))
theorem q0_51 : Cond.selects "TinWallModel" ⟨"TinWallModel", "takes", "(Ljava/lang/String;)Z"⟩ ⟨"TinWallModel", "takes", "(Ljava/lang/String;)Z"⟩ ∈ kn_all := kn_t0 (List.mem_append_right _ (List.mem_append_right _ (List.mem_append_right _ (List.mem_append_left _ (List.mem_of_getElem? (i := 3) rfl)))))
theorem q0_52 : Cond.selects "TinWallModel" ⟨"TinWallModel", "test", "()V"⟩ ⟨"TinWallModel", "test", "()V"⟩ ∈ kn_all := kn_t0 (List.mem_append_right _ (List.mem_append_right _ (List.mem_append_right _ (List.mem_append_left _ (List.mem_of_getElem? (i := 4) rfl)))))
theorem q0_53 : Cond.selects "TinWallModel" ⟨"TinWallModel", "fact", "()Z"⟩ ⟨"TinWallModel", "fact", "()Z"⟩ ∈ kn_all := kn_t0 (List.mem_append_right _ (List.mem_append_right _ (List.mem_append_right _ (List.mem_append_left _ (List.mem_of_getElem? (i := 5) rfl)))))
theorem q0_54 : Cond.selects "TinWallModel" ⟨"TinWallModel", "opens", "(I)V"⟩ ⟨"TinWallModel", "opens", "(I)V"⟩ ∈ kn_all := kn_t0 (List.mem_append_right _ (List.mem_append_right _ (List.mem_append_right _ (List.mem_append_left _ (List.mem_of_getElem? (i := 6) rfl)))))
theorem q0_55 : Cond.selects "TinWallModel" ⟨"TinWallModel", "compared", "()V"⟩ ⟨"TinWallModel", "compared", "()V"⟩ ∈ kn_all := kn_t0 (List.mem_append_right _ (List.mem_append_right _ (List.mem_append_right _ (List.mem_append_left _ (List.mem_of_getElem? (i := 7) rfl)))))
theorem q0_56 : Cond.selects "TinWallModel" ⟨"TinWallModel", "answers", "(I)V"⟩ ⟨"TinWallModel", "answers", "(I)V"⟩ ∈ kn_all := kn_t0 (List.mem_append_right _ (List.mem_append_right _ (List.mem_append_right _ (List.mem_append_left _ (List.mem_of_getElem? (i := 8) rfl)))))
theorem q0_57 : Cond.selects "TinWallModel" ⟨"TinWallModel", "top", "()I"⟩ ⟨"TinWallModel", "top", "()I"⟩ ∈ kn_all := kn_t0 (List.mem_append_right _ (List.mem_append_right _ (List.mem_append_right _ (List.mem_append_left _ (List.mem_of_getElem? (i := 9) rfl)))))
theorem q0_58 : Cond.selects "TinWallModel" ⟨"TinWallModel", "isStone", "(I)Z"⟩ ⟨"TinWallModel", "isStone", "(I)Z"⟩ ∈ kn_all := kn_t0 (List.mem_append_right _ (List.mem_append_right _ (List.mem_append_right _ (List.mem_append_left _ (List.mem_of_getElem? (i := 10) rfl)))))
theorem q0_59 : Cond.selects "TinWallModel" ⟨"TinWallModel", "whoTried", "(I)I"⟩ ⟨"TinWallModel", "whoTried", "(I)I"⟩ ∈ kn_all := kn_t0 (List.mem_append_right _ (List.mem_append_right _ (List.mem_append_right _ (List.mem_append_left _ (List.mem_of_getElem? (i := 11) rfl)))))
theorem q0_60 : Cond.selects "TinWallModel" ⟨"TinWallModel", "isSeeker", "(I)Z"⟩ ⟨"TinWallModel", "isSeeker", "(I)Z"⟩ ∈ kn_all := kn_t0 (List.mem_append_right _ (List.mem_append_right _ (List.mem_append_right _ (List.mem_append_left _ (List.mem_of_getElem? (i := 12) rfl)))))
theorem q0_61 : Cond.selects "TinWallModel" ⟨"TinWallModel", "movesAll", "(IZ)V"⟩ ⟨"TinWallModel", "movesAll", "(IZ)V"⟩ ∈ kn_all := kn_t0 (List.mem_append_right _ (List.mem_append_right _ (List.mem_append_right _ (List.mem_append_left _ (List.mem_of_getElem? (i := 13) rfl)))))
theorem q0_62 : Cond.selects "TinWallModel" ⟨"TinWallModel", "moves", "(I)I"⟩ ⟨"TinWallModel", "moves", "(I)I"⟩ ∈ kn_all := kn_t0 (List.mem_append_right _ (List.mem_append_right _ (List.mem_append_right _ (List.mem_append_left _ (List.mem_of_getElem? (i := 14) rfl)))))
theorem q0_63 : Cond.selects "TinWallModel" ⟨"TinWallModel", "movesRow", "([I)V"⟩ ⟨"TinWallModel", "movesRow", "([I)V"⟩ ∈ kn_all := kn_t0 (List.mem_append_right _ (List.mem_append_right _ (List.mem_append_right _ (List.mem_append_left _ (List.mem_of_getElem? (i := 15) rfl)))))
theorem q0_64 : Cond.selects "TinWallModel" ⟨"TinWallModel", "isHill", "()Z"⟩ ⟨"TinWallModel", "isHill", "()Z"⟩ ∈ kn_all := kn_t0 (List.mem_append_right _ (List.mem_append_right _ (List.mem_append_right _ (List.mem_append_right _ (List.mem_append_left _ (List.mem_of_getElem? (i := 0) rfl))))))
theorem q0_65 : Cond.selects "TinWallModel" ⟨"TinWallModel", "keepsAct", "()V"⟩ ⟨"TinWallModel", "keepsAct", "()V"⟩ ∈ kn_all := kn_t0 (List.mem_append_right _ (List.mem_append_right _ (List.mem_append_right _ (List.mem_append_right _ (List.mem_append_left _ (List.mem_of_getElem? (i := 1) rfl))))))
theorem q0_66 : Cond.selects "TinWallModel" ⟨"TinWallModel", "goes", "()I"⟩ ⟨"TinWallModel", "goes", "()I"⟩ ∈ kn_all := kn_t0 (List.mem_append_right _ (List.mem_append_right _ (List.mem_append_right _ (List.mem_append_right _ (List.mem_append_left _ (List.mem_of_getElem? (i := 2) rfl))))))
theorem q0_67 : Cond.selects "TinWallModel" ⟨"TinWallModel", "looksFor", "(I)Z"⟩ ⟨"TinWallModel", "looksFor", "(I)Z"⟩ ∈ kn_all := kn_t0 (List.mem_append_right _ (List.mem_append_right _ (List.mem_append_right _ (List.mem_append_right _ (List.mem_append_left _ (List.mem_of_getElem? (i := 3) rfl))))))
theorem q0_68 : Cond.selects "TinWallModel" ⟨"TinWallModel", "laysLooking", "(I)Z"⟩ ⟨"TinWallModel", "laysLooking", "(I)Z"⟩ ∈ kn_all := kn_t0 (List.mem_append_right _ (List.mem_append_right _ (List.mem_append_right _ (List.mem_append_right _ (List.mem_append_left _ (List.mem_of_getElem? (i := 4) rfl))))))
theorem q0_69 : Cond.selects "TinWallModel" ⟨"TinWallModel", "sumOf", "(II)J"⟩ ⟨"TinWallModel", "sumOf", "(II)J"⟩ ∈ kn_all := kn_t0 (List.mem_append_right _ (List.mem_append_right _ (List.mem_append_right _ (List.mem_append_right _ (List.mem_append_left _ (List.mem_of_getElem? (i := 5) rfl))))))
theorem q0_70 : Cond.selects "TinWallModel" ⟨"TinWallModel", "minutesOf", "(II)I"⟩ ⟨"TinWallModel", "minutesOf", "(II)I"⟩ ∈ kn_all := kn_t0 (List.mem_append_right _ (List.mem_append_right _ (List.mem_append_right _ (List.mem_append_right _ (List.mem_append_left _ (List.mem_of_getElem? (i := 6) rfl))))))
theorem q0_71 : Cond.selects "TinWallModel" ⟨"TinWallModel", "foundBy", "()I"⟩ ⟨"TinWallModel", "foundBy", "()I"⟩ ∈ kn_all := kn_t0 (List.mem_append_right _ (List.mem_append_right _ (List.mem_append_right _ (List.mem_append_right _ (List.mem_append_left _ (List.mem_of_getElem? (i := 7) rfl))))))
theorem q0_72 : Cond.selects "TinWallModel" ⟨"TinWallModel", "wanted", "()J"⟩ ⟨"TinWallModel", "wanted", "()J"⟩ ∈ kn_all := kn_t0 (List.mem_append_right _ (List.mem_append_right _ (List.mem_append_right _ (List.mem_append_right _ (List.mem_append_left _ (List.mem_of_getElem? (i := 8) rfl))))))
theorem q0_73 : Cond.selects "TinWallModel" ⟨"TinWallModel", "answer", "(III)J"⟩ ⟨"TinWallModel", "answer", "(III)J"⟩ ∈ kn_all := kn_t0 (List.mem_append_right _ (List.mem_append_right _ (List.mem_append_right _ (List.mem_append_right _ (List.mem_append_left _ (List.mem_of_getElem? (i := 9) rfl))))))
theorem q0_74 : Cond.selects "TinWallModel" ⟨"TinWallModel", "swaps", "(I)V"⟩ ⟨"TinWallModel", "swaps", "(I)V"⟩ ∈ kn_all := kn_t0 (List.mem_append_right _ (List.mem_append_right _ (List.mem_append_right _ (List.mem_append_right _ (List.mem_append_left _ (List.mem_of_getElem? (i := 10) rfl))))))
theorem q0_75 : Cond.selects "TinWallModel" ⟨"TinWallModel", "putsBack", "(I)V"⟩ ⟨"TinWallModel", "putsBack", "(I)V"⟩ ∈ kn_all := kn_t0 (List.mem_append_right _ (List.mem_append_right _ (List.mem_append_right _ (List.mem_append_right _ (List.mem_append_left _ (List.mem_of_getElem? (i := 11) rfl))))))
theorem q0_76 : Cond.selects "TinWallModel" ⟨"TinWallModel", "walksBy", "()V"⟩ ⟨"TinWallModel", "walksBy", "()V"⟩ ∈ kn_all := kn_t0 (List.mem_append_right _ (List.mem_append_right _ (List.mem_append_right _ (List.mem_append_right _ (List.mem_append_left _ (List.mem_of_getElem? (i := 12) rfl))))))
theorem q0_77 : Cond.selects "TinWallModel" ⟨"TinWallModel", "doWalk", "(I)Z"⟩ ⟨"TinWallModel", "doWalk", "(I)Z"⟩ ∈ kn_all := kn_t0 (List.mem_append_right _ (List.mem_append_right _ (List.mem_append_right _ (List.mem_append_right _ (List.mem_append_left _ (List.mem_of_getElem? (i := 13) rfl))))))
theorem q0_78 : Cond.selects "TinWallModel" ⟨"TinWallModel", "keepsAll", "()V"⟩ ⟨"TinWallModel", "keepsAll", "()V"⟩ ∈ kn_all := kn_t0 (List.mem_append_right _ (List.mem_append_right _ (List.mem_append_right _ (List.mem_append_right _ (List.mem_append_left _ (List.mem_of_getElem? (i := 14) rfl))))))
theorem q0_79 : Cond.selects "TinWallModel" ⟨"TinWallModel", "carriesAll", "(IZ)V"⟩ ⟨"TinWallModel", "carriesAll", "(IZ)V"⟩ ∈ kn_all := kn_t0 (List.mem_append_right _ (List.mem_append_right _ (List.mem_append_right _ (List.mem_append_right _ (List.mem_append_left _ (List.mem_of_getElem? (i := 15) rfl))))))
theorem q0_80 : Cond.selects "TinWallModel" ⟨"TinWallModel", "carryRow", "([I)V"⟩ ⟨"TinWallModel", "carryRow", "([I)V"⟩ ∈ kn_all := kn_t0 (List.mem_append_right _ (List.mem_append_right _ (List.mem_append_right _ (List.mem_append_right _ (List.mem_append_right _ (List.mem_of_getElem? (i := 0) rfl))))))
theorem q0_81 : Cond.selects "TinWallModel" ⟨"TinWallModel", "goFor", "(I)V"⟩ ⟨"TinWallModel", "goFor", "(I)V"⟩ ∈ kn_all := kn_t0 (List.mem_append_right _ (List.mem_append_right _ (List.mem_append_right _ (List.mem_append_right _ (List.mem_append_right _ (List.mem_of_getElem? (i := 1) rfl))))))
theorem q0_82 : Cond.selects "TinWallModel" ⟨"TinWallModel", "laysBack", "()V"⟩ ⟨"TinWallModel", "laysBack", "()V"⟩ ∈ kn_all := kn_t0 (List.mem_append_right _ (List.mem_append_right _ (List.mem_append_right _ (List.mem_append_right _ (List.mem_append_right _ (List.mem_of_getElem? (i := 2) rfl))))))
theorem q0_83 : Cond.selects "TinWallModel" ⟨"TinWallModel", "laysOrder", "(I)I"⟩ ⟨"TinWallModel", "laysOrder", "(I)I"⟩ ∈ kn_all := kn_t0 (List.mem_append_right _ (List.mem_append_right _ (List.mem_append_right _ (List.mem_append_right _ (List.mem_append_right _ (List.mem_of_getElem? (i := 3) rfl))))))
theorem q0_84 : Cond.selects "TinWallModel" ⟨"TinWallModel", "allOdds", "()I"⟩ ⟨"TinWallModel", "allOdds", "()I"⟩ ∈ kn_all := kn_t0 (List.mem_append_right _ (List.mem_append_right _ (List.mem_append_right _ (List.mem_append_right _ (List.mem_append_right _ (List.mem_of_getElem? (i := 4) rfl))))))
theorem q0_85 : Cond.selects "TinWallModel" ⟨"TinWallModel", "laysWriting", "(I)V"⟩ ⟨"TinWallModel", "laysWriting", "(I)V"⟩ ∈ kn_all := kn_t0 (List.mem_append_right _ (List.mem_append_right _ (List.mem_append_right _ (List.mem_append_right _ (List.mem_append_right _ (List.mem_of_getElem? (i := 5) rfl))))))
theorem q0_86 : Cond.selects "TinWallModel" ⟨"TinWallModel", "areNamesSo", "()Z"⟩ ⟨"TinWallModel", "areNamesSo", "()Z"⟩ ∈ kn_all := kn_t0 (List.mem_append_right _ (List.mem_append_right _ (List.mem_append_right _ (List.mem_append_right _ (List.mem_append_right _ (List.mem_of_getElem? (i := 6) rfl))))))
theorem q0_87 : Cond.selects "TinWallModel" ⟨"TinWallModel", "draws", "(I)I"⟩ ⟨"TinWallModel", "draws", "(I)I"⟩ ∈ kn_all := kn_t0 (List.mem_append_right _ (List.mem_append_right _ (List.mem_append_right _ (List.mem_append_right _ (List.mem_append_right _ (List.mem_of_getElem? (i := 7) rfl))))))
set_option maxRecDepth 4000 in
theorem inX0 : ∀ w ∈ u_ws RX0 TX0 18, w ∈ kn_all := by
  intro w hw
  obtain ⟨k, hk, rfl⟩ := List.mem_map.mp hw
  exact (lt_s (lt_s (lt_s (lt_s (lt_s (lt_s (lt_s (lt_s (lt_s (lt_s (lt_s (lt_s (lt_s (lt_s (lt_s (lt_s (lt_s (lt_s lt_0 q1_176) q1_178) q1_180) q1_182) q1_184) q1_186) q1_188) q1_190) q1_192) q1_194) q1_196) q1_198) q1_200) q1_202) q1_204) q1_206) q1_208) q1_210 : ∀ a, a < 18 → u_lay RX0 TX0 a ∈ kn_all) k (List.mem_range.mp hk)
set_option maxRecDepth 4000 in
theorem inX1 : ∀ w ∈ u_ws RX1 TX1 1, w ∈ kn_all := by
  intro w hw
  obtain ⟨k, hk, rfl⟩ := List.mem_map.mp hw
  exact (lt_s lt_0 q1_57 : ∀ a, a < 1 → u_lay RX1 TX1 a ∈ kn_all) k (List.mem_range.mp hk)
set_option maxRecDepth 4000 in
theorem inX2 : ∀ w ∈ u_ws RX2 TX2 4, w ∈ kn_all := by
  intro w hw
  obtain ⟨k, hk, rfl⟩ := List.mem_map.mp hw
  exact (lt_s (lt_s (lt_s (lt_s lt_0 q1_46) q1_48) q1_50) q1_52 : ∀ a, a < 4 → u_lay RX2 TX2 a ∈ kn_all) k (List.mem_range.mp hk)
set_option maxRecDepth 4000 in
theorem inX3 : ∀ w ∈ u_ws RX3 TX3 6, w ∈ kn_all := by
  intro w hw
  obtain ⟨k, hk, rfl⟩ := List.mem_map.mp hw
  exact (lt_s (lt_s (lt_s (lt_s (lt_s (lt_s lt_0 q1_80) q1_82) q1_84) q1_86) q1_88) q1_90 : ∀ a, a < 6 → u_lay RX3 TX3 a ∈ kn_all) k (List.mem_range.mp hk)
set_option maxRecDepth 4000 in
theorem inX4 : ∀ w ∈ u_ws RX4 TX4 3, w ∈ kn_all := by
  intro w hw
  obtain ⟨k, hk, rfl⟩ := List.mem_map.mp hw
  exact (lt_s (lt_s (lt_s lt_0 q1_97) q1_99) q1_101 : ∀ a, a < 3 → u_lay RX4 TX4 a ∈ kn_all) k (List.mem_range.mp hk)
set_option maxRecDepth 4000 in
theorem inX5 : ∀ w ∈ u_ws RX5 TX5 10, w ∈ kn_all := by
  intro w hw
  obtain ⟨k, hk, rfl⟩ := List.mem_map.mp hw
  exact (lt_s (lt_s (lt_s (lt_s (lt_s (lt_s (lt_s (lt_s (lt_s (lt_s lt_0 q2_45) q2_47) q2_49) q2_51) q2_53) q2_55) q2_57) q2_59) q2_61) q2_63 : ∀ a, a < 10 → u_lay RX5 TX5 a ∈ kn_all) k (List.mem_range.mp hk)
set_option maxRecDepth 4000 in
theorem inX6 : ∀ w ∈ u_ws RX6 TX6 9, w ∈ kn_all := by
  intro w hw
  obtain ⟨k, hk, rfl⟩ := List.mem_map.mp hw
  exact (lt_s (lt_s (lt_s (lt_s (lt_s (lt_s (lt_s (lt_s (lt_s lt_0 q2_7) q2_9) q2_11) q2_13) q2_15) q2_17) q2_19) q2_21) q2_23 : ∀ a, a < 9 → u_lay RX6 TX6 a ∈ kn_all) k (List.mem_range.mp hk)
set_option maxRecDepth 4000 in
theorem inX7 : ∀ w ∈ u_ws RX7 TX7 6, w ∈ kn_all := by
  intro w hw
  obtain ⟨k, hk, rfl⟩ := List.mem_map.mp hw
  exact (lt_s (lt_s (lt_s (lt_s (lt_s (lt_s lt_0 q2_82) q2_84) q2_86) q2_88) q2_90) q2_92 : ∀ a, a < 6 → u_lay RX7 TX7 a ∈ kn_all) k (List.mem_range.mp hk)
set_option maxRecDepth 4000 in
theorem inX8 : ∀ w ∈ u_ws RX8 TX8 12, w ∈ kn_all := by
  intro w hw
  obtain ⟨k, hk, rfl⟩ := List.mem_map.mp hw
  exact (lt_s (lt_s (lt_s (lt_s (lt_s (lt_s (lt_s (lt_s (lt_s (lt_s (lt_s (lt_s lt_0 q2_111) q2_113) q2_115) q2_117) q2_119) q2_121) q2_123) q2_125) q2_127) q2_129) q2_131) q2_133 : ∀ a, a < 12 → u_lay RX8 TX8 a ∈ kn_all) k (List.mem_range.mp hk)
set_option maxRecDepth 4000 in
theorem inX9 : ∀ w ∈ u_ws RX9 TX9 67, w ∈ kn_all := by
  intro w hw
  obtain ⟨k, hk, rfl⟩ := List.mem_map.mp hw
  exact (lt_s (lt_s (lt_s (lt_s (lt_s (lt_s (lt_s (lt_s (lt_s (lt_s (lt_s (lt_s (lt_s (lt_s (lt_s (lt_s (lt_s (lt_s (lt_s (lt_s (lt_s (lt_s (lt_s (lt_s (lt_s (lt_s (lt_s (lt_s (lt_s (lt_s (lt_s (lt_s (lt_s (lt_s (lt_s (lt_s (lt_s (lt_s (lt_s (lt_s (lt_s (lt_s (lt_s (lt_s (lt_s (lt_s (lt_s (lt_s (lt_s (lt_s (lt_s (lt_s (lt_s (lt_s (lt_s (lt_s (lt_s (lt_s (lt_s (lt_s (lt_s (lt_s (lt_s (lt_s (lt_s (lt_s (lt_s lt_0 q5_27) q5_29) q5_31) q5_33) q5_35) q5_37) q5_39) q5_41) q5_43) q5_45) q5_47) q5_49) q5_51) q5_53) q5_55) q5_57) q5_59) q5_61) q5_63) q5_65) q5_67) q5_69) q5_71) q5_73) q5_75) q5_77) q5_79) q5_81) q5_83) q5_85) q5_87) q5_89) q5_91) q5_93) q5_95) q5_97) q5_99) q5_101) q5_103) q5_105) q5_107) q5_109) q5_111) q5_113) q5_115) q5_117) q5_119) q5_121) q5_123) q5_125) q5_127) q5_129) q5_131) q5_133) q5_135) q5_137) q5_139) q5_141) q5_143) q5_145) q5_147) q5_149) q5_151) q5_153) q5_155) q5_157) q5_159 : ∀ a, a < 67 → u_lay RX9 TX9 a ∈ kn_all) k (List.mem_range.mp hk)
