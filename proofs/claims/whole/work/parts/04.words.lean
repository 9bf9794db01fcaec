def TBL : List Cond := lw_tbl.filter goodWord
theorem tb_mem {w : Cond} (h : w ∈ lw_tbl) (hg : goodWord w = true) : w ∈ TBL := List.mem_filter.mpr ⟨h, hg⟩
theorem tb_0 {w : Cond} (i : Nat) (h : (k2_sels lw_privs)[i]? = some w) (hg : goodWord w = true) : w ∈ TBL := tb_mem (List.mem_append_left _ (List.mem_of_getElem? h)) hg
theorem tb_1 {w : Cond} (i : Nat) (h : tables_1_1[i]? = some w) (hg : goodWord w = true) : w ∈ TBL := tb_mem (List.mem_append_right _ (List.mem_append_left _ (List.mem_of_getElem? h))) hg
theorem tb_2 {w : Cond} (i : Nat) (h : tables_1_2[i]? = some w) (hg : goodWord w = true) : w ∈ TBL := tb_mem (List.mem_append_right _ (List.mem_append_right _ (List.mem_append_left _ (List.mem_of_getElem? h)))) hg
theorem tb_3 {w : Cond} (i : Nat) (h : tables_1_3[i]? = some w) (hg : goodWord w = true) : w ∈ TBL := tb_mem (List.mem_append_right _ (List.mem_append_right _ (List.mem_append_right _ (List.mem_append_left _ (List.mem_of_getElem? h))))) hg
theorem tb_4 {w : Cond} (i : Nat) (h : tables_1_4[i]? = some w) (hg : goodWord w = true) : w ∈ TBL := tb_mem (List.mem_append_right _ (List.mem_append_right _ (List.mem_append_right _ (List.mem_append_right _ (List.mem_append_left _ (List.mem_of_getElem? h)))))) hg
theorem tb_5 {w : Cond} (i : Nat) (h : tables_1_5[i]? = some w) (hg : goodWord w = true) : w ∈ TBL := tb_mem (List.mem_append_right _ (List.mem_append_right _ (List.mem_append_right _ (List.mem_append_right _ (List.mem_append_right _ (List.mem_of_getElem? h)))))) hg
theorem tb_good {w : Cond} (h : w ∈ TBL) : (w.onTables && w.keeps) = true ∨ ∃ ty, w = .arrayClass ty := good_of_word (List.mem_filter.mp h).2
theorem tw_0 : (Jvm.Cond.initialized "WallPlannerLaw") ∈ TBL := tb_1 0 rfl rfl
theorem tw_1 : (Jvm.Cond.initialized "WallPlanner") ∈ TBL := tb_1 1 rfl rfl
theorem tw_2 : (Jvm.Cond.initialized "WallPlanner$Net") ∈ TBL := tb_1 2 rfl rfl
theorem tw_3 : (Jvm.Cond.initialized "WallPlanner$Law") ∈ TBL := tb_1 3 rfl rfl
theorem tw_4 : (Jvm.Cond.initialized "WallPlanner$Diary") ∈ TBL := tb_1 4 rfl rfl
theorem tw_5 : (Jvm.Cond.initialized "WallPlanner$Plan") ∈ TBL := tb_1 5 rfl rfl
theorem tw_6 : (Jvm.Cond.initialized "WallPlanner$Layout") ∈ TBL := tb_1 6 rfl rfl
theorem tw_7 : (Jvm.Cond.initialized "java/util/Arrays") ∈ TBL := tb_1 7 rfl rfl
theorem tw_8 : (Jvm.Cond.initialized "WallPlanner$Needs") ∈ TBL := tb_1 8 rfl rfl
theorem tw_9 : (Jvm.Cond.initialized "WallPlanner$Seeker") ∈ TBL := tb_1 9 rfl rfl
theorem tw_10 : (Jvm.Cond.initialized "WallPlanner$Spreading") ∈ TBL := tb_1 10 rfl rfl
theorem tw_11 : (Jvm.Cond.initialized "WallPlanner$Shutter") ∈ TBL := tb_1 11 rfl rfl
theorem tw_12 : (Jvm.Cond.initialized "WallPlanner$OddList") ∈ TBL := tb_1 12 rfl rfl
theorem tw_13 : (Jvm.Cond.initialized "WallPlannerModel") ∈ TBL := tb_1 13 rfl rfl
theorem tw_14 : (Jvm.Cond.initialized "java/lang/Integer") ∈ TBL := tb_1 14 rfl rfl
theorem tw_15 : (Jvm.Cond.initialized "java/lang/System") ∈ TBL := tb_1 15 rfl rfl
theorem tw_16 : (Jvm.Cond.initialized "java/lang/Math") ∈ TBL := tb_1 16 rfl rfl
theorem tw_17 : (Jvm.Cond.classLink "WallPlannerLaw" (7 : Nat) "WallPlanner") ∈ TBL := tb_1 17 rfl rfl
theorem tw_18 : (Jvm.Cond.instantiable "WallPlanner" (9 : Nat)) ∈ TBL := tb_1 18 rfl rfl
theorem tw_19 : (Jvm.Cond.methodLink "WallPlannerLaw" (9 : Nat) ({ cls := "WallPlanner", name := "<init>", desc := "()V" } : Jvm.MethodName)) ∈ TBL := tb_1 19 rfl rfl
theorem tw_20 : (Jvm.Cond.instanceMethod ({ cls := "WallPlanner", name := "<init>", desc := "()V" } : Jvm.MethodName)) ∈ TBL := tb_1 20 rfl rfl
theorem tw_21 : (Jvm.Cond.code ({ cls := "WallPlanner", name := "<init>", desc := "()V" } : Jvm.MethodName) prog_1_method_1_code (1 : Nat) (Option.none : Option Jvm.ClassFile.FieldType)) ∈ TBL := tb_1 21 rfl rfl
theorem tw_22 : (Jvm.Cond.methodLink "WallPlanner" (1 : Nat) ({ cls := "java/lang/Object", name := "<init>", desc := "()V" } : Jvm.MethodName)) ∈ TBL := tb_1 22 rfl rfl
theorem tw_23 : (Jvm.Cond.instanceMethod ({ cls := "java/lang/Object", name := "<init>", desc := "()V" } : Jvm.MethodName)) ∈ TBL := tb_1 23 rfl rfl
theorem tw_24 : (Jvm.Cond.code ({ cls := "java/lang/Object", name := "<init>", desc := "()V" } : Jvm.MethodName) object_method_1_code (1 : Nat) (Option.none : Option Jvm.ClassFile.FieldType)) ∈ TBL := tb_1 24 rfl rfl
theorem tw_25 : (Jvm.Cond.classLink "WallPlanner" (7 : Nat) "WallPlanner$Net") ∈ TBL := tb_1 25 rfl rfl
theorem tw_26 : (Jvm.Cond.instantiable "WallPlanner$Net" (4 : Nat)) ∈ TBL := tb_1 26 rfl rfl
theorem tw_27 : (Jvm.Cond.instanceMethod ({ cls := "WallPlanner$Net", name := "<init>", desc := "()V" } : Jvm.MethodName)) ∈ TBL := tb_1 28 rfl rfl
theorem tw_28 : (Jvm.Cond.code ({ cls := "WallPlanner$Net", name := "<init>", desc := "()V" } : Jvm.MethodName) prog_6_method_1_code (1 : Nat) (Option.none : Option Jvm.ClassFile.FieldType)) ∈ TBL := tb_1 29 rfl rfl
theorem tw_29 : (Jvm.Cond.methodLink "WallPlanner$Net" (3 : Nat) ({ cls := "java/lang/Object", name := "<init>", desc := "()V" } : Jvm.MethodName)) ∈ TBL := tb_1 30 rfl rfl
theorem tw_30 : (Jvm.Cond.fieldLink "WallPlanner$Net" (9 : Nat) "WallPlanner$Net" "marks" "[I") ∈ TBL := tb_1 31 rfl rfl
theorem tw_31 : (Jvm.Cond.fieldLink "WallPlanner$Net" (15 : Nat) "WallPlanner$Net" "musts" "[I") ∈ TBL := tb_1 33 rfl rfl
theorem tw_32 : (Jvm.Cond.fieldLink "WallPlanner$Net" (18 : Nat) "WallPlanner$Net" "bars" "[I") ∈ TBL := tb_1 35 rfl rfl
theorem tw_33 : (Jvm.Cond.fieldLink "WallPlanner$Net" (21 : Nat) "WallPlanner$Net" "hosts" "I") ∈ TBL := tb_1 39 rfl rfl
theorem tw_34 : (Jvm.Cond.laysFinal "WallPlanner$Net" "WallPlanner$Net" "marks" "[I") ∈ TBL := tb_1 43 rfl rfl
theorem tw_35 : (Jvm.Cond.laysFinal "WallPlanner$Net" "WallPlanner$Net" "musts" "[I") ∈ TBL := tb_1 45 rfl rfl
theorem tw_36 : (Jvm.Cond.laysFinal "WallPlanner$Net" "WallPlanner$Net" "bars" "[I") ∈ TBL := tb_1 47 rfl rfl
theorem tw_37 : (Jvm.Cond.lays "WallPlanner$Net" "WallPlanner$Net" "hosts" "I") ∈ TBL := tb_1 49 rfl rfl
theorem tw_38 : (Jvm.Cond.arrayClass Jvm.ClassFile.FieldType.int) ∈ TBL := tb_1 52 rfl rfl
theorem tw_39 : (Jvm.Cond.classLink "WallPlanner" (16 : Nat) "WallPlanner$Law") ∈ TBL := tb_1 53 rfl rfl
theorem tw_40 : (Jvm.Cond.instantiable "WallPlanner$Law" (5 : Nat)) ∈ TBL := tb_1 54 rfl rfl
theorem tw_41 : (Jvm.Cond.instanceMethod ({ cls := "WallPlanner$Law", name := "<init>", desc := "()V" } : Jvm.MethodName)) ∈ TBL := tb_1 56 rfl rfl
theorem tw_42 : (Jvm.Cond.code ({ cls := "WallPlanner$Law", name := "<init>", desc := "()V" } : Jvm.MethodName) prog_3_method_1_code (1 : Nat) (Option.none : Option Jvm.ClassFile.FieldType)) ∈ TBL := tb_1 57 rfl rfl
theorem tw_43 : (Jvm.Cond.methodLink "WallPlanner$Law" (1 : Nat) ({ cls := "java/lang/Object", name := "<init>", desc := "()V" } : Jvm.MethodName)) ∈ TBL := tb_1 58 rfl rfl
theorem tw_44 : (Jvm.Cond.fieldLink "WallPlanner$Law" (7 : Nat) "WallPlanner$Law" "window" "I") ∈ TBL := tb_1 59 rfl rfl
theorem tw_45 : (Jvm.Cond.fieldLink "WallPlanner$Law" (13 : Nat) "WallPlanner$Law" "least" "I") ∈ TBL := tb_1 62 rfl rfl
theorem tw_46 : (Jvm.Cond.fieldLink "WallPlanner$Law" (16 : Nat) "WallPlanner$Law" "strict" "Z") ∈ TBL := tb_1 65 rfl rfl
theorem tw_47 : (Jvm.Cond.fieldLink "WallPlanner$Law" (20 : Nat) "WallPlanner$Law" "rulePrice" "I") ∈ TBL := tb_1 68 rfl rfl
theorem tw_48 : (Jvm.Cond.fieldLink "WallPlanner$Law" (23 : Nat) "WallPlanner$Law" "strayPrice" "I") ∈ TBL := tb_1 70 rfl rfl
theorem tw_49 : (Jvm.Cond.lays "WallPlanner$Law" "WallPlanner$Law" "window" "I") ∈ TBL := tb_1 72 rfl rfl
theorem tw_50 : (Jvm.Cond.lays "WallPlanner$Law" "WallPlanner$Law" "least" "I") ∈ TBL := tb_1 74 rfl rfl
theorem tw_51 : (Jvm.Cond.lays "WallPlanner$Law" "WallPlanner$Law" "strict" "Z") ∈ TBL := tb_1 76 rfl rfl
theorem tw_52 : (Jvm.Cond.lays "WallPlanner$Law" "WallPlanner$Law" "rulePrice" "I") ∈ TBL := tb_1 78 rfl rfl
theorem tw_53 : (Jvm.Cond.lays "WallPlanner$Law" "WallPlanner$Law" "strayPrice" "I") ∈ TBL := tb_1 80 rfl rfl
theorem tw_54 : (Jvm.Cond.classLink "WallPlanner" (23 : Nat) "WallPlanner$Diary") ∈ TBL := tb_1 83 rfl rfl
theorem tw_55 : (Jvm.Cond.instantiable "WallPlanner$Diary" (4 : Nat)) ∈ TBL := tb_1 84 rfl rfl
theorem tw_56 : (Jvm.Cond.instanceMethod ({ cls := "WallPlanner$Diary", name := "<init>", desc := "()V" } : Jvm.MethodName)) ∈ TBL := tb_1 86 rfl rfl
theorem tw_57 : (Jvm.Cond.code ({ cls := "WallPlanner$Diary", name := "<init>", desc := "()V" } : Jvm.MethodName) prog_2_method_1_code (1 : Nat) (Option.none : Option Jvm.ClassFile.FieldType)) ∈ TBL := tb_1 87 rfl rfl
theorem tw_58 : (Jvm.Cond.methodLink "WallPlanner$Diary" (3 : Nat) ({ cls := "java/lang/Object", name := "<init>", desc := "()V" } : Jvm.MethodName)) ∈ TBL := tb_1 88 rfl rfl
theorem tw_59 : (Jvm.Cond.fieldLink "WallPlanner$Diary" (9 : Nat) "WallPlanner$Diary" "wayAt" "[I") ∈ TBL := tb_1 89 rfl rfl
theorem tw_60 : (Jvm.Cond.fieldLink "WallPlanner$Diary" (15 : Nat) "WallPlanner$Diary" "dayAt" "[I") ∈ TBL := tb_1 92 rfl rfl
theorem tw_61 : (Jvm.Cond.fieldLink "WallPlanner$Diary" (18 : Nat) "WallPlanner$Diary" "countAt" "[I") ∈ TBL := tb_1 94 rfl rfl
theorem tw_62 : (Jvm.Cond.fieldLink "WallPlanner$Diary" (21 : Nat) "WallPlanner$Diary" "size" "I") ∈ TBL := tb_1 96 rfl rfl
theorem tw_63 : (Jvm.Cond.laysFinal "WallPlanner$Diary" "WallPlanner$Diary" "wayAt" "[I") ∈ TBL := tb_1 99 rfl rfl
theorem tw_64 : (Jvm.Cond.laysFinal "WallPlanner$Diary" "WallPlanner$Diary" "dayAt" "[I") ∈ TBL := tb_1 101 rfl rfl
theorem tw_65 : (Jvm.Cond.laysFinal "WallPlanner$Diary" "WallPlanner$Diary" "countAt" "[I") ∈ TBL := tb_1 103 rfl rfl
theorem tw_66 : (Jvm.Cond.lays "WallPlanner$Diary" "WallPlanner$Diary" "size" "I") ∈ TBL := tb_1 105 rfl rfl
theorem tw_67 : (Jvm.Cond.classLink "WallPlanner" (30 : Nat) "WallPlanner$Plan") ∈ TBL := tb_1 108 rfl rfl
theorem tw_68 : (Jvm.Cond.instantiable "WallPlanner$Plan" (6 : Nat)) ∈ TBL := tb_1 109 rfl rfl
theorem tw_69 : (Jvm.Cond.instanceMethod ({ cls := "WallPlanner$Plan", name := "<init>", desc := "()V" } : Jvm.MethodName)) ∈ TBL := tb_1 111 rfl rfl
theorem tw_70 : (Jvm.Cond.code ({ cls := "WallPlanner$Plan", name := "<init>", desc := "()V" } : Jvm.MethodName) prog_8_method_1_code (1 : Nat) (Option.none : Option Jvm.ClassFile.FieldType)) ∈ TBL := tb_1 112 rfl rfl
theorem tw_71 : (Jvm.Cond.methodLink "WallPlanner$Plan" (3 : Nat) ({ cls := "java/lang/Object", name := "<init>", desc := "()V" } : Jvm.MethodName)) ∈ TBL := tb_1 113 rfl rfl
theorem tw_72 : (Jvm.Cond.classLink "WallPlanner$Plan" (9 : Nat) "WallPlanner$Layout") ∈ TBL := tb_1 114 rfl rfl
theorem tw_73 : (Jvm.Cond.instantiable "WallPlanner$Layout" (5 : Nat)) ∈ TBL := tb_1 115 rfl rfl
theorem tw_74 : (Jvm.Cond.methodLink "WallPlanner$Plan" (11 : Nat) ({ cls := "WallPlanner$Layout", name := "<init>", desc := "()V" } : Jvm.MethodName)) ∈ TBL := tb_1 116 rfl rfl
theorem tw_75 : (Jvm.Cond.instanceMethod ({ cls := "WallPlanner$Layout", name := "<init>", desc := "()V" } : Jvm.MethodName)) ∈ TBL := tb_1 117 rfl rfl
theorem tw_76 : (Jvm.Cond.code ({ cls := "WallPlanner$Layout", name := "<init>", desc := "()V" } : Jvm.MethodName) prog_4_method_1_code (1 : Nat) (Option.none : Option Jvm.ClassFile.FieldType)) ∈ TBL := tb_1 118 rfl rfl
theorem tw_77 : (Jvm.Cond.methodLink "WallPlanner$Layout" (3 : Nat) ({ cls := "java/lang/Object", name := "<init>", desc := "()V" } : Jvm.MethodName)) ∈ TBL := tb_1 119 rfl rfl
theorem tw_78 : (Jvm.Cond.methodLink "WallPlanner$Layout" (29 : Nat) ({ cls := "java/util/Arrays", name := "fill", desc := "([II)V" } : Jvm.MethodName)) ∈ TBL := tb_1 120 rfl rfl
theorem tw_79 : (Jvm.Cond.static ({ cls := "java/util/Arrays", name := "fill", desc := "([II)V" } : Jvm.MethodName)) ∈ TBL := tb_1 121 rfl rfl
theorem tw_80 : (Jvm.Cond.code ({ cls := "java/util/Arrays", name := "fill", desc := "([II)V" } : Jvm.MethodName) prog_17_method_103_code (4 : Nat) (Option.none : Option Jvm.ClassFile.FieldType)) ∈ TBL := tb_1 122 rfl rfl
theorem tw_81 : (Jvm.Cond.fieldLink "WallPlanner$Layout" (9 : Nat) "WallPlanner$Layout" "roomOf" "[I") ∈ TBL := tb_1 123 rfl rfl
theorem tw_82 : (Jvm.Cond.fieldLink "WallPlanner$Layout" (15 : Nat) "WallPlanner$Layout" "doors" "[I") ∈ TBL := tb_1 128 rfl rfl
theorem tw_83 : (Jvm.Cond.fieldLink "WallPlanner$Layout" (18 : Nat) "WallPlanner$Layout" "rules" "I") ∈ TBL := tb_1 130 rfl rfl
theorem tw_84 : (Jvm.Cond.fieldLink "WallPlanner$Layout" (22 : Nat) "WallPlanner$Layout" "strays" "I") ∈ TBL := tb_1 133 rfl rfl
theorem tw_85 : (Jvm.Cond.fieldLink "WallPlanner$Layout" (25 : Nat) "WallPlanner$Layout" "letsBarred" "Z") ∈ TBL := tb_1 137 rfl rfl
theorem tw_86 : (Jvm.Cond.laysFinal "WallPlanner$Layout" "WallPlanner$Layout" "roomOf" "[I") ∈ TBL := tb_1 139 rfl rfl
theorem tw_87 : (Jvm.Cond.laysFinal "WallPlanner$Layout" "WallPlanner$Layout" "doors" "[I") ∈ TBL := tb_1 141 rfl rfl
theorem tw_88 : (Jvm.Cond.lays "WallPlanner$Layout" "WallPlanner$Layout" "rules" "I") ∈ TBL := tb_1 143 rfl rfl
theorem tw_89 : (Jvm.Cond.lays "WallPlanner$Layout" "WallPlanner$Layout" "strays" "I") ∈ TBL := tb_1 145 rfl rfl
theorem tw_90 : (Jvm.Cond.lays "WallPlanner$Layout" "WallPlanner$Layout" "letsBarred" "Z") ∈ TBL := tb_1 147 rfl rfl
theorem tw_91 : (Jvm.Cond.classLink "WallPlanner$Plan" (18 : Nat) "WallPlanner$Needs") ∈ TBL := tb_1 150 rfl rfl
theorem tw_92 : (Jvm.Cond.instantiable "WallPlanner$Needs" (2 : Nat)) ∈ TBL := tb_1 151 rfl rfl
theorem tw_93 : (Jvm.Cond.instanceMethod ({ cls := "WallPlanner$Needs", name := "<init>", desc := "()V" } : Jvm.MethodName)) ∈ TBL := tb_1 153 rfl rfl
theorem tw_94 : (Jvm.Cond.code ({ cls := "WallPlanner$Needs", name := "<init>", desc := "()V" } : Jvm.MethodName) prog_5_method_1_code (1 : Nat) (Option.none : Option Jvm.ClassFile.FieldType)) ∈ TBL := tb_1 154 rfl rfl
theorem tw_95 : (Jvm.Cond.methodLink "WallPlanner$Needs" (3 : Nat) ({ cls := "java/lang/Object", name := "<init>", desc := "()V" } : Jvm.MethodName)) ∈ TBL := tb_1 155 rfl rfl
theorem tw_96 : (Jvm.Cond.fieldLink "WallPlanner$Needs" (9 : Nat) "WallPlanner$Needs" "doors" "[I") ∈ TBL := tb_1 156 rfl rfl
theorem tw_97 : (Jvm.Cond.fieldLink "WallPlanner$Needs" (15 : Nat) "WallPlanner$Needs" "weights" "[I") ∈ TBL := tb_1 159 rfl rfl
theorem tw_98 : (Jvm.Cond.laysFinal "WallPlanner$Needs" "WallPlanner$Needs" "doors" "[I") ∈ TBL := tb_1 161 rfl rfl
theorem tw_99 : (Jvm.Cond.laysFinal "WallPlanner$Needs" "WallPlanner$Needs" "weights" "[I") ∈ TBL := tb_1 163 rfl rfl
theorem tw_100 : (Jvm.Cond.fieldLink "WallPlanner$Plan" (12 : Nat) "WallPlanner$Plan" "layout" "LWallPlanner$Layout;") ∈ TBL := tb_1 166 rfl rfl
theorem tw_101 : (Jvm.Cond.fieldLink "WallPlanner$Plan" (21 : Nat) "WallPlanner$Plan" "needs" "LWallPlanner$Needs;") ∈ TBL := tb_1 171 rfl rfl
theorem tw_102 : (Jvm.Cond.fieldLink "WallPlanner$Plan" (25 : Nat) "WallPlanner$Plan" "ruleAt" "[I") ∈ TBL := tb_1 172 rfl rfl
theorem tw_103 : (Jvm.Cond.fieldLink "WallPlanner$Plan" (29 : Nat) "WallPlanner$Plan" "rules" "I") ∈ TBL := tb_1 176 rfl rfl
theorem tw_104 : (Jvm.Cond.fieldLink "WallPlanner$Plan" (33 : Nat) "WallPlanner$Plan" "cost" "I") ∈ TBL := tb_1 180 rfl rfl
theorem tw_105 : (Jvm.Cond.fieldLink "WallPlanner$Plan" (36 : Nat) "WallPlanner$Plan" "made" "Z") ∈ TBL := tb_1 182 rfl rfl
theorem tw_106 : (Jvm.Cond.laysFinal "WallPlanner$Plan" "WallPlanner$Plan" "layout" "LWallPlanner$Layout;") ∈ TBL := tb_1 184 rfl rfl
theorem tw_107 : (Jvm.Cond.laysFinal "WallPlanner$Plan" "WallPlanner$Plan" "needs" "LWallPlanner$Needs;") ∈ TBL := tb_1 186 rfl rfl
theorem tw_108 : (Jvm.Cond.laysFinal "WallPlanner$Plan" "WallPlanner$Plan" "ruleAt" "[I") ∈ TBL := tb_1 188 rfl rfl
theorem tw_109 : (Jvm.Cond.lays "WallPlanner$Plan" "WallPlanner$Plan" "rules" "I") ∈ TBL := tb_1 190 rfl rfl
theorem tw_110 : (Jvm.Cond.lays "WallPlanner$Plan" "WallPlanner$Plan" "cost" "I") ∈ TBL := tb_1 192 rfl rfl
theorem tw_111 : (Jvm.Cond.lays "WallPlanner$Plan" "WallPlanner$Plan" "made" "Z") ∈ TBL := tb_1 194 rfl rfl
theorem tw_112 : (Jvm.Cond.classLink "WallPlanner" (37 : Nat) "WallPlanner$Needs") ∈ TBL := tb_1 197 rfl rfl
theorem tw_113 : (Jvm.Cond.classLink "WallPlanner" (44 : Nat) "WallPlanner$Seeker") ∈ TBL := tb_1 199 rfl rfl
theorem tw_114 : (Jvm.Cond.instantiable "WallPlanner$Seeker" (5 : Nat)) ∈ TBL := tb_1 200 rfl rfl
theorem tw_115 : (Jvm.Cond.instanceMethod ({ cls := "WallPlanner$Seeker", name := "<init>", desc := "()V" } : Jvm.MethodName)) ∈ TBL := tb_1 202 rfl rfl
theorem tw_116 : (Jvm.Cond.code ({ cls := "WallPlanner$Seeker", name := "<init>", desc := "()V" } : Jvm.MethodName) prog_9_method_1_code (1 : Nat) (Option.none : Option Jvm.ClassFile.FieldType)) ∈ TBL := tb_1 203 rfl rfl
theorem tw_117 : (Jvm.Cond.methodLink "WallPlanner$Seeker" (3 : Nat) ({ cls := "java/lang/Object", name := "<init>", desc := "()V" } : Jvm.MethodName)) ∈ TBL := tb_1 204 rfl rfl
theorem tw_118 : (Jvm.Cond.classLink "WallPlanner$Seeker" (9 : Nat) "WallPlanner$Layout") ∈ TBL := tb_1 205 rfl rfl
theorem tw_119 : (Jvm.Cond.methodLink "WallPlanner$Seeker" (11 : Nat) ({ cls := "WallPlanner$Layout", name := "<init>", desc := "()V" } : Jvm.MethodName)) ∈ TBL := tb_1 206 rfl rfl
theorem tw_120 : (Jvm.Cond.fieldLink "WallPlanner$Seeker" (12 : Nat) "WallPlanner$Seeker" "trial" "LWallPlanner$Layout;") ∈ TBL := tb_1 207 rfl rfl
theorem tw_121 : (Jvm.Cond.fieldLink "WallPlanner$Seeker" (18 : Nat) "WallPlanner$Seeker" "roomsBefore" "[I") ∈ TBL := tb_1 208 rfl rfl
theorem tw_122 : (Jvm.Cond.fieldLink "WallPlanner$Seeker" (22 : Nat) "WallPlanner$Seeker" "found" "[I") ∈ TBL := tb_1 209 rfl rfl
theorem tw_123 : (Jvm.Cond.fieldLink "WallPlanner$Seeker" (25 : Nat) "WallPlanner$Seeker" "trialCost" "I") ∈ TBL := tb_1 211 rfl rfl
theorem tw_124 : (Jvm.Cond.fieldLink "WallPlanner$Seeker" (29 : Nat) "WallPlanner$Seeker" "leastCost" "I") ∈ TBL := tb_1 212 rfl rfl
theorem tw_125 : (Jvm.Cond.laysFinal "WallPlanner$Seeker" "WallPlanner$Seeker" "trial" "LWallPlanner$Layout;") ∈ TBL := tb_1 213 rfl rfl
theorem tw_126 : (Jvm.Cond.laysFinal "WallPlanner$Seeker" "WallPlanner$Seeker" "roomsBefore" "[I") ∈ TBL := tb_1 215 rfl rfl
theorem tw_127 : (Jvm.Cond.laysFinal "WallPlanner$Seeker" "WallPlanner$Seeker" "found" "[I") ∈ TBL := tb_1 217 rfl rfl
theorem tw_128 : (Jvm.Cond.lays "WallPlanner$Seeker" "WallPlanner$Seeker" "trialCost" "I") ∈ TBL := tb_1 219 rfl rfl
theorem tw_129 : (Jvm.Cond.lays "WallPlanner$Seeker" "WallPlanner$Seeker" "leastCost" "I") ∈ TBL := tb_1 221 rfl rfl
theorem tw_130 : (Jvm.Cond.classLink "WallPlanner" (51 : Nat) "WallPlanner$Spreading") ∈ TBL := tb_1 224 rfl rfl
theorem tw_131 : (Jvm.Cond.instantiable "WallPlanner$Spreading" (3 : Nat)) ∈ TBL := tb_1 225 rfl rfl
theorem tw_132 : (Jvm.Cond.instanceMethod ({ cls := "WallPlanner$Spreading", name := "<init>", desc := "()V" } : Jvm.MethodName)) ∈ TBL := tb_1 227 rfl rfl
theorem tw_133 : (Jvm.Cond.code ({ cls := "WallPlanner$Spreading", name := "<init>", desc := "()V" } : Jvm.MethodName) prog_11_method_1_code (1 : Nat) (Option.none : Option Jvm.ClassFile.FieldType)) ∈ TBL := tb_1 228 rfl rfl
theorem tw_134 : (Jvm.Cond.methodLink "WallPlanner$Spreading" (3 : Nat) ({ cls := "java/lang/Object", name := "<init>", desc := "()V" } : Jvm.MethodName)) ∈ TBL := tb_1 229 rfl rfl
theorem tw_135 : (Jvm.Cond.fieldLink "WallPlanner$Spreading" (9 : Nat) "WallPlanner$Spreading" "sizes" "[I") ∈ TBL := tb_1 230 rfl rfl
theorem tw_136 : (Jvm.Cond.fieldLink "WallPlanner$Spreading" (15 : Nat) "WallPlanner$Spreading" "next" "[I") ∈ TBL := tb_1 231 rfl rfl
theorem tw_137 : (Jvm.Cond.fieldLink "WallPlanner$Spreading" (18 : Nat) "WallPlanner$Spreading" "rooms" "I") ∈ TBL := tb_1 233 rfl rfl
theorem tw_138 : (Jvm.Cond.laysFinal "WallPlanner$Spreading" "WallPlanner$Spreading" "sizes" "[I") ∈ TBL := tb_1 234 rfl rfl
theorem tw_139 : (Jvm.Cond.laysFinal "WallPlanner$Spreading" "WallPlanner$Spreading" "next" "[I") ∈ TBL := tb_1 236 rfl rfl
theorem tw_140 : (Jvm.Cond.lays "WallPlanner$Spreading" "WallPlanner$Spreading" "rooms" "I") ∈ TBL := tb_1 238 rfl rfl
theorem tw_141 : (Jvm.Cond.classLink "WallPlanner" (58 : Nat) "WallPlanner$Shutter") ∈ TBL := tb_2 1 rfl rfl
theorem tw_142 : (Jvm.Cond.instantiable "WallPlanner$Shutter" (8 : Nat)) ∈ TBL := tb_2 2 rfl rfl
theorem tw_143 : (Jvm.Cond.instanceMethod ({ cls := "WallPlanner$Shutter", name := "<init>", desc := "()V" } : Jvm.MethodName)) ∈ TBL := tb_2 4 rfl rfl
theorem tw_144 : (Jvm.Cond.code ({ cls := "WallPlanner$Shutter", name := "<init>", desc := "()V" } : Jvm.MethodName) prog_10_method_1_code (1 : Nat) (Option.none : Option Jvm.ClassFile.FieldType)) ∈ TBL := tb_2 5 rfl rfl
theorem tw_145 : (Jvm.Cond.methodLink "WallPlanner$Shutter" (3 : Nat) ({ cls := "java/lang/Object", name := "<init>", desc := "()V" } : Jvm.MethodName)) ∈ TBL := tb_2 6 rfl rfl
theorem tw_146 : (Jvm.Cond.classLink "WallPlanner$Shutter" (9 : Nat) "WallPlanner$Spreading") ∈ TBL := tb_2 7 rfl rfl
theorem tw_147 : (Jvm.Cond.fieldLink "WallPlanner$Shutter" (12 : Nat) "WallPlanner$Shutter" "spreading" "LWallPlanner$Spreading;") ∈ TBL := tb_2 9 rfl rfl
theorem tw_148 : (Jvm.Cond.fieldLink "WallPlanner$Shutter" (18 : Nat) "WallPlanner$Shutter" "fixed" "[I") ∈ TBL := tb_2 10 rfl rfl
theorem tw_149 : (Jvm.Cond.fieldLink "WallPlanner$Shutter" (22 : Nat) "WallPlanner$Shutter" "canAt" "[I") ∈ TBL := tb_2 11 rfl rfl
theorem tw_150 : (Jvm.Cond.fieldLink "WallPlanner$Shutter" (25 : Nat) "WallPlanner$Shutter" "ruleAt" "[I") ∈ TBL := tb_2 12 rfl rfl
theorem tw_151 : (Jvm.Cond.fieldLink "WallPlanner$Shutter" (28 : Nat) "WallPlanner$Shutter" "tollAt" "[I") ∈ TBL := tb_2 13 rfl rfl
theorem tw_152 : (Jvm.Cond.fieldLink "WallPlanner$Shutter" (31 : Nat) "WallPlanner$Shutter" "cans" "I") ∈ TBL := tb_2 14 rfl rfl
theorem tw_153 : (Jvm.Cond.fieldLink "WallPlanner$Shutter" (35 : Nat) "WallPlanner$Shutter" "chosen" "[I") ∈ TBL := tb_2 15 rfl rfl
theorem tw_154 : (Jvm.Cond.fieldLink "WallPlanner$Shutter" (38 : Nat) "WallPlanner$Shutter" "chosenCount" "I") ∈ TBL := tb_2 17 rfl rfl
theorem tw_155 : (Jvm.Cond.laysFinal "WallPlanner$Shutter" "WallPlanner$Shutter" "spreading" "LWallPlanner$Spreading;") ∈ TBL := tb_2 19 rfl rfl
theorem tw_156 : (Jvm.Cond.laysFinal "WallPlanner$Shutter" "WallPlanner$Shutter" "fixed" "[I") ∈ TBL := tb_2 21 rfl rfl
theorem tw_157 : (Jvm.Cond.laysFinal "WallPlanner$Shutter" "WallPlanner$Shutter" "canAt" "[I") ∈ TBL := tb_2 23 rfl rfl
theorem tw_158 : (Jvm.Cond.laysFinal "WallPlanner$Shutter" "WallPlanner$Shutter" "ruleAt" "[I") ∈ TBL := tb_2 25 rfl rfl
theorem tw_159 : (Jvm.Cond.laysFinal "WallPlanner$Shutter" "WallPlanner$Shutter" "tollAt" "[I") ∈ TBL := tb_2 27 rfl rfl
theorem tw_160 : (Jvm.Cond.lays "WallPlanner$Shutter" "WallPlanner$Shutter" "cans" "I") ∈ TBL := tb_2 29 rfl rfl
theorem tw_161 : (Jvm.Cond.laysFinal "WallPlanner$Shutter" "WallPlanner$Shutter" "chosen" "[I") ∈ TBL := tb_2 31 rfl rfl
theorem tw_162 : (Jvm.Cond.lays "WallPlanner$Shutter" "WallPlanner$Shutter" "chosenCount" "I") ∈ TBL := tb_2 33 rfl rfl
theorem tw_163 : (Jvm.Cond.classLink "WallPlanner" (65 : Nat) "WallPlanner$OddList") ∈ TBL := tb_2 36 rfl rfl
theorem tw_164 : (Jvm.Cond.instantiable "WallPlanner$OddList" (3 : Nat)) ∈ TBL := tb_2 37 rfl rfl
theorem tw_165 : (Jvm.Cond.instanceMethod ({ cls := "WallPlanner$OddList", name := "<init>", desc := "()V" } : Jvm.MethodName)) ∈ TBL := tb_2 39 rfl rfl
theorem tw_166 : (Jvm.Cond.code ({ cls := "WallPlanner$OddList", name := "<init>", desc := "()V" } : Jvm.MethodName) prog_7_method_1_code (1 : Nat) (Option.none : Option Jvm.ClassFile.FieldType)) ∈ TBL := tb_2 40 rfl rfl
theorem tw_167 : (Jvm.Cond.methodLink "WallPlanner$OddList" (3 : Nat) ({ cls := "java/lang/Object", name := "<init>", desc := "()V" } : Jvm.MethodName)) ∈ TBL := tb_2 41 rfl rfl
theorem tw_168 : (Jvm.Cond.fieldLink "WallPlanner$OddList" (9 : Nat) "WallPlanner$OddList" "talkAt" "[I") ∈ TBL := tb_2 42 rfl rfl
theorem tw_169 : (Jvm.Cond.fieldLink "WallPlanner$OddList" (15 : Nat) "WallPlanner$OddList" "nearAt" "[I") ∈ TBL := tb_2 44 rfl rfl
theorem tw_170 : (Jvm.Cond.fieldLink "WallPlanner$OddList" (18 : Nat) "WallPlanner$OddList" "size" "I") ∈ TBL := tb_2 46 rfl rfl
theorem tw_171 : (Jvm.Cond.laysFinal "WallPlanner$OddList" "WallPlanner$OddList" "talkAt" "[I") ∈ TBL := tb_2 48 rfl rfl
theorem tw_172 : (Jvm.Cond.laysFinal "WallPlanner$OddList" "WallPlanner$OddList" "nearAt" "[I") ∈ TBL := tb_2 50 rfl rfl
theorem tw_173 : (Jvm.Cond.lays "WallPlanner$OddList" "WallPlanner$OddList" "size" "I") ∈ TBL := tb_2 52 rfl rfl
theorem tw_174 : (Jvm.Cond.fieldLink "WallPlanner" (10 : Nat) "WallPlanner" "net" "LWallPlanner$Net;") ∈ TBL := tb_2 55 rfl rfl
theorem tw_175 : (Jvm.Cond.fieldLink "WallPlanner" (19 : Nat) "WallPlanner" "lawNow" "LWallPlanner$Law;") ∈ TBL := tb_2 56 rfl rfl
theorem tw_176 : (Jvm.Cond.fieldLink "WallPlanner" (26 : Nat) "WallPlanner" "diary" "LWallPlanner$Diary;") ∈ TBL := tb_2 57 rfl rfl
theorem tw_177 : (Jvm.Cond.fieldLink "WallPlanner" (33 : Nat) "WallPlanner" "walls" "LWallPlanner$Plan;") ∈ TBL := tb_2 58 rfl rfl
theorem tw_178 : (Jvm.Cond.fieldLink "WallPlanner" (40 : Nat) "WallPlanner" "fresh" "LWallPlanner$Needs;") ∈ TBL := tb_2 59 rfl rfl
theorem tw_179 : (Jvm.Cond.fieldLink "WallPlanner" (47 : Nat) "WallPlanner" "seeker" "LWallPlanner$Seeker;") ∈ TBL := tb_2 60 rfl rfl
theorem tw_180 : (Jvm.Cond.fieldLink "WallPlanner" (54 : Nat) "WallPlanner" "spreading" "LWallPlanner$Spreading;") ∈ TBL := tb_2 61 rfl rfl
theorem tw_181 : (Jvm.Cond.fieldLink "WallPlanner" (61 : Nat) "WallPlanner" "shutter" "LWallPlanner$Shutter;") ∈ TBL := tb_2 62 rfl rfl
theorem tw_182 : (Jvm.Cond.fieldLink "WallPlanner" (68 : Nat) "WallPlanner" "oddList" "LWallPlanner$OddList;") ∈ TBL := tb_2 63 rfl rfl
theorem tw_183 : (Jvm.Cond.laysFinal "WallPlanner" "WallPlanner" "net" "LWallPlanner$Net;") ∈ TBL := tb_2 64 rfl rfl
theorem tw_184 : (Jvm.Cond.laysFinal "WallPlanner" "WallPlanner" "lawNow" "LWallPlanner$Law;") ∈ TBL := tb_2 66 rfl rfl
theorem tw_185 : (Jvm.Cond.laysFinal "WallPlanner" "WallPlanner" "diary" "LWallPlanner$Diary;") ∈ TBL := tb_2 68 rfl rfl
theorem tw_186 : (Jvm.Cond.laysFinal "WallPlanner" "WallPlanner" "walls" "LWallPlanner$Plan;") ∈ TBL := tb_2 70 rfl rfl
theorem tw_187 : (Jvm.Cond.laysFinal "WallPlanner" "WallPlanner" "fresh" "LWallPlanner$Needs;") ∈ TBL := tb_2 72 rfl rfl
theorem tw_188 : (Jvm.Cond.laysFinal "WallPlanner" "WallPlanner" "seeker" "LWallPlanner$Seeker;") ∈ TBL := tb_2 74 rfl rfl
theorem tw_189 : (Jvm.Cond.laysFinal "WallPlanner" "WallPlanner" "spreading" "LWallPlanner$Spreading;") ∈ TBL := tb_2 76 rfl rfl
theorem tw_190 : (Jvm.Cond.laysFinal "WallPlanner" "WallPlanner" "shutter" "LWallPlanner$Shutter;") ∈ TBL := tb_2 78 rfl rfl
theorem tw_191 : (Jvm.Cond.laysFinal "WallPlanner" "WallPlanner" "oddList" "LWallPlanner$OddList;") ∈ TBL := tb_2 80 rfl rfl
theorem tw_192 : (Jvm.Cond.methodLink "WallPlannerLaw" (13 : Nat) ({ cls := "WallPlanner", name := "host", desc := "(I)I" } : Jvm.MethodName)) ∈ TBL := tb_2 83 rfl rfl
theorem tw_193 : (Jvm.Cond.instanceMethod ({ cls := "WallPlanner", name := "host", desc := "(I)I" } : Jvm.MethodName)) ∈ TBL := tb_2 84 rfl rfl
theorem tw_194 : (Jvm.Cond.selects "WallPlanner" ({ cls := "WallPlanner", name := "host", desc := "(I)I" } : Jvm.MethodName) ({ cls := "WallPlanner", name := "host", desc := "(I)I" } : Jvm.MethodName)) ∈ TBL := tb_2 85 rfl rfl
theorem tw_195 : (Jvm.Cond.code ({ cls := "WallPlanner", name := "host", desc := "(I)I" } : Jvm.MethodName) prog_1_method_2_code (2 : Nat) (Option.some Jvm.ClassFile.FieldType.int)) ∈ TBL := tb_2 86 rfl rfl
theorem tw_196 : (Jvm.Cond.methodLink "WallPlanner" (72 : Nat) ({ cls := "WallPlanner", name := "isBetween", desc := "(III)Z" } : Jvm.MethodName)) ∈ TBL := tb_2 87 rfl rfl
theorem tw_197 : (Jvm.Cond.static ({ cls := "WallPlanner", name := "isBetween", desc := "(III)Z" } : Jvm.MethodName)) ∈ TBL := tb_2 88 rfl rfl
theorem tw_198 : (Jvm.Cond.code ({ cls := "WallPlanner", name := "isBetween", desc := "(III)Z" } : Jvm.MethodName) prog_1_method_22_code (3 : Nat) (Option.some Jvm.ClassFile.FieldType.boolean)) ∈ TBL := tb_2 89 rfl rfl
theorem tw_199 : (Jvm.Cond.methodLink "WallPlanner" (76 : Nat) ({ cls := "WallPlanner$Net", name := "addHost", desc := "(I)I" } : Jvm.MethodName)) ∈ TBL := tb_2 90 rfl rfl
theorem tw_200 : (Jvm.Cond.instanceMethod ({ cls := "WallPlanner$Net", name := "addHost", desc := "(I)I" } : Jvm.MethodName)) ∈ TBL := tb_2 91 rfl rfl
theorem tw_201 : (Jvm.Cond.selects "WallPlanner$Net" ({ cls := "WallPlanner$Net", name := "addHost", desc := "(I)I" } : Jvm.MethodName) ({ cls := "WallPlanner$Net", name := "addHost", desc := "(I)I" } : Jvm.MethodName)) ∈ TBL := tb_2 92 rfl rfl
theorem tw_202 : (Jvm.Cond.code ({ cls := "WallPlanner$Net", name := "addHost", desc := "(I)I" } : Jvm.MethodName) prog_6_method_2_code (2 : Nat) (Option.some Jvm.ClassFile.FieldType.int)) ∈ TBL := tb_2 93 rfl rfl
theorem tw_203 : (Jvm.Cond.methodLink "WallPlannerLaw" (18 : Nat) ({ cls := "WallPlanner", name := "talk", desc := "(IIIII)I" } : Jvm.MethodName)) ∈ TBL := tb_2 94 rfl rfl
theorem tw_204 : (Jvm.Cond.instanceMethod ({ cls := "WallPlanner", name := "talk", desc := "(IIIII)I" } : Jvm.MethodName)) ∈ TBL := tb_2 95 rfl rfl
theorem tw_205 : (Jvm.Cond.selects "WallPlanner" ({ cls := "WallPlanner", name := "talk", desc := "(IIIII)I" } : Jvm.MethodName) ({ cls := "WallPlanner", name := "talk", desc := "(IIIII)I" } : Jvm.MethodName)) ∈ TBL := tb_2 96 rfl rfl
theorem tw_206 : (Jvm.Cond.code ({ cls := "WallPlanner", name := "talk", desc := "(IIIII)I" } : Jvm.MethodName) prog_1_method_3_code (6 : Nat) (Option.some Jvm.ClassFile.FieldType.int)) ∈ TBL := tb_2 97 rfl rfl
theorem tw_207 : (Jvm.Cond.methodLink "WallPlanner" (80 : Nat) ({ cls := "WallPlanner$Net", name := "isWay", desc := "(III)Z" } : Jvm.MethodName)) ∈ TBL := tb_2 98 rfl rfl
theorem tw_208 : (Jvm.Cond.instanceMethod ({ cls := "WallPlanner$Net", name := "isWay", desc := "(III)Z" } : Jvm.MethodName)) ∈ TBL := tb_2 99 rfl rfl
theorem tw_209 : (Jvm.Cond.selects "WallPlanner$Net" ({ cls := "WallPlanner$Net", name := "isWay", desc := "(III)Z" } : Jvm.MethodName) ({ cls := "WallPlanner$Net", name := "isWay", desc := "(III)Z" } : Jvm.MethodName)) ∈ TBL := tb_2 100 rfl rfl
theorem tw_210 : (Jvm.Cond.code ({ cls := "WallPlanner$Net", name := "isWay", desc := "(III)Z" } : Jvm.MethodName) prog_6_method_4_code (4 : Nat) (Option.some Jvm.ClassFile.FieldType.boolean)) ∈ TBL := tb_2 101 rfl rfl
theorem tw_211 : (Jvm.Cond.methodLink "WallPlanner$Net" (29 : Nat) ({ cls := "WallPlanner$Net", name := "isHost", desc := "(I)Z" } : Jvm.MethodName)) ∈ TBL := tb_2 102 rfl rfl
theorem tw_212 : (Jvm.Cond.instanceMethod ({ cls := "WallPlanner$Net", name := "isHost", desc := "(I)Z" } : Jvm.MethodName)) ∈ TBL := tb_2 103 rfl rfl
theorem tw_213 : (Jvm.Cond.selects "WallPlanner$Net" ({ cls := "WallPlanner$Net", name := "isHost", desc := "(I)Z" } : Jvm.MethodName) ({ cls := "WallPlanner$Net", name := "isHost", desc := "(I)Z" } : Jvm.MethodName)) ∈ TBL := tb_2 104 rfl rfl
theorem tw_214 : (Jvm.Cond.code ({ cls := "WallPlanner$Net", name := "isHost", desc := "(I)Z" } : Jvm.MethodName) prog_6_method_3_code (2 : Nat) (Option.some Jvm.ClassFile.FieldType.boolean)) ∈ TBL := tb_2 105 rfl rfl
theorem tw_215 : (Jvm.Cond.methodLink "WallPlanner" (83 : Nat) ({ cls := "WallPlanner", name := "isDay", desc := "(I)Z" } : Jvm.MethodName)) ∈ TBL := tb_2 107 rfl rfl
theorem tw_216 : (Jvm.Cond.static ({ cls := "WallPlanner", name := "isDay", desc := "(I)Z" } : Jvm.MethodName)) ∈ TBL := tb_2 108 rfl rfl
theorem tw_217 : (Jvm.Cond.code ({ cls := "WallPlanner", name := "isDay", desc := "(I)Z" } : Jvm.MethodName) prog_1_method_23_code (1 : Nat) (Option.some Jvm.ClassFile.FieldType.boolean)) ∈ TBL := tb_2 109 rfl rfl
theorem tw_218 : (Jvm.Cond.methodLink "WallPlanner" (87 : Nat) ({ cls := "WallPlanner", name := "wayOf", desc := "(III)I" } : Jvm.MethodName)) ∈ TBL := tb_2 110 rfl rfl
theorem tw_219 : (Jvm.Cond.static ({ cls := "WallPlanner", name := "wayOf", desc := "(III)I" } : Jvm.MethodName)) ∈ TBL := tb_2 111 rfl rfl
theorem tw_220 : (Jvm.Cond.code ({ cls := "WallPlanner", name := "wayOf", desc := "(III)I" } : Jvm.MethodName) prog_1_method_25_code (3 : Nat) (Option.some Jvm.ClassFile.FieldType.int)) ∈ TBL := tb_2 112 rfl rfl
theorem tw_221 : (Jvm.Cond.methodLink "WallPlanner" (101 : Nat) ({ cls := "WallPlanner", name := "pairOf", desc := "(II)I" } : Jvm.MethodName)) ∈ TBL := tb_2 113 rfl rfl
theorem tw_222 : (Jvm.Cond.static ({ cls := "WallPlanner", name := "pairOf", desc := "(II)I" } : Jvm.MethodName)) ∈ TBL := tb_2 114 rfl rfl
theorem tw_223 : (Jvm.Cond.code ({ cls := "WallPlanner", name := "pairOf", desc := "(II)I" } : Jvm.MethodName) prog_1_method_24_code (2 : Nat) (Option.some Jvm.ClassFile.FieldType.int)) ∈ TBL := tb_2 115 rfl rfl
theorem tw_224 : (Jvm.Cond.methodLink "WallPlanner" (91 : Nat) ({ cls := "WallPlanner$Diary", name := "write", desc := "(III)I" } : Jvm.MethodName)) ∈ TBL := tb_2 116 rfl rfl
theorem tw_225 : (Jvm.Cond.instanceMethod ({ cls := "WallPlanner$Diary", name := "write", desc := "(III)I" } : Jvm.MethodName)) ∈ TBL := tb_2 117 rfl rfl
theorem tw_226 : (Jvm.Cond.selects "WallPlanner$Diary" ({ cls := "WallPlanner$Diary", name := "write", desc := "(III)I" } : Jvm.MethodName) ({ cls := "WallPlanner$Diary", name := "write", desc := "(III)I" } : Jvm.MethodName)) ∈ TBL := tb_2 118 rfl rfl
theorem tw_227 : (Jvm.Cond.code ({ cls := "WallPlanner$Diary", name := "write", desc := "(III)I" } : Jvm.MethodName) prog_2_method_2_code (4 : Nat) (Option.some Jvm.ClassFile.FieldType.int)) ∈ TBL := tb_2 119 rfl rfl
theorem tw_228 : (Jvm.Cond.methodLink "WallPlannerLaw" (23 : Nat) ({ cls := "WallPlanner", name := "must", desc := "(IIIZ)Z" } : Jvm.MethodName)) ∈ TBL := tb_2 120 rfl rfl
theorem tw_229 : (Jvm.Cond.instanceMethod ({ cls := "WallPlanner", name := "must", desc := "(IIIZ)Z" } : Jvm.MethodName)) ∈ TBL := tb_2 121 rfl rfl
theorem tw_230 : (Jvm.Cond.selects "WallPlanner" ({ cls := "WallPlanner", name := "must", desc := "(IIIZ)Z" } : Jvm.MethodName) ({ cls := "WallPlanner", name := "must", desc := "(IIIZ)Z" } : Jvm.MethodName)) ∈ TBL := tb_2 122 rfl rfl
theorem tw_231 : (Jvm.Cond.code ({ cls := "WallPlanner", name := "must", desc := "(IIIZ)Z" } : Jvm.MethodName) prog_1_method_4_code (5 : Nat) (Option.some Jvm.ClassFile.FieldType.boolean)) ∈ TBL := tb_2 123 rfl rfl
theorem tw_232 : (Jvm.Cond.methodLink "WallPlanner" (105 : Nat) ({ cls := "WallPlanner", name := "turnDoor", desc := "([I[IIIZ)Z" } : Jvm.MethodName)) ∈ TBL := tb_2 124 rfl rfl
theorem tw_233 : (Jvm.Cond.static ({ cls := "WallPlanner", name := "turnDoor", desc := "([I[IIIZ)Z" } : Jvm.MethodName)) ∈ TBL := tb_2 125 rfl rfl
theorem tw_234 : (Jvm.Cond.code ({ cls := "WallPlanner", name := "turnDoor", desc := "([I[IIIZ)Z" } : Jvm.MethodName) prog_1_method_30_code (5 : Nat) (Option.some Jvm.ClassFile.FieldType.boolean)) ∈ TBL := tb_2 126 rfl rfl
theorem tw_235 : (Jvm.Cond.methodLink "WallPlanner" (256 : Nat) ({ cls := "WallPlanner", name := "hasDoor", desc := "(II)Z" } : Jvm.MethodName)) ∈ TBL := tb_2 127 rfl rfl
theorem tw_236 : (Jvm.Cond.static ({ cls := "WallPlanner", name := "hasDoor", desc := "(II)Z" } : Jvm.MethodName)) ∈ TBL := tb_2 128 rfl rfl
theorem tw_237 : (Jvm.Cond.code ({ cls := "WallPlanner", name := "hasDoor", desc := "(II)Z" } : Jvm.MethodName) prog_1_method_29_code (2 : Nat) (Option.some Jvm.ClassFile.FieldType.boolean)) ∈ TBL := tb_2 129 rfl rfl
theorem tw_238 : (Jvm.Cond.methodLink "WallPlannerLaw" (28 : Nat) ({ cls := "WallPlanner", name := "bar", desc := "(IIIZ)Z" } : Jvm.MethodName)) ∈ TBL := tb_2 130 rfl rfl
theorem tw_239 : (Jvm.Cond.instanceMethod ({ cls := "WallPlanner", name := "bar", desc := "(IIIZ)Z" } : Jvm.MethodName)) ∈ TBL := tb_2 131 rfl rfl
theorem tw_240 : (Jvm.Cond.selects "WallPlanner" ({ cls := "WallPlanner", name := "bar", desc := "(IIIZ)Z" } : Jvm.MethodName) ({ cls := "WallPlanner", name := "bar", desc := "(IIIZ)Z" } : Jvm.MethodName)) ∈ TBL := tb_2 132 rfl rfl
theorem tw_241 : (Jvm.Cond.code ({ cls := "WallPlanner", name := "bar", desc := "(IIIZ)Z" } : Jvm.MethodName) prog_1_method_5_code (5 : Nat) (Option.some Jvm.ClassFile.FieldType.boolean)) ∈ TBL := tb_2 133 rfl rfl
theorem tw_242 : (Jvm.Cond.methodLink "WallPlannerLaw" (32 : Nat) ({ cls := "WallPlanner", name := "law", desc := "(IIZ)Z" } : Jvm.MethodName)) ∈ TBL := tb_2 134 rfl rfl
theorem tw_243 : (Jvm.Cond.instanceMethod ({ cls := "WallPlanner", name := "law", desc := "(IIZ)Z" } : Jvm.MethodName)) ∈ TBL := tb_2 135 rfl rfl
theorem tw_244 : (Jvm.Cond.selects "WallPlanner" ({ cls := "WallPlanner", name := "law", desc := "(IIZ)Z" } : Jvm.MethodName) ({ cls := "WallPlanner", name := "law", desc := "(IIZ)Z" } : Jvm.MethodName)) ∈ TBL := tb_2 136 rfl rfl
theorem tw_245 : (Jvm.Cond.code ({ cls := "WallPlanner", name := "law", desc := "(IIZ)Z" } : Jvm.MethodName) prog_1_method_6_code (4 : Nat) (Option.some Jvm.ClassFile.FieldType.boolean)) ∈ TBL := tb_2 137 rfl rfl
theorem tw_246 : (Jvm.Cond.methodLink "WallPlannerLaw" (37 : Nat) ({ cls := "WallPlanner", name := "prices", desc := "(II)Z" } : Jvm.MethodName)) ∈ TBL := tb_2 138 rfl rfl
theorem tw_247 : (Jvm.Cond.instanceMethod ({ cls := "WallPlanner", name := "prices", desc := "(II)Z" } : Jvm.MethodName)) ∈ TBL := tb_2 139 rfl rfl
theorem tw_248 : (Jvm.Cond.selects "WallPlanner" ({ cls := "WallPlanner", name := "prices", desc := "(II)Z" } : Jvm.MethodName) ({ cls := "WallPlanner", name := "prices", desc := "(II)Z" } : Jvm.MethodName)) ∈ TBL := tb_2 140 rfl rfl
theorem tw_249 : (Jvm.Cond.code ({ cls := "WallPlanner", name := "prices", desc := "(II)Z" } : Jvm.MethodName) prog_1_method_7_code (3 : Nat) (Option.some Jvm.ClassFile.FieldType.boolean)) ∈ TBL := tb_2 141 rfl rfl
theorem tw_250 : (Jvm.Cond.methodLink "WallPlannerLaw" (42 : Nat) ({ cls := "WallPlanner", name := "weight", desc := "(IIII)I" } : Jvm.MethodName)) ∈ TBL := tb_2 142 rfl rfl
theorem tw_251 : (Jvm.Cond.instanceMethod ({ cls := "WallPlanner", name := "weight", desc := "(IIII)I" } : Jvm.MethodName)) ∈ TBL := tb_2 143 rfl rfl
theorem tw_252 : (Jvm.Cond.selects "WallPlanner" ({ cls := "WallPlanner", name := "weight", desc := "(IIII)I" } : Jvm.MethodName) ({ cls := "WallPlanner", name := "weight", desc := "(IIII)I" } : Jvm.MethodName)) ∈ TBL := tb_2 144 rfl rfl
theorem tw_253 : (Jvm.Cond.code ({ cls := "WallPlanner", name := "weight", desc := "(IIII)I" } : Jvm.MethodName) prog_1_method_8_code (5 : Nat) (Option.some Jvm.ClassFile.FieldType.int)) ∈ TBL := tb_2 145 rfl rfl
theorem tw_254 : (Jvm.Cond.methodLink "WallPlanner" (126 : Nat) ({ cls := "WallPlanner$Diary", name := "sumOf", desc := "(III)I" } : Jvm.MethodName)) ∈ TBL := tb_2 146 rfl rfl
theorem tw_255 : (Jvm.Cond.instanceMethod ({ cls := "WallPlanner$Diary", name := "sumOf", desc := "(III)I" } : Jvm.MethodName)) ∈ TBL := tb_2 147 rfl rfl
theorem tw_256 : (Jvm.Cond.selects "WallPlanner$Diary" ({ cls := "WallPlanner$Diary", name := "sumOf", desc := "(III)I" } : Jvm.MethodName) ({ cls := "WallPlanner$Diary", name := "sumOf", desc := "(III)I" } : Jvm.MethodName)) ∈ TBL := tb_2 148 rfl rfl
theorem tw_257 : (Jvm.Cond.code ({ cls := "WallPlanner$Diary", name := "sumOf", desc := "(III)I" } : Jvm.MethodName) prog_2_method_4_code (6 : Nat) (Option.some Jvm.ClassFile.FieldType.int)) ∈ TBL := tb_2 149 rfl rfl
theorem tw_258 : (Jvm.Cond.methodLink "WallPlanner$Diary" (25 : Nat) ({ cls := "WallPlanner$Diary", name := "isWithin", desc := "(III)Z" } : Jvm.MethodName)) ∈ TBL := tb_2 150 rfl rfl
theorem tw_259 : (Jvm.Cond.instanceMethod ({ cls := "WallPlanner$Diary", name := "isWithin", desc := "(III)Z" } : Jvm.MethodName)) ∈ TBL := tb_2 151 rfl rfl
theorem tw_260 : (Jvm.Cond.selects "WallPlanner$Diary" ({ cls := "WallPlanner$Diary", name := "isWithin", desc := "(III)Z" } : Jvm.MethodName) ({ cls := "WallPlanner$Diary", name := "isWithin", desc := "(III)Z" } : Jvm.MethodName)) ∈ TBL := tb_2 152 rfl rfl
theorem tw_261 : (Jvm.Cond.code ({ cls := "WallPlanner$Diary", name := "isWithin", desc := "(III)Z" } : Jvm.MethodName) prog_2_method_3_code (4 : Nat) (Option.some Jvm.ClassFile.FieldType.boolean)) ∈ TBL := tb_2 153 rfl rfl
theorem tw_262 : (Jvm.Cond.methodLink "WallPlannerLaw" (47 : Nat) ({ cls := "WallPlanner", name := "needed", desc := "(IIII)I" } : Jvm.MethodName)) ∈ TBL := tb_2 154 rfl rfl
theorem tw_263 : (Jvm.Cond.instanceMethod ({ cls := "WallPlanner", name := "needed", desc := "(IIII)I" } : Jvm.MethodName)) ∈ TBL := tb_2 155 rfl rfl
theorem tw_264 : (Jvm.Cond.selects "WallPlanner" ({ cls := "WallPlanner", name := "needed", desc := "(IIII)I" } : Jvm.MethodName) ({ cls := "WallPlanner", name := "needed", desc := "(IIII)I" } : Jvm.MethodName)) ∈ TBL := tb_2 156 rfl rfl
theorem tw_265 : (Jvm.Cond.code ({ cls := "WallPlanner", name := "needed", desc := "(IIII)I" } : Jvm.MethodName) prog_1_method_9_code (6 : Nat) (Option.some Jvm.ClassFile.FieldType.int)) ∈ TBL := tb_2 157 rfl rfl
theorem tw_266 : (Jvm.Cond.methodLink "WallPlanner" (129 : Nat) ({ cls := "WallPlanner$Net", name := "isNeed", desc := "(IIII)Z" } : Jvm.MethodName)) ∈ TBL := tb_2 158 rfl rfl
theorem tw_267 : (Jvm.Cond.instanceMethod ({ cls := "WallPlanner$Net", name := "isNeed", desc := "(IIII)Z" } : Jvm.MethodName)) ∈ TBL := tb_2 159 rfl rfl
theorem tw_268 : (Jvm.Cond.selects "WallPlanner$Net" ({ cls := "WallPlanner$Net", name := "isNeed", desc := "(IIII)Z" } : Jvm.MethodName) ({ cls := "WallPlanner$Net", name := "isNeed", desc := "(IIII)Z" } : Jvm.MethodName)) ∈ TBL := tb_2 160 rfl rfl
theorem tw_269 : (Jvm.Cond.code ({ cls := "WallPlanner$Net", name := "isNeed", desc := "(IIII)Z" } : Jvm.MethodName) prog_6_method_5_code (5 : Nat) (Option.some Jvm.ClassFile.FieldType.boolean)) ∈ TBL := tb_2 161 rfl rfl
theorem tw_270 : (Jvm.Cond.methodLink "WallPlannerLaw" (51 : Nat) ({ cls := "WallPlanner", name := "plan", desc := "(I)I" } : Jvm.MethodName)) ∈ TBL := tb_2 163 rfl rfl
theorem tw_271 : (Jvm.Cond.instanceMethod ({ cls := "WallPlanner", name := "plan", desc := "(I)I" } : Jvm.MethodName)) ∈ TBL := tb_2 164 rfl rfl
theorem tw_272 : (Jvm.Cond.selects "WallPlanner" ({ cls := "WallPlanner", name := "plan", desc := "(I)I" } : Jvm.MethodName) ({ cls := "WallPlanner", name := "plan", desc := "(I)I" } : Jvm.MethodName)) ∈ TBL := tb_2 165 rfl rfl
theorem tw_273 : (Jvm.Cond.code ({ cls := "WallPlanner", name := "plan", desc := "(I)I" } : Jvm.MethodName) prog_1_method_10_code (2 : Nat) (Option.some Jvm.ClassFile.FieldType.int)) ∈ TBL := tb_2 166 rfl rfl
theorem tw_274 : (Jvm.Cond.methodLink "WallPlanner" (136 : Nat) ({ cls := "WallPlanner$Needs", name := "take", desc := "(LWallPlanner$Net;LWallPlanner$Law;LWallPlanner$Diary;I)V" } : Jvm.MethodName)) ∈ TBL := tb_2 167 rfl rfl
theorem tw_275 : (Jvm.Cond.instanceMethod ({ cls := "WallPlanner$Needs", name := "take", desc := "(LWallPlanner$Net;LWallPlanner$Law;LWallPlanner$Diary;I)V" } : Jvm.MethodName)) ∈ TBL := tb_2 168 rfl rfl
theorem tw_276 : (Jvm.Cond.selects "WallPlanner$Needs" ({ cls := "WallPlanner$Needs", name := "take", desc := "(LWallPlanner$Net;LWallPlanner$Law;LWallPlanner$Diary;I)V" } : Jvm.MethodName) ({ cls := "WallPlanner$Needs", name := "take", desc := "(LWallPlanner$Net;LWallPlanner$Law;LWallPlanner$Diary;I)V" } : Jvm.MethodName)) ∈ TBL := tb_2 169 rfl rfl
theorem tw_277 : (Jvm.Cond.code ({ cls := "WallPlanner$Needs", name := "take", desc := "(LWallPlanner$Net;LWallPlanner$Law;LWallPlanner$Diary;I)V" } : Jvm.MethodName) prog_5_method_2_code (6 : Nat) (Option.none : Option Jvm.ClassFile.FieldType)) ∈ TBL := tb_2 170 rfl rfl
theorem tw_278 : (Jvm.Cond.methodLink "WallPlanner$Needs" (24 : Nat) ({ cls := "WallPlanner$Diary", name := "sumAll", desc := "([III)V" } : Jvm.MethodName)) ∈ TBL := tb_2 171 rfl rfl
theorem tw_279 : (Jvm.Cond.instanceMethod ({ cls := "WallPlanner$Diary", name := "sumAll", desc := "([III)V" } : Jvm.MethodName)) ∈ TBL := tb_2 172 rfl rfl
theorem tw_280 : (Jvm.Cond.selects "WallPlanner$Diary" ({ cls := "WallPlanner$Diary", name := "sumAll", desc := "([III)V" } : Jvm.MethodName) ({ cls := "WallPlanner$Diary", name := "sumAll", desc := "([III)V" } : Jvm.MethodName)) ∈ TBL := tb_2 173 rfl rfl
theorem tw_281 : (Jvm.Cond.code ({ cls := "WallPlanner$Diary", name := "sumAll", desc := "([III)V" } : Jvm.MethodName) prog_2_method_5_code (5 : Nat) (Option.none : Option Jvm.ClassFile.FieldType)) ∈ TBL := tb_2 174 rfl rfl
theorem tw_282 : (Jvm.Cond.methodLink "WallPlanner$Diary" (29 : Nat) ({ cls := "java/util/Arrays", name := "fill", desc := "([II)V" } : Jvm.MethodName)) ∈ TBL := tb_2 175 rfl rfl
theorem tw_283 : (Jvm.Cond.methodLink "WallPlanner$Needs" (33 : Nat) ({ cls := "WallPlanner$Needs", name := "doorsOf", desc := "(ILWallPlanner$Net;I)I" } : Jvm.MethodName)) ∈ TBL := tb_2 176 rfl rfl
theorem tw_284 : (Jvm.Cond.instanceMethod ({ cls := "WallPlanner$Needs", name := "doorsOf", desc := "(ILWallPlanner$Net;I)I" } : Jvm.MethodName)) ∈ TBL := tb_2 178 rfl rfl
theorem tw_285 : (Jvm.Cond.code ({ cls := "WallPlanner$Needs", name := "doorsOf", desc := "(ILWallPlanner$Net;I)I" } : Jvm.MethodName) prog_5_method_3_code (6 : Nat) (Option.some Jvm.ClassFile.FieldType.int)) ∈ TBL := tb_2 179 rfl rfl
theorem tw_286 : (Jvm.Cond.methodLink "WallPlanner$Needs" (37 : Nat) ({ cls := "WallPlanner$Net", name := "isNeed", desc := "(IIII)Z" } : Jvm.MethodName)) ∈ TBL := tb_2 180 rfl rfl
theorem tw_287 : (Jvm.Cond.methodLink "WallPlanner" (140 : Nat) ({ cls := "WallPlanner$Seeker", name := "seekRooms", desc := "(LWallPlanner$Net;LWallPlanner$Law;LWallPlanner$Needs;)V" } : Jvm.MethodName)) ∈ TBL := tb_2 181 rfl rfl
theorem tw_288 : (Jvm.Cond.instanceMethod ({ cls := "WallPlanner$Seeker", name := "seekRooms", desc := "(LWallPlanner$Net;LWallPlanner$Law;LWallPlanner$Needs;)V" } : Jvm.MethodName)) ∈ TBL := tb_2 182 rfl rfl
theorem tw_289 : (Jvm.Cond.selects "WallPlanner$Seeker" ({ cls := "WallPlanner$Seeker", name := "seekRooms", desc := "(LWallPlanner$Net;LWallPlanner$Law;LWallPlanner$Needs;)V" } : Jvm.MethodName) ({ cls := "WallPlanner$Seeker", name := "seekRooms", desc := "(LWallPlanner$Net;LWallPlanner$Law;LWallPlanner$Needs;)V" } : Jvm.MethodName)) ∈ TBL := tb_2 183 rfl rfl
theorem tw_290 : (Jvm.Cond.code ({ cls := "WallPlanner$Seeker", name := "seekRooms", desc := "(LWallPlanner$Net;LWallPlanner$Law;LWallPlanner$Needs;)V" } : Jvm.MethodName) prog_9_method_2_code (6 : Nat) (Option.none : Option Jvm.ClassFile.FieldType)) ∈ TBL := tb_2 184 rfl rfl
theorem tw_291 : (Jvm.Cond.methodLink "WallPlanner$Seeker" (32 : Nat) ({ cls := "WallPlanner$Needs", name := "total", desc := "()I" } : Jvm.MethodName)) ∈ TBL := tb_2 185 rfl rfl
theorem tw_292 : (Jvm.Cond.instanceMethod ({ cls := "WallPlanner$Needs", name := "total", desc := "()I" } : Jvm.MethodName)) ∈ TBL := tb_2 186 rfl rfl
theorem tw_293 : (Jvm.Cond.selects "WallPlanner$Needs" ({ cls := "WallPlanner$Needs", name := "total", desc := "()I" } : Jvm.MethodName) ({ cls := "WallPlanner$Needs", name := "total", desc := "()I" } : Jvm.MethodName)) ∈ TBL := tb_2 187 rfl rfl
theorem tw_294 : (Jvm.Cond.code ({ cls := "WallPlanner$Needs", name := "total", desc := "()I" } : Jvm.MethodName) prog_5_method_5_code (3 : Nat) (Option.some Jvm.ClassFile.FieldType.int)) ∈ TBL := tb_2 188 rfl rfl
theorem tw_295 : (Jvm.Cond.methodLink "WallPlanner$Needs" (49 : Nat) ({ cls := "java/lang/Integer", name := "bitCount", desc := "(I)I" } : Jvm.MethodName)) ∈ TBL := tb_2 189 rfl rfl
theorem tw_296 : (Jvm.Cond.static ({ cls := "java/lang/Integer", name := "bitCount", desc := "(I)I" } : Jvm.MethodName)) ∈ TBL := tb_2 190 rfl rfl
theorem tw_297 : (Jvm.Cond.code ({ cls := "java/lang/Integer", name := "bitCount", desc := "(I)I" } : Jvm.MethodName) prog_14_method_49_code (1 : Nat) (Option.some Jvm.ClassFile.FieldType.int)) ∈ TBL := tb_2 191 rfl rfl
theorem tw_298 : (Jvm.Cond.constant "java/lang/Integer" (265 : Nat) (1431655765 : Int32)) ∈ TBL := tb_2 192 rfl rfl
theorem tw_299 : (Jvm.Cond.constant "java/lang/Integer" (266 : Nat) (858993459 : Int32)) ∈ TBL := tb_2 193 rfl rfl
theorem tw_300 : (Jvm.Cond.constant "java/lang/Integer" (267 : Nat) (252645135 : Int32)) ∈ TBL := tb_2 194 rfl rfl
theorem tw_301 : (Jvm.Cond.methodLink "WallPlanner$Seeker" (38 : Nat) ({ cls := "WallPlanner$Law", name := "costOf", desc := "(II)I" } : Jvm.MethodName)) ∈ TBL := tb_2 195 rfl rfl
theorem tw_302 : (Jvm.Cond.instanceMethod ({ cls := "WallPlanner$Law", name := "costOf", desc := "(II)I" } : Jvm.MethodName)) ∈ TBL := tb_2 196 rfl rfl
theorem tw_303 : (Jvm.Cond.selects "WallPlanner$Law" ({ cls := "WallPlanner$Law", name := "costOf", desc := "(II)I" } : Jvm.MethodName) ({ cls := "WallPlanner$Law", name := "costOf", desc := "(II)I" } : Jvm.MethodName)) ∈ TBL := tb_2 197 rfl rfl
theorem tw_304 : (Jvm.Cond.code ({ cls := "WallPlanner$Law", name := "costOf", desc := "(II)I" } : Jvm.MethodName) prog_3_method_2_code (3 : Nat) (Option.some Jvm.ClassFile.FieldType.int)) ∈ TBL := tb_2 198 rfl rfl
theorem tw_305 : (Jvm.Cond.methodLink "WallPlanner$Seeker" (47 : Nat) ({ cls := "java/util/Arrays", name := "fill", desc := "([II)V" } : Jvm.MethodName)) ∈ TBL := tb_2 199 rfl rfl
theorem tw_306 : (Jvm.Cond.constant "WallPlanner$Seeker" (53 : Nat) (1000000 : Int32)) ∈ TBL := tb_2 200 rfl rfl
theorem tw_307 : (Jvm.Cond.methodLink "WallPlanner$Seeker" (54 : Nat) ({ cls := "WallPlanner$Seeker", name := "isCheaper", desc := "(IILWallPlanner$Net;LWallPlanner$Law;LWallPlanner$Needs;)Z" } : Jvm.MethodName)) ∈ TBL := tb_2 201 rfl rfl
theorem tw_308 : (Jvm.Cond.instanceMethod ({ cls := "WallPlanner$Seeker", name := "isCheaper", desc := "(IILWallPlanner$Net;LWallPlanner$Law;LWallPlanner$Needs;)Z" } : Jvm.MethodName)) ∈ TBL := tb_2 203 rfl rfl
theorem tw_309 : (Jvm.Cond.code ({ cls := "WallPlanner$Seeker", name := "isCheaper", desc := "(IILWallPlanner$Net;LWallPlanner$Law;LWallPlanner$Needs;)Z" } : Jvm.MethodName) prog_9_method_5_code (6 : Nat) (Option.some Jvm.ClassFile.FieldType.boolean)) ∈ TBL := tb_2 204 rfl rfl
theorem tw_310 : (Jvm.Cond.methodLink "WallPlanner$Seeker" (93 : Nat) ({ cls := "WallPlanner$Layout", name := "hasUnlike", desc := "(I[I)Z" } : Jvm.MethodName)) ∈ TBL := tb_2 205 rfl rfl
theorem tw_311 : (Jvm.Cond.instanceMethod ({ cls := "WallPlanner$Layout", name := "hasUnlike", desc := "(I[I)Z" } : Jvm.MethodName)) ∈ TBL := tb_2 206 rfl rfl
theorem tw_312 : (Jvm.Cond.selects "WallPlanner$Layout" ({ cls := "WallPlanner$Layout", name := "hasUnlike", desc := "(I[I)Z" } : Jvm.MethodName) ({ cls := "WallPlanner$Layout", name := "hasUnlike", desc := "(I[I)Z" } : Jvm.MethodName)) ∈ TBL := tb_2 207 rfl rfl
theorem tw_313 : (Jvm.Cond.code ({ cls := "WallPlanner$Layout", name := "hasUnlike", desc := "(I[I)Z" } : Jvm.MethodName) prog_4_method_7_code (4 : Nat) (Option.some Jvm.ClassFile.FieldType.boolean)) ∈ TBL := tb_2 208 rfl rfl
theorem tw_314 : (Jvm.Cond.methodLink "WallPlanner$Seeker" (103 : Nat) ({ cls := "WallPlanner$Layout", name := "draw", desc := "([I[II)V" } : Jvm.MethodName)) ∈ TBL := tb_2 209 rfl rfl
theorem tw_315 : (Jvm.Cond.instanceMethod ({ cls := "WallPlanner$Layout", name := "draw", desc := "([I[II)V" } : Jvm.MethodName)) ∈ TBL := tb_2 210 rfl rfl
theorem tw_316 : (Jvm.Cond.selects "WallPlanner$Layout" ({ cls := "WallPlanner$Layout", name := "draw", desc := "([I[II)V" } : Jvm.MethodName) ({ cls := "WallPlanner$Layout", name := "draw", desc := "([I[II)V" } : Jvm.MethodName)) ∈ TBL := tb_2 211 rfl rfl
theorem tw_317 : (Jvm.Cond.code ({ cls := "WallPlanner$Layout", name := "draw", desc := "([I[II)V" } : Jvm.MethodName) prog_4_method_8_code (5 : Nat) (Option.none : Option Jvm.ClassFile.FieldType)) ∈ TBL := tb_2 212 rfl rfl
theorem tw_318 : (Jvm.Cond.methodLink "WallPlanner$Layout" (60 : Nat) ({ cls := "WallPlanner$Layout", name := "openRooms", desc := "()V" } : Jvm.MethodName)) ∈ TBL := tb_2 213 rfl rfl
theorem tw_319 : (Jvm.Cond.instanceMethod ({ cls := "WallPlanner$Layout", name := "openRooms", desc := "()V" } : Jvm.MethodName)) ∈ TBL := tb_2 215 rfl rfl
theorem tw_320 : (Jvm.Cond.code ({ cls := "WallPlanner$Layout", name := "openRooms", desc := "()V" } : Jvm.MethodName) prog_4_method_9_code (2 : Nat) (Option.none : Option Jvm.ClassFile.FieldType)) ∈ TBL := tb_2 216 rfl rfl
theorem tw_321 : (Jvm.Cond.methodLink "WallPlanner$Layout" (63 : Nat) ({ cls := "WallPlanner$Layout", name := "openDoorsFrom", desc := "(I[II)V" } : Jvm.MethodName)) ∈ TBL := tb_2 218 rfl rfl
theorem tw_322 : (Jvm.Cond.instanceMethod ({ cls := "WallPlanner$Layout", name := "openDoorsFrom", desc := "(I[II)V" } : Jvm.MethodName)) ∈ TBL := tb_2 220 rfl rfl
theorem tw_323 : (Jvm.Cond.code ({ cls := "WallPlanner$Layout", name := "openDoorsFrom", desc := "(I[II)V" } : Jvm.MethodName) prog_4_method_10_code (8 : Nat) (Option.none : Option Jvm.ClassFile.FieldType)) ∈ TBL := tb_2 221 rfl rfl
theorem tw_324 : (Jvm.Cond.methodLink "WallPlanner$Layout" (71 : Nat) ({ cls := "java/lang/Integer", name := "bitCount", desc := "(I)I" } : Jvm.MethodName)) ∈ TBL := tb_2 222 rfl rfl
theorem tw_325 : (Jvm.Cond.methodLink "WallPlanner$Layout" (67 : Nat) ({ cls := "WallPlanner$Layout", name := "countStraysFrom", desc := "(I[I[II)V" } : Jvm.MethodName)) ∈ TBL := tb_2 223 rfl rfl
theorem tw_326 : (Jvm.Cond.instanceMethod ({ cls := "WallPlanner$Layout", name := "countStraysFrom", desc := "(I[I[II)V" } : Jvm.MethodName)) ∈ TBL := tb_2 225 rfl rfl
theorem tw_327 : (Jvm.Cond.code ({ cls := "WallPlanner$Layout", name := "countStraysFrom", desc := "(I[I[II)V" } : Jvm.MethodName) prog_4_method_11_code (9 : Nat) (Option.none : Option Jvm.ClassFile.FieldType)) ∈ TBL := tb_2 226 rfl rfl
theorem tw_328 : (Jvm.Cond.methodLink "WallPlanner$Seeker" (63 : Nat) ({ cls := "WallPlanner$Seeker", name := "goOn", desc := "(II)I" } : Jvm.MethodName)) ∈ TBL := tb_2 227 rfl rfl
theorem tw_329 : (Jvm.Cond.instanceMethod ({ cls := "WallPlanner$Seeker", name := "goOn", desc := "(II)I" } : Jvm.MethodName)) ∈ TBL := tb_2 229 rfl rfl
theorem tw_330 : (Jvm.Cond.code ({ cls := "WallPlanner$Seeker", name := "goOn", desc := "(II)I" } : Jvm.MethodName) prog_9_method_3_code (3 : Nat) (Option.some Jvm.ClassFile.FieldType.int)) ∈ TBL := tb_2 230 rfl rfl
theorem tw_331 : (Jvm.Cond.methodLink "WallPlanner$Seeker" (66 : Nat) ({ cls := "WallPlanner$Seeker", name := "keepTrial", desc := "()V" } : Jvm.MethodName)) ∈ TBL := tb_2 231 rfl rfl
theorem tw_332 : (Jvm.Cond.instanceMethod ({ cls := "WallPlanner$Seeker", name := "keepTrial", desc := "()V" } : Jvm.MethodName)) ∈ TBL := tb_2 233 rfl rfl
theorem tw_333 : (Jvm.Cond.code ({ cls := "WallPlanner$Seeker", name := "keepTrial", desc := "()V" } : Jvm.MethodName) prog_9_method_6_code (1 : Nat) (Option.none : Option Jvm.ClassFile.FieldType)) ∈ TBL := tb_2 234 rfl rfl
theorem tw_334 : (Jvm.Cond.methodLink "WallPlanner$Seeker" (116 : Nat) ({ cls := "java/lang/System", name := "arraycopy", desc := "(Ljava/lang/Object;ILjava/lang/Object;II)V" } : Jvm.MethodName)) ∈ TBL := tb_2 235 rfl rfl
theorem tw_335 : (Jvm.Cond.static ({ cls := "java/lang/System", name := "arraycopy", desc := "(Ljava/lang/Object;ILjava/lang/Object;II)V" } : Jvm.MethodName)) ∈ TBL := tb_2 236 rfl rfl
theorem tw_336 : (Jvm.Cond.native ({ cls := "java/lang/System", name := "arraycopy", desc := "(Ljava/lang/Object;ILjava/lang/Object;II)V" } : Jvm.MethodName)) ∈ TBL := tb_2 237 rfl rfl
theorem tw_337 : (Jvm.Cond.methodLink "WallPlanner$Seeker" (69 : Nat) ({ cls := "java/lang/Math", name := "max", desc := "(II)I" } : Jvm.MethodName)) ∈ TBL := tb_2 238 rfl rfl
theorem tw_338 : (Jvm.Cond.static ({ cls := "java/lang/Math", name := "max", desc := "(II)I" } : Jvm.MethodName)) ∈ TBL := tb_2 239 rfl rfl
theorem tw_339 : (Jvm.Cond.code ({ cls := "java/lang/Math", name := "max", desc := "(II)I" } : Jvm.MethodName) prog_15_method_65_code (2 : Nat) (Option.some Jvm.ClassFile.FieldType.int)) ∈ TBL := tb_3 0 rfl rfl
theorem tw_340 : (Jvm.Cond.methodLink "WallPlanner" (147 : Nat) ({ cls := "WallPlanner$Plan", name := "settle", desc := "([ILWallPlanner$Needs;LWallPlanner$Net;LWallPlanner$Law;)V" } : Jvm.MethodName)) ∈ TBL := tb_3 1 rfl rfl
theorem tw_341 : (Jvm.Cond.instanceMethod ({ cls := "WallPlanner$Plan", name := "settle", desc := "([ILWallPlanner$Needs;LWallPlanner$Net;LWallPlanner$Law;)V" } : Jvm.MethodName)) ∈ TBL := tb_3 2 rfl rfl
theorem tw_342 : (Jvm.Cond.selects "WallPlanner$Plan" ({ cls := "WallPlanner$Plan", name := "settle", desc := "([ILWallPlanner$Needs;LWallPlanner$Net;LWallPlanner$Law;)V" } : Jvm.MethodName) ({ cls := "WallPlanner$Plan", name := "settle", desc := "([ILWallPlanner$Needs;LWallPlanner$Net;LWallPlanner$Law;)V" } : Jvm.MethodName)) ∈ TBL := tb_3 3 rfl rfl
theorem tw_343 : (Jvm.Cond.code ({ cls := "WallPlanner$Plan", name := "settle", desc := "([ILWallPlanner$Needs;LWallPlanner$Net;LWallPlanner$Law;)V" } : Jvm.MethodName) prog_8_method_2_code (5 : Nat) (Option.none : Option Jvm.ClassFile.FieldType)) ∈ TBL := tb_3 4 rfl rfl
theorem tw_344 : (Jvm.Cond.methodLink "WallPlanner$Plan" (40 : Nat) ({ cls := "WallPlanner$Layout", name := "copyRooms", desc := "([I)V" } : Jvm.MethodName)) ∈ TBL := tb_3 5 rfl rfl
theorem tw_345 : (Jvm.Cond.instanceMethod ({ cls := "WallPlanner$Layout", name := "copyRooms", desc := "([I)V" } : Jvm.MethodName)) ∈ TBL := tb_3 6 rfl rfl
theorem tw_346 : (Jvm.Cond.selects "WallPlanner$Layout" ({ cls := "WallPlanner$Layout", name := "copyRooms", desc := "([I)V" } : Jvm.MethodName) ({ cls := "WallPlanner$Layout", name := "copyRooms", desc := "([I)V" } : Jvm.MethodName)) ∈ TBL := tb_3 7 rfl rfl
theorem tw_347 : (Jvm.Cond.code ({ cls := "WallPlanner$Layout", name := "copyRooms", desc := "([I)V" } : Jvm.MethodName) prog_4_method_6_code (2 : Nat) (Option.none : Option Jvm.ClassFile.FieldType)) ∈ TBL := tb_3 8 rfl rfl
theorem tw_348 : (Jvm.Cond.methodLink "WallPlanner$Layout" (54 : Nat) ({ cls := "java/lang/System", name := "arraycopy", desc := "(Ljava/lang/Object;ILjava/lang/Object;II)V" } : Jvm.MethodName)) ∈ TBL := tb_3 9 rfl rfl
theorem tw_349 : (Jvm.Cond.methodLink "WallPlanner$Plan" (44 : Nat) ({ cls := "WallPlanner$Needs", name := "copyFrom", desc := "(LWallPlanner$Needs;)V" } : Jvm.MethodName)) ∈ TBL := tb_3 10 rfl rfl
theorem tw_350 : (Jvm.Cond.instanceMethod ({ cls := "WallPlanner$Needs", name := "copyFrom", desc := "(LWallPlanner$Needs;)V" } : Jvm.MethodName)) ∈ TBL := tb_3 11 rfl rfl
theorem tw_351 : (Jvm.Cond.selects "WallPlanner$Needs" ({ cls := "WallPlanner$Needs", name := "copyFrom", desc := "(LWallPlanner$Needs;)V" } : Jvm.MethodName) ({ cls := "WallPlanner$Needs", name := "copyFrom", desc := "(LWallPlanner$Needs;)V" } : Jvm.MethodName)) ∈ TBL := tb_3 12 rfl rfl
theorem tw_352 : (Jvm.Cond.code ({ cls := "WallPlanner$Needs", name := "copyFrom", desc := "(LWallPlanner$Needs;)V" } : Jvm.MethodName) prog_5_method_4_code (2 : Nat) (Option.none : Option Jvm.ClassFile.FieldType)) ∈ TBL := tb_3 13 rfl rfl
theorem tw_353 : (Jvm.Cond.methodLink "WallPlanner$Needs" (43 : Nat) ({ cls := "java/lang/System", name := "arraycopy", desc := "(Ljava/lang/Object;ILjava/lang/Object;II)V" } : Jvm.MethodName)) ∈ TBL := tb_3 14 rfl rfl
theorem tw_354 : (Jvm.Cond.methodLink "WallPlanner$Plan" (59 : Nat) ({ cls := "WallPlanner$Layout", name := "draw", desc := "([I[II)V" } : Jvm.MethodName)) ∈ TBL := tb_3 15 rfl rfl
theorem tw_355 : (Jvm.Cond.methodLink "WallPlanner$Plan" (67 : Nat) ({ cls := "WallPlanner$Law", name := "costOf", desc := "(II)I" } : Jvm.MethodName)) ∈ TBL := tb_3 16 rfl rfl
theorem tw_356 : (Jvm.Cond.methodLink "WallPlanner$Plan" (73 : Nat) ({ cls := "WallPlanner$Plan", name := "listRules", desc := "()V" } : Jvm.MethodName)) ∈ TBL := tb_3 17 rfl rfl
theorem tw_357 : (Jvm.Cond.instanceMethod ({ cls := "WallPlanner$Plan", name := "listRules", desc := "()V" } : Jvm.MethodName)) ∈ TBL := tb_3 19 rfl rfl
theorem tw_358 : (Jvm.Cond.code ({ cls := "WallPlanner$Plan", name := "listRules", desc := "()V" } : Jvm.MethodName) prog_8_method_3_code (3 : Nat) (Option.none : Option Jvm.ClassFile.FieldType)) ∈ TBL := tb_3 20 rfl rfl
theorem tw_359 : (Jvm.Cond.static ({ cls := "WallPlanner", name := "firstOf", desc := "(I)I" } : Jvm.MethodName)) ∈ TBL := tb_3 22 rfl rfl
theorem tw_360 : (Jvm.Cond.code ({ cls := "WallPlanner", name := "firstOf", desc := "(I)I" } : Jvm.MethodName) prog_1_method_26_code (1 : Nat) (Option.some Jvm.ClassFile.FieldType.int)) ∈ TBL := tb_3 23 rfl rfl
theorem tw_361 : (Jvm.Cond.static ({ cls := "WallPlanner", name := "secondOf", desc := "(I)I" } : Jvm.MethodName)) ∈ TBL := tb_3 25 rfl rfl
theorem tw_362 : (Jvm.Cond.code ({ cls := "WallPlanner", name := "secondOf", desc := "(I)I" } : Jvm.MethodName) prog_1_method_27_code (1 : Nat) (Option.some Jvm.ClassFile.FieldType.int)) ∈ TBL := tb_3 26 rfl rfl
theorem tw_363 : (Jvm.Cond.static ({ cls := "WallPlanner", name := "doorOf", desc := "(I)I" } : Jvm.MethodName)) ∈ TBL := tb_3 28 rfl rfl
theorem tw_364 : (Jvm.Cond.code ({ cls := "WallPlanner", name := "doorOf", desc := "(I)I" } : Jvm.MethodName) prog_1_method_28_code (1 : Nat) (Option.some Jvm.ClassFile.FieldType.int)) ∈ TBL := tb_3 29 rfl rfl
theorem tw_365 : (Jvm.Cond.methodLink "WallPlannerLaw" (55 : Nat) ({ cls := "WallPlanner", name := "room", desc := "(I)I" } : Jvm.MethodName)) ∈ TBL := tb_3 31 rfl rfl
theorem tw_366 : (Jvm.Cond.instanceMethod ({ cls := "WallPlanner", name := "room", desc := "(I)I" } : Jvm.MethodName)) ∈ TBL := tb_3 32 rfl rfl
theorem tw_367 : (Jvm.Cond.selects "WallPlanner" ({ cls := "WallPlanner", name := "room", desc := "(I)I" } : Jvm.MethodName) ({ cls := "WallPlanner", name := "room", desc := "(I)I" } : Jvm.MethodName)) ∈ TBL := tb_3 33 rfl rfl
theorem tw_368 : (Jvm.Cond.code ({ cls := "WallPlanner", name := "room", desc := "(I)I" } : Jvm.MethodName) prog_1_method_11_code (2 : Nat) (Option.some Jvm.ClassFile.FieldType.int)) ∈ TBL := tb_3 34 rfl rfl
theorem tw_369 : (Jvm.Cond.methodLink "WallPlanner" (154 : Nat) ({ cls := "WallPlanner$Net", name := "isHost", desc := "(I)Z" } : Jvm.MethodName)) ∈ TBL := tb_3 35 rfl rfl
theorem tw_370 : (Jvm.Cond.methodLink "WallPlannerLaw" (59 : Nat) ({ cls := "WallPlanner", name := "rule", desc := "(II)I" } : Jvm.MethodName)) ∈ TBL := tb_3 36 rfl rfl
theorem tw_371 : (Jvm.Cond.instanceMethod ({ cls := "WallPlanner", name := "rule", desc := "(II)I" } : Jvm.MethodName)) ∈ TBL := tb_3 37 rfl rfl
theorem tw_372 : (Jvm.Cond.selects "WallPlanner" ({ cls := "WallPlanner", name := "rule", desc := "(II)I" } : Jvm.MethodName) ({ cls := "WallPlanner", name := "rule", desc := "(II)I" } : Jvm.MethodName)) ∈ TBL := tb_3 38 rfl rfl
theorem tw_373 : (Jvm.Cond.code ({ cls := "WallPlanner", name := "rule", desc := "(II)I" } : Jvm.MethodName) prog_1_method_12_code (4 : Nat) (Option.some Jvm.ClassFile.FieldType.int)) ∈ TBL := tb_3 39 rfl rfl
theorem tw_374 : (Jvm.Cond.methodLink "WallPlanner" (172 : Nat) ({ cls := "WallPlanner", name := "firstOf", desc := "(I)I" } : Jvm.MethodName)) ∈ TBL := tb_3 40 rfl rfl
theorem tw_375 : (Jvm.Cond.methodLink "WallPlanner" (175 : Nat) ({ cls := "WallPlanner", name := "secondOf", desc := "(I)I" } : Jvm.MethodName)) ∈ TBL := tb_3 41 rfl rfl
theorem tw_376 : (Jvm.Cond.methodLink "WallPlanner" (178 : Nat) ({ cls := "WallPlanner", name := "doorOf", desc := "(I)I" } : Jvm.MethodName)) ∈ TBL := tb_3 42 rfl rfl
theorem tw_377 : (Jvm.Cond.methodLink "WallPlanner" (181 : Nat) ({ cls := "WallPlanner$Plan", name := "waysBy", desc := "(I)I" } : Jvm.MethodName)) ∈ TBL := tb_3 43 rfl rfl
theorem tw_378 : (Jvm.Cond.instanceMethod ({ cls := "WallPlanner$Plan", name := "waysBy", desc := "(I)I" } : Jvm.MethodName)) ∈ TBL := tb_3 44 rfl rfl
theorem tw_379 : (Jvm.Cond.selects "WallPlanner$Plan" ({ cls := "WallPlanner$Plan", name := "waysBy", desc := "(I)I" } : Jvm.MethodName) ({ cls := "WallPlanner$Plan", name := "waysBy", desc := "(I)I" } : Jvm.MethodName)) ∈ TBL := tb_3 45 rfl rfl
theorem tw_380 : (Jvm.Cond.code ({ cls := "WallPlanner$Plan", name := "waysBy", desc := "(I)I" } : Jvm.MethodName) prog_8_method_6_code (5 : Nat) (Option.some Jvm.ClassFile.FieldType.int)) ∈ TBL := tb_3 46 rfl rfl
theorem tw_381 : (Jvm.Cond.methodLink "WallPlanner$Plan" (101 : Nat) ({ cls := "WallPlanner$Plan", name := "isNeedBy", desc := "(III)Z" } : Jvm.MethodName)) ∈ TBL := tb_3 47 rfl rfl
theorem tw_382 : (Jvm.Cond.instanceMethod ({ cls := "WallPlanner$Plan", name := "isNeedBy", desc := "(III)Z" } : Jvm.MethodName)) ∈ TBL := tb_3 49 rfl rfl
theorem tw_383 : (Jvm.Cond.code ({ cls := "WallPlanner$Plan", name := "isNeedBy", desc := "(III)Z" } : Jvm.MethodName) prog_8_method_5_code (4 : Nat) (Option.some Jvm.ClassFile.FieldType.boolean)) ∈ TBL := tb_3 50 rfl rfl
theorem tw_384 : (Jvm.Cond.methodLink "WallPlanner$Plan" (94 : Nat) ({ cls := "WallPlanner$Plan", name := "isBy", desc := "(III)Z" } : Jvm.MethodName)) ∈ TBL := tb_3 51 rfl rfl
theorem tw_385 : (Jvm.Cond.instanceMethod ({ cls := "WallPlanner$Plan", name := "isBy", desc := "(III)Z" } : Jvm.MethodName)) ∈ TBL := tb_3 53 rfl rfl
theorem tw_386 : (Jvm.Cond.code ({ cls := "WallPlanner$Plan", name := "isBy", desc := "(III)Z" } : Jvm.MethodName) prog_8_method_4_code (4 : Nat) (Option.some Jvm.ClassFile.FieldType.boolean)) ∈ TBL := tb_3 54 rfl rfl
theorem tw_387 : (Jvm.Cond.methodLink "WallPlanner" (184 : Nat) ({ cls := "WallPlanner$Plan", name := "weightBy", desc := "(II)I" } : Jvm.MethodName)) ∈ TBL := tb_3 56 rfl rfl
theorem tw_388 : (Jvm.Cond.instanceMethod ({ cls := "WallPlanner$Plan", name := "weightBy", desc := "(II)I" } : Jvm.MethodName)) ∈ TBL := tb_3 57 rfl rfl
theorem tw_389 : (Jvm.Cond.selects "WallPlanner$Plan" ({ cls := "WallPlanner$Plan", name := "weightBy", desc := "(II)I" } : Jvm.MethodName) ({ cls := "WallPlanner$Plan", name := "weightBy", desc := "(II)I" } : Jvm.MethodName)) ∈ TBL := tb_3 58 rfl rfl
theorem tw_390 : (Jvm.Cond.code ({ cls := "WallPlanner$Plan", name := "weightBy", desc := "(II)I" } : Jvm.MethodName) prog_8_method_7_code (6 : Nat) (Option.some Jvm.ClassFile.FieldType.int)) ∈ TBL := tb_3 59 rfl rfl
theorem tw_391 : (Jvm.Cond.methodLink "WallPlanner$Plan" (111 : Nat) ({ cls := "java/lang/Math", name := "max", desc := "(II)I" } : Jvm.MethodName)) ∈ TBL := tb_3 61 rfl rfl
theorem tw_392 : (Jvm.Cond.methodLink "WallPlanner" (187 : Nat) ({ cls := "WallPlanner$Plan", name := "isMustBy", desc := "(I[I)Z" } : Jvm.MethodName)) ∈ TBL := tb_3 62 rfl rfl
theorem tw_393 : (Jvm.Cond.instanceMethod ({ cls := "WallPlanner$Plan", name := "isMustBy", desc := "(I[I)Z" } : Jvm.MethodName)) ∈ TBL := tb_3 63 rfl rfl
theorem tw_394 : (Jvm.Cond.selects "WallPlanner$Plan" ({ cls := "WallPlanner$Plan", name := "isMustBy", desc := "(I[I)Z" } : Jvm.MethodName) ({ cls := "WallPlanner$Plan", name := "isMustBy", desc := "(I[I)Z" } : Jvm.MethodName)) ∈ TBL := tb_3 64 rfl rfl
theorem tw_395 : (Jvm.Cond.code ({ cls := "WallPlanner$Plan", name := "isMustBy", desc := "(I[I)Z" } : Jvm.MethodName) prog_8_method_8_code (5 : Nat) (Option.some Jvm.ClassFile.FieldType.boolean)) ∈ TBL := tb_3 65 rfl rfl
theorem tw_396 : (Jvm.Cond.methodLink "WallPlannerLaw" (64 : Nat) ({ cls := "WallPlanner", name := "lets", desc := "(III)I" } : Jvm.MethodName)) ∈ TBL := tb_3 66 rfl rfl
theorem tw_397 : (Jvm.Cond.instanceMethod ({ cls := "WallPlanner", name := "lets", desc := "(III)I" } : Jvm.MethodName)) ∈ TBL := tb_3 67 rfl rfl
theorem tw_398 : (Jvm.Cond.selects "WallPlanner" ({ cls := "WallPlanner", name := "lets", desc := "(III)I" } : Jvm.MethodName) ({ cls := "WallPlanner", name := "lets", desc := "(III)I" } : Jvm.MethodName)) ∈ TBL := tb_3 68 rfl rfl
theorem tw_399 : (Jvm.Cond.code ({ cls := "WallPlanner", name := "lets", desc := "(III)I" } : Jvm.MethodName) prog_1_method_13_code (4 : Nat) (Option.some Jvm.ClassFile.FieldType.int)) ∈ TBL := tb_3 69 rfl rfl
theorem tw_400 : (Jvm.Cond.methodLink "WallPlanner" (191 : Nat) ({ cls := "WallPlanner$Layout", name := "areIn", desc := "(II)Z" } : Jvm.MethodName)) ∈ TBL := tb_3 70 rfl rfl
theorem tw_401 : (Jvm.Cond.instanceMethod ({ cls := "WallPlanner$Layout", name := "areIn", desc := "(II)Z" } : Jvm.MethodName)) ∈ TBL := tb_3 71 rfl rfl
theorem tw_402 : (Jvm.Cond.selects "WallPlanner$Layout" ({ cls := "WallPlanner$Layout", name := "areIn", desc := "(II)Z" } : Jvm.MethodName) ({ cls := "WallPlanner$Layout", name := "areIn", desc := "(II)Z" } : Jvm.MethodName)) ∈ TBL := tb_3 72 rfl rfl
theorem tw_403 : (Jvm.Cond.code ({ cls := "WallPlanner$Layout", name := "areIn", desc := "(II)Z" } : Jvm.MethodName) prog_4_method_2_code (3 : Nat) (Option.some Jvm.ClassFile.FieldType.boolean)) ∈ TBL := tb_3 73 rfl rfl
theorem tw_404 : (Jvm.Cond.methodLink "WallPlanner" (195 : Nat) ({ cls := "WallPlanner$Layout", name := "isLet", desc := "(III)Z" } : Jvm.MethodName)) ∈ TBL := tb_3 74 rfl rfl
theorem tw_405 : (Jvm.Cond.instanceMethod ({ cls := "WallPlanner$Layout", name := "isLet", desc := "(III)Z" } : Jvm.MethodName)) ∈ TBL := tb_3 75 rfl rfl
theorem tw_406 : (Jvm.Cond.selects "WallPlanner$Layout" ({ cls := "WallPlanner$Layout", name := "isLet", desc := "(III)Z" } : Jvm.MethodName) ({ cls := "WallPlanner$Layout", name := "isLet", desc := "(III)Z" } : Jvm.MethodName)) ∈ TBL := tb_3 76 rfl rfl
theorem tw_407 : (Jvm.Cond.code ({ cls := "WallPlanner$Layout", name := "isLet", desc := "(III)Z" } : Jvm.MethodName) prog_4_method_4_code (4 : Nat) (Option.some Jvm.ClassFile.FieldType.boolean)) ∈ TBL := tb_3 77 rfl rfl
theorem tw_408 : (Jvm.Cond.methodLink "WallPlanner$Layout" (39 : Nat) ({ cls := "WallPlanner$Layout", name := "areIn", desc := "(II)Z" } : Jvm.MethodName)) ∈ TBL := tb_3 78 rfl rfl
theorem tw_409 : (Jvm.Cond.methodLink "WallPlanner$Layout" (43 : Nat) ({ cls := "WallPlanner$Layout", name := "doorsBetween", desc := "(II)I" } : Jvm.MethodName)) ∈ TBL := tb_3 79 rfl rfl
theorem tw_410 : (Jvm.Cond.instanceMethod ({ cls := "WallPlanner$Layout", name := "doorsBetween", desc := "(II)I" } : Jvm.MethodName)) ∈ TBL := tb_3 80 rfl rfl
theorem tw_411 : (Jvm.Cond.selects "WallPlanner$Layout" ({ cls := "WallPlanner$Layout", name := "doorsBetween", desc := "(II)I" } : Jvm.MethodName) ({ cls := "WallPlanner$Layout", name := "doorsBetween", desc := "(II)I" } : Jvm.MethodName)) ∈ TBL := tb_3 81 rfl rfl
theorem tw_412 : (Jvm.Cond.code ({ cls := "WallPlanner$Layout", name := "doorsBetween", desc := "(II)I" } : Jvm.MethodName) prog_4_method_3_code (3 : Nat) (Option.some Jvm.ClassFile.FieldType.int)) ∈ TBL := tb_3 82 rfl rfl
theorem tw_413 : (Jvm.Cond.methodLink "WallPlannerLaw" (69 : Nat) ({ cls := "WallPlanner", name := "reach", desc := "(I)I" } : Jvm.MethodName)) ∈ TBL := tb_3 84 rfl rfl
theorem tw_414 : (Jvm.Cond.instanceMethod ({ cls := "WallPlanner", name := "reach", desc := "(I)I" } : Jvm.MethodName)) ∈ TBL := tb_3 85 rfl rfl
theorem tw_415 : (Jvm.Cond.selects "WallPlanner" ({ cls := "WallPlanner", name := "reach", desc := "(I)I" } : Jvm.MethodName) ({ cls := "WallPlanner", name := "reach", desc := "(I)I" } : Jvm.MethodName)) ∈ TBL := tb_3 86 rfl rfl
theorem tw_416 : (Jvm.Cond.code ({ cls := "WallPlanner", name := "reach", desc := "(I)I" } : Jvm.MethodName) prog_1_method_14_code (2 : Nat) (Option.some Jvm.ClassFile.FieldType.int)) ∈ TBL := tb_3 87 rfl rfl
theorem tw_417 : (Jvm.Cond.methodLink "WallPlanner" (198 : Nat) ({ cls := "WallPlanner$Spreading", name := "follow", desc := "(LWallPlanner$Plan;)V" } : Jvm.MethodName)) ∈ TBL := tb_3 88 rfl rfl
theorem tw_418 : (Jvm.Cond.instanceMethod ({ cls := "WallPlanner$Spreading", name := "follow", desc := "(LWallPlanner$Plan;)V" } : Jvm.MethodName)) ∈ TBL := tb_3 89 rfl rfl
theorem tw_419 : (Jvm.Cond.selects "WallPlanner$Spreading" ({ cls := "WallPlanner$Spreading", name := "follow", desc := "(LWallPlanner$Plan;)V" } : Jvm.MethodName) ({ cls := "WallPlanner$Spreading", name := "follow", desc := "(LWallPlanner$Plan;)V" } : Jvm.MethodName)) ∈ TBL := tb_3 90 rfl rfl
theorem tw_420 : (Jvm.Cond.code ({ cls := "WallPlanner$Spreading", name := "follow", desc := "(LWallPlanner$Plan;)V" } : Jvm.MethodName) prog_11_method_2_code (3 : Nat) (Option.none : Option Jvm.ClassFile.FieldType)) ∈ TBL := tb_3 91 rfl rfl
theorem tw_421 : (Jvm.Cond.methodLink "WallPlanner$Spreading" (28 : Nat) ({ cls := "WallPlanner$Spreading", name := "begin", desc := "(LWallPlanner$Layout;)V" } : Jvm.MethodName)) ∈ TBL := tb_3 92 rfl rfl
theorem tw_422 : (Jvm.Cond.instanceMethod ({ cls := "WallPlanner$Spreading", name := "begin", desc := "(LWallPlanner$Layout;)V" } : Jvm.MethodName)) ∈ TBL := tb_3 93 rfl rfl
theorem tw_423 : (Jvm.Cond.selects "WallPlanner$Spreading" ({ cls := "WallPlanner$Spreading", name := "begin", desc := "(LWallPlanner$Layout;)V" } : Jvm.MethodName) ({ cls := "WallPlanner$Spreading", name := "begin", desc := "(LWallPlanner$Layout;)V" } : Jvm.MethodName)) ∈ TBL := tb_3 94 rfl rfl
theorem tw_424 : (Jvm.Cond.code ({ cls := "WallPlanner$Spreading", name := "begin", desc := "(LWallPlanner$Layout;)V" } : Jvm.MethodName) prog_11_method_3_code (3 : Nat) (Option.none : Option Jvm.ClassFile.FieldType)) ∈ TBL := tb_3 95 rfl rfl
theorem tw_425 : (Jvm.Cond.methodLink "WallPlanner$Spreading" (45 : Nat) ({ cls := "WallPlanner$Layout", name := "roomCount", desc := "()I" } : Jvm.MethodName)) ∈ TBL := tb_3 96 rfl rfl
theorem tw_426 : (Jvm.Cond.instanceMethod ({ cls := "WallPlanner$Layout", name := "roomCount", desc := "()I" } : Jvm.MethodName)) ∈ TBL := tb_3 97 rfl rfl
theorem tw_427 : (Jvm.Cond.selects "WallPlanner$Layout" ({ cls := "WallPlanner$Layout", name := "roomCount", desc := "()I" } : Jvm.MethodName) ({ cls := "WallPlanner$Layout", name := "roomCount", desc := "()I" } : Jvm.MethodName)) ∈ TBL := tb_3 98 rfl rfl
theorem tw_428 : (Jvm.Cond.code ({ cls := "WallPlanner$Layout", name := "roomCount", desc := "()I" } : Jvm.MethodName) prog_4_method_5_code (3 : Nat) (Option.some Jvm.ClassFile.FieldType.int)) ∈ TBL := tb_3 99 rfl rfl
theorem tw_429 : (Jvm.Cond.methodLink "WallPlanner$Layout" (49 : Nat) ({ cls := "java/lang/Math", name := "max", desc := "(II)I" } : Jvm.MethodName)) ∈ TBL := tb_3 100 rfl rfl
theorem tw_430 : (Jvm.Cond.methodLink "WallPlanner$Spreading" (38 : Nat) ({ cls := "WallPlanner$Spreading", name := "addRule", desc := "(I)V" } : Jvm.MethodName)) ∈ TBL := tb_3 101 rfl rfl
theorem tw_431 : (Jvm.Cond.instanceMethod ({ cls := "WallPlanner$Spreading", name := "addRule", desc := "(I)V" } : Jvm.MethodName)) ∈ TBL := tb_3 102 rfl rfl
theorem tw_432 : (Jvm.Cond.selects "WallPlanner$Spreading" ({ cls := "WallPlanner$Spreading", name := "addRule", desc := "(I)V" } : Jvm.MethodName) ({ cls := "WallPlanner$Spreading", name := "addRule", desc := "(I)V" } : Jvm.MethodName)) ∈ TBL := tb_3 103 rfl rfl
theorem tw_433 : (Jvm.Cond.code ({ cls := "WallPlanner$Spreading", name := "addRule", desc := "(I)V" } : Jvm.MethodName) prog_11_method_4_code (2 : Nat) (Option.none : Option Jvm.ClassFile.FieldType)) ∈ TBL := tb_3 104 rfl rfl
theorem tw_434 : (Jvm.Cond.methodLink "WallPlanner$Spreading" (42 : Nat) ({ cls := "WallPlanner$Spreading", name := "chain", desc := "()V" } : Jvm.MethodName)) ∈ TBL := tb_3 107 rfl rfl
theorem tw_435 : (Jvm.Cond.instanceMethod ({ cls := "WallPlanner$Spreading", name := "chain", desc := "()V" } : Jvm.MethodName)) ∈ TBL := tb_3 108 rfl rfl
theorem tw_436 : (Jvm.Cond.selects "WallPlanner$Spreading" ({ cls := "WallPlanner$Spreading", name := "chain", desc := "()V" } : Jvm.MethodName) ({ cls := "WallPlanner$Spreading", name := "chain", desc := "()V" } : Jvm.MethodName)) ∈ TBL := tb_3 109 rfl rfl
theorem tw_437 : (Jvm.Cond.code ({ cls := "WallPlanner$Spreading", name := "chain", desc := "()V" } : Jvm.MethodName) prog_11_method_5_code (3 : Nat) (Option.none : Option Jvm.ClassFile.FieldType)) ∈ TBL := tb_3 110 rfl rfl
theorem tw_438 : (Jvm.Cond.methodLink "WallPlanner" (202 : Nat) ({ cls := "WallPlanner$Spreading", name := "othersFrom", desc := "(I)I" } : Jvm.MethodName)) ∈ TBL := tb_3 111 rfl rfl
theorem tw_439 : (Jvm.Cond.instanceMethod ({ cls := "WallPlanner$Spreading", name := "othersFrom", desc := "(I)I" } : Jvm.MethodName)) ∈ TBL := tb_3 112 rfl rfl
theorem tw_440 : (Jvm.Cond.selects "WallPlanner$Spreading" ({ cls := "WallPlanner$Spreading", name := "othersFrom", desc := "(I)I" } : Jvm.MethodName) ({ cls := "WallPlanner$Spreading", name := "othersFrom", desc := "(I)I" } : Jvm.MethodName)) ∈ TBL := tb_3 113 rfl rfl
theorem tw_441 : (Jvm.Cond.code ({ cls := "WallPlanner$Spreading", name := "othersFrom", desc := "(I)I" } : Jvm.MethodName) prog_11_method_6_code (4 : Nat) (Option.some Jvm.ClassFile.FieldType.int)) ∈ TBL := tb_3 114 rfl rfl
theorem tw_442 : (Jvm.Cond.methodLink "WallPlannerLaw" (73 : Nat) ({ cls := "WallPlanner", name := "spread", desc := "(I)I" } : Jvm.MethodName)) ∈ TBL := tb_3 115 rfl rfl
theorem tw_443 : (Jvm.Cond.instanceMethod ({ cls := "WallPlanner", name := "spread", desc := "(I)I" } : Jvm.MethodName)) ∈ TBL := tb_3 116 rfl rfl
theorem tw_444 : (Jvm.Cond.selects "WallPlanner" ({ cls := "WallPlanner", name := "spread", desc := "(I)I" } : Jvm.MethodName) ({ cls := "WallPlanner", name := "spread", desc := "(I)I" } : Jvm.MethodName)) ∈ TBL := tb_3 117 rfl rfl
theorem tw_445 : (Jvm.Cond.code ({ cls := "WallPlanner", name := "spread", desc := "(I)I" } : Jvm.MethodName) prog_1_method_15_code (3 : Nat) (Option.some Jvm.ClassFile.FieldType.int)) ∈ TBL := tb_3 118 rfl rfl
theorem tw_446 : (Jvm.Cond.methodLink "WallPlanner" (208 : Nat) ({ cls := "WallPlanner$Spreading", name := "widest", desc := "()I" } : Jvm.MethodName)) ∈ TBL := tb_3 119 rfl rfl
theorem tw_447 : (Jvm.Cond.instanceMethod ({ cls := "WallPlanner$Spreading", name := "widest", desc := "()I" } : Jvm.MethodName)) ∈ TBL := tb_3 120 rfl rfl
theorem tw_448 : (Jvm.Cond.selects "WallPlanner$Spreading" ({ cls := "WallPlanner$Spreading", name := "widest", desc := "()I" } : Jvm.MethodName) ({ cls := "WallPlanner$Spreading", name := "widest", desc := "()I" } : Jvm.MethodName)) ∈ TBL := tb_3 121 rfl rfl
theorem tw_449 : (Jvm.Cond.code ({ cls := "WallPlanner$Spreading", name := "widest", desc := "()I" } : Jvm.MethodName) prog_11_method_7_code (3 : Nat) (Option.some Jvm.ClassFile.FieldType.int)) ∈ TBL := tb_3 122 rfl rfl
theorem tw_450 : (Jvm.Cond.methodLink "WallPlanner$Spreading" (61 : Nat) ({ cls := "WallPlanner$Spreading", name := "othersFrom", desc := "(I)I" } : Jvm.MethodName)) ∈ TBL := tb_3 123 rfl rfl
theorem tw_451 : (Jvm.Cond.methodLink "WallPlanner$Spreading" (64 : Nat) ({ cls := "java/lang/Math", name := "max", desc := "(II)I" } : Jvm.MethodName)) ∈ TBL := tb_3 124 rfl rfl
theorem tw_452 : (Jvm.Cond.methodLink "WallPlanner" (212 : Nat) ({ cls := "WallPlanner$Spreading", name := "firstWith", desc := "(ILWallPlanner$Layout;)I" } : Jvm.MethodName)) ∈ TBL := tb_3 125 rfl rfl
theorem tw_453 : (Jvm.Cond.instanceMethod ({ cls := "WallPlanner$Spreading", name := "firstWith", desc := "(ILWallPlanner$Layout;)I" } : Jvm.MethodName)) ∈ TBL := tb_3 126 rfl rfl
theorem tw_454 : (Jvm.Cond.selects "WallPlanner$Spreading" ({ cls := "WallPlanner$Spreading", name := "firstWith", desc := "(ILWallPlanner$Layout;)I" } : Jvm.MethodName) ({ cls := "WallPlanner$Spreading", name := "firstWith", desc := "(ILWallPlanner$Layout;)I" } : Jvm.MethodName)) ∈ TBL := tb_3 127 rfl rfl
theorem tw_455 : (Jvm.Cond.code ({ cls := "WallPlanner$Spreading", name := "firstWith", desc := "(ILWallPlanner$Layout;)I" } : Jvm.MethodName) prog_11_method_8_code (4 : Nat) (Option.some Jvm.ClassFile.FieldType.int)) ∈ TBL := tb_3 128 rfl rfl
theorem tw_456 : (Jvm.Cond.methodLink "WallPlannerLaw" (77 : Nat) ({ cls := "WallPlanner", name := "shut", desc := "(I)I" } : Jvm.MethodName)) ∈ TBL := tb_3 129 rfl rfl
theorem tw_457 : (Jvm.Cond.instanceMethod ({ cls := "WallPlanner", name := "shut", desc := "(I)I" } : Jvm.MethodName)) ∈ TBL := tb_3 130 rfl rfl
theorem tw_458 : (Jvm.Cond.selects "WallPlanner" ({ cls := "WallPlanner", name := "shut", desc := "(I)I" } : Jvm.MethodName) ({ cls := "WallPlanner", name := "shut", desc := "(I)I" } : Jvm.MethodName)) ∈ TBL := tb_3 131 rfl rfl
theorem tw_459 : (Jvm.Cond.code ({ cls := "WallPlanner", name := "shut", desc := "(I)I" } : Jvm.MethodName) prog_1_method_16_code (2 : Nat) (Option.some Jvm.ClassFile.FieldType.int)) ∈ TBL := tb_3 132 rfl rfl
theorem tw_460 : (Jvm.Cond.methodLink "WallPlanner" (216 : Nat) ({ cls := "WallPlanner$Shutter", name := "seekSet", desc := "(LWallPlanner$Plan;[II)I" } : Jvm.MethodName)) ∈ TBL := tb_3 133 rfl rfl
theorem tw_461 : (Jvm.Cond.instanceMethod ({ cls := "WallPlanner$Shutter", name := "seekSet", desc := "(LWallPlanner$Plan;[II)I" } : Jvm.MethodName)) ∈ TBL := tb_3 134 rfl rfl
theorem tw_462 : (Jvm.Cond.selects "WallPlanner$Shutter" ({ cls := "WallPlanner$Shutter", name := "seekSet", desc := "(LWallPlanner$Plan;[II)I" } : Jvm.MethodName) ({ cls := "WallPlanner$Shutter", name := "seekSet", desc := "(LWallPlanner$Plan;[II)I" } : Jvm.MethodName)) ∈ TBL := tb_3 135 rfl rfl
theorem tw_463 : (Jvm.Cond.code ({ cls := "WallPlanner$Shutter", name := "seekSet", desc := "(LWallPlanner$Plan;[II)I" } : Jvm.MethodName) prog_10_method_2_code (9 : Nat) (Option.some Jvm.ClassFile.FieldType.int)) ∈ TBL := tb_3 136 rfl rfl
theorem tw_464 : (Jvm.Cond.methodLink "WallPlanner$Shutter" (41 : Nat) ({ cls := "WallPlanner$Shutter", name := "gatherCans", desc := "(LWallPlanner$Plan;[I)Z" } : Jvm.MethodName)) ∈ TBL := tb_3 137 rfl rfl
theorem tw_465 : (Jvm.Cond.instanceMethod ({ cls := "WallPlanner$Shutter", name := "gatherCans", desc := "(LWallPlanner$Plan;[I)Z" } : Jvm.MethodName)) ∈ TBL := tb_3 139 rfl rfl
theorem tw_466 : (Jvm.Cond.code ({ cls := "WallPlanner$Shutter", name := "gatherCans", desc := "(LWallPlanner$Plan;[I)Z" } : Jvm.MethodName) prog_10_method_3_code (5 : Nat) (Option.some Jvm.ClassFile.FieldType.boolean)) ∈ TBL := tb_3 140 rfl rfl
theorem tw_467 : (Jvm.Cond.methodLink "WallPlanner$Shutter" (62 : Nat) ({ cls := "WallPlanner$Spreading", name := "begin", desc := "(LWallPlanner$Layout;)V" } : Jvm.MethodName)) ∈ TBL := tb_3 141 rfl rfl
theorem tw_468 : (Jvm.Cond.methodLink "WallPlanner$Shutter" (70 : Nat) ({ cls := "WallPlanner$Plan", name := "isMustBy", desc := "(I[I)Z" } : Jvm.MethodName)) ∈ TBL := tb_3 142 rfl rfl
theorem tw_469 : (Jvm.Cond.methodLink "WallPlanner$Shutter" (74 : Nat) ({ cls := "WallPlanner$Spreading", name := "addRule", desc := "(I)V" } : Jvm.MethodName)) ∈ TBL := tb_3 143 rfl rfl
theorem tw_470 : (Jvm.Cond.methodLink "WallPlanner$Shutter" (77 : Nat) ({ cls := "WallPlanner$Plan", name := "weightBy", desc := "(II)I" } : Jvm.MethodName)) ∈ TBL := tb_3 144 rfl rfl
theorem tw_471 : (Jvm.Cond.methodLink "WallPlanner$Shutter" (84 : Nat) ({ cls := "java/lang/System", name := "arraycopy", desc := "(Ljava/lang/Object;ILjava/lang/Object;II)V" } : Jvm.MethodName)) ∈ TBL := tb_3 145 rfl rfl
theorem tw_472 : (Jvm.Cond.methodLink "WallPlanner$Shutter" (45 : Nat) ({ cls := "WallPlanner$Shutter", name := "widestWithout", desc := "(I)I" } : Jvm.MethodName)) ∈ TBL := tb_3 146 rfl rfl
theorem tw_473 : (Jvm.Cond.instanceMethod ({ cls := "WallPlanner$Shutter", name := "widestWithout", desc := "(I)I" } : Jvm.MethodName)) ∈ TBL := tb_3 148 rfl rfl
theorem tw_474 : (Jvm.Cond.code ({ cls := "WallPlanner$Shutter", name := "widestWithout", desc := "(I)I" } : Jvm.MethodName) prog_10_method_5_code (3 : Nat) (Option.some Jvm.ClassFile.FieldType.int)) ∈ TBL := tb_3 149 rfl rfl
theorem tw_475 : (Jvm.Cond.methodLink "WallPlanner$Shutter" (90 : Nat) ({ cls := "WallPlanner$Spreading", name := "chain", desc := "()V" } : Jvm.MethodName)) ∈ TBL := tb_3 150 rfl rfl
theorem tw_476 : (Jvm.Cond.methodLink "WallPlanner$Shutter" (93 : Nat) ({ cls := "WallPlanner$Spreading", name := "widest", desc := "()I" } : Jvm.MethodName)) ∈ TBL := tb_3 151 rfl rfl
theorem tw_477 : (Jvm.Cond.methodLink "WallPlanner$Shutter" (49 : Nat) ({ cls := "WallPlanner$Shutter", name := "tollOf", desc := "(I)I" } : Jvm.MethodName)) ∈ TBL := tb_3 152 rfl rfl
theorem tw_478 : (Jvm.Cond.instanceMethod ({ cls := "WallPlanner$Shutter", name := "tollOf", desc := "(I)I" } : Jvm.MethodName)) ∈ TBL := tb_3 154 rfl rfl
theorem tw_479 : (Jvm.Cond.code ({ cls := "WallPlanner$Shutter", name := "tollOf", desc := "(I)I" } : Jvm.MethodName) prog_10_method_4_code (4 : Nat) (Option.some Jvm.ClassFile.FieldType.int)) ∈ TBL := tb_3 155 rfl rfl
theorem tw_480 : (Jvm.Cond.methodLink "WallPlanner$Shutter" (52 : Nat) ({ cls := "WallPlanner$Shutter", name := "choose", desc := "(I)V" } : Jvm.MethodName)) ∈ TBL := tb_3 156 rfl rfl
theorem tw_481 : (Jvm.Cond.instanceMethod ({ cls := "WallPlanner$Shutter", name := "choose", desc := "(I)V" } : Jvm.MethodName)) ∈ TBL := tb_3 158 rfl rfl
theorem tw_482 : (Jvm.Cond.code ({ cls := "WallPlanner$Shutter", name := "choose", desc := "(I)V" } : Jvm.MethodName) prog_10_method_6_code (3 : Nat) (Option.none : Option Jvm.ClassFile.FieldType)) ∈ TBL := tb_3 159 rfl rfl
theorem tw_483 : (Jvm.Cond.methodLink "WallPlannerLaw" (81 : Nat) ({ cls := "WallPlanner", name := "shutting", desc := "(I)I" } : Jvm.MethodName)) ∈ TBL := tb_3 160 rfl rfl
theorem tw_484 : (Jvm.Cond.instanceMethod ({ cls := "WallPlanner", name := "shutting", desc := "(I)I" } : Jvm.MethodName)) ∈ TBL := tb_3 161 rfl rfl
theorem tw_485 : (Jvm.Cond.selects "WallPlanner" ({ cls := "WallPlanner", name := "shutting", desc := "(I)I" } : Jvm.MethodName) ({ cls := "WallPlanner", name := "shutting", desc := "(I)I" } : Jvm.MethodName)) ∈ TBL := tb_3 162 rfl rfl
theorem tw_486 : (Jvm.Cond.code ({ cls := "WallPlanner", name := "shutting", desc := "(I)I" } : Jvm.MethodName) prog_1_method_17_code (2 : Nat) (Option.some Jvm.ClassFile.FieldType.int)) ∈ TBL := tb_3 163 rfl rfl
theorem tw_487 : (Jvm.Cond.methodLink "WallPlannerLaw" (85 : Nat) ({ cls := "WallPlanner", name := "odd", desc := "(I)I" } : Jvm.MethodName)) ∈ TBL := tb_3 164 rfl rfl
theorem tw_488 : (Jvm.Cond.instanceMethod ({ cls := "WallPlanner", name := "odd", desc := "(I)I" } : Jvm.MethodName)) ∈ TBL := tb_3 165 rfl rfl
theorem tw_489 : (Jvm.Cond.selects "WallPlanner" ({ cls := "WallPlanner", name := "odd", desc := "(I)I" } : Jvm.MethodName) ({ cls := "WallPlanner", name := "odd", desc := "(I)I" } : Jvm.MethodName)) ∈ TBL := tb_3 166 rfl rfl
theorem tw_490 : (Jvm.Cond.code ({ cls := "WallPlanner", name := "odd", desc := "(I)I" } : Jvm.MethodName) prog_1_method_18_code (2 : Nat) (Option.some Jvm.ClassFile.FieldType.int)) ∈ TBL := tb_3 167 rfl rfl
theorem tw_491 : (Jvm.Cond.methodLink "WallPlanner" (226 : Nat) ({ cls := "WallPlanner$OddList", name := "gather", desc := "(LWallPlanner$Diary;LWallPlanner$Layout;I)V" } : Jvm.MethodName)) ∈ TBL := tb_3 168 rfl rfl
theorem tw_492 : (Jvm.Cond.instanceMethod ({ cls := "WallPlanner$OddList", name := "gather", desc := "(LWallPlanner$Diary;LWallPlanner$Layout;I)V" } : Jvm.MethodName)) ∈ TBL := tb_3 169 rfl rfl
theorem tw_493 : (Jvm.Cond.selects "WallPlanner$OddList" ({ cls := "WallPlanner$OddList", name := "gather", desc := "(LWallPlanner$Diary;LWallPlanner$Layout;I)V" } : Jvm.MethodName) ({ cls := "WallPlanner$OddList", name := "gather", desc := "(LWallPlanner$Diary;LWallPlanner$Layout;I)V" } : Jvm.MethodName)) ∈ TBL := tb_3 170 rfl rfl
theorem tw_494 : (Jvm.Cond.code ({ cls := "WallPlanner$OddList", name := "gather", desc := "(LWallPlanner$Diary;LWallPlanner$Layout;I)V" } : Jvm.MethodName) prog_7_method_2_code (6 : Nat) (Option.none : Option Jvm.ClassFile.FieldType)) ∈ TBL := tb_3 171 rfl rfl
theorem tw_495 : (Jvm.Cond.methodLink "WallPlanner$OddList" (41 : Nat) ({ cls := "WallPlanner$Layout", name := "isLet", desc := "(III)Z" } : Jvm.MethodName)) ∈ TBL := tb_3 175 rfl rfl
theorem tw_496 : (Jvm.Cond.methodLink "WallPlanner$OddList" (47 : Nat) ({ cls := "WallPlanner$OddList", name := "nearnessOf", desc := "(ILWallPlanner$Layout;)I" } : Jvm.MethodName)) ∈ TBL := tb_3 176 rfl rfl
theorem tw_497 : (Jvm.Cond.static ({ cls := "WallPlanner$OddList", name := "nearnessOf", desc := "(ILWallPlanner$Layout;)I" } : Jvm.MethodName)) ∈ TBL := tb_3 177 rfl rfl
theorem tw_498 : (Jvm.Cond.code ({ cls := "WallPlanner$OddList", name := "nearnessOf", desc := "(ILWallPlanner$Layout;)I" } : Jvm.MethodName) prog_7_method_3_code (6 : Nat) (Option.some Jvm.ClassFile.FieldType.int)) ∈ TBL := tb_3 178 rfl rfl
theorem tw_499 : (Jvm.Cond.methodLink "WallPlanner$OddList" (51 : Nat) ({ cls := "WallPlanner$Layout", name := "areIn", desc := "(II)Z" } : Jvm.MethodName)) ∈ TBL := tb_3 179 rfl rfl
theorem tw_500 : (Jvm.Cond.methodLink "WallPlanner$OddList" (55 : Nat) ({ cls := "WallPlanner$Layout", name := "doorsBetween", desc := "(II)I" } : Jvm.MethodName)) ∈ TBL := tb_3 180 rfl rfl
theorem tw_501 : (Jvm.Cond.methodLink "WallPlannerLaw" (89 : Nat) ({ cls := "WallPlanner", name := "oddTalk", desc := "(II)I" } : Jvm.MethodName)) ∈ TBL := tb_3 182 rfl rfl
theorem tw_502 : (Jvm.Cond.instanceMethod ({ cls := "WallPlanner", name := "oddTalk", desc := "(II)I" } : Jvm.MethodName)) ∈ TBL := tb_3 183 rfl rfl
theorem tw_503 : (Jvm.Cond.selects "WallPlanner" ({ cls := "WallPlanner", name := "oddTalk", desc := "(II)I" } : Jvm.MethodName) ({ cls := "WallPlanner", name := "oddTalk", desc := "(II)I" } : Jvm.MethodName)) ∈ TBL := tb_3 184 rfl rfl
theorem tw_504 : (Jvm.Cond.code ({ cls := "WallPlanner", name := "oddTalk", desc := "(II)I" } : Jvm.MethodName) prog_1_method_19_code (4 : Nat) (Option.some Jvm.ClassFile.FieldType.int)) ∈ TBL := tb_3 185 rfl rfl
theorem tw_505 : (Jvm.Cond.methodLink "WallPlannerLaw" (93 : Nat) ({ cls := "WallPlanner", name := "place", desc := "(II)I" } : Jvm.MethodName)) ∈ TBL := tb_3 186 rfl rfl
theorem tw_506 : (Jvm.Cond.instanceMethod ({ cls := "WallPlanner", name := "place", desc := "(II)I" } : Jvm.MethodName)) ∈ TBL := tb_3 187 rfl rfl
theorem tw_507 : (Jvm.Cond.selects "WallPlanner" ({ cls := "WallPlanner", name := "place", desc := "(II)I" } : Jvm.MethodName) ({ cls := "WallPlanner", name := "place", desc := "(II)I" } : Jvm.MethodName)) ∈ TBL := tb_3 188 rfl rfl
theorem tw_508 : (Jvm.Cond.code ({ cls := "WallPlanner", name := "place", desc := "(II)I" } : Jvm.MethodName) prog_1_method_20_code (4 : Nat) (Option.some Jvm.ClassFile.FieldType.int)) ∈ TBL := tb_3 189 rfl rfl
theorem tw_509 : (Jvm.Cond.methodLink "WallPlanner" (245 : Nat) ({ cls := "WallPlanner$Seeker", name := "seekRoomFor", desc := "(ILWallPlanner$Plan;LWallPlanner$Net;LWallPlanner$Law;LWallPlanner$Needs;)I" } : Jvm.MethodName)) ∈ TBL := tb_3 190 rfl rfl
theorem tw_510 : (Jvm.Cond.instanceMethod ({ cls := "WallPlanner$Seeker", name := "seekRoomFor", desc := "(ILWallPlanner$Plan;LWallPlanner$Net;LWallPlanner$Law;LWallPlanner$Needs;)I" } : Jvm.MethodName)) ∈ TBL := tb_3 191 rfl rfl
theorem tw_511 : (Jvm.Cond.selects "WallPlanner$Seeker" ({ cls := "WallPlanner$Seeker", name := "seekRoomFor", desc := "(ILWallPlanner$Plan;LWallPlanner$Net;LWallPlanner$Law;LWallPlanner$Needs;)I" } : Jvm.MethodName) ({ cls := "WallPlanner$Seeker", name := "seekRoomFor", desc := "(ILWallPlanner$Plan;LWallPlanner$Net;LWallPlanner$Law;LWallPlanner$Needs;)I" } : Jvm.MethodName)) ∈ TBL := tb_3 192 rfl rfl
theorem tw_512 : (Jvm.Cond.code ({ cls := "WallPlanner$Seeker", name := "seekRoomFor", desc := "(ILWallPlanner$Plan;LWallPlanner$Net;LWallPlanner$Law;LWallPlanner$Needs;)I" } : Jvm.MethodName) prog_9_method_4_code (9 : Nat) (Option.some Jvm.ClassFile.FieldType.int)) ∈ TBL := tb_3 193 rfl rfl
theorem tw_513 : (Jvm.Cond.methodLink "WallPlanner$Seeker" (79 : Nat) ({ cls := "WallPlanner$Layout", name := "copyRooms", desc := "([I)V" } : Jvm.MethodName)) ∈ TBL := tb_3 194 rfl rfl
theorem tw_514 : (Jvm.Cond.methodLink "WallPlanner$Seeker" (83 : Nat) ({ cls := "WallPlanner$Layout", name := "roomCount", desc := "()I" } : Jvm.MethodName)) ∈ TBL := tb_3 195 rfl rfl
theorem tw_515 : (Jvm.Cond.methodLink "WallPlannerLaw" (97 : Nat) ({ cls := "WallPlanner", name := "count", desc := "(I)I" } : Jvm.MethodName)) ∈ TBL := tb_3 196 rfl rfl
theorem tw_516 : (Jvm.Cond.instanceMethod ({ cls := "WallPlanner", name := "count", desc := "(I)I" } : Jvm.MethodName)) ∈ TBL := tb_3 197 rfl rfl
theorem tw_517 : (Jvm.Cond.selects "WallPlanner" ({ cls := "WallPlanner", name := "count", desc := "(I)I" } : Jvm.MethodName) ({ cls := "WallPlanner", name := "count", desc := "(I)I" } : Jvm.MethodName)) ∈ TBL := tb_3 198 rfl rfl
theorem tw_518 : (Jvm.Cond.code ({ cls := "WallPlanner", name := "count", desc := "(I)I" } : Jvm.MethodName) prog_1_method_21_code (2 : Nat) (Option.some Jvm.ClassFile.FieldType.int)) ∈ TBL := tb_3 199 rfl rfl
theorem tw_519 : (Jvm.Cond.methodLink "WallPlanner" (250 : Nat) ({ cls := "WallPlanner$Layout", name := "roomCount", desc := "()I" } : Jvm.MethodName)) ∈ TBL := tb_3 200 rfl rfl
theorem tw_520 : (Jvm.Cond.classLink "WallPlannerLaw" (10 : Nat) "WallPlannerModel") ∈ TBL := tb_3 201 rfl rfl
theorem tw_521 : (Jvm.Cond.instantiable "WallPlannerModel" (39 : Nat)) ∈ TBL := tb_3 202 rfl rfl
theorem tw_522 : (Jvm.Cond.methodLink "WallPlannerLaw" (12 : Nat) ({ cls := "WallPlannerModel", name := "<init>", desc := "()V" } : Jvm.MethodName)) ∈ TBL := tb_3 203 rfl rfl
theorem tw_523 : (Jvm.Cond.instanceMethod ({ cls := "WallPlannerModel", name := "<init>", desc := "()V" } : Jvm.MethodName)) ∈ TBL := tb_3 204 rfl rfl
theorem tw_524 : (Jvm.Cond.code ({ cls := "WallPlannerModel", name := "<init>", desc := "()V" } : Jvm.MethodName) prog_13_method_1_code (2 : Nat) (Option.none : Option Jvm.ClassFile.FieldType)) ∈ TBL := tb_3 205 rfl rfl
theorem tw_525 : (Jvm.Cond.methodLink "WallPlannerModel" (1 : Nat) ({ cls := "java/lang/Object", name := "<init>", desc := "()V" } : Jvm.MethodName)) ∈ TBL := tb_3 206 rfl rfl
theorem tw_526 : (Jvm.Cond.fieldLink "WallPlannerModel" (93 : Nat) "WallPlannerModel" "thrown" "I") ∈ TBL := tb_3 207 rfl rfl
theorem tw_527 : (Jvm.Cond.fieldLink "WallPlannerModel" (96 : Nat) "WallPlannerModel" "hosts" "I") ∈ TBL := tb_3 208 rfl rfl
theorem tw_528 : (Jvm.Cond.fieldLink "WallPlannerModel" (7 : Nat) "WallPlannerModel" "marks" "[I") ∈ TBL := tb_3 209 rfl rfl
theorem tw_529 : (Jvm.Cond.fieldLink "WallPlannerModel" (13 : Nat) "WallPlannerModel" "rooms" "[I") ∈ TBL := tb_3 210 rfl rfl
theorem tw_530 : (Jvm.Cond.fieldLink "WallPlannerModel" (110 : Nat) "WallPlannerModel" "talks" "I") ∈ TBL := tb_3 211 rfl rfl
theorem tw_531 : (Jvm.Cond.fieldLink "WallPlannerModel" (16 : Nat) "WallPlannerModel" "talkWay" "[I") ∈ TBL := tb_3 212 rfl rfl
theorem tw_532 : (Jvm.Cond.fieldLink "WallPlannerModel" (19 : Nat) "WallPlannerModel" "talkDay" "[I") ∈ TBL := tb_3 213 rfl rfl
theorem tw_533 : (Jvm.Cond.fieldLink "WallPlannerModel" (22 : Nat) "WallPlannerModel" "talkCount" "[I") ∈ TBL := tb_3 214 rfl rfl
theorem tw_534 : (Jvm.Cond.fieldLink "WallPlannerModel" (25 : Nat) "WallPlannerModel" "isMust" "[Z") ∈ TBL := tb_3 215 rfl rfl
theorem tw_535 : (Jvm.Cond.fieldLink "WallPlannerModel" (29 : Nat) "WallPlannerModel" "isBarred" "[Z") ∈ TBL := tb_3 216 rfl rfl
theorem tw_536 : (Jvm.Cond.fieldLink "WallPlannerModel" (32 : Nat) "WallPlannerModel" "window" "I") ∈ TBL := tb_3 217 rfl rfl
theorem tw_537 : (Jvm.Cond.fieldLink "WallPlannerModel" (36 : Nat) "WallPlannerModel" "least" "I") ∈ TBL := tb_3 218 rfl rfl
theorem tw_538 : (Jvm.Cond.fieldLink "WallPlannerModel" (113 : Nat) "WallPlannerModel" "strict" "Z") ∈ TBL := tb_3 219 rfl rfl
theorem tw_539 : (Jvm.Cond.fieldLink "WallPlannerModel" (39 : Nat) "WallPlannerModel" "rulePrice" "I") ∈ TBL := tb_3 220 rfl rfl
theorem tw_540 : (Jvm.Cond.fieldLink "WallPlannerModel" (42 : Nat) "WallPlannerModel" "strayPrice" "I") ∈ TBL := tb_3 221 rfl rfl
theorem tw_541 : (Jvm.Cond.fieldLink "WallPlannerModel" (45 : Nat) "WallPlannerModel" "isDue" "[Z") ∈ TBL := tb_3 222 rfl rfl
theorem tw_542 : (Jvm.Cond.fieldLink "WallPlannerModel" (48 : Nat) "WallPlannerModel" "dueWeight" "[I") ∈ TBL := tb_3 223 rfl rfl
theorem tw_543 : (Jvm.Cond.fieldLink "WallPlannerModel" (51 : Nat) "WallPlannerModel" "wasDue" "[Z") ∈ TBL := tb_3 224 rfl rfl
theorem tw_544 : (Jvm.Cond.fieldLink "WallPlannerModel" (54 : Nat) "WallPlannerModel" "wasWeight" "[I") ∈ TBL := tb_3 225 rfl rfl
theorem tw_545 : (Jvm.Cond.fieldLink "WallPlannerModel" (140 : Nat) "WallPlannerModel" "hasPlan" "Z") ∈ TBL := tb_3 226 rfl rfl
theorem tw_546 : (Jvm.Cond.fieldLink "WallPlannerModel" (143 : Nat) "WallPlannerModel" "planCost" "I") ∈ TBL := tb_3 227 rfl rfl
theorem tw_547 : (Jvm.Cond.fieldLink "WallPlannerModel" (146 : Nat) "WallPlannerModel" "planStrays" "I") ∈ TBL := tb_3 228 rfl rfl
theorem tw_548 : (Jvm.Cond.fieldLink "WallPlannerModel" (57 : Nat) "WallPlannerModel" "tried" "[I") ∈ TBL := tb_3 229 rfl rfl
theorem tw_549 : (Jvm.Cond.fieldLink "WallPlannerModel" (60 : Nat) "WallPlannerModel" "best" "[I") ∈ TBL := tb_3 230 rfl rfl
theorem tw_550 : (Jvm.Cond.fieldLink "WallPlannerModel" (63 : Nat) "WallPlannerModel" "isRule" "[Z") ∈ TBL := tb_3 231 rfl rfl
theorem tw_551 : (Jvm.Cond.fieldLink "WallPlannerModel" (66 : Nat) "WallPlannerModel" "wasRule" "[Z") ∈ TBL := tb_3 232 rfl rfl
theorem tw_552 : (Jvm.Cond.fieldLink "WallPlannerModel" (132 : Nat) "WallPlannerModel" "triedStrays" "I") ∈ TBL := tb_3 233 rfl rfl
theorem tw_553 : (Jvm.Cond.fieldLink "WallPlannerModel" (69 : Nat) "WallPlannerModel" "isShut" "[Z") ∈ TBL := tb_3 234 rfl rfl
theorem tw_554 : (Jvm.Cond.fieldLink "WallPlannerModel" (185 : Nat) "WallPlannerModel" "spreadAt" "I") ∈ TBL := tb_3 235 rfl rfl
theorem tw_555 : (Jvm.Cond.fieldLink "WallPlannerModel" (72 : Nat) "WallPlannerModel" "free" "[I") ∈ TBL := tb_3 236 rfl rfl
theorem tw_556 : (Jvm.Cond.fieldLink "WallPlannerModel" (75 : Nat) "WallPlannerModel" "freePrice" "[I") ∈ TBL := tb_3 237 rfl rfl
theorem tw_557 : (Jvm.Cond.fieldLink "WallPlannerModel" (78 : Nat) "WallPlannerModel" "freeNumber" "[I") ∈ TBL := tb_3 238 rfl rfl
theorem tw_558 : (Jvm.Cond.fieldLink "WallPlannerModel" (191 : Nat) "WallPlannerModel" "shutSet" "I") ∈ TBL := tb_3 239 rfl rfl
theorem tw_559 : (Jvm.Cond.fieldLink "WallPlannerModel" (81 : Nat) "WallPlannerModel" "shutNumber" "[I") ∈ TBL := tb_4 0 rfl rfl
theorem tw_560 : (Jvm.Cond.fieldLink "WallPlannerModel" (194 : Nat) "WallPlannerModel" "shutMany" "I") ∈ TBL := tb_4 1 rfl rfl
theorem tw_561 : (Jvm.Cond.fieldLink "WallPlannerModel" (84 : Nat) "WallPlannerModel" "oddWay" "[I") ∈ TBL := tb_4 2 rfl rfl
theorem tw_562 : (Jvm.Cond.fieldLink "WallPlannerModel" (87 : Nat) "WallPlannerModel" "oddCount" "[I") ∈ TBL := tb_4 3 rfl rfl
theorem tw_563 : (Jvm.Cond.fieldLink "WallPlannerModel" (90 : Nat) "WallPlannerModel" "oddNear" "[I") ∈ TBL := tb_4 4 rfl rfl
theorem tw_564 : (Jvm.Cond.fieldLink "WallPlannerModel" (197 : Nat) "WallPlannerModel" "oddMany" "I") ∈ TBL := tb_4 5 rfl rfl
theorem tw_565 : (Jvm.Cond.lays "WallPlannerModel" "WallPlannerModel" "thrown" "I") ∈ TBL := tb_4 6 rfl rfl
theorem tw_566 : (Jvm.Cond.lays "WallPlannerModel" "WallPlannerModel" "hosts" "I") ∈ TBL := tb_4 8 rfl rfl
theorem tw_567 : (Jvm.Cond.laysFinal "WallPlannerModel" "WallPlannerModel" "marks" "[I") ∈ TBL := tb_4 10 rfl rfl
theorem tw_568 : (Jvm.Cond.laysFinal "WallPlannerModel" "WallPlannerModel" "rooms" "[I") ∈ TBL := tb_4 12 rfl rfl
theorem tw_569 : (Jvm.Cond.lays "WallPlannerModel" "WallPlannerModel" "talks" "I") ∈ TBL := tb_4 14 rfl rfl
theorem tw_570 : (Jvm.Cond.laysFinal "WallPlannerModel" "WallPlannerModel" "talkWay" "[I") ∈ TBL := tb_4 16 rfl rfl
theorem tw_571 : (Jvm.Cond.laysFinal "WallPlannerModel" "WallPlannerModel" "talkDay" "[I") ∈ TBL := tb_4 18 rfl rfl
theorem tw_572 : (Jvm.Cond.laysFinal "WallPlannerModel" "WallPlannerModel" "talkCount" "[I") ∈ TBL := tb_4 20 rfl rfl
theorem tw_573 : (Jvm.Cond.laysFinal "WallPlannerModel" "WallPlannerModel" "isMust" "[Z") ∈ TBL := tb_4 22 rfl rfl
theorem tw_574 : (Jvm.Cond.laysFinal "WallPlannerModel" "WallPlannerModel" "isBarred" "[Z") ∈ TBL := tb_4 24 rfl rfl
theorem tw_575 : (Jvm.Cond.lays "WallPlannerModel" "WallPlannerModel" "window" "I") ∈ TBL := tb_4 26 rfl rfl
theorem tw_576 : (Jvm.Cond.lays "WallPlannerModel" "WallPlannerModel" "least" "I") ∈ TBL := tb_4 28 rfl rfl
theorem tw_577 : (Jvm.Cond.lays "WallPlannerModel" "WallPlannerModel" "strict" "Z") ∈ TBL := tb_4 30 rfl rfl
theorem tw_578 : (Jvm.Cond.lays "WallPlannerModel" "WallPlannerModel" "rulePrice" "I") ∈ TBL := tb_4 32 rfl rfl
theorem tw_579 : (Jvm.Cond.lays "WallPlannerModel" "WallPlannerModel" "strayPrice" "I") ∈ TBL := tb_4 34 rfl rfl
theorem tw_580 : (Jvm.Cond.laysFinal "WallPlannerModel" "WallPlannerModel" "isDue" "[Z") ∈ TBL := tb_4 36 rfl rfl
theorem tw_581 : (Jvm.Cond.laysFinal "WallPlannerModel" "WallPlannerModel" "dueWeight" "[I") ∈ TBL := tb_4 38 rfl rfl
theorem tw_582 : (Jvm.Cond.laysFinal "WallPlannerModel" "WallPlannerModel" "wasDue" "[Z") ∈ TBL := tb_4 40 rfl rfl
theorem tw_583 : (Jvm.Cond.laysFinal "WallPlannerModel" "WallPlannerModel" "wasWeight" "[I") ∈ TBL := tb_4 42 rfl rfl
theorem tw_584 : (Jvm.Cond.lays "WallPlannerModel" "WallPlannerModel" "hasPlan" "Z") ∈ TBL := tb_4 44 rfl rfl
theorem tw_585 : (Jvm.Cond.lays "WallPlannerModel" "WallPlannerModel" "planCost" "I") ∈ TBL := tb_4 46 rfl rfl
theorem tw_586 : (Jvm.Cond.lays "WallPlannerModel" "WallPlannerModel" "planStrays" "I") ∈ TBL := tb_4 48 rfl rfl
theorem tw_587 : (Jvm.Cond.laysFinal "WallPlannerModel" "WallPlannerModel" "tried" "[I") ∈ TBL := tb_4 50 rfl rfl
theorem tw_588 : (Jvm.Cond.laysFinal "WallPlannerModel" "WallPlannerModel" "best" "[I") ∈ TBL := tb_4 52 rfl rfl
theorem tw_589 : (Jvm.Cond.laysFinal "WallPlannerModel" "WallPlannerModel" "isRule" "[Z") ∈ TBL := tb_4 54 rfl rfl
theorem tw_590 : (Jvm.Cond.laysFinal "WallPlannerModel" "WallPlannerModel" "wasRule" "[Z") ∈ TBL := tb_4 56 rfl rfl
theorem tw_591 : (Jvm.Cond.lays "WallPlannerModel" "WallPlannerModel" "triedStrays" "I") ∈ TBL := tb_4 58 rfl rfl
theorem tw_592 : (Jvm.Cond.laysFinal "WallPlannerModel" "WallPlannerModel" "isShut" "[Z") ∈ TBL := tb_4 60 rfl rfl
theorem tw_593 : (Jvm.Cond.lays "WallPlannerModel" "WallPlannerModel" "spreadAt" "I") ∈ TBL := tb_4 62 rfl rfl
theorem tw_594 : (Jvm.Cond.laysFinal "WallPlannerModel" "WallPlannerModel" "free" "[I") ∈ TBL := tb_4 64 rfl rfl
theorem tw_595 : (Jvm.Cond.laysFinal "WallPlannerModel" "WallPlannerModel" "freePrice" "[I") ∈ TBL := tb_4 66 rfl rfl
theorem tw_596 : (Jvm.Cond.laysFinal "WallPlannerModel" "WallPlannerModel" "freeNumber" "[I") ∈ TBL := tb_4 68 rfl rfl
theorem tw_597 : (Jvm.Cond.lays "WallPlannerModel" "WallPlannerModel" "shutSet" "I") ∈ TBL := tb_4 70 rfl rfl
theorem tw_598 : (Jvm.Cond.laysFinal "WallPlannerModel" "WallPlannerModel" "shutNumber" "[I") ∈ TBL := tb_4 72 rfl rfl
theorem tw_599 : (Jvm.Cond.lays "WallPlannerModel" "WallPlannerModel" "shutMany" "I") ∈ TBL := tb_4 74 rfl rfl
theorem tw_600 : (Jvm.Cond.laysFinal "WallPlannerModel" "WallPlannerModel" "oddWay" "[I") ∈ TBL := tb_4 76 rfl rfl
theorem tw_601 : (Jvm.Cond.laysFinal "WallPlannerModel" "WallPlannerModel" "oddCount" "[I") ∈ TBL := tb_4 78 rfl rfl
theorem tw_602 : (Jvm.Cond.laysFinal "WallPlannerModel" "WallPlannerModel" "oddNear" "[I") ∈ TBL := tb_4 80 rfl rfl
theorem tw_603 : (Jvm.Cond.lays "WallPlannerModel" "WallPlannerModel" "oddMany" "I") ∈ TBL := tb_4 82 rfl rfl
theorem tw_604 : (Jvm.Cond.arrayClass Jvm.ClassFile.FieldType.boolean) ∈ TBL := tb_4 85 rfl rfl
theorem tw_605 : (Jvm.Cond.methodLink "WallPlannerLaw" (17 : Nat) ({ cls := "WallPlannerModel", name := "host", desc := "(I)I" } : Jvm.MethodName)) ∈ TBL := tb_4 86 rfl rfl
theorem tw_606 : (Jvm.Cond.instanceMethod ({ cls := "WallPlannerModel", name := "host", desc := "(I)I" } : Jvm.MethodName)) ∈ TBL := tb_4 87 rfl rfl
theorem tw_607 : (Jvm.Cond.selects "WallPlannerModel" ({ cls := "WallPlannerModel", name := "host", desc := "(I)I" } : Jvm.MethodName) ({ cls := "WallPlannerModel", name := "host", desc := "(I)I" } : Jvm.MethodName)) ∈ TBL := tb_4 88 rfl rfl
theorem tw_608 : (Jvm.Cond.code ({ cls := "WallPlannerModel", name := "host", desc := "(I)I" } : Jvm.MethodName) prog_13_method_6_code (2 : Nat) (Option.some Jvm.ClassFile.FieldType.int)) ∈ TBL := tb_4 89 rfl rfl
theorem tw_609 : (Jvm.Cond.methodLink "WallPlannerLaw" (22 : Nat) ({ cls := "WallPlannerModel", name := "talk", desc := "(IIIII)I" } : Jvm.MethodName)) ∈ TBL := tb_4 90 rfl rfl
theorem tw_610 : (Jvm.Cond.instanceMethod ({ cls := "WallPlannerModel", name := "talk", desc := "(IIIII)I" } : Jvm.MethodName)) ∈ TBL := tb_4 91 rfl rfl
theorem tw_611 : (Jvm.Cond.selects "WallPlannerModel" ({ cls := "WallPlannerModel", name := "talk", desc := "(IIIII)I" } : Jvm.MethodName) ({ cls := "WallPlannerModel", name := "talk", desc := "(IIIII)I" } : Jvm.MethodName)) ∈ TBL := tb_4 92 rfl rfl
theorem tw_612 : (Jvm.Cond.code ({ cls := "WallPlannerModel", name := "talk", desc := "(IIIII)I" } : Jvm.MethodName) prog_13_method_7_code (7 : Nat) (Option.some Jvm.ClassFile.FieldType.int)) ∈ TBL := tb_4 93 rfl rfl
theorem tw_613 : (Jvm.Cond.methodLink "WallPlannerModel" (103 : Nat) ({ cls := "WallPlannerModel", name := "way", desc := "(III)I" } : Jvm.MethodName)) ∈ TBL := tb_4 94 rfl rfl
theorem tw_614 : (Jvm.Cond.instanceMethod ({ cls := "WallPlannerModel", name := "way", desc := "(III)I" } : Jvm.MethodName)) ∈ TBL := tb_4 96 rfl rfl
theorem tw_615 : (Jvm.Cond.code ({ cls := "WallPlannerModel", name := "way", desc := "(III)I" } : Jvm.MethodName) prog_13_method_4_code (4 : Nat) (Option.some Jvm.ClassFile.FieldType.int)) ∈ TBL := tb_4 97 rfl rfl
theorem tw_616 : (Jvm.Cond.methodLink "WallPlannerModel" (99 : Nat) ({ cls := "WallPlannerModel", name := "isHost", desc := "(I)Z" } : Jvm.MethodName)) ∈ TBL := tb_4 98 rfl rfl
theorem tw_617 : (Jvm.Cond.instanceMethod ({ cls := "WallPlannerModel", name := "isHost", desc := "(I)Z" } : Jvm.MethodName)) ∈ TBL := tb_4 100 rfl rfl
theorem tw_618 : (Jvm.Cond.code ({ cls := "WallPlannerModel", name := "isHost", desc := "(I)Z" } : Jvm.MethodName) prog_13_method_3_code (2 : Nat) (Option.some Jvm.ClassFile.FieldType.boolean)) ∈ TBL := tb_4 101 rfl rfl
theorem tw_619 : (Jvm.Cond.methodLink "WallPlannerModel" (107 : Nat) ({ cls := "WallPlannerModel", name := "isDay", desc := "(I)Z" } : Jvm.MethodName)) ∈ TBL := tb_4 102 rfl rfl
theorem tw_620 : (Jvm.Cond.static ({ cls := "WallPlannerModel", name := "isDay", desc := "(I)Z" } : Jvm.MethodName)) ∈ TBL := tb_4 103 rfl rfl
theorem tw_621 : (Jvm.Cond.code ({ cls := "WallPlannerModel", name := "isDay", desc := "(I)Z" } : Jvm.MethodName) prog_13_method_5_code (1 : Nat) (Option.some Jvm.ClassFile.FieldType.boolean)) ∈ TBL := tb_4 104 rfl rfl
theorem tw_622 : (Jvm.Cond.methodLink "WallPlannerLaw" (27 : Nat) ({ cls := "WallPlannerModel", name := "must", desc := "(IIIZ)Z" } : Jvm.MethodName)) ∈ TBL := tb_4 105 rfl rfl
theorem tw_623 : (Jvm.Cond.instanceMethod ({ cls := "WallPlannerModel", name := "must", desc := "(IIIZ)Z" } : Jvm.MethodName)) ∈ TBL := tb_4 106 rfl rfl
theorem tw_624 : (Jvm.Cond.selects "WallPlannerModel" ({ cls := "WallPlannerModel", name := "must", desc := "(IIIZ)Z" } : Jvm.MethodName) ({ cls := "WallPlannerModel", name := "must", desc := "(IIIZ)Z" } : Jvm.MethodName)) ∈ TBL := tb_4 107 rfl rfl
theorem tw_625 : (Jvm.Cond.code ({ cls := "WallPlannerModel", name := "must", desc := "(IIIZ)Z" } : Jvm.MethodName) prog_13_method_8_code (6 : Nat) (Option.some Jvm.ClassFile.FieldType.boolean)) ∈ TBL := tb_4 108 rfl rfl
theorem tw_626 : (Jvm.Cond.methodLink "WallPlannerLaw" (31 : Nat) ({ cls := "WallPlannerModel", name := "bar", desc := "(IIIZ)Z" } : Jvm.MethodName)) ∈ TBL := tb_4 109 rfl rfl
theorem tw_627 : (Jvm.Cond.instanceMethod ({ cls := "WallPlannerModel", name := "bar", desc := "(IIIZ)Z" } : Jvm.MethodName)) ∈ TBL := tb_4 110 rfl rfl
theorem tw_628 : (Jvm.Cond.selects "WallPlannerModel" ({ cls := "WallPlannerModel", name := "bar", desc := "(IIIZ)Z" } : Jvm.MethodName) ({ cls := "WallPlannerModel", name := "bar", desc := "(IIIZ)Z" } : Jvm.MethodName)) ∈ TBL := tb_4 111 rfl rfl
theorem tw_629 : (Jvm.Cond.code ({ cls := "WallPlannerModel", name := "bar", desc := "(IIIZ)Z" } : Jvm.MethodName) prog_13_method_9_code (6 : Nat) (Option.some Jvm.ClassFile.FieldType.boolean)) ∈ TBL := tb_4 112 rfl rfl
theorem tw_630 : (Jvm.Cond.methodLink "WallPlannerLaw" (36 : Nat) ({ cls := "WallPlannerModel", name := "law", desc := "(IIZ)Z" } : Jvm.MethodName)) ∈ TBL := tb_4 113 rfl rfl
theorem tw_631 : (Jvm.Cond.instanceMethod ({ cls := "WallPlannerModel", name := "law", desc := "(IIZ)Z" } : Jvm.MethodName)) ∈ TBL := tb_4 114 rfl rfl
theorem tw_632 : (Jvm.Cond.selects "WallPlannerModel" ({ cls := "WallPlannerModel", name := "law", desc := "(IIZ)Z" } : Jvm.MethodName) ({ cls := "WallPlannerModel", name := "law", desc := "(IIZ)Z" } : Jvm.MethodName)) ∈ TBL := tb_4 115 rfl rfl
theorem tw_633 : (Jvm.Cond.code ({ cls := "WallPlannerModel", name := "law", desc := "(IIZ)Z" } : Jvm.MethodName) prog_13_method_10_code (4 : Nat) (Option.some Jvm.ClassFile.FieldType.boolean)) ∈ TBL := tb_4 116 rfl rfl
theorem tw_634 : (Jvm.Cond.methodLink "WallPlannerLaw" (41 : Nat) ({ cls := "WallPlannerModel", name := "prices", desc := "(II)Z" } : Jvm.MethodName)) ∈ TBL := tb_4 117 rfl rfl
theorem tw_635 : (Jvm.Cond.instanceMethod ({ cls := "WallPlannerModel", name := "prices", desc := "(II)Z" } : Jvm.MethodName)) ∈ TBL := tb_4 118 rfl rfl
theorem tw_636 : (Jvm.Cond.selects "WallPlannerModel" ({ cls := "WallPlannerModel", name := "prices", desc := "(II)Z" } : Jvm.MethodName) ({ cls := "WallPlannerModel", name := "prices", desc := "(II)Z" } : Jvm.MethodName)) ∈ TBL := tb_4 119 rfl rfl
theorem tw_637 : (Jvm.Cond.code ({ cls := "WallPlannerModel", name := "prices", desc := "(II)Z" } : Jvm.MethodName) prog_13_method_11_code (3 : Nat) (Option.some Jvm.ClassFile.FieldType.boolean)) ∈ TBL := tb_4 120 rfl rfl
theorem tw_638 : (Jvm.Cond.methodLink "WallPlannerLaw" (46 : Nat) ({ cls := "WallPlannerModel", name := "weight", desc := "(IIII)I" } : Jvm.MethodName)) ∈ TBL := tb_4 121 rfl rfl
theorem tw_639 : (Jvm.Cond.instanceMethod ({ cls := "WallPlannerModel", name := "weight", desc := "(IIII)I" } : Jvm.MethodName)) ∈ TBL := tb_4 122 rfl rfl
theorem tw_640 : (Jvm.Cond.selects "WallPlannerModel" ({ cls := "WallPlannerModel", name := "weight", desc := "(IIII)I" } : Jvm.MethodName) ({ cls := "WallPlannerModel", name := "weight", desc := "(IIII)I" } : Jvm.MethodName)) ∈ TBL := tb_4 123 rfl rfl
theorem tw_641 : (Jvm.Cond.code ({ cls := "WallPlannerModel", name := "weight", desc := "(IIII)I" } : Jvm.MethodName) prog_13_method_14_code (6 : Nat) (Option.some Jvm.ClassFile.FieldType.int)) ∈ TBL := tb_4 124 rfl rfl
theorem tw_642 : (Jvm.Cond.methodLink "WallPlannerModel" (117 : Nat) ({ cls := "WallPlannerModel", name := "weightOf", desc := "(II)I" } : Jvm.MethodName)) ∈ TBL := tb_4 125 rfl rfl
theorem tw_643 : (Jvm.Cond.instanceMethod ({ cls := "WallPlannerModel", name := "weightOf", desc := "(II)I" } : Jvm.MethodName)) ∈ TBL := tb_4 127 rfl rfl
theorem tw_644 : (Jvm.Cond.code ({ cls := "WallPlannerModel", name := "weightOf", desc := "(II)I" } : Jvm.MethodName) prog_13_method_12_code (5 : Nat) (Option.some Jvm.ClassFile.FieldType.int)) ∈ TBL := tb_4 128 rfl rfl
theorem tw_645 : (Jvm.Cond.methodLink "WallPlannerLaw" (50 : Nat) ({ cls := "WallPlannerModel", name := "needed", desc := "(IIII)I" } : Jvm.MethodName)) ∈ TBL := tb_4 129 rfl rfl
theorem tw_646 : (Jvm.Cond.instanceMethod ({ cls := "WallPlannerModel", name := "needed", desc := "(IIII)I" } : Jvm.MethodName)) ∈ TBL := tb_4 130 rfl rfl
theorem tw_647 : (Jvm.Cond.selects "WallPlannerModel" ({ cls := "WallPlannerModel", name := "needed", desc := "(IIII)I" } : Jvm.MethodName) ({ cls := "WallPlannerModel", name := "needed", desc := "(IIII)I" } : Jvm.MethodName)) ∈ TBL := tb_4 131 rfl rfl
theorem tw_648 : (Jvm.Cond.code ({ cls := "WallPlannerModel", name := "needed", desc := "(IIII)I" } : Jvm.MethodName) prog_13_method_15_code (6 : Nat) (Option.some Jvm.ClassFile.FieldType.int)) ∈ TBL := tb_4 132 rfl rfl
theorem tw_649 : (Jvm.Cond.methodLink "WallPlannerModel" (121 : Nat) ({ cls := "WallPlannerModel", name := "isNeeded", desc := "(II)Z" } : Jvm.MethodName)) ∈ TBL := tb_4 133 rfl rfl
theorem tw_650 : (Jvm.Cond.instanceMethod ({ cls := "WallPlannerModel", name := "isNeeded", desc := "(II)Z" } : Jvm.MethodName)) ∈ TBL := tb_4 135 rfl rfl
theorem tw_651 : (Jvm.Cond.code ({ cls := "WallPlannerModel", name := "isNeeded", desc := "(II)Z" } : Jvm.MethodName) prog_13_method_13_code (3 : Nat) (Option.some Jvm.ClassFile.FieldType.boolean)) ∈ TBL := tb_4 136 rfl rfl
theorem tw_652 : (Jvm.Cond.methodLink "WallPlannerLaw" (54 : Nat) ({ cls := "WallPlannerModel", name := "plan", desc := "(I)I" } : Jvm.MethodName)) ∈ TBL := tb_4 137 rfl rfl
theorem tw_653 : (Jvm.Cond.instanceMethod ({ cls := "WallPlannerModel", name := "plan", desc := "(I)I" } : Jvm.MethodName)) ∈ TBL := tb_4 138 rfl rfl
theorem tw_654 : (Jvm.Cond.selects "WallPlannerModel" ({ cls := "WallPlannerModel", name := "plan", desc := "(I)I" } : Jvm.MethodName) ({ cls := "WallPlannerModel", name := "plan", desc := "(I)I" } : Jvm.MethodName)) ∈ TBL := tb_4 139 rfl rfl
theorem tw_655 : (Jvm.Cond.code ({ cls := "WallPlannerModel", name := "plan", desc := "(I)I" } : Jvm.MethodName) prog_13_method_23_code (6 : Nat) (Option.some Jvm.ClassFile.FieldType.int)) ∈ TBL := tb_4 140 rfl rfl
theorem tw_656 : (Jvm.Cond.methodLink "WallPlannerModel" (149 : Nat) ({ cls := "WallPlannerModel", name := "dues", desc := "(I)V" } : Jvm.MethodName)) ∈ TBL := tb_4 141 rfl rfl
theorem tw_657 : (Jvm.Cond.instanceMethod ({ cls := "WallPlannerModel", name := "dues", desc := "(I)V" } : Jvm.MethodName)) ∈ TBL := tb_4 143 rfl rfl
theorem tw_658 : (Jvm.Cond.code ({ cls := "WallPlannerModel", name := "dues", desc := "(I)V" } : Jvm.MethodName) prog_13_method_16_code (4 : Nat) (Option.none : Option Jvm.ClassFile.FieldType)) ∈ TBL := tb_4 144 rfl rfl
theorem tw_659 : (Jvm.Cond.methodLink "WallPlannerModel" (153 : Nat) ({ cls := "WallPlannerModel", name := "mixes", desc := "()Z" } : Jvm.MethodName)) ∈ TBL := tb_4 145 rfl rfl
theorem tw_660 : (Jvm.Cond.instanceMethod ({ cls := "WallPlannerModel", name := "mixes", desc := "()Z" } : Jvm.MethodName)) ∈ TBL := tb_4 147 rfl rfl
theorem tw_661 : (Jvm.Cond.code ({ cls := "WallPlannerModel", name := "mixes", desc := "()Z" } : Jvm.MethodName) prog_13_method_20_code (3 : Nat) (Option.some Jvm.ClassFile.FieldType.boolean)) ∈ TBL := tb_4 148 rfl rfl
theorem tw_662 : (Jvm.Cond.methodLink "WallPlannerModel" (157 : Nat) ({ cls := "WallPlannerModel", name := "costs", desc := "()I" } : Jvm.MethodName)) ∈ TBL := tb_4 149 rfl rfl
theorem tw_663 : (Jvm.Cond.instanceMethod ({ cls := "WallPlannerModel", name := "costs", desc := "()I" } : Jvm.MethodName)) ∈ TBL := tb_4 151 rfl rfl
theorem tw_664 : (Jvm.Cond.code ({ cls := "WallPlannerModel", name := "costs", desc := "()I" } : Jvm.MethodName) prog_13_method_19_code (4 : Nat) (Option.some Jvm.ClassFile.FieldType.int)) ∈ TBL := tb_4 152 rfl rfl
theorem tw_665 : (Jvm.Cond.methodLink "WallPlannerModel" (125 : Nat) ({ cls := "WallPlannerModel", name := "isTried", desc := "(I)Z" } : Jvm.MethodName)) ∈ TBL := tb_4 153 rfl rfl
theorem tw_666 : (Jvm.Cond.instanceMethod ({ cls := "WallPlannerModel", name := "isTried", desc := "(I)Z" } : Jvm.MethodName)) ∈ TBL := tb_4 155 rfl rfl
theorem tw_667 : (Jvm.Cond.code ({ cls := "WallPlannerModel", name := "isTried", desc := "(I)Z" } : Jvm.MethodName) prog_13_method_18_code (2 : Nat) (Option.some Jvm.ClassFile.FieldType.boolean)) ∈ TBL := tb_4 156 rfl rfl
theorem tw_668 : (Jvm.Cond.methodLink "WallPlannerModel" (128 : Nat) ({ cls := "WallPlannerModel", name := "between", desc := "(I)I" } : Jvm.MethodName)) ∈ TBL := tb_4 157 rfl rfl
theorem tw_669 : (Jvm.Cond.instanceMethod ({ cls := "WallPlannerModel", name := "between", desc := "(I)I" } : Jvm.MethodName)) ∈ TBL := tb_4 159 rfl rfl
theorem tw_670 : (Jvm.Cond.code ({ cls := "WallPlannerModel", name := "between", desc := "(I)I" } : Jvm.MethodName) prog_13_method_17_code (2 : Nat) (Option.some Jvm.ClassFile.FieldType.int)) ∈ TBL := tb_4 160 rfl rfl
theorem tw_671 : (Jvm.Cond.methodLink "WallPlannerModel" (161 : Nat) ({ cls := "WallPlannerModel", name := "goesOn", desc := "()Z" } : Jvm.MethodName)) ∈ TBL := tb_4 161 rfl rfl
theorem tw_672 : (Jvm.Cond.instanceMethod ({ cls := "WallPlannerModel", name := "goesOn", desc := "()Z" } : Jvm.MethodName)) ∈ TBL := tb_4 163 rfl rfl
theorem tw_673 : (Jvm.Cond.code ({ cls := "WallPlannerModel", name := "goesOn", desc := "()Z" } : Jvm.MethodName) prog_13_method_21_code (4 : Nat) (Option.some Jvm.ClassFile.FieldType.boolean)) ∈ TBL := tb_4 164 rfl rfl
theorem tw_674 : (Jvm.Cond.methodLink "WallPlannerModel" (135 : Nat) ({ cls := "java/lang/Math", name := "max", desc := "(II)I" } : Jvm.MethodName)) ∈ TBL := tb_4 165 rfl rfl
theorem tw_675 : (Jvm.Cond.methodLink "WallPlannerModel" (164 : Nat) ({ cls := "WallPlannerModel", name := "comes", desc := "(I)V" } : Jvm.MethodName)) ∈ TBL := tb_4 166 rfl rfl
theorem tw_676 : (Jvm.Cond.instanceMethod ({ cls := "WallPlannerModel", name := "comes", desc := "(I)V" } : Jvm.MethodName)) ∈ TBL := tb_4 168 rfl rfl
theorem tw_677 : (Jvm.Cond.code ({ cls := "WallPlannerModel", name := "comes", desc := "(I)V" } : Jvm.MethodName) prog_13_method_22_code (3 : Nat) (Option.none : Option Jvm.ClassFile.FieldType)) ∈ TBL := tb_4 169 rfl rfl
theorem tw_678 : (Jvm.Cond.methodLink "WallPlannerLaw" (58 : Nat) ({ cls := "WallPlannerModel", name := "room", desc := "(I)I" } : Jvm.MethodName)) ∈ TBL := tb_4 170 rfl rfl
theorem tw_679 : (Jvm.Cond.instanceMethod ({ cls := "WallPlannerModel", name := "room", desc := "(I)I" } : Jvm.MethodName)) ∈ TBL := tb_4 171 rfl rfl
theorem tw_680 : (Jvm.Cond.selects "WallPlannerModel" ({ cls := "WallPlannerModel", name := "room", desc := "(I)I" } : Jvm.MethodName) ({ cls := "WallPlannerModel", name := "room", desc := "(I)I" } : Jvm.MethodName)) ∈ TBL := tb_4 172 rfl rfl
theorem tw_681 : (Jvm.Cond.code ({ cls := "WallPlannerModel", name := "room", desc := "(I)I" } : Jvm.MethodName) prog_13_method_24_code (2 : Nat) (Option.some Jvm.ClassFile.FieldType.int)) ∈ TBL := tb_4 173 rfl rfl
theorem tw_682 : (Jvm.Cond.methodLink "WallPlannerLaw" (63 : Nat) ({ cls := "WallPlannerModel", name := "rule", desc := "(II)I" } : Jvm.MethodName)) ∈ TBL := tb_4 174 rfl rfl
theorem tw_683 : (Jvm.Cond.instanceMethod ({ cls := "WallPlannerModel", name := "rule", desc := "(II)I" } : Jvm.MethodName)) ∈ TBL := tb_4 175 rfl rfl
theorem tw_684 : (Jvm.Cond.selects "WallPlannerModel" ({ cls := "WallPlannerModel", name := "rule", desc := "(II)I" } : Jvm.MethodName) ({ cls := "WallPlannerModel", name := "rule", desc := "(II)I" } : Jvm.MethodName)) ∈ TBL := tb_4 176 rfl rfl
theorem tw_685 : (Jvm.Cond.code ({ cls := "WallPlannerModel", name := "rule", desc := "(II)I" } : Jvm.MethodName) prog_13_method_29_code (7 : Nat) (Option.some Jvm.ClassFile.FieldType.int)) ∈ TBL := tb_4 177 rfl rfl
theorem tw_686 : (Jvm.Cond.methodLink "WallPlannerModel" (170 : Nat) ({ cls := "WallPlannerModel", name := "ruleAt", desc := "(I)I" } : Jvm.MethodName)) ∈ TBL := tb_4 178 rfl rfl
theorem tw_687 : (Jvm.Cond.instanceMethod ({ cls := "WallPlannerModel", name := "ruleAt", desc := "(I)I" } : Jvm.MethodName)) ∈ TBL := tb_4 180 rfl rfl
theorem tw_688 : (Jvm.Cond.code ({ cls := "WallPlannerModel", name := "ruleAt", desc := "(I)I" } : Jvm.MethodName) prog_13_method_26_code (4 : Nat) (Option.some Jvm.ClassFile.FieldType.int)) ∈ TBL := tb_4 181 rfl rfl
theorem tw_689 : (Jvm.Cond.methodLink "WallPlannerModel" (167 : Nat) ({ cls := "WallPlannerModel", name := "isBy", desc := "(II)Z" } : Jvm.MethodName)) ∈ TBL := tb_4 182 rfl rfl
theorem tw_690 : (Jvm.Cond.instanceMethod ({ cls := "WallPlannerModel", name := "isBy", desc := "(II)Z" } : Jvm.MethodName)) ∈ TBL := tb_4 184 rfl rfl
theorem tw_691 : (Jvm.Cond.code ({ cls := "WallPlannerModel", name := "isBy", desc := "(II)Z" } : Jvm.MethodName) prog_13_method_27_code (5 : Nat) (Option.some Jvm.ClassFile.FieldType.boolean)) ∈ TBL := tb_4 185 rfl rfl
theorem tw_692 : (Jvm.Cond.methodLink "WallPlannerModel" (173 : Nat) ({ cls := "WallPlannerModel", name := "canShut", desc := "(I)Z" } : Jvm.MethodName)) ∈ TBL := tb_4 186 rfl rfl
theorem tw_693 : (Jvm.Cond.instanceMethod ({ cls := "WallPlannerModel", name := "canShut", desc := "(I)Z" } : Jvm.MethodName)) ∈ TBL := tb_4 188 rfl rfl
theorem tw_694 : (Jvm.Cond.code ({ cls := "WallPlannerModel", name := "canShut", desc := "(I)Z" } : Jvm.MethodName) prog_13_method_28_code (3 : Nat) (Option.some Jvm.ClassFile.FieldType.boolean)) ∈ TBL := tb_4 189 rfl rfl
theorem tw_695 : (Jvm.Cond.methodLink "WallPlannerLaw" (68 : Nat) ({ cls := "WallPlannerModel", name := "lets", desc := "(III)I" } : Jvm.MethodName)) ∈ TBL := tb_4 190 rfl rfl
theorem tw_696 : (Jvm.Cond.instanceMethod ({ cls := "WallPlannerModel", name := "lets", desc := "(III)I" } : Jvm.MethodName)) ∈ TBL := tb_4 191 rfl rfl
theorem tw_697 : (Jvm.Cond.selects "WallPlannerModel" ({ cls := "WallPlannerModel", name := "lets", desc := "(III)I" } : Jvm.MethodName) ({ cls := "WallPlannerModel", name := "lets", desc := "(III)I" } : Jvm.MethodName)) ∈ TBL := tb_4 192 rfl rfl
theorem tw_698 : (Jvm.Cond.code ({ cls := "WallPlannerModel", name := "lets", desc := "(III)I" } : Jvm.MethodName) prog_13_method_31_code (5 : Nat) (Option.some Jvm.ClassFile.FieldType.int)) ∈ TBL := tb_4 193 rfl rfl
theorem tw_699 : (Jvm.Cond.methodLink "WallPlannerModel" (176 : Nat) ({ cls := "WallPlannerModel", name := "letsBy", desc := "(I)I" } : Jvm.MethodName)) ∈ TBL := tb_4 194 rfl rfl
theorem tw_700 : (Jvm.Cond.instanceMethod ({ cls := "WallPlannerModel", name := "letsBy", desc := "(I)I" } : Jvm.MethodName)) ∈ TBL := tb_4 196 rfl rfl
theorem tw_701 : (Jvm.Cond.code ({ cls := "WallPlannerModel", name := "letsBy", desc := "(I)I" } : Jvm.MethodName) prog_13_method_30_code (4 : Nat) (Option.some Jvm.ClassFile.FieldType.int)) ∈ TBL := tb_4 197 rfl rfl
theorem tw_702 : (Jvm.Cond.methodLink "WallPlannerLaw" (72 : Nat) ({ cls := "WallPlannerModel", name := "reach", desc := "(I)I" } : Jvm.MethodName)) ∈ TBL := tb_4 198 rfl rfl
theorem tw_703 : (Jvm.Cond.instanceMethod ({ cls := "WallPlannerModel", name := "reach", desc := "(I)I" } : Jvm.MethodName)) ∈ TBL := tb_4 199 rfl rfl
theorem tw_704 : (Jvm.Cond.selects "WallPlannerModel" ({ cls := "WallPlannerModel", name := "reach", desc := "(I)I" } : Jvm.MethodName) ({ cls := "WallPlannerModel", name := "reach", desc := "(I)I" } : Jvm.MethodName)) ∈ TBL := tb_4 200 rfl rfl
theorem tw_705 : (Jvm.Cond.code ({ cls := "WallPlannerModel", name := "reach", desc := "(I)I" } : Jvm.MethodName) prog_13_method_34_code (2 : Nat) (Option.some Jvm.ClassFile.FieldType.int)) ∈ TBL := tb_4 201 rfl rfl
theorem tw_706 : (Jvm.Cond.methodLink "WallPlannerModel" (179 : Nat) ({ cls := "WallPlannerModel", name := "opens", desc := "()V" } : Jvm.MethodName)) ∈ TBL := tb_4 202 rfl rfl
theorem tw_707 : (Jvm.Cond.instanceMethod ({ cls := "WallPlannerModel", name := "opens", desc := "()V" } : Jvm.MethodName)) ∈ TBL := tb_4 204 rfl rfl
theorem tw_708 : (Jvm.Cond.code ({ cls := "WallPlannerModel", name := "opens", desc := "()V" } : Jvm.MethodName) prog_13_method_33_code (2 : Nat) (Option.none : Option Jvm.ClassFile.FieldType)) ∈ TBL := tb_4 205 rfl rfl
theorem tw_709 : (Jvm.Cond.methodLink "WallPlannerModel" (182 : Nat) ({ cls := "WallPlannerModel", name := "reachOf", desc := "(I)I" } : Jvm.MethodName)) ∈ TBL := tb_4 206 rfl rfl
theorem tw_710 : (Jvm.Cond.instanceMethod ({ cls := "WallPlannerModel", name := "reachOf", desc := "(I)I" } : Jvm.MethodName)) ∈ TBL := tb_4 208 rfl rfl
theorem tw_711 : (Jvm.Cond.code ({ cls := "WallPlannerModel", name := "reachOf", desc := "(I)I" } : Jvm.MethodName) prog_13_method_32_code (6 : Nat) (Option.some Jvm.ClassFile.FieldType.int)) ∈ TBL := tb_4 209 rfl rfl
theorem tw_712 : (Jvm.Cond.methodLink "WallPlannerLaw" (76 : Nat) ({ cls := "WallPlannerModel", name := "spread", desc := "(I)I" } : Jvm.MethodName)) ∈ TBL := tb_4 210 rfl rfl
theorem tw_713 : (Jvm.Cond.instanceMethod ({ cls := "WallPlannerModel", name := "spread", desc := "(I)I" } : Jvm.MethodName)) ∈ TBL := tb_4 211 rfl rfl
theorem tw_714 : (Jvm.Cond.selects "WallPlannerModel" ({ cls := "WallPlannerModel", name := "spread", desc := "(I)I" } : Jvm.MethodName) ({ cls := "WallPlannerModel", name := "spread", desc := "(I)I" } : Jvm.MethodName)) ∈ TBL := tb_4 212 rfl rfl
theorem tw_715 : (Jvm.Cond.code ({ cls := "WallPlannerModel", name := "spread", desc := "(I)I" } : Jvm.MethodName) prog_13_method_36_code (3 : Nat) (Option.some Jvm.ClassFile.FieldType.int)) ∈ TBL := tb_4 213 rfl rfl
theorem tw_716 : (Jvm.Cond.methodLink "WallPlannerModel" (188 : Nat) ({ cls := "WallPlannerModel", name := "spreads", desc := "()I" } : Jvm.MethodName)) ∈ TBL := tb_4 214 rfl rfl
theorem tw_717 : (Jvm.Cond.instanceMethod ({ cls := "WallPlannerModel", name := "spreads", desc := "()I" } : Jvm.MethodName)) ∈ TBL := tb_4 216 rfl rfl
theorem tw_718 : (Jvm.Cond.code ({ cls := "WallPlannerModel", name := "spreads", desc := "()I" } : Jvm.MethodName) prog_13_method_35_code (4 : Nat) (Option.some Jvm.ClassFile.FieldType.int)) ∈ TBL := tb_4 217 rfl rfl
theorem tw_719 : (Jvm.Cond.methodLink "WallPlannerLaw" (80 : Nat) ({ cls := "WallPlannerModel", name := "shut", desc := "(I)I" } : Jvm.MethodName)) ∈ TBL := tb_4 218 rfl rfl
theorem tw_720 : (Jvm.Cond.instanceMethod ({ cls := "WallPlannerModel", name := "shut", desc := "(I)I" } : Jvm.MethodName)) ∈ TBL := tb_4 219 rfl rfl
theorem tw_721 : (Jvm.Cond.selects "WallPlannerModel" ({ cls := "WallPlannerModel", name := "shut", desc := "(I)I" } : Jvm.MethodName) ({ cls := "WallPlannerModel", name := "shut", desc := "(I)I" } : Jvm.MethodName)) ∈ TBL := tb_4 220 rfl rfl
theorem tw_722 : (Jvm.Cond.code ({ cls := "WallPlannerModel", name := "shut", desc := "(I)I" } : Jvm.MethodName) prog_13_method_37_code (8 : Nat) (Option.some Jvm.ClassFile.FieldType.int)) ∈ TBL := tb_4 221 rfl rfl
theorem tw_723 : (Jvm.Cond.methodLink "WallPlannerLaw" (84 : Nat) ({ cls := "WallPlannerModel", name := "shutting", desc := "(I)I" } : Jvm.MethodName)) ∈ TBL := tb_4 222 rfl rfl
theorem tw_724 : (Jvm.Cond.instanceMethod ({ cls := "WallPlannerModel", name := "shutting", desc := "(I)I" } : Jvm.MethodName)) ∈ TBL := tb_4 223 rfl rfl
theorem tw_725 : (Jvm.Cond.selects "WallPlannerModel" ({ cls := "WallPlannerModel", name := "shutting", desc := "(I)I" } : Jvm.MethodName) ({ cls := "WallPlannerModel", name := "shutting", desc := "(I)I" } : Jvm.MethodName)) ∈ TBL := tb_4 224 rfl rfl
theorem tw_726 : (Jvm.Cond.code ({ cls := "WallPlannerModel", name := "shutting", desc := "(I)I" } : Jvm.MethodName) prog_13_method_38_code (2 : Nat) (Option.some Jvm.ClassFile.FieldType.int)) ∈ TBL := tb_4 225 rfl rfl
theorem tw_727 : (Jvm.Cond.methodLink "WallPlannerLaw" (88 : Nat) ({ cls := "WallPlannerModel", name := "odd", desc := "(I)I" } : Jvm.MethodName)) ∈ TBL := tb_4 226 rfl rfl
theorem tw_728 : (Jvm.Cond.instanceMethod ({ cls := "WallPlannerModel", name := "odd", desc := "(I)I" } : Jvm.MethodName)) ∈ TBL := tb_4 227 rfl rfl
theorem tw_729 : (Jvm.Cond.selects "WallPlannerModel" ({ cls := "WallPlannerModel", name := "odd", desc := "(I)I" } : Jvm.MethodName) ({ cls := "WallPlannerModel", name := "odd", desc := "(I)I" } : Jvm.MethodName)) ∈ TBL := tb_4 228 rfl rfl
theorem tw_730 : (Jvm.Cond.code ({ cls := "WallPlannerModel", name := "odd", desc := "(I)I" } : Jvm.MethodName) prog_13_method_39_code (5 : Nat) (Option.some Jvm.ClassFile.FieldType.int)) ∈ TBL := tb_4 229 rfl rfl
theorem tw_731 : (Jvm.Cond.methodLink "WallPlannerModel" (200 : Nat) ({ cls := "WallPlannerModel", name := "nearOf", desc := "(I)I" } : Jvm.MethodName)) ∈ TBL := tb_4 230 rfl rfl
theorem tw_732 : (Jvm.Cond.instanceMethod ({ cls := "WallPlannerModel", name := "nearOf", desc := "(I)I" } : Jvm.MethodName)) ∈ TBL := tb_4 232 rfl rfl
theorem tw_733 : (Jvm.Cond.code ({ cls := "WallPlannerModel", name := "nearOf", desc := "(I)I" } : Jvm.MethodName) prog_13_method_40_code (6 : Nat) (Option.some Jvm.ClassFile.FieldType.int)) ∈ TBL := tb_4 233 rfl rfl
theorem tw_734 : (Jvm.Cond.methodLink "WallPlannerLaw" (92 : Nat) ({ cls := "WallPlannerModel", name := "oddTalk", desc := "(II)I" } : Jvm.MethodName)) ∈ TBL := tb_4 234 rfl rfl
theorem tw_735 : (Jvm.Cond.instanceMethod ({ cls := "WallPlannerModel", name := "oddTalk", desc := "(II)I" } : Jvm.MethodName)) ∈ TBL := tb_4 235 rfl rfl
theorem tw_736 : (Jvm.Cond.selects "WallPlannerModel" ({ cls := "WallPlannerModel", name := "oddTalk", desc := "(II)I" } : Jvm.MethodName) ({ cls := "WallPlannerModel", name := "oddTalk", desc := "(II)I" } : Jvm.MethodName)) ∈ TBL := tb_4 236 rfl rfl
theorem tw_737 : (Jvm.Cond.code ({ cls := "WallPlannerModel", name := "oddTalk", desc := "(II)I" } : Jvm.MethodName) prog_13_method_41_code (3 : Nat) (Option.some Jvm.ClassFile.FieldType.int)) ∈ TBL := tb_4 237 rfl rfl
theorem tw_738 : (Jvm.Cond.methodLink "WallPlannerLaw" (96 : Nat) ({ cls := "WallPlannerModel", name := "place", desc := "(II)I" } : Jvm.MethodName)) ∈ TBL := tb_4 238 rfl rfl
theorem tw_739 : (Jvm.Cond.instanceMethod ({ cls := "WallPlannerModel", name := "place", desc := "(II)I" } : Jvm.MethodName)) ∈ TBL := tb_4 239 rfl rfl
theorem tw_740 : (Jvm.Cond.selects "WallPlannerModel" ({ cls := "WallPlannerModel", name := "place", desc := "(II)I" } : Jvm.MethodName) ({ cls := "WallPlannerModel", name := "place", desc := "(II)I" } : Jvm.MethodName)) ∈ TBL := tb_5 0 rfl rfl
theorem tw_741 : (Jvm.Cond.code ({ cls := "WallPlannerModel", name := "place", desc := "(II)I" } : Jvm.MethodName) prog_13_method_42_code (8 : Nat) (Option.some Jvm.ClassFile.FieldType.int)) ∈ TBL := tb_5 1 rfl rfl
theorem tw_742 : (Jvm.Cond.methodLink "WallPlannerModel" (203 : Nat) ({ cls := "WallPlannerModel", name := "roomMany", desc := "()I" } : Jvm.MethodName)) ∈ TBL := tb_5 2 rfl rfl
theorem tw_743 : (Jvm.Cond.instanceMethod ({ cls := "WallPlannerModel", name := "roomMany", desc := "()I" } : Jvm.MethodName)) ∈ TBL := tb_5 4 rfl rfl
theorem tw_744 : (Jvm.Cond.code ({ cls := "WallPlannerModel", name := "roomMany", desc := "()I" } : Jvm.MethodName) prog_13_method_25_code (3 : Nat) (Option.some Jvm.ClassFile.FieldType.int)) ∈ TBL := tb_5 5 rfl rfl
theorem tw_745 : (Jvm.Cond.methodLink "WallPlannerModel" (206 : Nat) ({ cls := "WallPlannerModel", name := "putsIn", desc := "(II)V" } : Jvm.MethodName)) ∈ TBL := tb_5 6 rfl rfl
theorem tw_746 : (Jvm.Cond.instanceMethod ({ cls := "WallPlannerModel", name := "putsIn", desc := "(II)V" } : Jvm.MethodName)) ∈ TBL := tb_5 8 rfl rfl
theorem tw_747 : (Jvm.Cond.code ({ cls := "WallPlannerModel", name := "putsIn", desc := "(II)V" } : Jvm.MethodName) prog_13_method_43_code (4 : Nat) (Option.none : Option Jvm.ClassFile.FieldType)) ∈ TBL := tb_5 9 rfl rfl
theorem tw_748 : (Jvm.Cond.methodLink "WallPlannerModel" (210 : Nat) ({ cls := "WallPlannerModel", name := "isUnlike", desc := "(II)Z" } : Jvm.MethodName)) ∈ TBL := tb_5 10 rfl rfl
theorem tw_749 : (Jvm.Cond.instanceMethod ({ cls := "WallPlannerModel", name := "isUnlike", desc := "(II)Z" } : Jvm.MethodName)) ∈ TBL := tb_5 12 rfl rfl
theorem tw_750 : (Jvm.Cond.code ({ cls := "WallPlannerModel", name := "isUnlike", desc := "(II)Z" } : Jvm.MethodName) prog_13_method_44_code (4 : Nat) (Option.some Jvm.ClassFile.FieldType.boolean)) ∈ TBL := tb_5 13 rfl rfl
theorem tw_751 : (Jvm.Cond.methodLink "WallPlannerLaw" (100 : Nat) ({ cls := "WallPlannerModel", name := "count", desc := "(I)I" } : Jvm.MethodName)) ∈ TBL := tb_5 14 rfl rfl
theorem tw_752 : (Jvm.Cond.instanceMethod ({ cls := "WallPlannerModel", name := "count", desc := "(I)I" } : Jvm.MethodName)) ∈ TBL := tb_5 15 rfl rfl
theorem tw_753 : (Jvm.Cond.selects "WallPlannerModel" ({ cls := "WallPlannerModel", name := "count", desc := "(I)I" } : Jvm.MethodName) ({ cls := "WallPlannerModel", name := "count", desc := "(I)I" } : Jvm.MethodName)) ∈ TBL := tb_5 16 rfl rfl
theorem tw_754 : (Jvm.Cond.code ({ cls := "WallPlannerModel", name := "count", desc := "(I)I" } : Jvm.MethodName) prog_13_method_45_code (4 : Nat) (Option.some Jvm.ClassFile.FieldType.int)) ∈ TBL := tb_5 17 rfl rfl
theorem tw_755 : (Jvm.Cond.selects "WallPlanner$Needs" ({ cls := "WallPlanner$Needs", name := "doorsOf", desc := "(ILWallPlanner$Net;I)I" } : Jvm.MethodName) ({ cls := "WallPlanner$Needs", name := "doorsOf", desc := "(ILWallPlanner$Net;I)I" } : Jvm.MethodName)) ∈ TBL := tb_0 0 rfl rfl
theorem tw_756 : (Jvm.Cond.selects "WallPlanner$Seeker" ({ cls := "WallPlanner$Seeker", name := "isCheaper", desc := "(IILWallPlanner$Net;LWallPlanner$Law;LWallPlanner$Needs;)Z" } : Jvm.MethodName) ({ cls := "WallPlanner$Seeker", name := "isCheaper", desc := "(IILWallPlanner$Net;LWallPlanner$Law;LWallPlanner$Needs;)Z" } : Jvm.MethodName)) ∈ TBL := tb_0 1 rfl rfl
theorem tw_757 : (Jvm.Cond.selects "WallPlanner$Layout" ({ cls := "WallPlanner$Layout", name := "openRooms", desc := "()V" } : Jvm.MethodName) ({ cls := "WallPlanner$Layout", name := "openRooms", desc := "()V" } : Jvm.MethodName)) ∈ TBL := tb_0 2 rfl rfl
theorem tw_758 : (Jvm.Cond.selects "WallPlanner$Layout" ({ cls := "WallPlanner$Layout", name := "openDoorsFrom", desc := "(I[II)V" } : Jvm.MethodName) ({ cls := "WallPlanner$Layout", name := "openDoorsFrom", desc := "(I[II)V" } : Jvm.MethodName)) ∈ TBL := tb_0 3 rfl rfl
theorem tw_759 : (Jvm.Cond.selects "WallPlanner$Layout" ({ cls := "WallPlanner$Layout", name := "countStraysFrom", desc := "(I[I[II)V" } : Jvm.MethodName) ({ cls := "WallPlanner$Layout", name := "countStraysFrom", desc := "(I[I[II)V" } : Jvm.MethodName)) ∈ TBL := tb_0 4 rfl rfl
theorem tw_760 : (Jvm.Cond.selects "WallPlanner$Seeker" ({ cls := "WallPlanner$Seeker", name := "goOn", desc := "(II)I" } : Jvm.MethodName) ({ cls := "WallPlanner$Seeker", name := "goOn", desc := "(II)I" } : Jvm.MethodName)) ∈ TBL := tb_0 5 rfl rfl
theorem tw_761 : (Jvm.Cond.selects "WallPlanner$Seeker" ({ cls := "WallPlanner$Seeker", name := "keepTrial", desc := "()V" } : Jvm.MethodName) ({ cls := "WallPlanner$Seeker", name := "keepTrial", desc := "()V" } : Jvm.MethodName)) ∈ TBL := tb_0 6 rfl rfl
theorem tw_762 : (Jvm.Cond.selects "WallPlanner$Plan" ({ cls := "WallPlanner$Plan", name := "listRules", desc := "()V" } : Jvm.MethodName) ({ cls := "WallPlanner$Plan", name := "listRules", desc := "()V" } : Jvm.MethodName)) ∈ TBL := tb_0 7 rfl rfl
theorem tw_763 : (Jvm.Cond.selects "WallPlanner$Plan" ({ cls := "WallPlanner$Plan", name := "isNeedBy", desc := "(III)Z" } : Jvm.MethodName) ({ cls := "WallPlanner$Plan", name := "isNeedBy", desc := "(III)Z" } : Jvm.MethodName)) ∈ TBL := tb_0 8 rfl rfl
theorem tw_764 : (Jvm.Cond.selects "WallPlanner$Plan" ({ cls := "WallPlanner$Plan", name := "isBy", desc := "(III)Z" } : Jvm.MethodName) ({ cls := "WallPlanner$Plan", name := "isBy", desc := "(III)Z" } : Jvm.MethodName)) ∈ TBL := tb_0 9 rfl rfl
theorem tw_765 : (Jvm.Cond.selects "WallPlanner$Shutter" ({ cls := "WallPlanner$Shutter", name := "gatherCans", desc := "(LWallPlanner$Plan;[I)Z" } : Jvm.MethodName) ({ cls := "WallPlanner$Shutter", name := "gatherCans", desc := "(LWallPlanner$Plan;[I)Z" } : Jvm.MethodName)) ∈ TBL := tb_0 10 rfl rfl
theorem tw_766 : (Jvm.Cond.selects "WallPlanner$Shutter" ({ cls := "WallPlanner$Shutter", name := "widestWithout", desc := "(I)I" } : Jvm.MethodName) ({ cls := "WallPlanner$Shutter", name := "widestWithout", desc := "(I)I" } : Jvm.MethodName)) ∈ TBL := tb_0 11 rfl rfl
theorem tw_767 : (Jvm.Cond.selects "WallPlanner$Shutter" ({ cls := "WallPlanner$Shutter", name := "tollOf", desc := "(I)I" } : Jvm.MethodName) ({ cls := "WallPlanner$Shutter", name := "tollOf", desc := "(I)I" } : Jvm.MethodName)) ∈ TBL := tb_0 12 rfl rfl
theorem tw_768 : (Jvm.Cond.selects "WallPlanner$Shutter" ({ cls := "WallPlanner$Shutter", name := "choose", desc := "(I)V" } : Jvm.MethodName) ({ cls := "WallPlanner$Shutter", name := "choose", desc := "(I)V" } : Jvm.MethodName)) ∈ TBL := tb_0 13 rfl rfl
theorem tw_769 : (Jvm.Cond.selects "WallPlannerModel" ({ cls := "WallPlannerModel", name := "way", desc := "(III)I" } : Jvm.MethodName) ({ cls := "WallPlannerModel", name := "way", desc := "(III)I" } : Jvm.MethodName)) ∈ TBL := tb_0 14 rfl rfl
theorem tw_770 : (Jvm.Cond.selects "WallPlannerModel" ({ cls := "WallPlannerModel", name := "isHost", desc := "(I)Z" } : Jvm.MethodName) ({ cls := "WallPlannerModel", name := "isHost", desc := "(I)Z" } : Jvm.MethodName)) ∈ TBL := tb_0 15 rfl rfl
theorem tw_771 : (Jvm.Cond.selects "WallPlannerModel" ({ cls := "WallPlannerModel", name := "weightOf", desc := "(II)I" } : Jvm.MethodName) ({ cls := "WallPlannerModel", name := "weightOf", desc := "(II)I" } : Jvm.MethodName)) ∈ TBL := tb_0 16 rfl rfl
theorem tw_772 : (Jvm.Cond.selects "WallPlannerModel" ({ cls := "WallPlannerModel", name := "isNeeded", desc := "(II)Z" } : Jvm.MethodName) ({ cls := "WallPlannerModel", name := "isNeeded", desc := "(II)Z" } : Jvm.MethodName)) ∈ TBL := tb_0 17 rfl rfl
theorem tw_773 : (Jvm.Cond.selects "WallPlannerModel" ({ cls := "WallPlannerModel", name := "dues", desc := "(I)V" } : Jvm.MethodName) ({ cls := "WallPlannerModel", name := "dues", desc := "(I)V" } : Jvm.MethodName)) ∈ TBL := tb_0 18 rfl rfl
theorem tw_774 : (Jvm.Cond.selects "WallPlannerModel" ({ cls := "WallPlannerModel", name := "mixes", desc := "()Z" } : Jvm.MethodName) ({ cls := "WallPlannerModel", name := "mixes", desc := "()Z" } : Jvm.MethodName)) ∈ TBL := tb_0 19 rfl rfl
theorem tw_775 : (Jvm.Cond.selects "WallPlannerModel" ({ cls := "WallPlannerModel", name := "costs", desc := "()I" } : Jvm.MethodName) ({ cls := "WallPlannerModel", name := "costs", desc := "()I" } : Jvm.MethodName)) ∈ TBL := tb_0 20 rfl rfl
theorem tw_776 : (Jvm.Cond.selects "WallPlannerModel" ({ cls := "WallPlannerModel", name := "isTried", desc := "(I)Z" } : Jvm.MethodName) ({ cls := "WallPlannerModel", name := "isTried", desc := "(I)Z" } : Jvm.MethodName)) ∈ TBL := tb_0 21 rfl rfl
theorem tw_777 : (Jvm.Cond.selects "WallPlannerModel" ({ cls := "WallPlannerModel", name := "between", desc := "(I)I" } : Jvm.MethodName) ({ cls := "WallPlannerModel", name := "between", desc := "(I)I" } : Jvm.MethodName)) ∈ TBL := tb_0 22 rfl rfl
theorem tw_778 : (Jvm.Cond.selects "WallPlannerModel" ({ cls := "WallPlannerModel", name := "goesOn", desc := "()Z" } : Jvm.MethodName) ({ cls := "WallPlannerModel", name := "goesOn", desc := "()Z" } : Jvm.MethodName)) ∈ TBL := tb_0 23 rfl rfl
theorem tw_779 : (Jvm.Cond.selects "WallPlannerModel" ({ cls := "WallPlannerModel", name := "comes", desc := "(I)V" } : Jvm.MethodName) ({ cls := "WallPlannerModel", name := "comes", desc := "(I)V" } : Jvm.MethodName)) ∈ TBL := tb_0 24 rfl rfl
theorem tw_780 : (Jvm.Cond.selects "WallPlannerModel" ({ cls := "WallPlannerModel", name := "ruleAt", desc := "(I)I" } : Jvm.MethodName) ({ cls := "WallPlannerModel", name := "ruleAt", desc := "(I)I" } : Jvm.MethodName)) ∈ TBL := tb_0 25 rfl rfl
theorem tw_781 : (Jvm.Cond.selects "WallPlannerModel" ({ cls := "WallPlannerModel", name := "isBy", desc := "(II)Z" } : Jvm.MethodName) ({ cls := "WallPlannerModel", name := "isBy", desc := "(II)Z" } : Jvm.MethodName)) ∈ TBL := tb_0 26 rfl rfl
theorem tw_782 : (Jvm.Cond.selects "WallPlannerModel" ({ cls := "WallPlannerModel", name := "canShut", desc := "(I)Z" } : Jvm.MethodName) ({ cls := "WallPlannerModel", name := "canShut", desc := "(I)Z" } : Jvm.MethodName)) ∈ TBL := tb_0 27 rfl rfl
theorem tw_783 : (Jvm.Cond.selects "WallPlannerModel" ({ cls := "WallPlannerModel", name := "letsBy", desc := "(I)I" } : Jvm.MethodName) ({ cls := "WallPlannerModel", name := "letsBy", desc := "(I)I" } : Jvm.MethodName)) ∈ TBL := tb_0 28 rfl rfl
theorem tw_784 : (Jvm.Cond.selects "WallPlannerModel" ({ cls := "WallPlannerModel", name := "opens", desc := "()V" } : Jvm.MethodName) ({ cls := "WallPlannerModel", name := "opens", desc := "()V" } : Jvm.MethodName)) ∈ TBL := tb_0 29 rfl rfl
theorem tw_785 : (Jvm.Cond.selects "WallPlannerModel" ({ cls := "WallPlannerModel", name := "reachOf", desc := "(I)I" } : Jvm.MethodName) ({ cls := "WallPlannerModel", name := "reachOf", desc := "(I)I" } : Jvm.MethodName)) ∈ TBL := tb_0 30 rfl rfl
theorem tw_786 : (Jvm.Cond.selects "WallPlannerModel" ({ cls := "WallPlannerModel", name := "spreads", desc := "()I" } : Jvm.MethodName) ({ cls := "WallPlannerModel", name := "spreads", desc := "()I" } : Jvm.MethodName)) ∈ TBL := tb_0 31 rfl rfl
theorem tw_787 : (Jvm.Cond.selects "WallPlannerModel" ({ cls := "WallPlannerModel", name := "nearOf", desc := "(I)I" } : Jvm.MethodName) ({ cls := "WallPlannerModel", name := "nearOf", desc := "(I)I" } : Jvm.MethodName)) ∈ TBL := tb_0 32 rfl rfl
theorem tw_788 : (Jvm.Cond.selects "WallPlannerModel" ({ cls := "WallPlannerModel", name := "roomMany", desc := "()I" } : Jvm.MethodName) ({ cls := "WallPlannerModel", name := "roomMany", desc := "()I" } : Jvm.MethodName)) ∈ TBL := tb_0 33 rfl rfl
theorem tw_789 : (Jvm.Cond.selects "WallPlannerModel" ({ cls := "WallPlannerModel", name := "putsIn", desc := "(II)V" } : Jvm.MethodName) ({ cls := "WallPlannerModel", name := "putsIn", desc := "(II)V" } : Jvm.MethodName)) ∈ TBL := tb_0 34 rfl rfl
theorem tw_790 : (Jvm.Cond.selects "WallPlannerModel" ({ cls := "WallPlannerModel", name := "isUnlike", desc := "(II)Z" } : Jvm.MethodName) ({ cls := "WallPlannerModel", name := "isUnlike", desc := "(II)Z" } : Jvm.MethodName)) ∈ TBL := tb_0 35 rfl rfl
theorem inT_X0 : ∀ w ∈ u_ws RX0 TX0 4, w ∈ TBL := List.forall_mem_cons.mpr ⟨tw_63, List.forall_mem_cons.mpr ⟨tw_64, List.forall_mem_cons.mpr ⟨tw_65, List.forall_mem_cons.mpr ⟨tw_66, fun _ h => absurd h List.not_mem_nil⟩⟩⟩⟩
theorem inT_X1 : ∀ w ∈ u_ws RX1 TX1 5, w ∈ TBL := List.forall_mem_cons.mpr ⟨tw_49, List.forall_mem_cons.mpr ⟨tw_50, List.forall_mem_cons.mpr ⟨tw_51, List.forall_mem_cons.mpr ⟨tw_52, List.forall_mem_cons.mpr ⟨tw_53, fun _ h => absurd h List.not_mem_nil⟩⟩⟩⟩⟩
theorem inT_X2 : ∀ w ∈ u_ws RX2 TX2 5, w ∈ TBL := List.forall_mem_cons.mpr ⟨tw_86, List.forall_mem_cons.mpr ⟨tw_87, List.forall_mem_cons.mpr ⟨tw_88, List.forall_mem_cons.mpr ⟨tw_89, List.forall_mem_cons.mpr ⟨tw_90, fun _ h => absurd h List.not_mem_nil⟩⟩⟩⟩⟩
theorem inT_X3 : ∀ w ∈ u_ws RX3 TX3 2, w ∈ TBL := List.forall_mem_cons.mpr ⟨tw_98, List.forall_mem_cons.mpr ⟨tw_99, fun _ h => absurd h List.not_mem_nil⟩⟩
theorem inT_X4 : ∀ w ∈ u_ws RX4 TX4 4, w ∈ TBL := List.forall_mem_cons.mpr ⟨tw_34, List.forall_mem_cons.mpr ⟨tw_35, List.forall_mem_cons.mpr ⟨tw_36, List.forall_mem_cons.mpr ⟨tw_37, fun _ h => absurd h List.not_mem_nil⟩⟩⟩⟩
theorem inT_X5 : ∀ w ∈ u_ws RX5 TX5 3, w ∈ TBL := List.forall_mem_cons.mpr ⟨tw_171, List.forall_mem_cons.mpr ⟨tw_172, List.forall_mem_cons.mpr ⟨tw_173, fun _ h => absurd h List.not_mem_nil⟩⟩⟩
theorem inT_X6 : ∀ w ∈ u_ws RX6 TX6 6, w ∈ TBL := List.forall_mem_cons.mpr ⟨tw_106, List.forall_mem_cons.mpr ⟨tw_107, List.forall_mem_cons.mpr ⟨tw_108, List.forall_mem_cons.mpr ⟨tw_109, List.forall_mem_cons.mpr ⟨tw_110, List.forall_mem_cons.mpr ⟨tw_111, fun _ h => absurd h List.not_mem_nil⟩⟩⟩⟩⟩⟩
theorem inT_X7 : ∀ w ∈ u_ws RX7 TX7 5, w ∈ TBL := List.forall_mem_cons.mpr ⟨tw_125, List.forall_mem_cons.mpr ⟨tw_126, List.forall_mem_cons.mpr ⟨tw_127, List.forall_mem_cons.mpr ⟨tw_128, List.forall_mem_cons.mpr ⟨tw_129, fun _ h => absurd h List.not_mem_nil⟩⟩⟩⟩⟩
theorem inT_X8 : ∀ w ∈ u_ws RX8 TX8 8, w ∈ TBL := List.forall_mem_cons.mpr ⟨tw_155, List.forall_mem_cons.mpr ⟨tw_156, List.forall_mem_cons.mpr ⟨tw_157, List.forall_mem_cons.mpr ⟨tw_158, List.forall_mem_cons.mpr ⟨tw_159, List.forall_mem_cons.mpr ⟨tw_160, List.forall_mem_cons.mpr ⟨tw_161, List.forall_mem_cons.mpr ⟨tw_162, fun _ h => absurd h List.not_mem_nil⟩⟩⟩⟩⟩⟩⟩⟩
theorem inT_X9 : ∀ w ∈ u_ws RX9 TX9 3, w ∈ TBL := List.forall_mem_cons.mpr ⟨tw_138, List.forall_mem_cons.mpr ⟨tw_139, List.forall_mem_cons.mpr ⟨tw_140, fun _ h => absurd h List.not_mem_nil⟩⟩⟩
theorem inT_X10 : ∀ w ∈ u_ws RX10 TX10 9, w ∈ TBL := List.forall_mem_cons.mpr ⟨tw_183, List.forall_mem_cons.mpr ⟨tw_184, List.forall_mem_cons.mpr ⟨tw_185, List.forall_mem_cons.mpr ⟨tw_186, List.forall_mem_cons.mpr ⟨tw_187, List.forall_mem_cons.mpr ⟨tw_188, List.forall_mem_cons.mpr ⟨tw_189, List.forall_mem_cons.mpr ⟨tw_190, List.forall_mem_cons.mpr ⟨tw_191, fun _ h => absurd h List.not_mem_nil⟩⟩⟩⟩⟩⟩⟩⟩⟩
theorem inT_X11 : ∀ w ∈ u_ws RX11 TX11 39, w ∈ TBL := List.forall_mem_cons.mpr ⟨tw_565, List.forall_mem_cons.mpr ⟨tw_566, List.forall_mem_cons.mpr ⟨tw_567, List.forall_mem_cons.mpr ⟨tw_568, List.forall_mem_cons.mpr ⟨tw_569, List.forall_mem_cons.mpr ⟨tw_570, List.forall_mem_cons.mpr ⟨tw_571, List.forall_mem_cons.mpr ⟨tw_572, List.forall_mem_cons.mpr ⟨tw_573, List.forall_mem_cons.mpr ⟨tw_574, List.forall_mem_cons.mpr ⟨tw_575, List.forall_mem_cons.mpr ⟨tw_576, List.forall_mem_cons.mpr ⟨tw_577, List.forall_mem_cons.mpr ⟨tw_578, List.forall_mem_cons.mpr ⟨tw_579, List.forall_mem_cons.mpr ⟨tw_580, List.forall_mem_cons.mpr ⟨tw_581, List.forall_mem_cons.mpr ⟨tw_582, List.forall_mem_cons.mpr ⟨tw_583, List.forall_mem_cons.mpr ⟨tw_584, List.forall_mem_cons.mpr ⟨tw_585, List.forall_mem_cons.mpr ⟨tw_586, List.forall_mem_cons.mpr ⟨tw_587, List.forall_mem_cons.mpr ⟨tw_588, List.forall_mem_cons.mpr ⟨tw_589, List.forall_mem_cons.mpr ⟨tw_590, List.forall_mem_cons.mpr ⟨tw_591, List.forall_mem_cons.mpr ⟨tw_592, List.forall_mem_cons.mpr ⟨tw_593, List.forall_mem_cons.mpr ⟨tw_594, List.forall_mem_cons.mpr ⟨tw_595, List.forall_mem_cons.mpr ⟨tw_596, List.forall_mem_cons.mpr ⟨tw_597, List.forall_mem_cons.mpr ⟨tw_598, List.forall_mem_cons.mpr ⟨tw_599, List.forall_mem_cons.mpr ⟨tw_600, List.forall_mem_cons.mpr ⟨tw_601, List.forall_mem_cons.mpr ⟨tw_602, List.forall_mem_cons.mpr ⟨tw_603, fun _ h => absurd h List.not_mem_nil⟩⟩⟩⟩⟩⟩⟩⟩⟩⟩⟩⟩⟩⟩⟩⟩⟩⟩⟩⟩⟩⟩⟩⟩⟩⟩⟩⟩⟩⟩⟩⟩⟩⟩⟩⟩⟩⟩⟩
def nF : List (String × Nat × String × String × String) := [("WallPlanner$Seeker", 90, "WallPlanner$Net", "marks", "[I"), ("WallPlanner", 94, "WallPlanner$Net", "musts", "[I"), ("WallPlanner$Plan", 51, "WallPlanner$Net", "bars", "[I"), ("WallPlanner", 98, "WallPlanner$Net", "bars", "[I"), ("WallPlanner$Seeker", 100, "WallPlanner$Net", "bars", "[I"), ("WallPlanner$Plan", 56, "WallPlanner$Net", "hosts", "I"), ("WallPlanner$Seeker", 58, "WallPlanner$Net", "hosts", "I"), ("WallPlanner", 133, "WallPlanner$Net", "hosts", "I"), ("WallPlanner$Needs", 18, "WallPlanner$Law", "window", "I"), ("WallPlanner", 109, "WallPlanner$Law", "window", "I"), ("WallPlanner$Needs", 30, "WallPlanner$Law", "least", "I"), ("WallPlanner", 113, "WallPlanner$Law", "least", "I"), ("WallPlanner$Seeker", 86, "WallPlanner$Law", "strict", "Z"), ("WallPlanner", 116, "WallPlanner$Law", "strict", "Z"), ("WallPlanner", 120, "WallPlanner$Law", "rulePrice", "I"), ("WallPlanner", 123, "WallPlanner$Law", "strayPrice", "I"), ("WallPlanner$OddList", 25, "WallPlanner$Diary", "wayAt", "[I"), ("WallPlanner", 236, "WallPlanner$Diary", "wayAt", "[I"), ("WallPlanner$OddList", 28, "WallPlanner$Diary", "dayAt", "[I"), ("WallPlanner", 239, "WallPlanner$Diary", "countAt", "[I"), ("WallPlanner$OddList", 22, "WallPlanner$Diary", "size", "I"), ("WallPlanner", 249, "WallPlanner$Diary", "size", "I"), ("WallPlanner$Seeker", 44, "WallPlanner$Layout", "roomOf", "[I"), ("WallPlanner$Spreading", 51, "WallPlanner$Layout", "roomOf", "[I"), ("WallPlanner$Plan", 91, "WallPlanner$Layout", "roomOf", "[I"), ("WallPlanner", 161, "WallPlanner$Layout", "roomOf", "[I"), ("WallPlanner$Plan", 83, "WallPlanner$Layout", "doors", "[I"), ("WallPlanner$Plan", 63, "WallPlanner$Layout", "rules", "I"), ("WallPlanner$Seeker", 107, "WallPlanner$Layout", "rules", "I"), ("WallPlanner$Plan", 64, "WallPlanner$Layout", "strays", "I"), ("WallPlanner$Seeker", 110, "WallPlanner$Layout", "strays", "I"), ("WallPlanner", 253, "WallPlanner$Layout", "strays", "I"), ("WallPlanner$Seeker", 113, "WallPlanner$Layout", "letsBarred", "Z"), ("WallPlanner$Plan", 48, "WallPlanner$Needs", "doors", "[I"), ("WallPlanner$Seeker", 97, "WallPlanner$Needs", "doors", "[I"), ("WallPlanner$Plan", 104, "WallPlanner$Needs", "weights", "[I"), ("WallPlanner$Spreading", 22, "WallPlanner$Plan", "layout", "LWallPlanner$Layout;"), ("WallPlanner$Shutter", 56, "WallPlanner$Plan", "layout", "LWallPlanner$Layout;"), ("WallPlanner$Seeker", 74, "WallPlanner$Plan", "layout", "LWallPlanner$Layout;"), ("WallPlanner", 157, "WallPlanner$Plan", "layout", "LWallPlanner$Layout;"), ("WallPlanner$Spreading", 35, "WallPlanner$Plan", "ruleAt", "[I"), ("WallPlanner$Shutter", 69, "WallPlanner$Plan", "ruleAt", "[I"), ("WallPlanner", 169, "WallPlanner$Plan", "ruleAt", "[I"), ("WallPlanner$Spreading", 32, "WallPlanner$Plan", "rules", "I"), ("WallPlanner$Shutter", 66, "WallPlanner$Plan", "rules", "I"), ("WallPlanner", 166, "WallPlanner$Plan", "rules", "I"), ("WallPlanner", 151, "WallPlanner$Plan", "cost", "I"), ("WallPlanner", 205, "WallPlanner$Plan", "made", "Z"), ("WallPlanner", 144, "WallPlanner$Seeker", "found", "[I"), ("WallPlanner$Shutter", 81, "WallPlanner$Spreading", "next", "[I"), ("WallPlanner", 223, "WallPlanner$Shutter", "chosen", "[I"), ("WallPlanner", 220, "WallPlanner$Shutter", "chosenCount", "I"), ("WallPlanner", 233, "WallPlanner$OddList", "talkAt", "[I"), ("WallPlanner", 242, "WallPlanner$OddList", "nearAt", "[I"), ("WallPlanner", 230, "WallPlanner$OddList", "size", "I")]
def nM : List (String × Nat × MethodName) := [("WallPlanner", 9, ({ cls := "WallPlanner$Net", name := "<init>", desc := "()V" } : Jvm.MethodName)), ("WallPlanner", 18, ({ cls := "WallPlanner$Law", name := "<init>", desc := "()V" } : Jvm.MethodName)), ("WallPlanner", 25, ({ cls := "WallPlanner$Diary", name := "<init>", desc := "()V" } : Jvm.MethodName)), ("WallPlanner", 32, ({ cls := "WallPlanner$Plan", name := "<init>", desc := "()V" } : Jvm.MethodName)), ("WallPlanner$Plan", 20, ({ cls := "WallPlanner$Needs", name := "<init>", desc := "()V" } : Jvm.MethodName)), ("WallPlanner", 39, ({ cls := "WallPlanner$Needs", name := "<init>", desc := "()V" } : Jvm.MethodName)), ("WallPlanner", 46, ({ cls := "WallPlanner$Seeker", name := "<init>", desc := "()V" } : Jvm.MethodName)), ("WallPlanner", 53, ({ cls := "WallPlanner$Spreading", name := "<init>", desc := "()V" } : Jvm.MethodName)), ("WallPlanner", 60, ({ cls := "WallPlanner$Shutter", name := "<init>", desc := "()V" } : Jvm.MethodName)), ("WallPlanner$Shutter", 11, ({ cls := "WallPlanner$Spreading", name := "<init>", desc := "()V" } : Jvm.MethodName)), ("WallPlanner", 67, ({ cls := "WallPlanner$OddList", name := "<init>", desc := "()V" } : Jvm.MethodName)), ("WallPlanner$Net", 25, ({ cls := "WallPlanner", name := "isBetween", desc := "(III)Z" } : Jvm.MethodName)), ("WallPlanner$Net", 33, ({ cls := "WallPlanner", name := "hasDoor", desc := "(II)Z" } : Jvm.MethodName)), ("WallPlanner$Layout", 35, ({ cls := "WallPlanner", name := "pairOf", desc := "(II)I" } : Jvm.MethodName)), ("WallPlanner$Plan", 76, ({ cls := "WallPlanner", name := "firstOf", desc := "(I)I" } : Jvm.MethodName)), ("WallPlanner$Plan", 80, ({ cls := "WallPlanner", name := "secondOf", desc := "(I)I" } : Jvm.MethodName)), ("WallPlanner$Plan", 84, ({ cls := "WallPlanner", name := "doorOf", desc := "(I)I" } : Jvm.MethodName)), ("WallPlanner$Plan", 87, ({ cls := "WallPlanner", name := "hasDoor", desc := "(II)Z" } : Jvm.MethodName)), ("WallPlanner$Plan", 98, ({ cls := "WallPlanner", name := "pairOf", desc := "(II)I" } : Jvm.MethodName)), ("WallPlanner$Plan", 107, ({ cls := "WallPlanner", name := "wayOf", desc := "(III)I" } : Jvm.MethodName)), ("WallPlanner$Layout", 46, ({ cls := "WallPlanner", name := "hasDoor", desc := "(II)Z" } : Jvm.MethodName)), ("WallPlanner$Spreading", 54, ({ cls := "WallPlanner", name := "firstOf", desc := "(I)I" } : Jvm.MethodName)), ("WallPlanner$Spreading", 58, ({ cls := "WallPlanner", name := "secondOf", desc := "(I)I" } : Jvm.MethodName)), ("WallPlanner$OddList", 31, ({ cls := "WallPlanner", name := "firstOf", desc := "(I)I" } : Jvm.MethodName)), ("WallPlanner$OddList", 35, ({ cls := "WallPlanner", name := "secondOf", desc := "(I)I" } : Jvm.MethodName)), ("WallPlanner$OddList", 38, ({ cls := "WallPlanner", name := "doorOf", desc := "(I)I" } : Jvm.MethodName)), ("WallPlanner$OddList", 59, ({ cls := "WallPlanner", name := "hasDoor", desc := "(II)Z" } : Jvm.MethodName))]
def nwF (q : String × Nat × String × String × String) : Cond := .fieldLinkNest q.1 q.2.1 q.2.2.1 q.2.2.2.1 q.2.2.2.2 "WallPlanner"
def nwM (q : String × Nat × MethodName) : Cond := .methodLinkNest q.1 q.2.1 q.2.2 "WallPlanner"
def nwOK (U : State) : Prop := (∀ q ∈ nF, va_Nw (nwF q) U) ∧ ∀ q ∈ nM, va_Nw (nwM q) U
theorem nwOK.warm {s U : State} (h : nwOK s) (hW : s.WarmedH U.vm) : nwOK U := ⟨fun q hq => va_Nw.warmF hW (h.1 q hq), fun q hq => va_Nw.warmM hW (h.2 q hq)⟩
theorem nwOK.f {s : State} (h : nwOK s) (i : Nat) {a b n d : String} {k : Nat} (hi : nF[i]? = some (a, k, b, n, d)) : va_Nw (.fieldLinkNest a k b n d "WallPlanner") s := h.1 _ (List.mem_of_getElem? hi)
theorem nwOK.m {s : State} (h : nwOK s) (i : Nat) {a : String} {k : Nat} {y : MethodName} (hi : nM[i]? = some (a, k, y)) : va_Nw (.methodLinkNest a k y "WallPlanner") s := h.2 _ (List.mem_of_getElem? hi)
theorem tz_1 {w : Cond} (i : Nat) (h : tables_1_1[i]? = some w) : w ∈ lw_tbl := List.mem_append_right _ (List.mem_append_left _ (List.mem_of_getElem? h))
theorem tz_2 {w : Cond} (i : Nat) (h : tables_1_2[i]? = some w) : w ∈ lw_tbl := List.mem_append_right _ (List.mem_append_right _ (List.mem_append_left _ (List.mem_of_getElem? h)))
theorem tz_3 {w : Cond} (i : Nat) (h : tables_1_3[i]? = some w) : w ∈ lw_tbl := List.mem_append_right _ (List.mem_append_right _ (List.mem_append_right _ (List.mem_append_left _ (List.mem_of_getElem? h))))
theorem tz_4 {w : Cond} (i : Nat) (h : tables_1_4[i]? = some w) : w ∈ lw_tbl := List.mem_append_right _ (List.mem_append_right _ (List.mem_append_right _ (List.mem_append_right _ (List.mem_append_left _ (List.mem_of_getElem? h)))))
theorem tz_5 {w : Cond} (i : Nat) (h : tables_1_5[i]? = some w) : w ∈ lw_tbl := List.mem_append_right _ (List.mem_append_right _ (List.mem_append_right _ (List.mem_append_right _ (List.mem_append_right _ (List.mem_of_getElem? h)))))
theorem nF_in : ∀ q ∈ nF, nwF q ∈ lw_tbl := List.forall_mem_cons.mpr ⟨tz_1 32 rfl, List.forall_mem_cons.mpr ⟨tz_1 34 rfl, List.forall_mem_cons.mpr ⟨tz_1 36 rfl, List.forall_mem_cons.mpr ⟨tz_1 37 rfl, List.forall_mem_cons.mpr ⟨tz_1 38 rfl, List.forall_mem_cons.mpr ⟨tz_1 40 rfl, List.forall_mem_cons.mpr ⟨tz_1 41 rfl, List.forall_mem_cons.mpr ⟨tz_1 42 rfl, List.forall_mem_cons.mpr ⟨tz_1 60 rfl, List.forall_mem_cons.mpr ⟨tz_1 61 rfl, List.forall_mem_cons.mpr ⟨tz_1 63 rfl, List.forall_mem_cons.mpr ⟨tz_1 64 rfl, List.forall_mem_cons.mpr ⟨tz_1 66 rfl, List.forall_mem_cons.mpr ⟨tz_1 67 rfl, List.forall_mem_cons.mpr ⟨tz_1 69 rfl, List.forall_mem_cons.mpr ⟨tz_1 71 rfl, List.forall_mem_cons.mpr ⟨tz_1 90 rfl, List.forall_mem_cons.mpr ⟨tz_1 91 rfl, List.forall_mem_cons.mpr ⟨tz_1 93 rfl, List.forall_mem_cons.mpr ⟨tz_1 95 rfl, List.forall_mem_cons.mpr ⟨tz_1 97 rfl, List.forall_mem_cons.mpr ⟨tz_1 98 rfl, List.forall_mem_cons.mpr ⟨tz_1 124 rfl, List.forall_mem_cons.mpr ⟨tz_1 125 rfl, List.forall_mem_cons.mpr ⟨tz_1 126 rfl, List.forall_mem_cons.mpr ⟨tz_1 127 rfl, List.forall_mem_cons.mpr ⟨tz_1 129 rfl, List.forall_mem_cons.mpr ⟨tz_1 131 rfl, List.forall_mem_cons.mpr ⟨tz_1 132 rfl, List.forall_mem_cons.mpr ⟨tz_1 134 rfl, List.forall_mem_cons.mpr ⟨tz_1 135 rfl, List.forall_mem_cons.mpr ⟨tz_1 136 rfl, List.forall_mem_cons.mpr ⟨tz_1 138 rfl, List.forall_mem_cons.mpr ⟨tz_1 157 rfl, List.forall_mem_cons.mpr ⟨tz_1 158 rfl, List.forall_mem_cons.mpr ⟨tz_1 160 rfl, List.forall_mem_cons.mpr ⟨tz_1 167 rfl, List.forall_mem_cons.mpr ⟨tz_1 168 rfl, List.forall_mem_cons.mpr ⟨tz_1 169 rfl, List.forall_mem_cons.mpr ⟨tz_1 170 rfl, List.forall_mem_cons.mpr ⟨tz_1 173 rfl, List.forall_mem_cons.mpr ⟨tz_1 174 rfl, List.forall_mem_cons.mpr ⟨tz_1 175 rfl, List.forall_mem_cons.mpr ⟨tz_1 177 rfl, List.forall_mem_cons.mpr ⟨tz_1 178 rfl, List.forall_mem_cons.mpr ⟨tz_1 179 rfl, List.forall_mem_cons.mpr ⟨tz_1 181 rfl, List.forall_mem_cons.mpr ⟨tz_1 183 rfl, List.forall_mem_cons.mpr ⟨tz_1 210 rfl, List.forall_mem_cons.mpr ⟨tz_1 232 rfl, List.forall_mem_cons.mpr ⟨tz_2 16 rfl, List.forall_mem_cons.mpr ⟨tz_2 18 rfl, List.forall_mem_cons.mpr ⟨tz_2 43 rfl, List.forall_mem_cons.mpr ⟨tz_2 45 rfl, List.forall_mem_cons.mpr ⟨tz_2 47 rfl, fun _ h => absurd h List.not_mem_nil⟩⟩⟩⟩⟩⟩⟩⟩⟩⟩⟩⟩⟩⟩⟩⟩⟩⟩⟩⟩⟩⟩⟩⟩⟩⟩⟩⟩⟩⟩⟩⟩⟩⟩⟩⟩⟩⟩⟩⟩⟩⟩⟩⟩⟩⟩⟩⟩⟩⟩⟩⟩⟩⟩⟩
theorem nM_in : ∀ q ∈ nM, nwM q ∈ lw_tbl := List.forall_mem_cons.mpr ⟨tz_1 27 rfl, List.forall_mem_cons.mpr ⟨tz_1 55 rfl, List.forall_mem_cons.mpr ⟨tz_1 85 rfl, List.forall_mem_cons.mpr ⟨tz_1 110 rfl, List.forall_mem_cons.mpr ⟨tz_1 152 rfl, List.forall_mem_cons.mpr ⟨tz_1 198 rfl, List.forall_mem_cons.mpr ⟨tz_1 201 rfl, List.forall_mem_cons.mpr ⟨tz_1 226 rfl, List.forall_mem_cons.mpr ⟨tz_2 3 rfl, List.forall_mem_cons.mpr ⟨tz_2 8 rfl, List.forall_mem_cons.mpr ⟨tz_2 38 rfl, List.forall_mem_cons.mpr ⟨tz_2 106 rfl, List.forall_mem_cons.mpr ⟨tz_2 162 rfl, List.forall_mem_cons.mpr ⟨tz_2 217 rfl, List.forall_mem_cons.mpr ⟨tz_3 21 rfl, List.forall_mem_cons.mpr ⟨tz_3 24 rfl, List.forall_mem_cons.mpr ⟨tz_3 27 rfl, List.forall_mem_cons.mpr ⟨tz_3 30 rfl, List.forall_mem_cons.mpr ⟨tz_3 55 rfl, List.forall_mem_cons.mpr ⟨tz_3 60 rfl, List.forall_mem_cons.mpr ⟨tz_3 83 rfl, List.forall_mem_cons.mpr ⟨tz_3 105 rfl, List.forall_mem_cons.mpr ⟨tz_3 106 rfl, List.forall_mem_cons.mpr ⟨tz_3 172 rfl, List.forall_mem_cons.mpr ⟨tz_3 173 rfl, List.forall_mem_cons.mpr ⟨tz_3 174 rfl, List.forall_mem_cons.mpr ⟨tz_3 181 rfl, fun _ h => absurd h List.not_mem_nil⟩⟩⟩⟩⟩⟩⟩⟩⟩⟩⟩⟩⟩⟩⟩⟩⟩⟩⟩⟩⟩⟩⟩⟩⟩⟩⟩
theorem nwOK.of {s : State} {args : Array Value} (h : ∀ w ∈ lw_tbl, w.before args s = true) : nwOK s := ⟨fun q hq => va_Nw.of rfl (h _ (nF_in q hq)), fun q hq => va_Nw.of rfl (h _ (nM_in q hq))⟩
