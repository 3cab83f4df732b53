set_option maxRecDepth 20000 in
theorem mw_0 : (Jvm.Cond.initialized "MetAnglesLaw") ∈ mg_ws := mg_in 35 rfl rfl
set_option maxRecDepth 20000 in
theorem mw_1 : (Jvm.Cond.initialized "MetAngles") ∈ mg_ws := mg_in 36 rfl rfl
set_option maxRecDepth 20000 in
theorem mw_2 : (Jvm.Cond.initialized "MetAnglesModel") ∈ mg_ws := mg_in 37 rfl rfl
set_option maxRecDepth 20000 in
theorem mw_3 : (Jvm.Cond.initialized "MetAngles$Turn") ∈ mg_ws := mg_in 38 rfl rfl
set_option maxRecDepth 20000 in
theorem mw_4 : (Jvm.Cond.initialized "java/lang/Math") ∈ mg_ws := mg_in 39 rfl rfl
set_option maxRecDepth 20000 in
theorem mw_5 : (Jvm.Cond.initialized "MetAngles$Partners") ∈ mg_ws := mg_in 40 rfl rfl
set_option maxRecDepth 20000 in
theorem mw_6 : (Jvm.Cond.initialized "MetAngles$Sheet") ∈ mg_ws := mg_in 41 rfl rfl
set_option maxRecDepth 20000 in
theorem mw_7 : (Jvm.Cond.classLink "MetAnglesLaw" (7 : Nat) "MetAngles") ∈ mg_ws := mg_in 42 rfl rfl
set_option maxRecDepth 20000 in
theorem mw_8 : (Jvm.Cond.instantiable "MetAngles" (5 : Nat)) ∈ mg_ws := mg_in 43 rfl rfl
set_option maxRecDepth 20000 in
theorem mw_9 : (Jvm.Cond.methodLink "MetAnglesLaw" (9 : Nat) ({ cls := "MetAngles", name := "<init>", desc := "()V" } : Jvm.MethodName)) ∈ mg_ws := mg_in 44 rfl rfl
set_option maxRecDepth 20000 in
theorem mw_10 : (Jvm.Cond.instanceMethod ({ cls := "MetAngles", name := "<init>", desc := "()V" } : Jvm.MethodName)) ∈ mg_ws := mg_in 45 rfl rfl
set_option maxRecDepth 20000 in
theorem mw_11 : (Jvm.Cond.code ({ cls := "MetAngles", name := "<init>", desc := "()V" } : Jvm.MethodName) prog_1_method_1_code (1 : Nat) (Option.none : Option Jvm.ClassFile.FieldType)) ∈ mg_ws := mg_in 46 rfl rfl
set_option maxRecDepth 20000 in
theorem mw_12 : (Jvm.Cond.methodLink "MetAngles" (1 : Nat) ({ cls := "java/lang/Object", name := "<init>", desc := "()V" } : Jvm.MethodName)) ∈ mg_ws := mg_in 47 rfl rfl
set_option maxRecDepth 20000 in
theorem mw_13 : (Jvm.Cond.instanceMethod ({ cls := "java/lang/Object", name := "<init>", desc := "()V" } : Jvm.MethodName)) ∈ mg_ws := mg_in 48 rfl rfl
set_option maxRecDepth 20000 in
theorem mw_14 : (Jvm.Cond.code ({ cls := "java/lang/Object", name := "<init>", desc := "()V" } : Jvm.MethodName) object_method_1_code (1 : Nat) (Option.none : Option Jvm.ClassFile.FieldType)) ∈ mg_ws := mg_in 49 rfl rfl
set_option maxRecDepth 20000 in
theorem mw_15 : (Jvm.Cond.classLink "MetAngles" (9 : Nat) "MetAngles$Turn") ∈ mg_ws := mg_in 50 rfl rfl
set_option maxRecDepth 20000 in
theorem mw_17 : (Jvm.Cond.classLink "MetAngles" (15 : Nat) "MetAngles$Sheet") ∈ mg_ws := mg_in 52 rfl rfl
set_option maxRecDepth 20000 in
theorem mw_19 : (Jvm.Cond.fieldLink "MetAngles" (11 : Nat) "MetAngles" "turns" "[LMetAngles$Turn;") ∈ mg_ws := mg_in 54 rfl rfl
set_option maxRecDepth 20000 in
theorem mw_20 : (Jvm.Cond.fieldLink "MetAngles" (17 : Nat) "MetAngles" "sheets" "[LMetAngles$Sheet;") ∈ mg_ws := mg_in 55 rfl rfl
set_option maxRecDepth 20000 in
theorem mw_21 : (Jvm.Cond.fieldLink "MetAngles" (21 : Nat) "MetAngles" "row" "[I") ∈ mg_ws := mg_in 56 rfl rfl
set_option maxRecDepth 20000 in
theorem mw_22 : (Jvm.Cond.fieldLink "MetAngles" (25 : Nat) "MetAngles" "amount" "I") ∈ mg_ws := mg_in 57 rfl rfl
set_option maxRecDepth 20000 in
theorem mw_23 : (Jvm.Cond.fieldLink "MetAngles" (29 : Nat) "MetAngles" "partners" "LMetAngles$Partners;") ∈ mg_ws := mg_in 58 rfl rfl
set_option maxRecDepth 20000 in
theorem mw_35 : (Jvm.Cond.arrayClass Jvm.ClassFile.FieldType.int) ∈ mg_ws := mg_in 70 rfl rfl
set_option maxRecDepth 20000 in
theorem mw_36 : (Jvm.Cond.methodLink "MetAnglesLaw" (15 : Nat) ({ cls := "MetAngles", name := "angle", desc := "(JJ)I" } : Jvm.MethodName)) ∈ mg_ws := mg_in 71 rfl rfl
set_option maxRecDepth 20000 in
theorem mw_37 : (Jvm.Cond.instanceMethod ({ cls := "MetAngles", name := "angle", desc := "(JJ)I" } : Jvm.MethodName)) ∈ mg_ws := mg_in 72 rfl rfl
set_option maxRecDepth 20000 in
theorem mw_38 : (Jvm.Cond.selects "MetAngles" ({ cls := "MetAngles", name := "angle", desc := "(JJ)I" } : Jvm.MethodName) ({ cls := "MetAngles", name := "angle", desc := "(JJ)I" } : Jvm.MethodName)) ∈ mg_ws := mg_in 73 rfl rfl
set_option maxRecDepth 20000 in
theorem mw_39 : (Jvm.Cond.code ({ cls := "MetAngles", name := "angle", desc := "(JJ)I" } : Jvm.MethodName) prog_1_method_2_code (5 : Nat) (Option.some Jvm.ClassFile.FieldType.int)) ∈ mg_ws := mg_in 74 rfl rfl
set_option maxRecDepth 20000 in
theorem mw_40 : (Jvm.Cond.constantLong "MetAngles" (33 : Nat) (511 : Int64)) ∈ mg_ws := mg_in 75 rfl rfl
set_option maxRecDepth 20000 in
theorem mw_41 : (Jvm.Cond.methodLink "MetAngles" (35 : Nat) ({ cls := "MetAngles", name := "keep", desc := "(JJ)I" } : Jvm.MethodName)) ∈ mg_ws := mg_in 76 rfl rfl
set_option maxRecDepth 20000 in
theorem mw_43 : (Jvm.Cond.instanceMethod ({ cls := "MetAngles", name := "keep", desc := "(JJ)I" } : Jvm.MethodName)) ∈ mg_ws := mg_in 78 rfl rfl
set_option maxRecDepth 20000 in
theorem mw_44 : (Jvm.Cond.code ({ cls := "MetAngles", name := "keep", desc := "(JJ)I" } : Jvm.MethodName) prog_1_method_34_code (5 : Nat) (Option.some Jvm.ClassFile.FieldType.int)) ∈ mg_ws := mg_in 79 rfl rfl
set_option maxRecDepth 20000 in
theorem mw_45 : (Jvm.Cond.instantiable "MetAngles$Turn" (4 : Nat)) ∈ mg_ws := mg_in 80 rfl rfl
set_option maxRecDepth 20000 in
theorem mw_46 : (Jvm.Cond.methodLink "MetAngles" (209 : Nat) ({ cls := "MetAngles$Turn", name := "<init>", desc := "(JJ)V" } : Jvm.MethodName)) ∈ mg_ws := mg_in 81 rfl rfl
set_option maxRecDepth 20000 in
theorem mw_47 : (Jvm.Cond.instanceMethod ({ cls := "MetAngles$Turn", name := "<init>", desc := "(JJ)V" } : Jvm.MethodName)) ∈ mg_ws := mg_in 82 rfl rfl
set_option maxRecDepth 20000 in
theorem mw_48 : (Jvm.Cond.code ({ cls := "MetAngles$Turn", name := "<init>", desc := "(JJ)V" } : Jvm.MethodName) prog_4_method_1_code (7 : Nat) (Option.none : Option Jvm.ClassFile.FieldType)) ∈ mg_ws := mg_in 83 rfl rfl
set_option maxRecDepth 20000 in
theorem mw_49 : (Jvm.Cond.methodLink "MetAngles$Turn" (3 : Nat) ({ cls := "java/lang/Object", name := "<init>", desc := "()V" } : Jvm.MethodName)) ∈ mg_ws := mg_in 84 rfl rfl
set_option maxRecDepth 20000 in
theorem mw_51 : (Jvm.Cond.static ({ cls := "MetAngles", name := "greatestShared", desc := "(JJ)J" } : Jvm.MethodName)) ∈ mg_ws := mg_in 86 rfl rfl
set_option maxRecDepth 20000 in
theorem mw_52 : (Jvm.Cond.code ({ cls := "MetAngles", name := "greatestShared", desc := "(JJ)J" } : Jvm.MethodName) prog_1_method_38_code (11 : Nat) (Option.some Jvm.ClassFile.FieldType.long)) ∈ mg_ws := mg_in 87 rfl rfl
set_option maxRecDepth 20000 in
theorem mw_54 : (Jvm.Cond.static ({ cls := "MetAngles", name := "over", desc := "(JJ)J" } : Jvm.MethodName)) ∈ mg_ws := mg_in 89 rfl rfl
set_option maxRecDepth 20000 in
theorem mw_55 : (Jvm.Cond.code ({ cls := "MetAngles", name := "over", desc := "(JJ)J" } : Jvm.MethodName) prog_1_method_35_code (4 : Nat) (Option.some Jvm.ClassFile.FieldType.long)) ∈ mg_ws := mg_in 90 rfl rfl
set_option maxRecDepth 20000 in
theorem mw_56 : (Jvm.Cond.methodLink "MetAngles$Turn" (25 : Nat) ({ cls := "MetAngles$Turn", name := "twosIn", desc := "(I)I" } : Jvm.MethodName)) ∈ mg_ws := mg_in 91 rfl rfl
set_option maxRecDepth 20000 in
theorem mw_57 : (Jvm.Cond.static ({ cls := "MetAngles$Turn", name := "twosIn", desc := "(I)I" } : Jvm.MethodName)) ∈ mg_ws := mg_in 92 rfl rfl
set_option maxRecDepth 20000 in
theorem mw_58 : (Jvm.Cond.code ({ cls := "MetAngles$Turn", name := "twosIn", desc := "(I)I" } : Jvm.MethodName) prog_4_method_2_code (2 : Nat) (Option.some Jvm.ClassFile.FieldType.int)) ∈ mg_ws := mg_in 93 rfl rfl
set_option maxRecDepth 20000 in
theorem mw_59 : (Jvm.Cond.methodLink "MetAngles$Turn" (32 : Nat) ({ cls := "MetAngles$Turn", name := "upAfter", desc := "(I)I" } : Jvm.MethodName)) ∈ mg_ws := mg_in 94 rfl rfl
set_option maxRecDepth 20000 in
theorem mw_60 : (Jvm.Cond.instanceMethod ({ cls := "MetAngles$Turn", name := "upAfter", desc := "(I)I" } : Jvm.MethodName)) ∈ mg_ws := mg_in 95 rfl rfl
set_option maxRecDepth 20000 in
theorem mw_61 : (Jvm.Cond.selects "MetAngles$Turn" ({ cls := "MetAngles$Turn", name := "upAfter", desc := "(I)I" } : Jvm.MethodName) ({ cls := "MetAngles$Turn", name := "upAfter", desc := "(I)I" } : Jvm.MethodName)) ∈ mg_ws := mg_in 96 rfl rfl
set_option maxRecDepth 20000 in
theorem mw_62 : (Jvm.Cond.code ({ cls := "MetAngles$Turn", name := "upAfter", desc := "(I)I" } : Jvm.MethodName) prog_4_method_5_code (4 : Nat) (Option.some Jvm.ClassFile.FieldType.int)) ∈ mg_ws := mg_in 97 rfl rfl
set_option maxRecDepth 20000 in
theorem mw_64 : (Jvm.Cond.static ({ cls := "MetAngles", name := "twice", desc := "(II)I" } : Jvm.MethodName)) ∈ mg_ws := mg_in 99 rfl rfl
set_option maxRecDepth 20000 in
theorem mw_65 : (Jvm.Cond.code ({ cls := "MetAngles", name := "twice", desc := "(II)I" } : Jvm.MethodName) prog_1_method_39_code (3 : Nat) (Option.some Jvm.ClassFile.FieldType.int)) ∈ mg_ws := mg_in 100 rfl rfl
set_option maxRecDepth 20000 in
theorem mw_66 : (Jvm.Cond.methodLink "MetAngles$Turn" (35 : Nat) ({ cls := "MetAngles$Turn", name := "lengthOfRing", desc := "(II)I" } : Jvm.MethodName)) ∈ mg_ws := mg_in 101 rfl rfl
set_option maxRecDepth 20000 in
theorem mw_67 : (Jvm.Cond.static ({ cls := "MetAngles$Turn", name := "lengthOfRing", desc := "(II)I" } : Jvm.MethodName)) ∈ mg_ws := mg_in 102 rfl rfl
set_option maxRecDepth 20000 in
theorem mw_68 : (Jvm.Cond.code ({ cls := "MetAngles$Turn", name := "lengthOfRing", desc := "(II)I" } : Jvm.MethodName) prog_4_method_3_code (4 : Nat) (Option.some Jvm.ClassFile.FieldType.int)) ∈ mg_ws := mg_in 103 rfl rfl
set_option maxRecDepth 20000 in
theorem mw_69 : (Jvm.Cond.fieldLink "MetAngles$Turn" (16 : Nat) "MetAngles$Turn" "up" "I") ∈ mg_ws := mg_in 104 rfl rfl
set_option maxRecDepth 20000 in
theorem mw_70 : (Jvm.Cond.fieldLink "MetAngles" (43 : Nat) "MetAngles$Turn" "up" "I") ∈ mg_ws := mg_in 105 rfl rfl
set_option maxRecDepth 20000 in
theorem mw_71 : (Jvm.Cond.fieldLink "MetAngles$Partners" (72 : Nat) "MetAngles$Turn" "up" "I") ∈ mg_ws := mg_in 106 rfl rfl
set_option maxRecDepth 20000 in
theorem mw_72 : (Jvm.Cond.fieldLink "MetAngles$Turn" (22 : Nat) "MetAngles$Turn" "low" "I") ∈ mg_ws := mg_in 107 rfl rfl
set_option maxRecDepth 20000 in
theorem mw_73 : (Jvm.Cond.fieldLink "MetAngles" (46 : Nat) "MetAngles$Turn" "low" "I") ∈ mg_ws := mg_in 108 rfl rfl
set_option maxRecDepth 20000 in
theorem mw_74 : (Jvm.Cond.fieldLink "MetAngles$Partners" (75 : Nat) "MetAngles$Turn" "low" "I") ∈ mg_ws := mg_in 109 rfl rfl
set_option maxRecDepth 20000 in
theorem mw_75 : (Jvm.Cond.fieldLink "MetAngles$Turn" (29 : Nat) "MetAngles$Turn" "tail" "I") ∈ mg_ws := mg_in 110 rfl rfl
set_option maxRecDepth 20000 in
theorem mw_76 : (Jvm.Cond.fieldLink "MetAngles" (49 : Nat) "MetAngles$Turn" "tail" "I") ∈ mg_ws := mg_in 111 rfl rfl
set_option maxRecDepth 20000 in
theorem mw_77 : (Jvm.Cond.fieldLink "MetAngles$Turn" (39 : Nat) "MetAngles$Turn" "length" "I") ∈ mg_ws := mg_in 112 rfl rfl
set_option maxRecDepth 20000 in
theorem mw_78 : (Jvm.Cond.fieldLink "MetAngles" (52 : Nat) "MetAngles$Turn" "length" "I") ∈ mg_ws := mg_in 113 rfl rfl
set_option maxRecDepth 20000 in
theorem mw_88 : (Jvm.Cond.methodLink "MetAnglesLaw" (20 : Nat) ({ cls := "MetAngles", name := "drop", desc := "()I" } : Jvm.MethodName)) ∈ mg_ws := mg_in 123 rfl rfl
set_option maxRecDepth 20000 in
theorem mw_89 : (Jvm.Cond.instanceMethod ({ cls := "MetAngles", name := "drop", desc := "()I" } : Jvm.MethodName)) ∈ mg_ws := mg_in 124 rfl rfl
set_option maxRecDepth 20000 in
theorem mw_90 : (Jvm.Cond.selects "MetAngles" ({ cls := "MetAngles", name := "drop", desc := "()I" } : Jvm.MethodName) ({ cls := "MetAngles", name := "drop", desc := "()I" } : Jvm.MethodName)) ∈ mg_ws := mg_in 125 rfl rfl
set_option maxRecDepth 20000 in
theorem mw_91 : (Jvm.Cond.code ({ cls := "MetAngles", name := "drop", desc := "()I" } : Jvm.MethodName) prog_1_method_3_code (1 : Nat) (Option.some Jvm.ClassFile.FieldType.int)) ∈ mg_ws := mg_in 126 rfl rfl
set_option maxRecDepth 20000 in
theorem mw_92 : (Jvm.Cond.methodLink "MetAnglesLaw" (25 : Nat) ({ cls := "MetAngles", name := "told", desc := "(II)I" } : Jvm.MethodName)) ∈ mg_ws := mg_in 127 rfl rfl
set_option maxRecDepth 20000 in
theorem mw_93 : (Jvm.Cond.instanceMethod ({ cls := "MetAngles", name := "told", desc := "(II)I" } : Jvm.MethodName)) ∈ mg_ws := mg_in 128 rfl rfl
set_option maxRecDepth 20000 in
theorem mw_94 : (Jvm.Cond.selects "MetAngles" ({ cls := "MetAngles", name := "told", desc := "(II)I" } : Jvm.MethodName) ({ cls := "MetAngles", name := "told", desc := "(II)I" } : Jvm.MethodName)) ∈ mg_ws := mg_in 129 rfl rfl
set_option maxRecDepth 20000 in
theorem mw_95 : (Jvm.Cond.code ({ cls := "MetAngles", name := "told", desc := "(II)I" } : Jvm.MethodName) prog_1_method_4_code (4 : Nat) (Option.some Jvm.ClassFile.FieldType.int)) ∈ mg_ws := mg_in 130 rfl rfl
set_option maxRecDepth 20000 in
theorem mw_96 : (Jvm.Cond.methodLink "MetAngles" (39 : Nat) ({ cls := "MetAngles", name := "turnAt", desc := "(I)LMetAngles$Turn;" } : Jvm.MethodName)) ∈ mg_ws := mg_in 131 rfl rfl
set_option maxRecDepth 20000 in
theorem mw_98 : (Jvm.Cond.instanceMethod ({ cls := "MetAngles", name := "turnAt", desc := "(I)LMetAngles$Turn;" } : Jvm.MethodName)) ∈ mg_ws := mg_in 133 rfl rfl
set_option maxRecDepth 20000 in
theorem mw_99 : (Jvm.Cond.code ({ cls := "MetAngles", name := "turnAt", desc := "(I)LMetAngles$Turn;" } : Jvm.MethodName) prog_1_method_33_code (2 : Nat) (Option.some (Jvm.ClassFile.FieldType.object "MetAngles$Turn"))) ∈ mg_ws := mg_in 134 rfl rfl
set_option maxRecDepth 20000 in
theorem mw_100 : (Jvm.Cond.methodLink "MetAnglesLaw" (30 : Nat) ({ cls := "MetAngles", name := "doubled", desc := "(III)I" } : Jvm.MethodName)) ∈ mg_ws := mg_in 135 rfl rfl
set_option maxRecDepth 20000 in
theorem mw_101 : (Jvm.Cond.instanceMethod ({ cls := "MetAngles", name := "doubled", desc := "(III)I" } : Jvm.MethodName)) ∈ mg_ws := mg_in 136 rfl rfl
set_option maxRecDepth 20000 in
theorem mw_102 : (Jvm.Cond.selects "MetAngles" ({ cls := "MetAngles", name := "doubled", desc := "(III)I" } : Jvm.MethodName) ({ cls := "MetAngles", name := "doubled", desc := "(III)I" } : Jvm.MethodName)) ∈ mg_ws := mg_in 137 rfl rfl
set_option maxRecDepth 20000 in
theorem mw_103 : (Jvm.Cond.code ({ cls := "MetAngles", name := "doubled", desc := "(III)I" } : Jvm.MethodName) prog_1_method_5_code (8 : Nat) (Option.some Jvm.ClassFile.FieldType.int)) ∈ mg_ws := mg_in 138 rfl rfl
set_option maxRecDepth 20000 in
theorem mw_104 : (Jvm.Cond.methodLink "MetAngles" (55 : Nat) ({ cls := "MetAngles", name := "isDoublings", desc := "(I)Z" } : Jvm.MethodName)) ∈ mg_ws := mg_in 139 rfl rfl
set_option maxRecDepth 20000 in
theorem mw_105 : (Jvm.Cond.static ({ cls := "MetAngles", name := "isDoublings", desc := "(I)Z" } : Jvm.MethodName)) ∈ mg_ws := mg_in 140 rfl rfl
set_option maxRecDepth 20000 in
theorem mw_106 : (Jvm.Cond.code ({ cls := "MetAngles", name := "isDoublings", desc := "(I)Z" } : Jvm.MethodName) prog_1_method_26_code (1 : Nat) (Option.some Jvm.ClassFile.FieldType.boolean)) ∈ mg_ws := mg_in 141 rfl rfl
set_option maxRecDepth 20000 in
theorem mw_107 : (Jvm.Cond.methodLink "MetAngles" (59 : Nat) ({ cls := "MetAngles", name := "isEither", desc := "(I)Z" } : Jvm.MethodName)) ∈ mg_ws := mg_in 142 rfl rfl
set_option maxRecDepth 20000 in
theorem mw_108 : (Jvm.Cond.static ({ cls := "MetAngles", name := "isEither", desc := "(I)Z" } : Jvm.MethodName)) ∈ mg_ws := mg_in 143 rfl rfl
set_option maxRecDepth 20000 in
theorem mw_109 : (Jvm.Cond.code ({ cls := "MetAngles", name := "isEither", desc := "(I)Z" } : Jvm.MethodName) prog_1_method_29_code (1 : Nat) (Option.some Jvm.ClassFile.FieldType.boolean)) ∈ mg_ws := mg_in 144 rfl rfl
set_option maxRecDepth 20000 in
theorem mw_110 : (Jvm.Cond.methodLink "MetAngles" (62 : Nat) ({ cls := "MetAngles$Turn", name := "upAfter", desc := "(I)I" } : Jvm.MethodName)) ∈ mg_ws := mg_in 145 rfl rfl
set_option maxRecDepth 20000 in
theorem mw_111 : (Jvm.Cond.methodLink "MetAngles" (66 : Nat) ({ cls := "MetAngles", name := "greatestShared", desc := "(JJ)J" } : Jvm.MethodName)) ∈ mg_ws := mg_in 146 rfl rfl
set_option maxRecDepth 20000 in
theorem mw_112 : (Jvm.Cond.methodLink "MetAngles" (70 : Nat) ({ cls := "MetAngles", name := "over", desc := "(JJ)J" } : Jvm.MethodName)) ∈ mg_ws := mg_in 147 rfl rfl
set_option maxRecDepth 20000 in
theorem mw_113 : (Jvm.Cond.methodLink "MetAnglesLaw" (35 : Nat) ({ cls := "MetAngles", name := "all", desc := "(I)I" } : Jvm.MethodName)) ∈ mg_ws := mg_in 148 rfl rfl
set_option maxRecDepth 20000 in
theorem mw_114 : (Jvm.Cond.instanceMethod ({ cls := "MetAngles", name := "all", desc := "(I)I" } : Jvm.MethodName)) ∈ mg_ws := mg_in 149 rfl rfl
set_option maxRecDepth 20000 in
theorem mw_115 : (Jvm.Cond.selects "MetAngles" ({ cls := "MetAngles", name := "all", desc := "(I)I" } : Jvm.MethodName) ({ cls := "MetAngles", name := "all", desc := "(I)I" } : Jvm.MethodName)) ∈ mg_ws := mg_in 150 rfl rfl
set_option maxRecDepth 20000 in
theorem mw_116 : (Jvm.Cond.code ({ cls := "MetAngles", name := "all", desc := "(I)I" } : Jvm.MethodName) prog_1_method_6_code (3 : Nat) (Option.some Jvm.ClassFile.FieldType.int)) ∈ mg_ws := mg_in 151 rfl rfl
set_option maxRecDepth 20000 in
theorem mw_117 : (Jvm.Cond.methodLink "MetAngles" (73 : Nat) ({ cls := "MetAngles", name := "isLength", desc := "(I)Z" } : Jvm.MethodName)) ∈ mg_ws := mg_in 152 rfl rfl
set_option maxRecDepth 20000 in
theorem mw_118 : (Jvm.Cond.static ({ cls := "MetAngles", name := "isLength", desc := "(I)Z" } : Jvm.MethodName)) ∈ mg_ws := mg_in 153 rfl rfl
set_option maxRecDepth 20000 in
theorem mw_119 : (Jvm.Cond.code ({ cls := "MetAngles", name := "isLength", desc := "(I)Z" } : Jvm.MethodName) prog_1_method_27_code (1 : Nat) (Option.some Jvm.ClassFile.FieldType.boolean)) ∈ mg_ws := mg_in 154 rfl rfl
set_option maxRecDepth 20000 in
theorem mw_120 : (Jvm.Cond.methodLink "MetAngles" (76 : Nat) ({ cls := "MetAngles", name := "ones", desc := "(I)I" } : Jvm.MethodName)) ∈ mg_ws := mg_in 155 rfl rfl
set_option maxRecDepth 20000 in
theorem mw_121 : (Jvm.Cond.static ({ cls := "MetAngles", name := "ones", desc := "(I)I" } : Jvm.MethodName)) ∈ mg_ws := mg_in 156 rfl rfl
set_option maxRecDepth 20000 in
theorem mw_122 : (Jvm.Cond.code ({ cls := "MetAngles", name := "ones", desc := "(I)I" } : Jvm.MethodName) prog_1_method_36_code (1 : Nat) (Option.some Jvm.ClassFile.FieldType.int)) ∈ mg_ws := mg_in 157 rfl rfl
set_option maxRecDepth 20000 in
theorem mw_123 : (Jvm.Cond.methodLink "MetAngles" (79 : Nat) ({ cls := "MetAngles", name := "justOfLength", desc := "(I)I" } : Jvm.MethodName)) ∈ mg_ws := mg_in 158 rfl rfl
set_option maxRecDepth 20000 in
theorem mw_125 : (Jvm.Cond.instanceMethod ({ cls := "MetAngles", name := "justOfLength", desc := "(I)I" } : Jvm.MethodName)) ∈ mg_ws := mg_in 160 rfl rfl
set_option maxRecDepth 20000 in
theorem mw_126 : (Jvm.Cond.code ({ cls := "MetAngles", name := "justOfLength", desc := "(I)I" } : Jvm.MethodName) prog_1_method_40_code (4 : Nat) (Option.some Jvm.ClassFile.FieldType.int)) ∈ mg_ws := mg_in 161 rfl rfl
set_option maxRecDepth 20000 in
theorem mw_127 : (Jvm.Cond.methodLink "MetAnglesLaw" (40 : Nat) ({ cls := "MetAngles", name := "letter", desc := "(III)I" } : Jvm.MethodName)) ∈ mg_ws := mg_in 162 rfl rfl
set_option maxRecDepth 20000 in
theorem mw_128 : (Jvm.Cond.instanceMethod ({ cls := "MetAngles", name := "letter", desc := "(III)I" } : Jvm.MethodName)) ∈ mg_ws := mg_in 163 rfl rfl
set_option maxRecDepth 20000 in
theorem mw_129 : (Jvm.Cond.selects "MetAngles" ({ cls := "MetAngles", name := "letter", desc := "(III)I" } : Jvm.MethodName) ({ cls := "MetAngles", name := "letter", desc := "(III)I" } : Jvm.MethodName)) ∈ mg_ws := mg_in 164 rfl rfl
set_option maxRecDepth 20000 in
theorem mw_130 : (Jvm.Cond.code ({ cls := "MetAngles", name := "letter", desc := "(III)I" } : Jvm.MethodName) prog_1_method_7_code (6 : Nat) (Option.some Jvm.ClassFile.FieldType.int)) ∈ mg_ws := mg_in 165 rfl rfl
set_option maxRecDepth 20000 in
theorem mw_131 : (Jvm.Cond.methodLink "MetAngles" (82 : Nat) ({ cls := "MetAngles$Turn", name := "letterOf", desc := "(II)I" } : Jvm.MethodName)) ∈ mg_ws := mg_in 166 rfl rfl
set_option maxRecDepth 20000 in
theorem mw_132 : (Jvm.Cond.instanceMethod ({ cls := "MetAngles$Turn", name := "letterOf", desc := "(II)I" } : Jvm.MethodName)) ∈ mg_ws := mg_in 167 rfl rfl
set_option maxRecDepth 20000 in
theorem mw_133 : (Jvm.Cond.selects "MetAngles$Turn" ({ cls := "MetAngles$Turn", name := "letterOf", desc := "(II)I" } : Jvm.MethodName) ({ cls := "MetAngles$Turn", name := "letterOf", desc := "(II)I" } : Jvm.MethodName)) ∈ mg_ws := mg_in 168 rfl rfl
set_option maxRecDepth 20000 in
theorem mw_134 : (Jvm.Cond.code ({ cls := "MetAngles$Turn", name := "letterOf", desc := "(II)I" } : Jvm.MethodName) prog_4_method_7_code (7 : Nat) (Option.some Jvm.ClassFile.FieldType.int)) ∈ mg_ws := mg_in 169 rfl rfl
set_option maxRecDepth 20000 in
theorem mw_135 : (Jvm.Cond.constantLong "MetAngles$Turn" (49 : Nat) (2 : Int64)) ∈ mg_ws := mg_in 170 rfl rfl
set_option maxRecDepth 20000 in
theorem mw_137 : (Jvm.Cond.static ({ cls := "MetAngles", name := "order", desc := "(JJ)I" } : Jvm.MethodName)) ∈ mg_ws := mg_in 172 rfl rfl
set_option maxRecDepth 20000 in
theorem mw_138 : (Jvm.Cond.code ({ cls := "MetAngles", name := "order", desc := "(JJ)I" } : Jvm.MethodName) prog_1_method_37_code (4 : Nat) (Option.some Jvm.ClassFile.FieldType.int)) ∈ mg_ws := mg_in 173 rfl rfl
set_option maxRecDepth 20000 in
theorem mw_139 : (Jvm.Cond.methodLink "MetAnglesLaw" (44 : Nat) ({ cls := "MetAngles", name := "address", desc := "(II)I" } : Jvm.MethodName)) ∈ mg_ws := mg_in 174 rfl rfl
set_option maxRecDepth 20000 in
theorem mw_140 : (Jvm.Cond.instanceMethod ({ cls := "MetAngles", name := "address", desc := "(II)I" } : Jvm.MethodName)) ∈ mg_ws := mg_in 175 rfl rfl
set_option maxRecDepth 20000 in
theorem mw_141 : (Jvm.Cond.selects "MetAngles" ({ cls := "MetAngles", name := "address", desc := "(II)I" } : Jvm.MethodName) ({ cls := "MetAngles", name := "address", desc := "(II)I" } : Jvm.MethodName)) ∈ mg_ws := mg_in 176 rfl rfl
set_option maxRecDepth 20000 in
theorem mw_142 : (Jvm.Cond.code ({ cls := "MetAngles", name := "address", desc := "(II)I" } : Jvm.MethodName) prog_1_method_8_code (6 : Nat) (Option.some Jvm.ClassFile.FieldType.int)) ∈ mg_ws := mg_in 177 rfl rfl
set_option maxRecDepth 20000 in
theorem mw_143 : (Jvm.Cond.methodLink "MetAngles" (86 : Nat) ({ cls := "MetAngles$Turn", name := "comesBack", desc := "()Z" } : Jvm.MethodName)) ∈ mg_ws := mg_in 178 rfl rfl
set_option maxRecDepth 20000 in
theorem mw_144 : (Jvm.Cond.instanceMethod ({ cls := "MetAngles$Turn", name := "comesBack", desc := "()Z" } : Jvm.MethodName)) ∈ mg_ws := mg_in 179 rfl rfl
set_option maxRecDepth 20000 in
theorem mw_145 : (Jvm.Cond.selects "MetAngles$Turn" ({ cls := "MetAngles$Turn", name := "comesBack", desc := "()Z" } : Jvm.MethodName) ({ cls := "MetAngles$Turn", name := "comesBack", desc := "()Z" } : Jvm.MethodName)) ∈ mg_ws := mg_in 180 rfl rfl
set_option maxRecDepth 20000 in
theorem mw_146 : (Jvm.Cond.code ({ cls := "MetAngles$Turn", name := "comesBack", desc := "()Z" } : Jvm.MethodName) prog_4_method_4_code (1 : Nat) (Option.some Jvm.ClassFile.FieldType.boolean)) ∈ mg_ws := mg_in 181 rfl rfl
set_option maxRecDepth 20000 in
theorem mw_147 : (Jvm.Cond.methodLink "MetAngles" (90 : Nat) ({ cls := "MetAngles", name := "writeInner", desc := "(LMetAngles$Turn;)V" } : Jvm.MethodName)) ∈ mg_ws := mg_in 182 rfl rfl
set_option maxRecDepth 20000 in
theorem mw_149 : (Jvm.Cond.instanceMethod ({ cls := "MetAngles", name := "writeInner", desc := "(LMetAngles$Turn;)V" } : Jvm.MethodName)) ∈ mg_ws := mg_in 184 rfl rfl
set_option maxRecDepth 20000 in
theorem mw_150 : (Jvm.Cond.code ({ cls := "MetAngles", name := "writeInner", desc := "(LMetAngles$Turn;)V" } : Jvm.MethodName) prog_1_method_44_code (4 : Nat) (Option.none : Option Jvm.ClassFile.FieldType)) ∈ mg_ws := mg_in 185 rfl rfl
set_option maxRecDepth 20000 in
theorem mw_151 : (Jvm.Cond.methodLink "MetAngles" (215 : Nat) ({ cls := "MetAngles", name := "twice", desc := "(II)I" } : Jvm.MethodName)) ∈ mg_ws := mg_in 186 rfl rfl
set_option maxRecDepth 20000 in
theorem mw_152 : (Jvm.Cond.methodLink "MetAngles" (94 : Nat) ({ cls := "MetAngles", name := "nextInAddress", desc := "(II)I" } : Jvm.MethodName)) ∈ mg_ws := mg_in 187 rfl rfl
set_option maxRecDepth 20000 in
theorem mw_154 : (Jvm.Cond.instanceMethod ({ cls := "MetAngles", name := "nextInAddress", desc := "(II)I" } : Jvm.MethodName)) ∈ mg_ws := mg_in 189 rfl rfl
set_option maxRecDepth 20000 in
theorem mw_155 : (Jvm.Cond.code ({ cls := "MetAngles", name := "nextInAddress", desc := "(II)I" } : Jvm.MethodName) prog_1_method_45_code (4 : Nat) (Option.some Jvm.ClassFile.FieldType.int)) ∈ mg_ws := mg_in 190 rfl rfl
set_option maxRecDepth 20000 in
theorem mw_156 : (Jvm.Cond.methodLink "MetAnglesLaw" (48 : Nat) ({ cls := "MetAngles", name := "cross", desc := "(IIII)I" } : Jvm.MethodName)) ∈ mg_ws := mg_in 191 rfl rfl
set_option maxRecDepth 20000 in
theorem mw_157 : (Jvm.Cond.instanceMethod ({ cls := "MetAngles", name := "cross", desc := "(IIII)I" } : Jvm.MethodName)) ∈ mg_ws := mg_in 192 rfl rfl
set_option maxRecDepth 20000 in
theorem mw_158 : (Jvm.Cond.selects "MetAngles" ({ cls := "MetAngles", name := "cross", desc := "(IIII)I" } : Jvm.MethodName) ({ cls := "MetAngles", name := "cross", desc := "(IIII)I" } : Jvm.MethodName)) ∈ mg_ws := mg_in 193 rfl rfl
set_option maxRecDepth 20000 in
theorem mw_159 : (Jvm.Cond.code ({ cls := "MetAngles", name := "cross", desc := "(IIII)I" } : Jvm.MethodName) prog_1_method_9_code (11 : Nat) (Option.some Jvm.ClassFile.FieldType.int)) ∈ mg_ws := mg_in 194 rfl rfl
set_option maxRecDepth 20000 in
theorem mw_160 : (Jvm.Cond.methodLink "MetAngles" (97 : Nat) ({ cls := "MetAngles$Turn", name := "against", desc := "(LMetAngles$Turn;)I" } : Jvm.MethodName)) ∈ mg_ws := mg_in 195 rfl rfl
set_option maxRecDepth 20000 in
theorem mw_161 : (Jvm.Cond.instanceMethod ({ cls := "MetAngles$Turn", name := "against", desc := "(LMetAngles$Turn;)I" } : Jvm.MethodName)) ∈ mg_ws := mg_in 196 rfl rfl
set_option maxRecDepth 20000 in
theorem mw_162 : (Jvm.Cond.selects "MetAngles$Turn" ({ cls := "MetAngles$Turn", name := "against", desc := "(LMetAngles$Turn;)I" } : Jvm.MethodName) ({ cls := "MetAngles$Turn", name := "against", desc := "(LMetAngles$Turn;)I" } : Jvm.MethodName)) ∈ mg_ws := mg_in 197 rfl rfl
set_option maxRecDepth 20000 in
theorem mw_163 : (Jvm.Cond.code ({ cls := "MetAngles$Turn", name := "against", desc := "(LMetAngles$Turn;)I" } : Jvm.MethodName) prog_4_method_6_code (2 : Nat) (Option.some Jvm.ClassFile.FieldType.int)) ∈ mg_ws := mg_in 198 rfl rfl
set_option maxRecDepth 20000 in
theorem mw_164 : (Jvm.Cond.methodLink "MetAngles" (101 : Nat) ({ cls := "MetAngles", name := "answer", desc := "(Z)I" } : Jvm.MethodName)) ∈ mg_ws := mg_in 199 rfl rfl
set_option maxRecDepth 20000 in
theorem mw_165 : (Jvm.Cond.static ({ cls := "MetAngles", name := "answer", desc := "(Z)I" } : Jvm.MethodName)) ∈ mg_ws := mg_in 200 rfl rfl
set_option maxRecDepth 20000 in
theorem mw_166 : (Jvm.Cond.code ({ cls := "MetAngles", name := "answer", desc := "(Z)I" } : Jvm.MethodName) prog_1_method_32_code (1 : Nat) (Option.some Jvm.ClassFile.FieldType.int)) ∈ mg_ws := mg_in 201 rfl rfl
set_option maxRecDepth 20000 in
theorem mw_167 : (Jvm.Cond.methodLink "MetAnglesLaw" (53 : Nat) ({ cls := "MetAngles", name := "meet", desc := "(III)I" } : Jvm.MethodName)) ∈ mg_ws := mg_in 202 rfl rfl
set_option maxRecDepth 20000 in
theorem mw_168 : (Jvm.Cond.instanceMethod ({ cls := "MetAngles", name := "meet", desc := "(III)I" } : Jvm.MethodName)) ∈ mg_ws := mg_in 203 rfl rfl
set_option maxRecDepth 20000 in
theorem mw_169 : (Jvm.Cond.selects "MetAngles" ({ cls := "MetAngles", name := "meet", desc := "(III)I" } : Jvm.MethodName) ({ cls := "MetAngles", name := "meet", desc := "(III)I" } : Jvm.MethodName)) ∈ mg_ws := mg_in 204 rfl rfl
set_option maxRecDepth 20000 in
theorem mw_170 : (Jvm.Cond.code ({ cls := "MetAngles", name := "meet", desc := "(III)I" } : Jvm.MethodName) prog_1_method_10_code (8 : Nat) (Option.some Jvm.ClassFile.FieldType.int)) ∈ mg_ws := mg_in 205 rfl rfl
set_option maxRecDepth 20000 in
theorem mw_171 : (Jvm.Cond.methodLink "MetAngles" (105 : Nat) ({ cls := "java/lang/Math", name := "max", desc := "(II)I" } : Jvm.MethodName)) ∈ mg_ws := mg_in 206 rfl rfl
set_option maxRecDepth 20000 in
theorem mw_172 : (Jvm.Cond.static ({ cls := "java/lang/Math", name := "max", desc := "(II)I" } : Jvm.MethodName)) ∈ mg_ws := mg_in 207 rfl rfl
set_option maxRecDepth 20000 in
theorem mw_173 : (Jvm.Cond.code ({ cls := "java/lang/Math", name := "max", desc := "(II)I" } : Jvm.MethodName) prog_7_method_65_code (2 : Nat) (Option.some Jvm.ClassFile.FieldType.int)) ∈ mg_ws := mg_in 208 rfl rfl
set_option maxRecDepth 20000 in
theorem mw_174 : (Jvm.Cond.methodLink "MetAngles" (110 : Nat) ({ cls := "MetAngles", name := "agreeAhead", desc := "(LMetAngles$Turn;LMetAngles$Turn;LMetAngles$Turn;I)Z" } : Jvm.MethodName)) ∈ mg_ws := mg_in 209 rfl rfl
set_option maxRecDepth 20000 in
theorem mw_175 : (Jvm.Cond.static ({ cls := "MetAngles", name := "agreeAhead", desc := "(LMetAngles$Turn;LMetAngles$Turn;LMetAngles$Turn;I)Z" } : Jvm.MethodName)) ∈ mg_ws := mg_in 210 rfl rfl
set_option maxRecDepth 20000 in
theorem mw_176 : (Jvm.Cond.code ({ cls := "MetAngles", name := "agreeAhead", desc := "(LMetAngles$Turn;LMetAngles$Turn;LMetAngles$Turn;I)Z" } : Jvm.MethodName) prog_1_method_47_code (7 : Nat) (Option.some Jvm.ClassFile.FieldType.boolean)) ∈ mg_ws := mg_in 211 rfl rfl
set_option maxRecDepth 20000 in
theorem mw_177 : (Jvm.Cond.methodLink "MetAngles" (218 : Nat) ({ cls := "MetAngles", name := "agree", desc := "(II)Z" } : Jvm.MethodName)) ∈ mg_ws := mg_in 212 rfl rfl
set_option maxRecDepth 20000 in
theorem mw_178 : (Jvm.Cond.static ({ cls := "MetAngles", name := "agree", desc := "(II)Z" } : Jvm.MethodName)) ∈ mg_ws := mg_in 213 rfl rfl
set_option maxRecDepth 20000 in
theorem mw_179 : (Jvm.Cond.code ({ cls := "MetAngles", name := "agree", desc := "(II)Z" } : Jvm.MethodName) prog_1_method_46_code (2 : Nat) (Option.some Jvm.ClassFile.FieldType.boolean)) ∈ mg_ws := mg_in 214 rfl rfl
set_option maxRecDepth 20000 in
theorem mw_180 : (Jvm.Cond.methodLink "MetAngles" (114 : Nat) ({ cls := "MetAngles", name := "agreeInRings", desc := "(LMetAngles$Turn;LMetAngles$Turn;LMetAngles$Turn;I)Z" } : Jvm.MethodName)) ∈ mg_ws := mg_in 215 rfl rfl
set_option maxRecDepth 20000 in
theorem mw_182 : (Jvm.Cond.instanceMethod ({ cls := "MetAngles", name := "agreeInRings", desc := "(LMetAngles$Turn;LMetAngles$Turn;LMetAngles$Turn;I)Z" } : Jvm.MethodName)) ∈ mg_ws := mg_in 217 rfl rfl
set_option maxRecDepth 20000 in
theorem mw_183 : (Jvm.Cond.code ({ cls := "MetAngles", name := "agreeInRings", desc := "(LMetAngles$Turn;LMetAngles$Turn;LMetAngles$Turn;I)Z" } : Jvm.MethodName) prog_1_method_48_code (10 : Nat) (Option.some Jvm.ClassFile.FieldType.boolean)) ∈ mg_ws := mg_in 218 rfl rfl
set_option maxRecDepth 20000 in
theorem mw_184 : (Jvm.Cond.methodLink "MetAnglesLaw" (57 : Nat) ({ cls := "MetAngles", name := "pairs", desc := "(I)I" } : Jvm.MethodName)) ∈ mg_ws := mg_in 219 rfl rfl
set_option maxRecDepth 20000 in
theorem mw_185 : (Jvm.Cond.instanceMethod ({ cls := "MetAngles", name := "pairs", desc := "(I)I" } : Jvm.MethodName)) ∈ mg_ws := mg_in 220 rfl rfl
set_option maxRecDepth 20000 in
theorem mw_186 : (Jvm.Cond.selects "MetAngles" ({ cls := "MetAngles", name := "pairs", desc := "(I)I" } : Jvm.MethodName) ({ cls := "MetAngles", name := "pairs", desc := "(I)I" } : Jvm.MethodName)) ∈ mg_ws := mg_in 221 rfl rfl
set_option maxRecDepth 20000 in
theorem mw_187 : (Jvm.Cond.code ({ cls := "MetAngles", name := "pairs", desc := "(I)I" } : Jvm.MethodName) prog_1_method_11_code (2 : Nat) (Option.some Jvm.ClassFile.FieldType.int)) ∈ mg_ws := mg_in 222 rfl rfl
set_option maxRecDepth 20000 in
theorem mw_188 : (Jvm.Cond.methodLink "MetAngles" (117 : Nat) ({ cls := "MetAngles", name := "isPairedLength", desc := "(I)Z" } : Jvm.MethodName)) ∈ mg_ws := mg_in 223 rfl rfl
set_option maxRecDepth 20000 in
theorem mw_189 : (Jvm.Cond.static ({ cls := "MetAngles", name := "isPairedLength", desc := "(I)Z" } : Jvm.MethodName)) ∈ mg_ws := mg_in 224 rfl rfl
set_option maxRecDepth 20000 in
theorem mw_190 : (Jvm.Cond.code ({ cls := "MetAngles", name := "isPairedLength", desc := "(I)Z" } : Jvm.MethodName) prog_1_method_28_code (1 : Nat) (Option.some Jvm.ClassFile.FieldType.boolean)) ∈ mg_ws := mg_in 225 rfl rfl
set_option maxRecDepth 20000 in
theorem mw_191 : (Jvm.Cond.methodLink "MetAngles" (120 : Nat) ({ cls := "MetAngles", name := "known", desc := "()LMetAngles$Partners;" } : Jvm.MethodName)) ∈ mg_ws := mg_in 226 rfl rfl
set_option maxRecDepth 20000 in
theorem mw_193 : (Jvm.Cond.instanceMethod ({ cls := "MetAngles", name := "known", desc := "()LMetAngles$Partners;" } : Jvm.MethodName)) ∈ mg_ws := mg_in 228 rfl rfl
set_option maxRecDepth 20000 in
theorem mw_194 : (Jvm.Cond.code ({ cls := "MetAngles", name := "known", desc := "()LMetAngles$Partners;" } : Jvm.MethodName) prog_1_method_49_code (1 : Nat) (Option.some (Jvm.ClassFile.FieldType.object "MetAngles$Partners"))) ∈ mg_ws := mg_in 229 rfl rfl
set_option maxRecDepth 20000 in
theorem mw_195 : (Jvm.Cond.classLink "MetAngles" (125 : Nat) "MetAngles$Partners") ∈ mg_ws := mg_in 230 rfl rfl
set_option maxRecDepth 20000 in
theorem mw_196 : (Jvm.Cond.instantiable "MetAngles$Partners" (4 : Nat)) ∈ mg_ws := mg_in 231 rfl rfl
set_option maxRecDepth 20000 in
theorem mw_197 : (Jvm.Cond.methodLink "MetAngles" (221 : Nat) ({ cls := "MetAngles$Partners", name := "<init>", desc := "()V" } : Jvm.MethodName)) ∈ mg_ws := mg_in 232 rfl rfl
set_option maxRecDepth 20000 in
theorem mw_198 : (Jvm.Cond.instanceMethod ({ cls := "MetAngles$Partners", name := "<init>", desc := "()V" } : Jvm.MethodName)) ∈ mg_ws := mg_in 233 rfl rfl
set_option maxRecDepth 20000 in
theorem mw_199 : (Jvm.Cond.code ({ cls := "MetAngles$Partners", name := "<init>", desc := "()V" } : Jvm.MethodName) prog_2_method_1_code (3 : Nat) (Option.none : Option Jvm.ClassFile.FieldType)) ∈ mg_ws := mg_in 234 rfl rfl
set_option maxRecDepth 20000 in
theorem mw_200 : (Jvm.Cond.methodLink "MetAngles$Partners" (3 : Nat) ({ cls := "java/lang/Object", name := "<init>", desc := "()V" } : Jvm.MethodName)) ∈ mg_ws := mg_in 235 rfl rfl
set_option maxRecDepth 20000 in
theorem mw_201 : (Jvm.Cond.methodLink "MetAngles$Partners" (25 : Nat) ({ cls := "MetAngles$Partners", name := "join", desc := "(II)V" } : Jvm.MethodName)) ∈ mg_ws := mg_in 236 rfl rfl
set_option maxRecDepth 20000 in
theorem mw_203 : (Jvm.Cond.instanceMethod ({ cls := "MetAngles$Partners", name := "join", desc := "(II)V" } : Jvm.MethodName)) ∈ mg_ws := mg_in 238 rfl rfl
set_option maxRecDepth 20000 in
theorem mw_204 : (Jvm.Cond.code ({ cls := "MetAngles$Partners", name := "join", desc := "(II)V" } : Jvm.MethodName) prog_2_method_4_code (3 : Nat) (Option.none : Option Jvm.ClassFile.FieldType)) ∈ mg_ws := mg_in 239 rfl rfl
set_option maxRecDepth 20000 in
theorem mw_206 : (Jvm.Cond.methodLink "MetAngles$Partners" (33 : Nat) ({ cls := "MetAngles$Partners", name := "markFree", desc := "([ZI)V" } : Jvm.MethodName)) ∈ mg_ws := mg_in 241 rfl rfl
set_option maxRecDepth 20000 in
theorem mw_207 : (Jvm.Cond.static ({ cls := "MetAngles$Partners", name := "markFree", desc := "([ZI)V" } : Jvm.MethodName)) ∈ mg_ws := mg_in 242 rfl rfl
set_option maxRecDepth 20000 in
theorem mw_208 : (Jvm.Cond.code ({ cls := "MetAngles$Partners", name := "markFree", desc := "([ZI)V" } : Jvm.MethodName) prog_2_method_2_code (3 : Nat) (Option.none : Option Jvm.ClassFile.FieldType)) ∈ mg_ws := mg_in 243 rfl rfl
set_option maxRecDepth 20000 in
theorem mw_210 : (Jvm.Cond.methodLink "MetAngles$Partners" (37 : Nat) ({ cls := "MetAngles$Partners", name := "joinFree", desc := "([ZI)V" } : Jvm.MethodName)) ∈ mg_ws := mg_in 245 rfl rfl
set_option maxRecDepth 20000 in
theorem mw_212 : (Jvm.Cond.instanceMethod ({ cls := "MetAngles$Partners", name := "joinFree", desc := "([ZI)V" } : Jvm.MethodName)) ∈ mg_ws := mg_in 247 rfl rfl
set_option maxRecDepth 20000 in
theorem mw_213 : (Jvm.Cond.code ({ cls := "MetAngles$Partners", name := "joinFree", desc := "([ZI)V" } : Jvm.MethodName) prog_2_method_3_code (7 : Nat) (Option.none : Option Jvm.ClassFile.FieldType)) ∈ mg_ws := mg_in 248 rfl rfl
set_option maxRecDepth 20000 in
theorem mw_214 : (Jvm.Cond.constantLong "MetAngles$Partners" (46 : Nat) (21082635 : Int64)) ∈ mg_ws := mg_in 249 rfl rfl
set_option maxRecDepth 20000 in
theorem mw_216 : (Jvm.Cond.methodLink "MetAngles$Partners" (52 : Nat) ({ cls := "java/lang/Math", name := "min", desc := "(II)I" } : Jvm.MethodName)) ∈ mg_ws := mg_in 251 rfl rfl
set_option maxRecDepth 20000 in
theorem mw_217 : (Jvm.Cond.static ({ cls := "java/lang/Math", name := "min", desc := "(II)I" } : Jvm.MethodName)) ∈ mg_ws := mg_in 252 rfl rfl
set_option maxRecDepth 20000 in
theorem mw_218 : (Jvm.Cond.code ({ cls := "java/lang/Math", name := "min", desc := "(II)I" } : Jvm.MethodName) prog_7_method_69_code (2 : Nat) (Option.some Jvm.ClassFile.FieldType.int)) ∈ mg_ws := mg_in 253 rfl rfl
set_option maxRecDepth 20000 in
theorem mw_219 : (Jvm.Cond.methodLink "MetAngles$Partners" (57 : Nat) ({ cls := "MetAngles$Partners", name := "crossesNone", desc := "(II)Z" } : Jvm.MethodName)) ∈ mg_ws := mg_in 254 rfl rfl
set_option maxRecDepth 20000 in
theorem mw_221 : (Jvm.Cond.instanceMethod ({ cls := "MetAngles$Partners", name := "crossesNone", desc := "(II)Z" } : Jvm.MethodName)) ∈ mg_ws := mg_in 256 rfl rfl
set_option maxRecDepth 20000 in
theorem mw_222 : (Jvm.Cond.code ({ cls := "MetAngles$Partners", name := "crossesNone", desc := "(II)Z" } : Jvm.MethodName) prog_2_method_5_code (6 : Nat) (Option.some Jvm.ClassFile.FieldType.boolean)) ∈ mg_ws := mg_in 257 rfl rfl
set_option maxRecDepth 20000 in
theorem mw_224 : (Jvm.Cond.fieldLink "MetAngles$Partners" (9 : Nat) "MetAngles$Partners" "less" "[I") ∈ mg_ws := mg_in 259 rfl rfl
set_option maxRecDepth 20000 in
theorem mw_225 : (Jvm.Cond.fieldLink "MetAngles$Partners" (15 : Nat) "MetAngles$Partners" "greater" "[I") ∈ mg_ws := mg_in 260 rfl rfl
set_option maxRecDepth 20000 in
theorem mw_226 : (Jvm.Cond.fieldLink "MetAngles$Partners" (18 : Nat) "MetAngles$Partners" "upTo" "[I") ∈ mg_ws := mg_in 261 rfl rfl
set_option maxRecDepth 20000 in
theorem mw_227 : (Jvm.Cond.fieldLink "MetAngles$Partners" (21 : Nat) "MetAngles$Partners" "made" "I") ∈ mg_ws := mg_in 262 rfl rfl
set_option maxRecDepth 20000 in
theorem mw_237 : (Jvm.Cond.arrayClass Jvm.ClassFile.FieldType.boolean) ∈ mg_ws := mg_in 272 rfl rfl
set_option maxRecDepth 20000 in
theorem mw_238 : (Jvm.Cond.methodLink "MetAngles" (124 : Nat) ({ cls := "MetAngles$Partners", name := "amountOf", desc := "(I)I" } : Jvm.MethodName)) ∈ mg_ws := mg_in 273 rfl rfl
set_option maxRecDepth 20000 in
theorem mw_239 : (Jvm.Cond.instanceMethod ({ cls := "MetAngles$Partners", name := "amountOf", desc := "(I)I" } : Jvm.MethodName)) ∈ mg_ws := mg_in 274 rfl rfl
set_option maxRecDepth 20000 in
theorem mw_240 : (Jvm.Cond.selects "MetAngles$Partners" ({ cls := "MetAngles$Partners", name := "amountOf", desc := "(I)I" } : Jvm.MethodName) ({ cls := "MetAngles$Partners", name := "amountOf", desc := "(I)I" } : Jvm.MethodName)) ∈ mg_ws := mg_in 275 rfl rfl
set_option maxRecDepth 20000 in
theorem mw_241 : (Jvm.Cond.code ({ cls := "MetAngles$Partners", name := "amountOf", desc := "(I)I" } : Jvm.MethodName) prog_2_method_8_code (2 : Nat) (Option.some Jvm.ClassFile.FieldType.int)) ∈ mg_ws := mg_in 276 rfl rfl
set_option maxRecDepth 20000 in
theorem mw_242 : (Jvm.Cond.methodLink "MetAngles$Partners" (65 : Nat) ({ cls := "MetAngles$Partners", name := "amountUpTo", desc := "(I)I" } : Jvm.MethodName)) ∈ mg_ws := mg_in 277 rfl rfl
set_option maxRecDepth 20000 in
theorem mw_243 : (Jvm.Cond.instanceMethod ({ cls := "MetAngles$Partners", name := "amountUpTo", desc := "(I)I" } : Jvm.MethodName)) ∈ mg_ws := mg_in 278 rfl rfl
set_option maxRecDepth 20000 in
theorem mw_244 : (Jvm.Cond.selects "MetAngles$Partners" ({ cls := "MetAngles$Partners", name := "amountUpTo", desc := "(I)I" } : Jvm.MethodName) ({ cls := "MetAngles$Partners", name := "amountUpTo", desc := "(I)I" } : Jvm.MethodName)) ∈ mg_ws := mg_in 279 rfl rfl
set_option maxRecDepth 20000 in
theorem mw_245 : (Jvm.Cond.code ({ cls := "MetAngles$Partners", name := "amountUpTo", desc := "(I)I" } : Jvm.MethodName) prog_2_method_7_code (2 : Nat) (Option.some Jvm.ClassFile.FieldType.int)) ∈ mg_ws := mg_in 280 rfl rfl
set_option maxRecDepth 20000 in
theorem mw_246 : (Jvm.Cond.methodLink "MetAnglesLaw" (61 : Nat) ({ cls := "MetAngles", name := "pair", desc := "(III)I" } : Jvm.MethodName)) ∈ mg_ws := mg_in 281 rfl rfl
set_option maxRecDepth 20000 in
theorem mw_247 : (Jvm.Cond.instanceMethod ({ cls := "MetAngles", name := "pair", desc := "(III)I" } : Jvm.MethodName)) ∈ mg_ws := mg_in 282 rfl rfl
set_option maxRecDepth 20000 in
theorem mw_248 : (Jvm.Cond.selects "MetAngles" ({ cls := "MetAngles", name := "pair", desc := "(III)I" } : Jvm.MethodName) ({ cls := "MetAngles", name := "pair", desc := "(III)I" } : Jvm.MethodName)) ∈ mg_ws := mg_in 283 rfl rfl
set_option maxRecDepth 20000 in
theorem mw_249 : (Jvm.Cond.code ({ cls := "MetAngles", name := "pair", desc := "(III)I" } : Jvm.MethodName) prog_1_method_12_code (5 : Nat) (Option.some Jvm.ClassFile.FieldType.int)) ∈ mg_ws := mg_in 284 rfl rfl
set_option maxRecDepth 20000 in
theorem mw_250 : (Jvm.Cond.methodLink "MetAngles" (129 : Nat) ({ cls := "MetAngles$Partners", name := "amountUpTo", desc := "(I)I" } : Jvm.MethodName)) ∈ mg_ws := mg_in 285 rfl rfl
set_option maxRecDepth 20000 in
theorem mw_251 : (Jvm.Cond.methodLink "MetAngles" (132 : Nat) ({ cls := "MetAngles$Partners", name := "digitsOf", desc := "(III)I" } : Jvm.MethodName)) ∈ mg_ws := mg_in 286 rfl rfl
set_option maxRecDepth 20000 in
theorem mw_252 : (Jvm.Cond.instanceMethod ({ cls := "MetAngles$Partners", name := "digitsOf", desc := "(III)I" } : Jvm.MethodName)) ∈ mg_ws := mg_in 287 rfl rfl
set_option maxRecDepth 20000 in
theorem mw_253 : (Jvm.Cond.selects "MetAngles$Partners" ({ cls := "MetAngles$Partners", name := "digitsOf", desc := "(III)I" } : Jvm.MethodName) ({ cls := "MetAngles$Partners", name := "digitsOf", desc := "(III)I" } : Jvm.MethodName)) ∈ mg_ws := mg_in 288 rfl rfl
set_option maxRecDepth 20000 in
theorem mw_254 : (Jvm.Cond.code ({ cls := "MetAngles$Partners", name := "digitsOf", desc := "(III)I" } : Jvm.MethodName) prog_2_method_12_code (4 : Nat) (Option.some Jvm.ClassFile.FieldType.int)) ∈ mg_ws := mg_in 289 rfl rfl
set_option maxRecDepth 20000 in
theorem mw_255 : (Jvm.Cond.methodLink "MetAngles$Partners" (68 : Nat) ({ cls := "MetAngles$Partners", name := "isMade", desc := "(I)Z" } : Jvm.MethodName)) ∈ mg_ws := mg_in 290 rfl rfl
set_option maxRecDepth 20000 in
theorem mw_257 : (Jvm.Cond.instanceMethod ({ cls := "MetAngles$Partners", name := "isMade", desc := "(I)Z" } : Jvm.MethodName)) ∈ mg_ws := mg_in 292 rfl rfl
set_option maxRecDepth 20000 in
theorem mw_258 : (Jvm.Cond.code ({ cls := "MetAngles$Partners", name := "isMade", desc := "(I)Z" } : Jvm.MethodName) prog_2_method_6_code (2 : Nat) (Option.some Jvm.ClassFile.FieldType.boolean)) ∈ mg_ws := mg_in 293 rfl rfl
set_option maxRecDepth 20000 in
theorem mw_259 : (Jvm.Cond.methodLink "MetAnglesLaw" (65 : Nat) ({ cls := "MetAngles", name := "partner", desc := "(I)I" } : Jvm.MethodName)) ∈ mg_ws := mg_in 294 rfl rfl
set_option maxRecDepth 20000 in
theorem mw_260 : (Jvm.Cond.instanceMethod ({ cls := "MetAngles", name := "partner", desc := "(I)I" } : Jvm.MethodName)) ∈ mg_ws := mg_in 295 rfl rfl
set_option maxRecDepth 20000 in
theorem mw_261 : (Jvm.Cond.selects "MetAngles" ({ cls := "MetAngles", name := "partner", desc := "(I)I" } : Jvm.MethodName) ({ cls := "MetAngles", name := "partner", desc := "(I)I" } : Jvm.MethodName)) ∈ mg_ws := mg_in 296 rfl rfl
set_option maxRecDepth 20000 in
theorem mw_262 : (Jvm.Cond.code ({ cls := "MetAngles", name := "partner", desc := "(I)I" } : Jvm.MethodName) prog_1_method_13_code (4 : Nat) (Option.some Jvm.ClassFile.FieldType.int)) ∈ mg_ws := mg_in 297 rfl rfl
set_option maxRecDepth 20000 in
theorem mw_263 : (Jvm.Cond.methodLink "MetAngles" (136 : Nat) ({ cls := "MetAngles", name := "pairOf", desc := "(LMetAngles$Turn;)I" } : Jvm.MethodName)) ∈ mg_ws := mg_in 298 rfl rfl
set_option maxRecDepth 20000 in
theorem mw_265 : (Jvm.Cond.instanceMethod ({ cls := "MetAngles", name := "pairOf", desc := "(LMetAngles$Turn;)I" } : Jvm.MethodName)) ∈ mg_ws := mg_in 300 rfl rfl
set_option maxRecDepth 20000 in
theorem mw_266 : (Jvm.Cond.code ({ cls := "MetAngles", name := "pairOf", desc := "(LMetAngles$Turn;)I" } : Jvm.MethodName) prog_1_method_50_code (2 : Nat) (Option.some Jvm.ClassFile.FieldType.int)) ∈ mg_ws := mg_in 301 rfl rfl
set_option maxRecDepth 20000 in
theorem mw_267 : (Jvm.Cond.methodLink "MetAngles" (139 : Nat) ({ cls := "MetAngles$Turn", name := "inParts", desc := "()I" } : Jvm.MethodName)) ∈ mg_ws := mg_in 302 rfl rfl
set_option maxRecDepth 20000 in
theorem mw_268 : (Jvm.Cond.instanceMethod ({ cls := "MetAngles$Turn", name := "inParts", desc := "()I" } : Jvm.MethodName)) ∈ mg_ws := mg_in 303 rfl rfl
set_option maxRecDepth 20000 in
theorem mw_269 : (Jvm.Cond.selects "MetAngles$Turn" ({ cls := "MetAngles$Turn", name := "inParts", desc := "()I" } : Jvm.MethodName) ({ cls := "MetAngles$Turn", name := "inParts", desc := "()I" } : Jvm.MethodName)) ∈ mg_ws := mg_in 304 rfl rfl
set_option maxRecDepth 20000 in
theorem mw_270 : (Jvm.Cond.code ({ cls := "MetAngles$Turn", name := "inParts", desc := "()I" } : Jvm.MethodName) prog_4_method_8_code (1 : Nat) (Option.some Jvm.ClassFile.FieldType.int)) ∈ mg_ws := mg_in 305 rfl rfl
set_option maxRecDepth 20000 in
theorem mw_271 : (Jvm.Cond.constantLong "MetAngles$Turn" (51 : Nat) (21082635 : Int64)) ∈ mg_ws := mg_in 306 rfl rfl
set_option maxRecDepth 20000 in
theorem mw_272 : (Jvm.Cond.methodLink "MetAngles" (222 : Nat) ({ cls := "MetAngles$Partners", name := "pairWith", desc := "(I)I" } : Jvm.MethodName)) ∈ mg_ws := mg_in 307 rfl rfl
set_option maxRecDepth 20000 in
theorem mw_273 : (Jvm.Cond.instanceMethod ({ cls := "MetAngles$Partners", name := "pairWith", desc := "(I)I" } : Jvm.MethodName)) ∈ mg_ws := mg_in 308 rfl rfl
set_option maxRecDepth 20000 in
theorem mw_274 : (Jvm.Cond.selects "MetAngles$Partners" ({ cls := "MetAngles$Partners", name := "pairWith", desc := "(I)I" } : Jvm.MethodName) ({ cls := "MetAngles$Partners", name := "pairWith", desc := "(I)I" } : Jvm.MethodName)) ∈ mg_ws := mg_in 309 rfl rfl
set_option maxRecDepth 20000 in
theorem mw_275 : (Jvm.Cond.code ({ cls := "MetAngles$Partners", name := "pairWith", desc := "(I)I" } : Jvm.MethodName) prog_2_method_10_code (3 : Nat) (Option.some Jvm.ClassFile.FieldType.int)) ∈ mg_ws := mg_in 310 rfl rfl
set_option maxRecDepth 20000 in
theorem mw_276 : (Jvm.Cond.methodLink "MetAngles" (143 : Nat) ({ cls := "MetAngles$Partners", name := "otherEnd", desc := "(II)I" } : Jvm.MethodName)) ∈ mg_ws := mg_in 311 rfl rfl
set_option maxRecDepth 20000 in
theorem mw_277 : (Jvm.Cond.instanceMethod ({ cls := "MetAngles$Partners", name := "otherEnd", desc := "(II)I" } : Jvm.MethodName)) ∈ mg_ws := mg_in 312 rfl rfl
set_option maxRecDepth 20000 in
theorem mw_278 : (Jvm.Cond.selects "MetAngles$Partners" ({ cls := "MetAngles$Partners", name := "otherEnd", desc := "(II)I" } : Jvm.MethodName) ({ cls := "MetAngles$Partners", name := "otherEnd", desc := "(II)I" } : Jvm.MethodName)) ∈ mg_ws := mg_in 313 rfl rfl
set_option maxRecDepth 20000 in
theorem mw_279 : (Jvm.Cond.code ({ cls := "MetAngles$Partners", name := "otherEnd", desc := "(II)I" } : Jvm.MethodName) prog_2_method_11_code (3 : Nat) (Option.some Jvm.ClassFile.FieldType.int)) ∈ mg_ws := mg_in 314 rfl rfl
set_option maxRecDepth 20000 in
theorem mw_280 : (Jvm.Cond.constantLong "MetAngles" (146 : Nat) (21082635 : Int64)) ∈ mg_ws := mg_in 315 rfl rfl
set_option maxRecDepth 20000 in
theorem mw_281 : (Jvm.Cond.methodLink "MetAnglesLaw" (69 : Nat) ({ cls := "MetAngles", name := "held", desc := "(II)I" } : Jvm.MethodName)) ∈ mg_ws := mg_in 316 rfl rfl
set_option maxRecDepth 20000 in
theorem mw_282 : (Jvm.Cond.instanceMethod ({ cls := "MetAngles", name := "held", desc := "(II)I" } : Jvm.MethodName)) ∈ mg_ws := mg_in 317 rfl rfl
set_option maxRecDepth 20000 in
theorem mw_283 : (Jvm.Cond.selects "MetAngles" ({ cls := "MetAngles", name := "held", desc := "(II)I" } : Jvm.MethodName) ({ cls := "MetAngles", name := "held", desc := "(II)I" } : Jvm.MethodName)) ∈ mg_ws := mg_in 318 rfl rfl
set_option maxRecDepth 20000 in
theorem mw_284 : (Jvm.Cond.code ({ cls := "MetAngles", name := "held", desc := "(II)I" } : Jvm.MethodName) prog_1_method_14_code (7 : Nat) (Option.some Jvm.ClassFile.FieldType.int)) ∈ mg_ws := mg_in 319 rfl rfl
set_option maxRecDepth 20000 in
theorem mw_285 : (Jvm.Cond.methodLink "MetAngles" (148 : Nat) ({ cls := "MetAngles$Partners", name := "holdsTurn", desc := "(ILMetAngles$Turn;)Z" } : Jvm.MethodName)) ∈ mg_ws := mg_in 320 rfl rfl
set_option maxRecDepth 20000 in
theorem mw_286 : (Jvm.Cond.instanceMethod ({ cls := "MetAngles$Partners", name := "holdsTurn", desc := "(ILMetAngles$Turn;)Z" } : Jvm.MethodName)) ∈ mg_ws := mg_in 321 rfl rfl
set_option maxRecDepth 20000 in
theorem mw_287 : (Jvm.Cond.selects "MetAngles$Partners" ({ cls := "MetAngles$Partners", name := "holdsTurn", desc := "(ILMetAngles$Turn;)Z" } : Jvm.MethodName) ({ cls := "MetAngles$Partners", name := "holdsTurn", desc := "(ILMetAngles$Turn;)Z" } : Jvm.MethodName)) ∈ mg_ws := mg_in 322 rfl rfl
set_option maxRecDepth 20000 in
theorem mw_288 : (Jvm.Cond.code ({ cls := "MetAngles$Partners", name := "holdsTurn", desc := "(ILMetAngles$Turn;)Z" } : Jvm.MethodName) prog_2_method_13_code (5 : Nat) (Option.some Jvm.ClassFile.FieldType.boolean)) ∈ mg_ws := mg_in 323 rfl rfl
set_option maxRecDepth 20000 in
theorem mw_289 : (Jvm.Cond.methodLink "MetAnglesLaw" (73 : Nat) ({ cls := "MetAngles", name := "holder", desc := "(IIII)I" } : Jvm.MethodName)) ∈ mg_ws := mg_in 324 rfl rfl
set_option maxRecDepth 20000 in
theorem mw_290 : (Jvm.Cond.instanceMethod ({ cls := "MetAngles", name := "holder", desc := "(IIII)I" } : Jvm.MethodName)) ∈ mg_ws := mg_in 325 rfl rfl
set_option maxRecDepth 20000 in
theorem mw_291 : (Jvm.Cond.selects "MetAngles" ({ cls := "MetAngles", name := "holder", desc := "(IIII)I" } : Jvm.MethodName) ({ cls := "MetAngles", name := "holder", desc := "(IIII)I" } : Jvm.MethodName)) ∈ mg_ws := mg_in 326 rfl rfl
set_option maxRecDepth 20000 in
theorem mw_292 : (Jvm.Cond.code ({ cls := "MetAngles", name := "holder", desc := "(IIII)I" } : Jvm.MethodName) prog_1_method_15_code (9 : Nat) (Option.some Jvm.ClassFile.FieldType.int)) ∈ mg_ws := mg_in 327 rfl rfl
set_option maxRecDepth 20000 in
theorem mw_293 : (Jvm.Cond.methodLink "MetAngles" (152 : Nat) ({ cls := "MetAngles$Partners", name := "nextHolder", desc := "(LMetAngles$Turn;II)I" } : Jvm.MethodName)) ∈ mg_ws := mg_in 328 rfl rfl
set_option maxRecDepth 20000 in
theorem mw_294 : (Jvm.Cond.instanceMethod ({ cls := "MetAngles$Partners", name := "nextHolder", desc := "(LMetAngles$Turn;II)I" } : Jvm.MethodName)) ∈ mg_ws := mg_in 329 rfl rfl
set_option maxRecDepth 20000 in
theorem mw_295 : (Jvm.Cond.selects "MetAngles$Partners" ({ cls := "MetAngles$Partners", name := "nextHolder", desc := "(LMetAngles$Turn;II)I" } : Jvm.MethodName) ({ cls := "MetAngles$Partners", name := "nextHolder", desc := "(LMetAngles$Turn;II)I" } : Jvm.MethodName)) ∈ mg_ws := mg_in 330 rfl rfl
set_option maxRecDepth 20000 in
theorem mw_296 : (Jvm.Cond.code ({ cls := "MetAngles$Partners", name := "nextHolder", desc := "(LMetAngles$Turn;II)I" } : Jvm.MethodName) prog_2_method_15_code (7 : Nat) (Option.some Jvm.ClassFile.FieldType.int)) ∈ mg_ws := mg_in 331 rfl rfl
set_option maxRecDepth 20000 in
theorem mw_297 : (Jvm.Cond.methodLink "MetAngles$Partners" (78 : Nat) ({ cls := "MetAngles$Partners", name := "holdsTurn", desc := "(ILMetAngles$Turn;)Z" } : Jvm.MethodName)) ∈ mg_ws := mg_in 332 rfl rfl
set_option maxRecDepth 20000 in
theorem mw_298 : (Jvm.Cond.methodLink "MetAngles" (156 : Nat) ({ cls := "MetAngles$Partners", name := "lengthOf", desc := "(I)I" } : Jvm.MethodName)) ∈ mg_ws := mg_in 333 rfl rfl
set_option maxRecDepth 20000 in
theorem mw_299 : (Jvm.Cond.instanceMethod ({ cls := "MetAngles$Partners", name := "lengthOf", desc := "(I)I" } : Jvm.MethodName)) ∈ mg_ws := mg_in 334 rfl rfl
set_option maxRecDepth 20000 in
theorem mw_300 : (Jvm.Cond.selects "MetAngles$Partners" ({ cls := "MetAngles$Partners", name := "lengthOf", desc := "(I)I" } : Jvm.MethodName) ({ cls := "MetAngles$Partners", name := "lengthOf", desc := "(I)I" } : Jvm.MethodName)) ∈ mg_ws := mg_in 335 rfl rfl
set_option maxRecDepth 20000 in
theorem mw_301 : (Jvm.Cond.code ({ cls := "MetAngles$Partners", name := "lengthOf", desc := "(I)I" } : Jvm.MethodName) prog_2_method_9_code (3 : Nat) (Option.some Jvm.ClassFile.FieldType.int)) ∈ mg_ws := mg_in 336 rfl rfl
set_option maxRecDepth 20000 in
theorem mw_302 : (Jvm.Cond.methodLink "MetAnglesLaw" (77 : Nat) ({ cls := "MetAngles", name := "holds", desc := "(II)I" } : Jvm.MethodName)) ∈ mg_ws := mg_in 337 rfl rfl
set_option maxRecDepth 20000 in
theorem mw_303 : (Jvm.Cond.instanceMethod ({ cls := "MetAngles", name := "holds", desc := "(II)I" } : Jvm.MethodName)) ∈ mg_ws := mg_in 338 rfl rfl
set_option maxRecDepth 20000 in
theorem mw_304 : (Jvm.Cond.selects "MetAngles" ({ cls := "MetAngles", name := "holds", desc := "(II)I" } : Jvm.MethodName) ({ cls := "MetAngles", name := "holds", desc := "(II)I" } : Jvm.MethodName)) ∈ mg_ws := mg_in 339 rfl rfl
set_option maxRecDepth 20000 in
theorem mw_305 : (Jvm.Cond.code ({ cls := "MetAngles", name := "holds", desc := "(II)I" } : Jvm.MethodName) prog_1_method_16_code (7 : Nat) (Option.some Jvm.ClassFile.FieldType.int)) ∈ mg_ws := mg_in 340 rfl rfl
set_option maxRecDepth 20000 in
theorem mw_306 : (Jvm.Cond.methodLink "MetAngles" (159 : Nat) ({ cls := "MetAngles$Partners", name := "holdsPair", desc := "(II)Z" } : Jvm.MethodName)) ∈ mg_ws := mg_in 341 rfl rfl
set_option maxRecDepth 20000 in
theorem mw_307 : (Jvm.Cond.instanceMethod ({ cls := "MetAngles$Partners", name := "holdsPair", desc := "(II)Z" } : Jvm.MethodName)) ∈ mg_ws := mg_in 342 rfl rfl
set_option maxRecDepth 20000 in
theorem mw_308 : (Jvm.Cond.selects "MetAngles$Partners" ({ cls := "MetAngles$Partners", name := "holdsPair", desc := "(II)Z" } : Jvm.MethodName) ({ cls := "MetAngles$Partners", name := "holdsPair", desc := "(II)Z" } : Jvm.MethodName)) ∈ mg_ws := mg_in 343 rfl rfl
set_option maxRecDepth 20000 in
theorem mw_309 : (Jvm.Cond.code ({ cls := "MetAngles$Partners", name := "holdsPair", desc := "(II)Z" } : Jvm.MethodName) prog_2_method_14_code (3 : Nat) (Option.some Jvm.ClassFile.FieldType.boolean)) ∈ mg_ws := mg_in 344 rfl rfl
set_option maxRecDepth 20000 in
theorem mw_310 : (Jvm.Cond.methodLink "MetAnglesLaw" (81 : Nat) ({ cls := "MetAngles", name := "between", desc := "(III)I" } : Jvm.MethodName)) ∈ mg_ws := mg_in 345 rfl rfl
set_option maxRecDepth 20000 in
theorem mw_311 : (Jvm.Cond.instanceMethod ({ cls := "MetAngles", name := "between", desc := "(III)I" } : Jvm.MethodName)) ∈ mg_ws := mg_in 346 rfl rfl
set_option maxRecDepth 20000 in
theorem mw_312 : (Jvm.Cond.selects "MetAngles" ({ cls := "MetAngles", name := "between", desc := "(III)I" } : Jvm.MethodName) ({ cls := "MetAngles", name := "between", desc := "(III)I" } : Jvm.MethodName)) ∈ mg_ws := mg_in 347 rfl rfl
set_option maxRecDepth 20000 in
theorem mw_313 : (Jvm.Cond.code ({ cls := "MetAngles", name := "between", desc := "(III)I" } : Jvm.MethodName) prog_1_method_17_code (9 : Nat) (Option.some Jvm.ClassFile.FieldType.int)) ∈ mg_ws := mg_in 348 rfl rfl
set_option maxRecDepth 20000 in
theorem mw_314 : (Jvm.Cond.methodLink "MetAngles" (163 : Nat) ({ cls := "MetAngles$Partners", name := "amountBetween", desc := "(III)I" } : Jvm.MethodName)) ∈ mg_ws := mg_in 349 rfl rfl
set_option maxRecDepth 20000 in
theorem mw_315 : (Jvm.Cond.instanceMethod ({ cls := "MetAngles$Partners", name := "amountBetween", desc := "(III)I" } : Jvm.MethodName)) ∈ mg_ws := mg_in 350 rfl rfl
set_option maxRecDepth 20000 in
theorem mw_316 : (Jvm.Cond.selects "MetAngles$Partners" ({ cls := "MetAngles$Partners", name := "amountBetween", desc := "(III)I" } : Jvm.MethodName) ({ cls := "MetAngles$Partners", name := "amountBetween", desc := "(III)I" } : Jvm.MethodName)) ∈ mg_ws := mg_in 351 rfl rfl
set_option maxRecDepth 20000 in
theorem mw_317 : (Jvm.Cond.code ({ cls := "MetAngles$Partners", name := "amountBetween", desc := "(III)I" } : Jvm.MethodName) prog_2_method_16_code (6 : Nat) (Option.some Jvm.ClassFile.FieldType.int)) ∈ mg_ws := mg_in 352 rfl rfl
set_option maxRecDepth 20000 in
theorem mw_318 : (Jvm.Cond.methodLink "MetAngles$Partners" (82 : Nat) ({ cls := "MetAngles$Partners", name := "holdsPair", desc := "(II)Z" } : Jvm.MethodName)) ∈ mg_ws := mg_in 353 rfl rfl
set_option maxRecDepth 20000 in
theorem mw_319 : (Jvm.Cond.methodLink "MetAnglesLaw" (85 : Nat) ({ cls := "MetAngles", name := "wide", desc := "(II)I" } : Jvm.MethodName)) ∈ mg_ws := mg_in 354 rfl rfl
set_option maxRecDepth 20000 in
theorem mw_320 : (Jvm.Cond.instanceMethod ({ cls := "MetAngles", name := "wide", desc := "(II)I" } : Jvm.MethodName)) ∈ mg_ws := mg_in 355 rfl rfl
set_option maxRecDepth 20000 in
theorem mw_321 : (Jvm.Cond.selects "MetAngles" ({ cls := "MetAngles", name := "wide", desc := "(II)I" } : Jvm.MethodName) ({ cls := "MetAngles", name := "wide", desc := "(II)I" } : Jvm.MethodName)) ∈ mg_ws := mg_in 356 rfl rfl
set_option maxRecDepth 20000 in
theorem mw_322 : (Jvm.Cond.code ({ cls := "MetAngles", name := "wide", desc := "(II)I" } : Jvm.MethodName) prog_1_method_18_code (6 : Nat) (Option.some Jvm.ClassFile.FieldType.int)) ∈ mg_ws := mg_in 357 rfl rfl
set_option maxRecDepth 20000 in
theorem mw_323 : (Jvm.Cond.methodLink "MetAngles" (166 : Nat) ({ cls := "MetAngles$Partners", name := "amountInside", desc := "(II)I" } : Jvm.MethodName)) ∈ mg_ws := mg_in 358 rfl rfl
set_option maxRecDepth 20000 in
theorem mw_324 : (Jvm.Cond.instanceMethod ({ cls := "MetAngles$Partners", name := "amountInside", desc := "(II)I" } : Jvm.MethodName)) ∈ mg_ws := mg_in 359 rfl rfl
set_option maxRecDepth 20000 in
theorem mw_325 : (Jvm.Cond.selects "MetAngles$Partners" ({ cls := "MetAngles$Partners", name := "amountInside", desc := "(II)I" } : Jvm.MethodName) ({ cls := "MetAngles$Partners", name := "amountInside", desc := "(II)I" } : Jvm.MethodName)) ∈ mg_ws := mg_in 360 rfl rfl
set_option maxRecDepth 20000 in
theorem mw_326 : (Jvm.Cond.code ({ cls := "MetAngles$Partners", name := "amountInside", desc := "(II)I" } : Jvm.MethodName) prog_2_method_17_code (7 : Nat) (Option.some Jvm.ClassFile.FieldType.int)) ∈ mg_ws := mg_in 361 rfl rfl
set_option maxRecDepth 20000 in
theorem mw_327 : (Jvm.Cond.methodLink "MetAnglesLaw" (89 : Nat) ({ cls := "MetAngles", name := "digit", desc := "(II)I" } : Jvm.MethodName)) ∈ mg_ws := mg_in 362 rfl rfl
set_option maxRecDepth 20000 in
theorem mw_328 : (Jvm.Cond.instanceMethod ({ cls := "MetAngles", name := "digit", desc := "(II)I" } : Jvm.MethodName)) ∈ mg_ws := mg_in 363 rfl rfl
set_option maxRecDepth 20000 in
theorem mw_329 : (Jvm.Cond.selects "MetAngles" ({ cls := "MetAngles", name := "digit", desc := "(II)I" } : Jvm.MethodName) ({ cls := "MetAngles", name := "digit", desc := "(II)I" } : Jvm.MethodName)) ∈ mg_ws := mg_in 364 rfl rfl
set_option maxRecDepth 20000 in
theorem mw_330 : (Jvm.Cond.code ({ cls := "MetAngles", name := "digit", desc := "(II)I" } : Jvm.MethodName) prog_1_method_19_code (4 : Nat) (Option.some Jvm.ClassFile.FieldType.int)) ∈ mg_ws := mg_in 365 rfl rfl
set_option maxRecDepth 20000 in
theorem mw_331 : (Jvm.Cond.methodLink "MetAnglesLaw" (93 : Nat) ({ cls := "MetAngles", name := "put", desc := "(II)I" } : Jvm.MethodName)) ∈ mg_ws := mg_in 366 rfl rfl
set_option maxRecDepth 20000 in
theorem mw_332 : (Jvm.Cond.instanceMethod ({ cls := "MetAngles", name := "put", desc := "(II)I" } : Jvm.MethodName)) ∈ mg_ws := mg_in 367 rfl rfl
set_option maxRecDepth 20000 in
theorem mw_333 : (Jvm.Cond.selects "MetAngles" ({ cls := "MetAngles", name := "put", desc := "(II)I" } : Jvm.MethodName) ({ cls := "MetAngles", name := "put", desc := "(II)I" } : Jvm.MethodName)) ∈ mg_ws := mg_in 368 rfl rfl
set_option maxRecDepth 20000 in
theorem mw_334 : (Jvm.Cond.code ({ cls := "MetAngles", name := "put", desc := "(II)I" } : Jvm.MethodName) prog_1_method_20_code (12 : Nat) (Option.some Jvm.ClassFile.FieldType.int)) ∈ mg_ws := mg_in 369 rfl rfl
set_option maxRecDepth 20000 in
theorem mw_335 : (Jvm.Cond.methodLink "MetAngles" (169 : Nat) ({ cls := "MetAngles", name := "pairForPutting", desc := "(LMetAngles$Turn;LMetAngles$Turn;)I" } : Jvm.MethodName)) ∈ mg_ws := mg_in 370 rfl rfl
set_option maxRecDepth 20000 in
theorem mw_337 : (Jvm.Cond.instanceMethod ({ cls := "MetAngles", name := "pairForPutting", desc := "(LMetAngles$Turn;LMetAngles$Turn;)I" } : Jvm.MethodName)) ∈ mg_ws := mg_in 372 rfl rfl
set_option maxRecDepth 20000 in
theorem mw_338 : (Jvm.Cond.code ({ cls := "MetAngles", name := "pairForPutting", desc := "(LMetAngles$Turn;LMetAngles$Turn;)I" } : Jvm.MethodName) prog_1_method_51_code (3 : Nat) (Option.some Jvm.ClassFile.FieldType.int)) ∈ mg_ws := mg_in 373 rfl rfl
set_option maxRecDepth 20000 in
theorem mw_339 : (Jvm.Cond.methodLink "MetAnglesLaw" (97 : Nat) ({ cls := "MetAngles", name := "take", desc := "(II)I" } : Jvm.MethodName)) ∈ mg_ws := mg_in 374 rfl rfl
set_option maxRecDepth 20000 in
theorem mw_340 : (Jvm.Cond.instanceMethod ({ cls := "MetAngles", name := "take", desc := "(II)I" } : Jvm.MethodName)) ∈ mg_ws := mg_in 375 rfl rfl
set_option maxRecDepth 20000 in
theorem mw_341 : (Jvm.Cond.selects "MetAngles" ({ cls := "MetAngles", name := "take", desc := "(II)I" } : Jvm.MethodName) ({ cls := "MetAngles", name := "take", desc := "(II)I" } : Jvm.MethodName)) ∈ mg_ws := mg_in 376 rfl rfl
set_option maxRecDepth 20000 in
theorem mw_342 : (Jvm.Cond.code ({ cls := "MetAngles", name := "take", desc := "(II)I" } : Jvm.MethodName) prog_1_method_21_code (9 : Nat) (Option.some Jvm.ClassFile.FieldType.int)) ∈ mg_ws := mg_in 377 rfl rfl
set_option maxRecDepth 20000 in
theorem mw_343 : (Jvm.Cond.methodLink "MetAngles" (173 : Nat) ({ cls := "MetAngles", name := "digitsTakenOut", desc := "(IILMetAngles$Turn;I)J" } : Jvm.MethodName)) ∈ mg_ws := mg_in 378 rfl rfl
set_option maxRecDepth 20000 in
theorem mw_345 : (Jvm.Cond.instanceMethod ({ cls := "MetAngles", name := "digitsTakenOut", desc := "(IILMetAngles$Turn;I)J" } : Jvm.MethodName)) ∈ mg_ws := mg_in 380 rfl rfl
set_option maxRecDepth 20000 in
theorem mw_346 : (Jvm.Cond.code ({ cls := "MetAngles", name := "digitsTakenOut", desc := "(IILMetAngles$Turn;I)J" } : Jvm.MethodName) prog_1_method_52_code (16 : Nat) (Option.some Jvm.ClassFile.FieldType.long)) ∈ mg_ws := mg_in 381 rfl rfl
set_option maxRecDepth 20000 in
theorem mw_347 : (Jvm.Cond.constantLong "MetAngles" (225 : Nat) (-1 : Int64)) ∈ mg_ws := mg_in 382 rfl rfl
set_option maxRecDepth 20000 in
theorem mw_348 : (Jvm.Cond.constantLong "MetAngles" (197 : Nat) (2 : Int64)) ∈ mg_ws := mg_in 383 rfl rfl
set_option maxRecDepth 20000 in
theorem mw_349 : (Jvm.Cond.methodLink "MetAnglesLaw" (101 : Nat) ({ cls := "MetAngles", name := "sheet", desc := "(III)I" } : Jvm.MethodName)) ∈ mg_ws := mg_in 384 rfl rfl
set_option maxRecDepth 20000 in
theorem mw_350 : (Jvm.Cond.instanceMethod ({ cls := "MetAngles", name := "sheet", desc := "(III)I" } : Jvm.MethodName)) ∈ mg_ws := mg_in 385 rfl rfl
set_option maxRecDepth 20000 in
theorem mw_351 : (Jvm.Cond.selects "MetAngles" ({ cls := "MetAngles", name := "sheet", desc := "(III)I" } : Jvm.MethodName) ({ cls := "MetAngles", name := "sheet", desc := "(III)I" } : Jvm.MethodName)) ∈ mg_ws := mg_in 386 rfl rfl
set_option maxRecDepth 20000 in
theorem mw_352 : (Jvm.Cond.code ({ cls := "MetAngles", name := "sheet", desc := "(III)I" } : Jvm.MethodName) prog_1_method_22_code (4 : Nat) (Option.some Jvm.ClassFile.FieldType.int)) ∈ mg_ws := mg_in 387 rfl rfl
set_option maxRecDepth 20000 in
theorem mw_353 : (Jvm.Cond.methodLink "MetAngles" (177 : Nat) ({ cls := "MetAngles", name := "isSheet", desc := "(I)Z" } : Jvm.MethodName)) ∈ mg_ws := mg_in 388 rfl rfl
set_option maxRecDepth 20000 in
theorem mw_354 : (Jvm.Cond.static ({ cls := "MetAngles", name := "isSheet", desc := "(I)Z" } : Jvm.MethodName)) ∈ mg_ws := mg_in 389 rfl rfl
set_option maxRecDepth 20000 in
theorem mw_355 : (Jvm.Cond.code ({ cls := "MetAngles", name := "isSheet", desc := "(I)Z" } : Jvm.MethodName) prog_1_method_30_code (1 : Nat) (Option.some Jvm.ClassFile.FieldType.boolean)) ∈ mg_ws := mg_in 390 rfl rfl
set_option maxRecDepth 20000 in
theorem mw_356 : (Jvm.Cond.methodLink "MetAngles" (180 : Nat) ({ cls := "MetAngles", name := "isLane", desc := "(I)Z" } : Jvm.MethodName)) ∈ mg_ws := mg_in 391 rfl rfl
set_option maxRecDepth 20000 in
theorem mw_357 : (Jvm.Cond.static ({ cls := "MetAngles", name := "isLane", desc := "(I)Z" } : Jvm.MethodName)) ∈ mg_ws := mg_in 392 rfl rfl
set_option maxRecDepth 20000 in
theorem mw_358 : (Jvm.Cond.code ({ cls := "MetAngles", name := "isLane", desc := "(I)Z" } : Jvm.MethodName) prog_1_method_31_code (1 : Nat) (Option.some Jvm.ClassFile.FieldType.boolean)) ∈ mg_ws := mg_in 393 rfl rfl
set_option maxRecDepth 20000 in
theorem mw_359 : (Jvm.Cond.instantiable "MetAngles$Sheet" (2 : Nat)) ∈ mg_ws := mg_in 394 rfl rfl
set_option maxRecDepth 20000 in
theorem mw_360 : (Jvm.Cond.methodLink "MetAngles" (183 : Nat) ({ cls := "MetAngles$Sheet", name := "<init>", desc := "(II)V" } : Jvm.MethodName)) ∈ mg_ws := mg_in 395 rfl rfl
set_option maxRecDepth 20000 in
theorem mw_361 : (Jvm.Cond.instanceMethod ({ cls := "MetAngles$Sheet", name := "<init>", desc := "(II)V" } : Jvm.MethodName)) ∈ mg_ws := mg_in 396 rfl rfl
set_option maxRecDepth 20000 in
theorem mw_362 : (Jvm.Cond.code ({ cls := "MetAngles$Sheet", name := "<init>", desc := "(II)V" } : Jvm.MethodName) prog_3_method_1_code (3 : Nat) (Option.none : Option Jvm.ClassFile.FieldType)) ∈ mg_ws := mg_in 397 rfl rfl
set_option maxRecDepth 20000 in
theorem mw_363 : (Jvm.Cond.methodLink "MetAngles$Sheet" (1 : Nat) ({ cls := "java/lang/Object", name := "<init>", desc := "()V" } : Jvm.MethodName)) ∈ mg_ws := mg_in 398 rfl rfl
set_option maxRecDepth 20000 in
theorem mw_364 : (Jvm.Cond.methodLink "MetAngles$Sheet" (13 : Nat) ({ cls := "java/lang/Math", name := "max", desc := "(II)I" } : Jvm.MethodName)) ∈ mg_ws := mg_in 399 rfl rfl
set_option maxRecDepth 20000 in
theorem mw_365 : (Jvm.Cond.fieldLink "MetAngles$Sheet" (7 : Nat) "MetAngles$Sheet" "lane" "I") ∈ mg_ws := mg_in 400 rfl rfl
set_option maxRecDepth 20000 in
theorem mw_366 : (Jvm.Cond.fieldLink "MetAngles" (194 : Nat) "MetAngles$Sheet" "lane" "I") ∈ mg_ws := mg_in 401 rfl rfl
set_option maxRecDepth 20000 in
theorem mw_367 : (Jvm.Cond.fieldLink "MetAngles$Sheet" (19 : Nat) "MetAngles$Sheet" "cells" "[J") ∈ mg_ws := mg_in 402 rfl rfl
set_option maxRecDepth 20000 in
theorem mw_368 : (Jvm.Cond.fieldLink "MetAngles" (190 : Nat) "MetAngles$Sheet" "cells" "[J") ∈ mg_ws := mg_in 403 rfl rfl
set_option maxRecDepth 20000 in
theorem mw_374 : (Jvm.Cond.arrayClass Jvm.ClassFile.FieldType.long) ∈ mg_ws := mg_in 409 rfl rfl
set_option maxRecDepth 20000 in
theorem mw_375 : (Jvm.Cond.methodLink "MetAnglesLaw" (105 : Nat) ({ cls := "MetAngles", name := "lay", desc := "(IIJ)I" } : Jvm.MethodName)) ∈ mg_ws := mg_in 410 rfl rfl
set_option maxRecDepth 20000 in
theorem mw_376 : (Jvm.Cond.instanceMethod ({ cls := "MetAngles", name := "lay", desc := "(IIJ)I" } : Jvm.MethodName)) ∈ mg_ws := mg_in 411 rfl rfl
set_option maxRecDepth 20000 in
theorem mw_377 : (Jvm.Cond.selects "MetAngles" ({ cls := "MetAngles", name := "lay", desc := "(IIJ)I" } : Jvm.MethodName) ({ cls := "MetAngles", name := "lay", desc := "(IIJ)I" } : Jvm.MethodName)) ∈ mg_ws := mg_in 412 rfl rfl
set_option maxRecDepth 20000 in
theorem mw_378 : (Jvm.Cond.code ({ cls := "MetAngles", name := "lay", desc := "(IIJ)I" } : Jvm.MethodName) prog_1_method_23_code (6 : Nat) (Option.some Jvm.ClassFile.FieldType.int)) ∈ mg_ws := mg_in 413 rfl rfl
set_option maxRecDepth 20000 in
theorem mw_379 : (Jvm.Cond.methodLink "MetAngles" (186 : Nat) ({ cls := "MetAngles$Sheet", name := "hasCell", desc := "(J)Z" } : Jvm.MethodName)) ∈ mg_ws := mg_in 414 rfl rfl
set_option maxRecDepth 20000 in
theorem mw_380 : (Jvm.Cond.instanceMethod ({ cls := "MetAngles$Sheet", name := "hasCell", desc := "(J)Z" } : Jvm.MethodName)) ∈ mg_ws := mg_in 415 rfl rfl
set_option maxRecDepth 20000 in
theorem mw_381 : (Jvm.Cond.selects "MetAngles$Sheet" ({ cls := "MetAngles$Sheet", name := "hasCell", desc := "(J)Z" } : Jvm.MethodName) ({ cls := "MetAngles$Sheet", name := "hasCell", desc := "(J)Z" } : Jvm.MethodName)) ∈ mg_ws := mg_in 416 rfl rfl
set_option maxRecDepth 20000 in
theorem mw_382 : (Jvm.Cond.code ({ cls := "MetAngles$Sheet", name := "hasCell", desc := "(J)Z" } : Jvm.MethodName) prog_3_method_2_code (3 : Nat) (Option.some Jvm.ClassFile.FieldType.boolean)) ∈ mg_ws := mg_in 417 rfl rfl
set_option maxRecDepth 20000 in
theorem mw_383 : (Jvm.Cond.methodLink "MetAnglesLaw" (110 : Nat) ({ cls := "MetAngles", name := "scan", desc := "(IIII)I" } : Jvm.MethodName)) ∈ mg_ws := mg_in 418 rfl rfl
set_option maxRecDepth 20000 in
theorem mw_384 : (Jvm.Cond.instanceMethod ({ cls := "MetAngles", name := "scan", desc := "(IIII)I" } : Jvm.MethodName)) ∈ mg_ws := mg_in 419 rfl rfl
set_option maxRecDepth 20000 in
theorem mw_385 : (Jvm.Cond.selects "MetAngles" ({ cls := "MetAngles", name := "scan", desc := "(IIII)I" } : Jvm.MethodName) ({ cls := "MetAngles", name := "scan", desc := "(IIII)I" } : Jvm.MethodName)) ∈ mg_ws := mg_in 420 rfl rfl
set_option maxRecDepth 20000 in
theorem mw_386 : (Jvm.Cond.code ({ cls := "MetAngles", name := "scan", desc := "(IIII)I" } : Jvm.MethodName) prog_1_method_24_code (9 : Nat) (Option.some Jvm.ClassFile.FieldType.int)) ∈ mg_ws := mg_in 421 rfl rfl
set_option maxRecDepth 20000 in
theorem mw_387 : (Jvm.Cond.methodLink "MetAngles" (199 : Nat) ({ cls := "MetAngles", name := "readAngle", desc := "(LMetAngles$Sheet;J)I" } : Jvm.MethodName)) ∈ mg_ws := mg_in 422 rfl rfl
set_option maxRecDepth 20000 in
theorem mw_389 : (Jvm.Cond.instanceMethod ({ cls := "MetAngles", name := "readAngle", desc := "(LMetAngles$Sheet;J)I" } : Jvm.MethodName)) ∈ mg_ws := mg_in 424 rfl rfl
set_option maxRecDepth 20000 in
theorem mw_390 : (Jvm.Cond.code ({ cls := "MetAngles", name := "readAngle", desc := "(LMetAngles$Sheet;J)I" } : Jvm.MethodName) prog_1_method_53_code (5 : Nat) (Option.some Jvm.ClassFile.FieldType.int)) ∈ mg_ws := mg_in 425 rfl rfl
set_option maxRecDepth 20000 in
theorem mw_391 : (Jvm.Cond.methodLink "MetAngles" (227 : Nat) ({ cls := "MetAngles", name := "angle", desc := "(JJ)I" } : Jvm.MethodName)) ∈ mg_ws := mg_in 426 rfl rfl
set_option maxRecDepth 20000 in
theorem mw_392 : (Jvm.Cond.methodLink "MetAnglesLaw" (114 : Nat) ({ cls := "MetAngles", name := "count", desc := "(I)I" } : Jvm.MethodName)) ∈ mg_ws := mg_in 427 rfl rfl
set_option maxRecDepth 20000 in
theorem mw_393 : (Jvm.Cond.instanceMethod ({ cls := "MetAngles", name := "count", desc := "(I)I" } : Jvm.MethodName)) ∈ mg_ws := mg_in 428 rfl rfl
set_option maxRecDepth 20000 in
theorem mw_394 : (Jvm.Cond.selects "MetAngles" ({ cls := "MetAngles", name := "count", desc := "(I)I" } : Jvm.MethodName) ({ cls := "MetAngles", name := "count", desc := "(I)I" } : Jvm.MethodName)) ∈ mg_ws := mg_in 429 rfl rfl
set_option maxRecDepth 20000 in
theorem mw_395 : (Jvm.Cond.code ({ cls := "MetAngles", name := "count", desc := "(I)I" } : Jvm.MethodName) prog_1_method_25_code (2 : Nat) (Option.some Jvm.ClassFile.FieldType.int)) ∈ mg_ws := mg_in 430 rfl rfl
set_option maxRecDepth 20000 in
theorem mw_396 : (Jvm.Cond.methodLink "MetAngles" (203 : Nat) ({ cls := "MetAngles", name := "amountThatComesBack", desc := "()I" } : Jvm.MethodName)) ∈ mg_ws := mg_in 431 rfl rfl
set_option maxRecDepth 20000 in
theorem mw_398 : (Jvm.Cond.instanceMethod ({ cls := "MetAngles", name := "amountThatComesBack", desc := "()I" } : Jvm.MethodName)) ∈ mg_ws := mg_in 433 rfl rfl
set_option maxRecDepth 20000 in
theorem mw_399 : (Jvm.Cond.code ({ cls := "MetAngles", name := "amountThatComesBack", desc := "()I" } : Jvm.MethodName) prog_1_method_41_code (4 : Nat) (Option.some Jvm.ClassFile.FieldType.int)) ∈ mg_ws := mg_in 434 rfl rfl
set_option maxRecDepth 20000 in
theorem mw_400 : (Jvm.Cond.methodLink "MetAngles" (206 : Nat) ({ cls := "MetAngles", name := "amountOfUnlike", desc := "()I" } : Jvm.MethodName)) ∈ mg_ws := mg_in 435 rfl rfl
set_option maxRecDepth 20000 in
theorem mw_402 : (Jvm.Cond.instanceMethod ({ cls := "MetAngles", name := "amountOfUnlike", desc := "()I" } : Jvm.MethodName)) ∈ mg_ws := mg_in 437 rfl rfl
set_option maxRecDepth 20000 in
theorem mw_403 : (Jvm.Cond.code ({ cls := "MetAngles", name := "amountOfUnlike", desc := "()I" } : Jvm.MethodName) prog_1_method_42_code (3 : Nat) (Option.some Jvm.ClassFile.FieldType.int)) ∈ mg_ws := mg_in 438 rfl rfl
set_option maxRecDepth 20000 in
theorem mw_404 : (Jvm.Cond.methodLink "MetAngles" (212 : Nat) ({ cls := "MetAngles", name := "cameEarlier", desc := "(I)Z" } : Jvm.MethodName)) ∈ mg_ws := mg_in 439 rfl rfl
set_option maxRecDepth 20000 in
theorem mw_406 : (Jvm.Cond.instanceMethod ({ cls := "MetAngles", name := "cameEarlier", desc := "(I)Z" } : Jvm.MethodName)) ∈ mg_ws := mg_in 441 rfl rfl
set_option maxRecDepth 20000 in
theorem mw_407 : (Jvm.Cond.code ({ cls := "MetAngles", name := "cameEarlier", desc := "(I)Z" } : Jvm.MethodName) prog_1_method_43_code (5 : Nat) (Option.some Jvm.ClassFile.FieldType.boolean)) ∈ mg_ws := mg_in 442 rfl rfl
set_option maxRecDepth 20000 in
theorem mw_408 : (Jvm.Cond.classLink "MetAnglesLaw" (10 : Nat) "MetAnglesModel") ∈ mg_ws := mg_in 443 rfl rfl
set_option maxRecDepth 20000 in
theorem mw_409 : (Jvm.Cond.instantiable "MetAnglesModel" (11 : Nat)) ∈ mg_ws := mg_in 444 rfl rfl
set_option maxRecDepth 20000 in
theorem mw_410 : (Jvm.Cond.methodLink "MetAnglesLaw" (12 : Nat) ({ cls := "MetAnglesModel", name := "<init>", desc := "()V" } : Jvm.MethodName)) ∈ mg_ws := mg_in 445 rfl rfl
set_option maxRecDepth 20000 in
theorem mw_411 : (Jvm.Cond.instanceMethod ({ cls := "MetAnglesModel", name := "<init>", desc := "()V" } : Jvm.MethodName)) ∈ mg_ws := mg_in 446 rfl rfl
set_option maxRecDepth 20000 in
theorem mw_412 : (Jvm.Cond.code ({ cls := "MetAnglesModel", name := "<init>", desc := "()V" } : Jvm.MethodName) prog_6_method_1_code (2 : Nat) (Option.none : Option Jvm.ClassFile.FieldType)) ∈ mg_ws := mg_in 447 rfl rfl
set_option maxRecDepth 20000 in
theorem mw_413 : (Jvm.Cond.methodLink "MetAnglesModel" (1 : Nat) ({ cls := "java/lang/Object", name := "<init>", desc := "()V" } : Jvm.MethodName)) ∈ mg_ws := mg_in 448 rfl rfl
set_option maxRecDepth 20000 in
theorem mw_414 : (Jvm.Cond.methodLink "MetAnglesModel" (39 : Nat) ({ cls := "MetAnglesModel", name := "findPairs", desc := "()V" } : Jvm.MethodName)) ∈ mg_ws := mg_in 449 rfl rfl
set_option maxRecDepth 20000 in
theorem mw_416 : (Jvm.Cond.instanceMethod ({ cls := "MetAnglesModel", name := "findPairs", desc := "()V" } : Jvm.MethodName)) ∈ mg_ws := mg_in 451 rfl rfl
set_option maxRecDepth 20000 in
theorem mw_417 : (Jvm.Cond.code ({ cls := "MetAnglesModel", name := "findPairs", desc := "()V" } : Jvm.MethodName) prog_6_method_31_code (4 : Nat) (Option.none : Option Jvm.ClassFile.FieldType)) ∈ mg_ws := mg_in 452 rfl rfl
set_option maxRecDepth 20000 in
theorem mw_418 : (Jvm.Cond.methodLink "MetAnglesModel" (120 : Nat) ({ cls := "MetAnglesModel", name := "pairs0", desc := "(IJJ)V" } : Jvm.MethodName)) ∈ mg_ws := mg_in 453 rfl rfl
set_option maxRecDepth 20000 in
theorem mw_420 : (Jvm.Cond.instanceMethod ({ cls := "MetAnglesModel", name := "pairs0", desc := "(IJJ)V" } : Jvm.MethodName)) ∈ mg_ws := mg_in 455 rfl rfl
set_option maxRecDepth 20000 in
theorem mw_421 : (Jvm.Cond.code ({ cls := "MetAnglesModel", name := "pairs0", desc := "(IJJ)V" } : Jvm.MethodName) prog_6_method_30_code (6 : Nat) (Option.none : Option Jvm.ClassFile.FieldType)) ∈ mg_ws := mg_in 456 rfl rfl
set_option maxRecDepth 20000 in
theorem mw_422 : (Jvm.Cond.methodLink "MetAnglesModel" (113 : Nat) ({ cls := "MetAnglesModel", name := "whole", desc := "(I)J" } : Jvm.MethodName)) ∈ mg_ws := mg_in 457 rfl rfl
set_option maxRecDepth 20000 in
theorem mw_423 : (Jvm.Cond.static ({ cls := "MetAnglesModel", name := "whole", desc := "(I)J" } : Jvm.MethodName)) ∈ mg_ws := mg_in 458 rfl rfl
set_option maxRecDepth 20000 in
theorem mw_424 : (Jvm.Cond.code ({ cls := "MetAnglesModel", name := "whole", desc := "(I)J" } : Jvm.MethodName) prog_6_method_27_code (1 : Nat) (Option.some Jvm.ClassFile.FieldType.long)) ∈ mg_ws := mg_in 459 rfl rfl
set_option maxRecDepth 20000 in
theorem mw_425 : (Jvm.Cond.methodLink "MetAnglesModel" (46 : Nat) ({ cls := "MetAnglesModel", name := "in", desc := "(JJJ)Z" } : Jvm.MethodName)) ∈ mg_ws := mg_in 460 rfl rfl
set_option maxRecDepth 20000 in
theorem mw_426 : (Jvm.Cond.static ({ cls := "MetAnglesModel", name := "in", desc := "(JJJ)Z" } : Jvm.MethodName)) ∈ mg_ws := mg_in 461 rfl rfl
set_option maxRecDepth 20000 in
theorem mw_427 : (Jvm.Cond.code ({ cls := "MetAnglesModel", name := "in", desc := "(JJJ)Z" } : Jvm.MethodName) prog_6_method_3_code (6 : Nat) (Option.some Jvm.ClassFile.FieldType.boolean)) ∈ mg_ws := mg_in 462 rfl rfl
set_option maxRecDepth 20000 in
theorem mw_428 : (Jvm.Cond.methodLink "MetAnglesModel" (124 : Nat) ({ cls := "MetAnglesModel", name := "isOfLength", desc := "(JI)Z" } : Jvm.MethodName)) ∈ mg_ws := mg_in 463 rfl rfl
set_option maxRecDepth 20000 in
theorem mw_429 : (Jvm.Cond.static ({ cls := "MetAnglesModel", name := "isOfLength", desc := "(JI)Z" } : Jvm.MethodName)) ∈ mg_ws := mg_in 464 rfl rfl
set_option maxRecDepth 20000 in
theorem mw_430 : (Jvm.Cond.code ({ cls := "MetAnglesModel", name := "isOfLength", desc := "(JI)Z" } : Jvm.MethodName) prog_6_method_28_code (3 : Nat) (Option.some Jvm.ClassFile.FieldType.boolean)) ∈ mg_ws := mg_in 465 rfl rfl
set_option maxRecDepth 20000 in
theorem mw_431 : (Jvm.Cond.methodLink "MetAnglesModel" (77 : Nat) ({ cls := "MetAnglesModel", name := "divisor", desc := "(JJ)J" } : Jvm.MethodName)) ∈ mg_ws := mg_in 466 rfl rfl
set_option maxRecDepth 20000 in
theorem mw_432 : (Jvm.Cond.static ({ cls := "MetAnglesModel", name := "divisor", desc := "(JJ)J" } : Jvm.MethodName)) ∈ mg_ws := mg_in 467 rfl rfl
set_option maxRecDepth 20000 in
theorem mw_433 : (Jvm.Cond.code ({ cls := "MetAnglesModel", name := "divisor", desc := "(JJ)J" } : Jvm.MethodName) prog_6_method_12_code (10 : Nat) (Option.some Jvm.ClassFile.FieldType.long)) ∈ mg_ws := mg_in 468 rfl rfl
set_option maxRecDepth 20000 in
theorem mw_434 : (Jvm.Cond.methodLink "MetAnglesModel" (68 : Nat) ({ cls := "MetAnglesModel", name := "lengthOf", desc := "(J)I" } : Jvm.MethodName)) ∈ mg_ws := mg_in 469 rfl rfl
set_option maxRecDepth 20000 in
theorem mw_435 : (Jvm.Cond.static ({ cls := "MetAnglesModel", name := "lengthOf", desc := "(J)I" } : Jvm.MethodName)) ∈ mg_ws := mg_in 470 rfl rfl
set_option maxRecDepth 20000 in
theorem mw_436 : (Jvm.Cond.code ({ cls := "MetAnglesModel", name := "lengthOf", desc := "(J)I" } : Jvm.MethodName) prog_6_method_9_code (7 : Nat) (Option.some Jvm.ClassFile.FieldType.int)) ∈ mg_ws := mg_in 471 rfl rfl
set_option maxRecDepth 20000 in
theorem mw_437 : (Jvm.Cond.constantLong "MetAnglesModel" (56 : Nat) (2 : Int64)) ∈ mg_ws := mg_in 472 rfl rfl
set_option maxRecDepth 20000 in
theorem mw_438 : (Jvm.Cond.methodLink "MetAnglesModel" (128 : Nat) ({ cls := "MetAnglesModel", name := "crosses", desc := "(IJJ)Z" } : Jvm.MethodName)) ∈ mg_ws := mg_in 473 rfl rfl
set_option maxRecDepth 20000 in
theorem mw_440 : (Jvm.Cond.instanceMethod ({ cls := "MetAnglesModel", name := "crosses", desc := "(IJJ)Z" } : Jvm.MethodName)) ∈ mg_ws := mg_in 475 rfl rfl
set_option maxRecDepth 20000 in
theorem mw_441 : (Jvm.Cond.code ({ cls := "MetAnglesModel", name := "crosses", desc := "(IJJ)Z" } : Jvm.MethodName) prog_6_method_29_code (12 : Nat) (Option.some Jvm.ClassFile.FieldType.boolean)) ∈ mg_ws := mg_in 476 rfl rfl
set_option maxRecDepth 20000 in
theorem mw_442 : (Jvm.Cond.methodLink "MetAnglesModel" (98 : Nat) ({ cls := "MetAnglesModel", name := "isBelow", desc := "(JJJJ)Z" } : Jvm.MethodName)) ∈ mg_ws := mg_in 477 rfl rfl
set_option maxRecDepth 20000 in
theorem mw_443 : (Jvm.Cond.static ({ cls := "MetAnglesModel", name := "isBelow", desc := "(JJJJ)Z" } : Jvm.MethodName)) ∈ mg_ws := mg_in 478 rfl rfl
set_option maxRecDepth 20000 in
theorem mw_444 : (Jvm.Cond.code ({ cls := "MetAnglesModel", name := "isBelow", desc := "(JJJJ)Z" } : Jvm.MethodName) prog_6_method_21_code (8 : Nat) (Option.some Jvm.ClassFile.FieldType.boolean)) ∈ mg_ws := mg_in 479 rfl rfl
set_option maxRecDepth 20000 in
theorem mw_445 : (Jvm.Cond.fieldLink "MetAnglesModel" (42 : Nat) "MetAnglesModel" "angles" "I") ∈ mg_ws := mg_in 480 rfl rfl
set_option maxRecDepth 20000 in
theorem mw_446 : (Jvm.Cond.fieldLink "MetAnglesModel" (7 : Nat) "MetAnglesModel" "tops" "[J") ∈ mg_ws := mg_in 481 rfl rfl
set_option maxRecDepth 20000 in
theorem mw_447 : (Jvm.Cond.fieldLink "MetAnglesModel" (13 : Nat) "MetAnglesModel" "downs" "[J") ∈ mg_ws := mg_in 482 rfl rfl
set_option maxRecDepth 20000 in
theorem mw_448 : (Jvm.Cond.fieldLink "MetAnglesModel" (117 : Nat) "MetAnglesModel" "pairMany" "I") ∈ mg_ws := mg_in 483 rfl rfl
set_option maxRecDepth 20000 in
theorem mw_449 : (Jvm.Cond.fieldLink "MetAnglesModel" (16 : Nat) "MetAnglesModel" "pLength" "[I") ∈ mg_ws := mg_in 484 rfl rfl
set_option maxRecDepth 20000 in
theorem mw_450 : (Jvm.Cond.fieldLink "MetAnglesModel" (20 : Nat) "MetAnglesModel" "pLess" "[J") ∈ mg_ws := mg_in 485 rfl rfl
set_option maxRecDepth 20000 in
theorem mw_451 : (Jvm.Cond.fieldLink "MetAnglesModel" (23 : Nat) "MetAnglesModel" "pGreater" "[J") ∈ mg_ws := mg_in 486 rfl rfl
set_option maxRecDepth 20000 in
theorem mw_452 : (Jvm.Cond.fieldLink "MetAnglesModel" (26 : Nat) "MetAnglesModel" "hasPartner" "[Z") ∈ mg_ws := mg_in 487 rfl rfl
set_option maxRecDepth 20000 in
theorem mw_453 : (Jvm.Cond.fieldLink "MetAnglesModel" (30 : Nat) "MetAnglesModel" "lanes" "[I") ∈ mg_ws := mg_in 488 rfl rfl
set_option maxRecDepth 20000 in
theorem mw_454 : (Jvm.Cond.fieldLink "MetAnglesModel" (33 : Nat) "MetAnglesModel" "sizes" "[I") ∈ mg_ws := mg_in 489 rfl rfl
set_option maxRecDepth 20000 in
theorem mw_455 : (Jvm.Cond.fieldLink "MetAnglesModel" (36 : Nat) "MetAnglesModel" "cells" "[J") ∈ mg_ws := mg_in 490 rfl rfl
set_option maxRecDepth 20000 in
theorem mw_479 : (Jvm.Cond.methodLink "MetAnglesLaw" (19 : Nat) ({ cls := "MetAnglesModel", name := "angle", desc := "(JJ)I" } : Jvm.MethodName)) ∈ mg_ws := mg_in 514 rfl rfl
set_option maxRecDepth 20000 in
theorem mw_480 : (Jvm.Cond.instanceMethod ({ cls := "MetAnglesModel", name := "angle", desc := "(JJ)I" } : Jvm.MethodName)) ∈ mg_ws := mg_in 515 rfl rfl
set_option maxRecDepth 20000 in
theorem mw_481 : (Jvm.Cond.selects "MetAnglesModel" ({ cls := "MetAnglesModel", name := "angle", desc := "(JJ)I" } : Jvm.MethodName) ({ cls := "MetAnglesModel", name := "angle", desc := "(JJ)I" } : Jvm.MethodName)) ∈ mg_ws := mg_in 516 rfl rfl
set_option maxRecDepth 20000 in
theorem mw_482 : (Jvm.Cond.code ({ cls := "MetAnglesModel", name := "angle", desc := "(JJ)I" } : Jvm.MethodName) prog_6_method_6_code (5 : Nat) (Option.some Jvm.ClassFile.FieldType.int)) ∈ mg_ws := mg_in 517 rfl rfl
set_option maxRecDepth 20000 in
theorem mw_483 : (Jvm.Cond.constantLong "MetAnglesModel" (50 : Nat) (511 : Int64)) ∈ mg_ws := mg_in 518 rfl rfl
set_option maxRecDepth 20000 in
theorem mw_484 : (Jvm.Cond.methodLink "MetAnglesModel" (52 : Nat) ({ cls := "MetAnglesModel", name := "comes", desc := "(JJ)I" } : Jvm.MethodName)) ∈ mg_ws := mg_in 519 rfl rfl
set_option maxRecDepth 20000 in
theorem mw_486 : (Jvm.Cond.instanceMethod ({ cls := "MetAnglesModel", name := "comes", desc := "(JJ)I" } : Jvm.MethodName)) ∈ mg_ws := mg_in 521 rfl rfl
set_option maxRecDepth 20000 in
theorem mw_487 : (Jvm.Cond.code ({ cls := "MetAnglesModel", name := "comes", desc := "(JJ)I" } : Jvm.MethodName) prog_6_method_5_code (11 : Nat) (Option.some Jvm.ClassFile.FieldType.int)) ∈ mg_ws := mg_in 522 rfl rfl
set_option maxRecDepth 20000 in
theorem mw_488 : (Jvm.Cond.methodLink "MetAnglesLaw" (24 : Nat) ({ cls := "MetAnglesModel", name := "drop", desc := "()I" } : Jvm.MethodName)) ∈ mg_ws := mg_in 523 rfl rfl
set_option maxRecDepth 20000 in
theorem mw_489 : (Jvm.Cond.instanceMethod ({ cls := "MetAnglesModel", name := "drop", desc := "()I" } : Jvm.MethodName)) ∈ mg_ws := mg_in 524 rfl rfl
set_option maxRecDepth 20000 in
theorem mw_490 : (Jvm.Cond.selects "MetAnglesModel" ({ cls := "MetAnglesModel", name := "drop", desc := "()I" } : Jvm.MethodName) ({ cls := "MetAnglesModel", name := "drop", desc := "()I" } : Jvm.MethodName)) ∈ mg_ws := mg_in 525 rfl rfl
set_option maxRecDepth 20000 in
theorem mw_491 : (Jvm.Cond.code ({ cls := "MetAnglesModel", name := "drop", desc := "()I" } : Jvm.MethodName) prog_6_method_7_code (1 : Nat) (Option.some Jvm.ClassFile.FieldType.int)) ∈ mg_ws := mg_in 526 rfl rfl
set_option maxRecDepth 20000 in
theorem mw_492 : (Jvm.Cond.methodLink "MetAnglesLaw" (29 : Nat) ({ cls := "MetAnglesModel", name := "told", desc := "(II)I" } : Jvm.MethodName)) ∈ mg_ws := mg_in 527 rfl rfl
set_option maxRecDepth 20000 in
theorem mw_493 : (Jvm.Cond.instanceMethod ({ cls := "MetAnglesModel", name := "told", desc := "(II)I" } : Jvm.MethodName)) ∈ mg_ws := mg_in 528 rfl rfl
set_option maxRecDepth 20000 in
theorem mw_494 : (Jvm.Cond.selects "MetAnglesModel" ({ cls := "MetAnglesModel", name := "told", desc := "(II)I" } : Jvm.MethodName) ({ cls := "MetAnglesModel", name := "told", desc := "(II)I" } : Jvm.MethodName)) ∈ mg_ws := mg_in 529 rfl rfl
set_option maxRecDepth 20000 in
theorem mw_495 : (Jvm.Cond.code ({ cls := "MetAnglesModel", name := "told", desc := "(II)I" } : Jvm.MethodName) prog_6_method_10_code (3 : Nat) (Option.some Jvm.ClassFile.FieldType.int)) ∈ mg_ws := mg_in 530 rfl rfl
set_option maxRecDepth 20000 in
theorem mw_496 : (Jvm.Cond.methodLink "MetAnglesModel" (58 : Nat) ({ cls := "MetAnglesModel", name := "isAngle", desc := "(I)Z" } : Jvm.MethodName)) ∈ mg_ws := mg_in 531 rfl rfl
set_option maxRecDepth 20000 in
theorem mw_498 : (Jvm.Cond.instanceMethod ({ cls := "MetAnglesModel", name := "isAngle", desc := "(I)Z" } : Jvm.MethodName)) ∈ mg_ws := mg_in 533 rfl rfl
set_option maxRecDepth 20000 in
theorem mw_499 : (Jvm.Cond.code ({ cls := "MetAnglesModel", name := "isAngle", desc := "(I)Z" } : Jvm.MethodName) prog_6_method_4_code (2 : Nat) (Option.some Jvm.ClassFile.FieldType.boolean)) ∈ mg_ws := mg_in 534 rfl rfl
set_option maxRecDepth 20000 in
theorem mw_500 : (Jvm.Cond.constantLong "MetAnglesModel" (62 : Nat) (3 : Int64)) ∈ mg_ws := mg_in 535 rfl rfl
set_option maxRecDepth 20000 in
theorem mw_501 : (Jvm.Cond.methodLink "MetAnglesModel" (64 : Nat) ({ cls := "MetAnglesModel", name := "tailOf", desc := "(J)I" } : Jvm.MethodName)) ∈ mg_ws := mg_in 536 rfl rfl
set_option maxRecDepth 20000 in
theorem mw_502 : (Jvm.Cond.static ({ cls := "MetAnglesModel", name := "tailOf", desc := "(J)I" } : Jvm.MethodName)) ∈ mg_ws := mg_in 537 rfl rfl
set_option maxRecDepth 20000 in
theorem mw_503 : (Jvm.Cond.code ({ cls := "MetAnglesModel", name := "tailOf", desc := "(J)I" } : Jvm.MethodName) prog_6_method_8_code (5 : Nat) (Option.some Jvm.ClassFile.FieldType.int)) ∈ mg_ws := mg_in 538 rfl rfl
set_option maxRecDepth 20000 in
theorem mw_504 : (Jvm.Cond.methodLink "MetAnglesLaw" (34 : Nat) ({ cls := "MetAnglesModel", name := "doubled", desc := "(III)I" } : Jvm.MethodName)) ∈ mg_ws := mg_in 539 rfl rfl
set_option maxRecDepth 20000 in
theorem mw_505 : (Jvm.Cond.instanceMethod ({ cls := "MetAnglesModel", name := "doubled", desc := "(III)I" } : Jvm.MethodName)) ∈ mg_ws := mg_in 540 rfl rfl
set_option maxRecDepth 20000 in
theorem mw_506 : (Jvm.Cond.selects "MetAnglesModel" ({ cls := "MetAnglesModel", name := "doubled", desc := "(III)I" } : Jvm.MethodName) ({ cls := "MetAnglesModel", name := "doubled", desc := "(III)I" } : Jvm.MethodName)) ∈ mg_ws := mg_in 541 rfl rfl
set_option maxRecDepth 20000 in
theorem mw_507 : (Jvm.Cond.code ({ cls := "MetAnglesModel", name := "doubled", desc := "(III)I" } : Jvm.MethodName) prog_6_method_13_code (8 : Nat) (Option.some Jvm.ClassFile.FieldType.int)) ∈ mg_ws := mg_in 542 rfl rfl
set_option maxRecDepth 20000 in
theorem mw_508 : (Jvm.Cond.constantLong "MetAnglesModel" (71 : Nat) (100 : Int64)) ∈ mg_ws := mg_in 543 rfl rfl
set_option maxRecDepth 20000 in
theorem mw_509 : (Jvm.Cond.methodLink "MetAnglesModel" (73 : Nat) ({ cls := "MetAnglesModel", name := "after", desc := "(JJI)J" } : Jvm.MethodName)) ∈ mg_ws := mg_in 544 rfl rfl
set_option maxRecDepth 20000 in
theorem mw_510 : (Jvm.Cond.static ({ cls := "MetAnglesModel", name := "after", desc := "(JJI)J" } : Jvm.MethodName)) ∈ mg_ws := mg_in 545 rfl rfl
set_option maxRecDepth 20000 in
theorem mw_511 : (Jvm.Cond.code ({ cls := "MetAnglesModel", name := "after", desc := "(JJI)J" } : Jvm.MethodName) prog_6_method_11_code (8 : Nat) (Option.some Jvm.ClassFile.FieldType.long)) ∈ mg_ws := mg_in 546 rfl rfl
set_option maxRecDepth 20000 in
theorem mw_512 : (Jvm.Cond.methodLink "MetAnglesLaw" (39 : Nat) ({ cls := "MetAnglesModel", name := "all", desc := "(I)I" } : Jvm.MethodName)) ∈ mg_ws := mg_in 547 rfl rfl
set_option maxRecDepth 20000 in
theorem mw_513 : (Jvm.Cond.instanceMethod ({ cls := "MetAnglesModel", name := "all", desc := "(I)I" } : Jvm.MethodName)) ∈ mg_ws := mg_in 548 rfl rfl
set_option maxRecDepth 20000 in
theorem mw_514 : (Jvm.Cond.selects "MetAnglesModel" ({ cls := "MetAnglesModel", name := "all", desc := "(I)I" } : Jvm.MethodName) ({ cls := "MetAnglesModel", name := "all", desc := "(I)I" } : Jvm.MethodName)) ∈ mg_ws := mg_in 549 rfl rfl
set_option maxRecDepth 20000 in
theorem mw_515 : (Jvm.Cond.code ({ cls := "MetAnglesModel", name := "all", desc := "(I)I" } : Jvm.MethodName) prog_6_method_15_code (4 : Nat) (Option.some Jvm.ClassFile.FieldType.int)) ∈ mg_ws := mg_in 550 rfl rfl
set_option maxRecDepth 20000 in
theorem mw_516 : (Jvm.Cond.constantLong "MetAnglesModel" (81 : Nat) (20 : Int64)) ∈ mg_ws := mg_in 551 rfl rfl
set_option maxRecDepth 20000 in
theorem mw_517 : (Jvm.Cond.methodLink "MetAnglesModel" (83 : Nat) ({ cls := "MetAnglesModel", name := "moebius", desc := "(I)I" } : Jvm.MethodName)) ∈ mg_ws := mg_in 552 rfl rfl
set_option maxRecDepth 20000 in
theorem mw_518 : (Jvm.Cond.static ({ cls := "MetAnglesModel", name := "moebius", desc := "(I)I" } : Jvm.MethodName)) ∈ mg_ws := mg_in 553 rfl rfl
set_option maxRecDepth 20000 in
theorem mw_519 : (Jvm.Cond.code ({ cls := "MetAnglesModel", name := "moebius", desc := "(I)I" } : Jvm.MethodName) prog_6_method_14_code (4 : Nat) (Option.some Jvm.ClassFile.FieldType.int)) ∈ mg_ws := mg_in 554 rfl rfl
set_option maxRecDepth 20000 in
theorem mw_520 : (Jvm.Cond.methodLink "MetAnglesLaw" (43 : Nat) ({ cls := "MetAnglesModel", name := "letter", desc := "(III)I" } : Jvm.MethodName)) ∈ mg_ws := mg_in 555 rfl rfl
set_option maxRecDepth 20000 in
theorem mw_521 : (Jvm.Cond.instanceMethod ({ cls := "MetAnglesModel", name := "letter", desc := "(III)I" } : Jvm.MethodName)) ∈ mg_ws := mg_in 556 rfl rfl
set_option maxRecDepth 20000 in
theorem mw_522 : (Jvm.Cond.selects "MetAnglesModel" ({ cls := "MetAnglesModel", name := "letter", desc := "(III)I" } : Jvm.MethodName) ({ cls := "MetAnglesModel", name := "letter", desc := "(III)I" } : Jvm.MethodName)) ∈ mg_ws := mg_in 557 rfl rfl
set_option maxRecDepth 20000 in
theorem mw_523 : (Jvm.Cond.code ({ cls := "MetAnglesModel", name := "letter", desc := "(III)I" } : Jvm.MethodName) prog_6_method_18_code (4 : Nat) (Option.some Jvm.ClassFile.FieldType.int)) ∈ mg_ws := mg_in 558 rfl rfl
set_option maxRecDepth 20000 in
theorem mw_524 : (Jvm.Cond.methodLink "MetAnglesModel" (91 : Nat) ({ cls := "MetAnglesModel", name := "letterOf", desc := "(III)I" } : Jvm.MethodName)) ∈ mg_ws := mg_in 559 rfl rfl
set_option maxRecDepth 20000 in
theorem mw_526 : (Jvm.Cond.instanceMethod ({ cls := "MetAnglesModel", name := "letterOf", desc := "(III)I" } : Jvm.MethodName)) ∈ mg_ws := mg_in 561 rfl rfl
set_option maxRecDepth 20000 in
theorem mw_527 : (Jvm.Cond.code ({ cls := "MetAnglesModel", name := "letterOf", desc := "(III)I" } : Jvm.MethodName) prog_6_method_17_code (4 : Nat) (Option.some Jvm.ClassFile.FieldType.int)) ∈ mg_ws := mg_in 562 rfl rfl
set_option maxRecDepth 20000 in
theorem mw_528 : (Jvm.Cond.methodLink "MetAnglesModel" (87 : Nat) ({ cls := "MetAnglesModel", name := "side", desc := "(JJJJ)I" } : Jvm.MethodName)) ∈ mg_ws := mg_in 563 rfl rfl
set_option maxRecDepth 20000 in
theorem mw_529 : (Jvm.Cond.static ({ cls := "MetAnglesModel", name := "side", desc := "(JJJJ)I" } : Jvm.MethodName)) ∈ mg_ws := mg_in 564 rfl rfl
set_option maxRecDepth 20000 in
theorem mw_530 : (Jvm.Cond.code ({ cls := "MetAnglesModel", name := "side", desc := "(JJJJ)I" } : Jvm.MethodName) prog_6_method_16_code (14 : Nat) (Option.some Jvm.ClassFile.FieldType.int)) ∈ mg_ws := mg_in 565 rfl rfl
set_option maxRecDepth 20000 in
theorem mw_531 : (Jvm.Cond.methodLink "MetAnglesLaw" (47 : Nat) ({ cls := "MetAnglesModel", name := "address", desc := "(II)I" } : Jvm.MethodName)) ∈ mg_ws := mg_in 566 rfl rfl
set_option maxRecDepth 20000 in
theorem mw_532 : (Jvm.Cond.instanceMethod ({ cls := "MetAnglesModel", name := "address", desc := "(II)I" } : Jvm.MethodName)) ∈ mg_ws := mg_in 567 rfl rfl
set_option maxRecDepth 20000 in
theorem mw_533 : (Jvm.Cond.selects "MetAnglesModel" ({ cls := "MetAnglesModel", name := "address", desc := "(II)I" } : Jvm.MethodName) ({ cls := "MetAnglesModel", name := "address", desc := "(II)I" } : Jvm.MethodName)) ∈ mg_ws := mg_in 568 rfl rfl
set_option maxRecDepth 20000 in
theorem mw_534 : (Jvm.Cond.code ({ cls := "MetAnglesModel", name := "address", desc := "(II)I" } : Jvm.MethodName) prog_6_method_20_code (7 : Nat) (Option.some Jvm.ClassFile.FieldType.int)) ∈ mg_ws := mg_in 569 rfl rfl
set_option maxRecDepth 20000 in
theorem mw_535 : (Jvm.Cond.methodLink "MetAnglesModel" (95 : Nat) ({ cls := "MetAnglesModel", name := "isBack", desc := "(I)Z" } : Jvm.MethodName)) ∈ mg_ws := mg_in 570 rfl rfl
set_option maxRecDepth 20000 in
theorem mw_537 : (Jvm.Cond.instanceMethod ({ cls := "MetAnglesModel", name := "isBack", desc := "(I)Z" } : Jvm.MethodName)) ∈ mg_ws := mg_in 572 rfl rfl
set_option maxRecDepth 20000 in
theorem mw_538 : (Jvm.Cond.code ({ cls := "MetAnglesModel", name := "isBack", desc := "(I)Z" } : Jvm.MethodName) prog_6_method_19_code (2 : Nat) (Option.some Jvm.ClassFile.FieldType.boolean)) ∈ mg_ws := mg_in 573 rfl rfl
set_option maxRecDepth 20000 in
theorem mw_539 : (Jvm.Cond.methodLink "MetAnglesLaw" (52 : Nat) ({ cls := "MetAnglesModel", name := "cross", desc := "(IIII)I" } : Jvm.MethodName)) ∈ mg_ws := mg_in 574 rfl rfl
set_option maxRecDepth 20000 in
theorem mw_540 : (Jvm.Cond.instanceMethod ({ cls := "MetAnglesModel", name := "cross", desc := "(IIII)I" } : Jvm.MethodName)) ∈ mg_ws := mg_in 575 rfl rfl
set_option maxRecDepth 20000 in
theorem mw_541 : (Jvm.Cond.selects "MetAnglesModel" ({ cls := "MetAnglesModel", name := "cross", desc := "(IIII)I" } : Jvm.MethodName) ({ cls := "MetAnglesModel", name := "cross", desc := "(IIII)I" } : Jvm.MethodName)) ∈ mg_ws := mg_in 576 rfl rfl
set_option maxRecDepth 20000 in
theorem mw_542 : (Jvm.Cond.code ({ cls := "MetAnglesModel", name := "cross", desc := "(IIII)I" } : Jvm.MethodName) prog_6_method_25_code (5 : Nat) (Option.some Jvm.ClassFile.FieldType.int)) ∈ mg_ws := mg_in 577 rfl rfl
set_option maxRecDepth 20000 in
theorem mw_543 : (Jvm.Cond.methodLink "MetAnglesModel" (106 : Nat) ({ cls := "MetAnglesModel", name := "isSame", desc := "(II)Z" } : Jvm.MethodName)) ∈ mg_ws := mg_in 578 rfl rfl
set_option maxRecDepth 20000 in
theorem mw_545 : (Jvm.Cond.instanceMethod ({ cls := "MetAnglesModel", name := "isSame", desc := "(II)Z" } : Jvm.MethodName)) ∈ mg_ws := mg_in 580 rfl rfl
set_option maxRecDepth 20000 in
theorem mw_546 : (Jvm.Cond.code ({ cls := "MetAnglesModel", name := "isSame", desc := "(II)Z" } : Jvm.MethodName) prog_6_method_23_code (3 : Nat) (Option.some Jvm.ClassFile.FieldType.boolean)) ∈ mg_ws := mg_in 581 rfl rfl
set_option maxRecDepth 20000 in
theorem mw_547 : (Jvm.Cond.methodLink "MetAnglesModel" (109 : Nat) ({ cls := "MetAnglesModel", name := "liesBetween", desc := "(III)Z" } : Jvm.MethodName)) ∈ mg_ws := mg_in 582 rfl rfl
set_option maxRecDepth 20000 in
theorem mw_549 : (Jvm.Cond.instanceMethod ({ cls := "MetAnglesModel", name := "liesBetween", desc := "(III)Z" } : Jvm.MethodName)) ∈ mg_ws := mg_in 584 rfl rfl
set_option maxRecDepth 20000 in
theorem mw_550 : (Jvm.Cond.code ({ cls := "MetAnglesModel", name := "liesBetween", desc := "(III)Z" } : Jvm.MethodName) prog_6_method_24_code (4 : Nat) (Option.some Jvm.ClassFile.FieldType.boolean)) ∈ mg_ws := mg_in 585 rfl rfl
set_option maxRecDepth 20000 in
theorem mw_551 : (Jvm.Cond.methodLink "MetAnglesModel" (102 : Nat) ({ cls := "MetAnglesModel", name := "isLess", desc := "(II)Z" } : Jvm.MethodName)) ∈ mg_ws := mg_in 586 rfl rfl
set_option maxRecDepth 20000 in
theorem mw_553 : (Jvm.Cond.instanceMethod ({ cls := "MetAnglesModel", name := "isLess", desc := "(II)Z" } : Jvm.MethodName)) ∈ mg_ws := mg_in 588 rfl rfl
set_option maxRecDepth 20000 in
theorem mw_554 : (Jvm.Cond.code ({ cls := "MetAnglesModel", name := "isLess", desc := "(II)Z" } : Jvm.MethodName) prog_6_method_22_code (3 : Nat) (Option.some Jvm.ClassFile.FieldType.boolean)) ∈ mg_ws := mg_in 589 rfl rfl
set_option maxRecDepth 20000 in
theorem mw_555 : (Jvm.Cond.methodLink "MetAnglesLaw" (56 : Nat) ({ cls := "MetAnglesModel", name := "meet", desc := "(III)I" } : Jvm.MethodName)) ∈ mg_ws := mg_in 590 rfl rfl
set_option maxRecDepth 20000 in
theorem mw_556 : (Jvm.Cond.instanceMethod ({ cls := "MetAnglesModel", name := "meet", desc := "(III)I" } : Jvm.MethodName)) ∈ mg_ws := mg_in 591 rfl rfl
set_option maxRecDepth 20000 in
theorem mw_557 : (Jvm.Cond.selects "MetAnglesModel" ({ cls := "MetAnglesModel", name := "meet", desc := "(III)I" } : Jvm.MethodName) ({ cls := "MetAnglesModel", name := "meet", desc := "(III)I" } : Jvm.MethodName)) ∈ mg_ws := mg_in 592 rfl rfl
set_option maxRecDepth 20000 in
theorem mw_558 : (Jvm.Cond.code ({ cls := "MetAnglesModel", name := "meet", desc := "(III)I" } : Jvm.MethodName) prog_6_method_26_code (15 : Nat) (Option.some Jvm.ClassFile.FieldType.int)) ∈ mg_ws := mg_in 593 rfl rfl
set_option maxRecDepth 20000 in
theorem mw_559 : (Jvm.Cond.methodLink "MetAnglesLaw" (60 : Nat) ({ cls := "MetAnglesModel", name := "pairs", desc := "(I)I" } : Jvm.MethodName)) ∈ mg_ws := mg_in 594 rfl rfl
set_option maxRecDepth 20000 in
theorem mw_560 : (Jvm.Cond.instanceMethod ({ cls := "MetAnglesModel", name := "pairs", desc := "(I)I" } : Jvm.MethodName)) ∈ mg_ws := mg_in 595 rfl rfl
set_option maxRecDepth 20000 in
theorem mw_561 : (Jvm.Cond.selects "MetAnglesModel" ({ cls := "MetAnglesModel", name := "pairs", desc := "(I)I" } : Jvm.MethodName) ({ cls := "MetAnglesModel", name := "pairs", desc := "(I)I" } : Jvm.MethodName)) ∈ mg_ws := mg_in 596 rfl rfl
set_option maxRecDepth 20000 in
theorem mw_562 : (Jvm.Cond.code ({ cls := "MetAnglesModel", name := "pairs", desc := "(I)I" } : Jvm.MethodName) prog_6_method_32_code (4 : Nat) (Option.some Jvm.ClassFile.FieldType.int)) ∈ mg_ws := mg_in 597 rfl rfl
set_option maxRecDepth 20000 in
theorem mw_563 : (Jvm.Cond.constantLong "MetAnglesModel" (132 : Nat) (8 : Int64)) ∈ mg_ws := mg_in 598 rfl rfl
set_option maxRecDepth 20000 in
theorem mw_564 : (Jvm.Cond.methodLink "MetAnglesLaw" (64 : Nat) ({ cls := "MetAnglesModel", name := "pair", desc := "(III)I" } : Jvm.MethodName)) ∈ mg_ws := mg_in 599 rfl rfl
set_option maxRecDepth 20000 in
theorem mw_565 : (Jvm.Cond.instanceMethod ({ cls := "MetAnglesModel", name := "pair", desc := "(III)I" } : Jvm.MethodName)) ∈ mg_ws := mg_in 600 rfl rfl
set_option maxRecDepth 20000 in
theorem mw_566 : (Jvm.Cond.selects "MetAnglesModel" ({ cls := "MetAnglesModel", name := "pair", desc := "(III)I" } : Jvm.MethodName) ({ cls := "MetAnglesModel", name := "pair", desc := "(III)I" } : Jvm.MethodName)) ∈ mg_ws := mg_in 601 rfl rfl
set_option maxRecDepth 20000 in
theorem mw_567 : (Jvm.Cond.code ({ cls := "MetAnglesModel", name := "pair", desc := "(III)I" } : Jvm.MethodName) prog_6_method_34_code (5 : Nat) (Option.some Jvm.ClassFile.FieldType.int)) ∈ mg_ws := mg_in 602 rfl rfl
set_option maxRecDepth 20000 in
theorem mw_568 : (Jvm.Cond.methodLink "MetAnglesModel" (134 : Nat) ({ cls := "MetAnglesModel", name := "pairs", desc := "(I)I" } : Jvm.MethodName)) ∈ mg_ws := mg_in 603 rfl rfl
set_option maxRecDepth 20000 in
theorem mw_569 : (Jvm.Cond.methodLink "MetAnglesModel" (137 : Nat) ({ cls := "MetAnglesModel", name := "firstOf", desc := "(I)I" } : Jvm.MethodName)) ∈ mg_ws := mg_in 604 rfl rfl
set_option maxRecDepth 20000 in
theorem mw_571 : (Jvm.Cond.instanceMethod ({ cls := "MetAnglesModel", name := "firstOf", desc := "(I)I" } : Jvm.MethodName)) ∈ mg_ws := mg_in 606 rfl rfl
set_option maxRecDepth 20000 in
theorem mw_572 : (Jvm.Cond.code ({ cls := "MetAnglesModel", name := "firstOf", desc := "(I)I" } : Jvm.MethodName) prog_6_method_33_code (3 : Nat) (Option.some Jvm.ClassFile.FieldType.int)) ∈ mg_ws := mg_in 607 rfl rfl
set_option maxRecDepth 20000 in
theorem mw_573 : (Jvm.Cond.methodLink "MetAnglesLaw" (68 : Nat) ({ cls := "MetAnglesModel", name := "partner", desc := "(I)I" } : Jvm.MethodName)) ∈ mg_ws := mg_in 608 rfl rfl
set_option maxRecDepth 20000 in
theorem mw_574 : (Jvm.Cond.instanceMethod ({ cls := "MetAnglesModel", name := "partner", desc := "(I)I" } : Jvm.MethodName)) ∈ mg_ws := mg_in 609 rfl rfl
set_option maxRecDepth 20000 in
theorem mw_575 : (Jvm.Cond.selects "MetAnglesModel" ({ cls := "MetAnglesModel", name := "partner", desc := "(I)I" } : Jvm.MethodName) ({ cls := "MetAnglesModel", name := "partner", desc := "(I)I" } : Jvm.MethodName)) ∈ mg_ws := mg_in 610 rfl rfl
set_option maxRecDepth 20000 in
theorem mw_576 : (Jvm.Cond.code ({ cls := "MetAnglesModel", name := "partner", desc := "(I)I" } : Jvm.MethodName) prog_6_method_36_code (7 : Nat) (Option.some Jvm.ClassFile.FieldType.int)) ∈ mg_ws := mg_in 611 rfl rfl
set_option maxRecDepth 20000 in
theorem mw_577 : (Jvm.Cond.methodLink "MetAnglesModel" (140 : Nat) ({ cls := "MetAnglesModel", name := "pairOf", desc := "(I)I" } : Jvm.MethodName)) ∈ mg_ws := mg_in 612 rfl rfl
set_option maxRecDepth 20000 in
theorem mw_579 : (Jvm.Cond.instanceMethod ({ cls := "MetAnglesModel", name := "pairOf", desc := "(I)I" } : Jvm.MethodName)) ∈ mg_ws := mg_in 614 rfl rfl
set_option maxRecDepth 20000 in
theorem mw_580 : (Jvm.Cond.code ({ cls := "MetAnglesModel", name := "pairOf", desc := "(I)I" } : Jvm.MethodName) prog_6_method_35_code (6 : Nat) (Option.some Jvm.ClassFile.FieldType.int)) ∈ mg_ws := mg_in 615 rfl rfl
set_option maxRecDepth 20000 in
theorem mw_581 : (Jvm.Cond.methodLink "MetAnglesLaw" (72 : Nat) ({ cls := "MetAnglesModel", name := "held", desc := "(II)I" } : Jvm.MethodName)) ∈ mg_ws := mg_in 616 rfl rfl
set_option maxRecDepth 20000 in
theorem mw_582 : (Jvm.Cond.instanceMethod ({ cls := "MetAnglesModel", name := "held", desc := "(II)I" } : Jvm.MethodName)) ∈ mg_ws := mg_in 617 rfl rfl
set_option maxRecDepth 20000 in
theorem mw_583 : (Jvm.Cond.selects "MetAnglesModel" ({ cls := "MetAnglesModel", name := "held", desc := "(II)I" } : Jvm.MethodName) ({ cls := "MetAnglesModel", name := "held", desc := "(II)I" } : Jvm.MethodName)) ∈ mg_ws := mg_in 618 rfl rfl
set_option maxRecDepth 20000 in
theorem mw_584 : (Jvm.Cond.code ({ cls := "MetAnglesModel", name := "held", desc := "(II)I" } : Jvm.MethodName) prog_6_method_39_code (5 : Nat) (Option.some Jvm.ClassFile.FieldType.int)) ∈ mg_ws := mg_in 619 rfl rfl
set_option maxRecDepth 20000 in
theorem mw_585 : (Jvm.Cond.methodLink "MetAnglesModel" (143 : Nat) ({ cls := "MetAnglesModel", name := "holdsAngle", desc := "(II)Z" } : Jvm.MethodName)) ∈ mg_ws := mg_in 620 rfl rfl
set_option maxRecDepth 20000 in
theorem mw_587 : (Jvm.Cond.instanceMethod ({ cls := "MetAnglesModel", name := "holdsAngle", desc := "(II)Z" } : Jvm.MethodName)) ∈ mg_ws := mg_in 622 rfl rfl
set_option maxRecDepth 20000 in
theorem mw_588 : (Jvm.Cond.code ({ cls := "MetAnglesModel", name := "holdsAngle", desc := "(II)Z" } : Jvm.MethodName) prog_6_method_37_code (5 : Nat) (Option.some Jvm.ClassFile.FieldType.boolean)) ∈ mg_ws := mg_in 623 rfl rfl
set_option maxRecDepth 20000 in
theorem mw_589 : (Jvm.Cond.methodLink "MetAnglesLaw" (76 : Nat) ({ cls := "MetAnglesModel", name := "holder", desc := "(IIII)I" } : Jvm.MethodName)) ∈ mg_ws := mg_in 624 rfl rfl
set_option maxRecDepth 20000 in
theorem mw_590 : (Jvm.Cond.instanceMethod ({ cls := "MetAnglesModel", name := "holder", desc := "(IIII)I" } : Jvm.MethodName)) ∈ mg_ws := mg_in 625 rfl rfl
set_option maxRecDepth 20000 in
theorem mw_591 : (Jvm.Cond.selects "MetAnglesModel" ({ cls := "MetAnglesModel", name := "holder", desc := "(IIII)I" } : Jvm.MethodName) ({ cls := "MetAnglesModel", name := "holder", desc := "(IIII)I" } : Jvm.MethodName)) ∈ mg_ws := mg_in 626 rfl rfl
set_option maxRecDepth 20000 in
theorem mw_592 : (Jvm.Cond.code ({ cls := "MetAnglesModel", name := "holder", desc := "(IIII)I" } : Jvm.MethodName) prog_6_method_40_code (8 : Nat) (Option.some Jvm.ClassFile.FieldType.int)) ∈ mg_ws := mg_in 627 rfl rfl
set_option maxRecDepth 20000 in
theorem mw_593 : (Jvm.Cond.methodLink "MetAnglesModel" (146 : Nat) ({ cls := "MetAnglesModel", name := "isOrHolds", desc := "(II)Z" } : Jvm.MethodName)) ∈ mg_ws := mg_in 628 rfl rfl
set_option maxRecDepth 20000 in
theorem mw_595 : (Jvm.Cond.instanceMethod ({ cls := "MetAnglesModel", name := "isOrHolds", desc := "(II)Z" } : Jvm.MethodName)) ∈ mg_ws := mg_in 630 rfl rfl
set_option maxRecDepth 20000 in
theorem mw_596 : (Jvm.Cond.code ({ cls := "MetAnglesModel", name := "isOrHolds", desc := "(II)Z" } : Jvm.MethodName) prog_6_method_38_code (7 : Nat) (Option.some Jvm.ClassFile.FieldType.boolean)) ∈ mg_ws := mg_in 631 rfl rfl
set_option maxRecDepth 20000 in
theorem mw_597 : (Jvm.Cond.methodLink "MetAnglesLaw" (80 : Nat) ({ cls := "MetAnglesModel", name := "holds", desc := "(II)I" } : Jvm.MethodName)) ∈ mg_ws := mg_in 632 rfl rfl
set_option maxRecDepth 20000 in
theorem mw_598 : (Jvm.Cond.instanceMethod ({ cls := "MetAnglesModel", name := "holds", desc := "(II)I" } : Jvm.MethodName)) ∈ mg_ws := mg_in 633 rfl rfl
set_option maxRecDepth 20000 in
theorem mw_599 : (Jvm.Cond.selects "MetAnglesModel" ({ cls := "MetAnglesModel", name := "holds", desc := "(II)I" } : Jvm.MethodName) ({ cls := "MetAnglesModel", name := "holds", desc := "(II)I" } : Jvm.MethodName)) ∈ mg_ws := mg_in 634 rfl rfl
set_option maxRecDepth 20000 in
theorem mw_600 : (Jvm.Cond.code ({ cls := "MetAnglesModel", name := "holds", desc := "(II)I" } : Jvm.MethodName) prog_6_method_41_code (5 : Nat) (Option.some Jvm.ClassFile.FieldType.int)) ∈ mg_ws := mg_in 635 rfl rfl
set_option maxRecDepth 20000 in
theorem mw_601 : (Jvm.Cond.methodLink "MetAnglesLaw" (84 : Nat) ({ cls := "MetAnglesModel", name := "between", desc := "(III)I" } : Jvm.MethodName)) ∈ mg_ws := mg_in 636 rfl rfl
set_option maxRecDepth 20000 in
theorem mw_602 : (Jvm.Cond.instanceMethod ({ cls := "MetAnglesModel", name := "between", desc := "(III)I" } : Jvm.MethodName)) ∈ mg_ws := mg_in 637 rfl rfl
set_option maxRecDepth 20000 in
theorem mw_603 : (Jvm.Cond.selects "MetAnglesModel" ({ cls := "MetAnglesModel", name := "between", desc := "(III)I" } : Jvm.MethodName) ({ cls := "MetAnglesModel", name := "between", desc := "(III)I" } : Jvm.MethodName)) ∈ mg_ws := mg_in 638 rfl rfl
set_option maxRecDepth 20000 in
theorem mw_604 : (Jvm.Cond.code ({ cls := "MetAnglesModel", name := "between", desc := "(III)I" } : Jvm.MethodName) prog_6_method_42_code (10 : Nat) (Option.some Jvm.ClassFile.FieldType.int)) ∈ mg_ws := mg_in 639 rfl rfl
set_option maxRecDepth 20000 in
theorem mw_605 : (Jvm.Cond.methodLink "MetAnglesLaw" (88 : Nat) ({ cls := "MetAnglesModel", name := "wide", desc := "(II)I" } : Jvm.MethodName)) ∈ mg_ws := mg_in 640 rfl rfl
set_option maxRecDepth 20000 in
theorem mw_606 : (Jvm.Cond.instanceMethod ({ cls := "MetAnglesModel", name := "wide", desc := "(II)I" } : Jvm.MethodName)) ∈ mg_ws := mg_in 641 rfl rfl
set_option maxRecDepth 20000 in
theorem mw_607 : (Jvm.Cond.selects "MetAnglesModel" ({ cls := "MetAnglesModel", name := "wide", desc := "(II)I" } : Jvm.MethodName) ({ cls := "MetAnglesModel", name := "wide", desc := "(II)I" } : Jvm.MethodName)) ∈ mg_ws := mg_in 642 rfl rfl
set_option maxRecDepth 20000 in
theorem mw_608 : (Jvm.Cond.code ({ cls := "MetAnglesModel", name := "wide", desc := "(II)I" } : Jvm.MethodName) prog_6_method_44_code (7 : Nat) (Option.some Jvm.ClassFile.FieldType.int)) ∈ mg_ws := mg_in 643 rfl rfl
set_option maxRecDepth 20000 in
theorem mw_609 : (Jvm.Cond.methodLink "MetAnglesModel" (149 : Nat) ({ cls := "MetAnglesModel", name := "within", desc := "(II)J" } : Jvm.MethodName)) ∈ mg_ws := mg_in 644 rfl rfl
set_option maxRecDepth 20000 in
theorem mw_611 : (Jvm.Cond.instanceMethod ({ cls := "MetAnglesModel", name := "within", desc := "(II)J" } : Jvm.MethodName)) ∈ mg_ws := mg_in 646 rfl rfl
set_option maxRecDepth 20000 in
theorem mw_612 : (Jvm.Cond.code ({ cls := "MetAnglesModel", name := "within", desc := "(II)J" } : Jvm.MethodName) prog_6_method_43_code (9 : Nat) (Option.some Jvm.ClassFile.FieldType.long)) ∈ mg_ws := mg_in 647 rfl rfl
set_option maxRecDepth 20000 in
theorem mw_613 : (Jvm.Cond.methodLink "MetAnglesLaw" (92 : Nat) ({ cls := "MetAnglesModel", name := "digit", desc := "(II)I" } : Jvm.MethodName)) ∈ mg_ws := mg_in 648 rfl rfl
set_option maxRecDepth 20000 in
theorem mw_614 : (Jvm.Cond.instanceMethod ({ cls := "MetAnglesModel", name := "digit", desc := "(II)I" } : Jvm.MethodName)) ∈ mg_ws := mg_in 649 rfl rfl
set_option maxRecDepth 20000 in
theorem mw_615 : (Jvm.Cond.selects "MetAnglesModel" ({ cls := "MetAnglesModel", name := "digit", desc := "(II)I" } : Jvm.MethodName) ({ cls := "MetAnglesModel", name := "digit", desc := "(II)I" } : Jvm.MethodName)) ∈ mg_ws := mg_in 650 rfl rfl
set_option maxRecDepth 20000 in
theorem mw_616 : (Jvm.Cond.code ({ cls := "MetAnglesModel", name := "digit", desc := "(II)I" } : Jvm.MethodName) prog_6_method_46_code (3 : Nat) (Option.some Jvm.ClassFile.FieldType.int)) ∈ mg_ws := mg_in 651 rfl rfl
set_option maxRecDepth 20000 in
theorem mw_617 : (Jvm.Cond.methodLink "MetAnglesModel" (153 : Nat) ({ cls := "MetAnglesModel", name := "digitOf", desc := "(II)I" } : Jvm.MethodName)) ∈ mg_ws := mg_in 652 rfl rfl
set_option maxRecDepth 20000 in
theorem mw_619 : (Jvm.Cond.instanceMethod ({ cls := "MetAnglesModel", name := "digitOf", desc := "(II)I" } : Jvm.MethodName)) ∈ mg_ws := mg_in 654 rfl rfl
set_option maxRecDepth 20000 in
theorem mw_620 : (Jvm.Cond.code ({ cls := "MetAnglesModel", name := "digitOf", desc := "(II)I" } : Jvm.MethodName) prog_6_method_45_code (3 : Nat) (Option.some Jvm.ClassFile.FieldType.int)) ∈ mg_ws := mg_in 655 rfl rfl
set_option maxRecDepth 20000 in
theorem mw_621 : (Jvm.Cond.methodLink "MetAnglesLaw" (96 : Nat) ({ cls := "MetAnglesModel", name := "put", desc := "(II)I" } : Jvm.MethodName)) ∈ mg_ws := mg_in 656 rfl rfl
set_option maxRecDepth 20000 in
theorem mw_622 : (Jvm.Cond.instanceMethod ({ cls := "MetAnglesModel", name := "put", desc := "(II)I" } : Jvm.MethodName)) ∈ mg_ws := mg_in 657 rfl rfl
set_option maxRecDepth 20000 in
theorem mw_623 : (Jvm.Cond.selects "MetAnglesModel" ({ cls := "MetAnglesModel", name := "put", desc := "(II)I" } : Jvm.MethodName) ({ cls := "MetAnglesModel", name := "put", desc := "(II)I" } : Jvm.MethodName)) ∈ mg_ws := mg_in 658 rfl rfl
set_option maxRecDepth 20000 in
theorem mw_624 : (Jvm.Cond.code ({ cls := "MetAnglesModel", name := "put", desc := "(II)I" } : Jvm.MethodName) prog_6_method_48_code (8 : Nat) (Option.some Jvm.ClassFile.FieldType.int)) ∈ mg_ws := mg_in 659 rfl rfl
set_option maxRecDepth 20000 in
theorem mw_625 : (Jvm.Cond.methodLink "MetAnglesModel" (157 : Nat) ({ cls := "MetAnglesModel", name := "canPut", desc := "(II)Z" } : Jvm.MethodName)) ∈ mg_ws := mg_in 660 rfl rfl
set_option maxRecDepth 20000 in
theorem mw_627 : (Jvm.Cond.instanceMethod ({ cls := "MetAnglesModel", name := "canPut", desc := "(II)Z" } : Jvm.MethodName)) ∈ mg_ws := mg_in 662 rfl rfl
set_option maxRecDepth 20000 in
theorem mw_628 : (Jvm.Cond.code ({ cls := "MetAnglesModel", name := "canPut", desc := "(II)Z" } : Jvm.MethodName) prog_6_method_47_code (3 : Nat) (Option.some Jvm.ClassFile.FieldType.boolean)) ∈ mg_ws := mg_in 663 rfl rfl
set_option maxRecDepth 20000 in
theorem mw_629 : (Jvm.Cond.methodLink "MetAnglesLaw" (100 : Nat) ({ cls := "MetAnglesModel", name := "take", desc := "(II)I" } : Jvm.MethodName)) ∈ mg_ws := mg_in 664 rfl rfl
set_option maxRecDepth 20000 in
theorem mw_630 : (Jvm.Cond.instanceMethod ({ cls := "MetAnglesModel", name := "take", desc := "(II)I" } : Jvm.MethodName)) ∈ mg_ws := mg_in 665 rfl rfl
set_option maxRecDepth 20000 in
theorem mw_631 : (Jvm.Cond.selects "MetAnglesModel" ({ cls := "MetAnglesModel", name := "take", desc := "(II)I" } : Jvm.MethodName) ({ cls := "MetAnglesModel", name := "take", desc := "(II)I" } : Jvm.MethodName)) ∈ mg_ws := mg_in 666 rfl rfl
set_option maxRecDepth 20000 in
theorem mw_632 : (Jvm.Cond.code ({ cls := "MetAnglesModel", name := "take", desc := "(II)I" } : Jvm.MethodName) prog_6_method_49_code (14 : Nat) (Option.some Jvm.ClassFile.FieldType.int)) ∈ mg_ws := mg_in 667 rfl rfl
set_option maxRecDepth 20000 in
theorem mw_633 : (Jvm.Cond.methodLink "MetAnglesLaw" (104 : Nat) ({ cls := "MetAnglesModel", name := "sheet", desc := "(III)I" } : Jvm.MethodName)) ∈ mg_ws := mg_in 668 rfl rfl
set_option maxRecDepth 20000 in
theorem mw_634 : (Jvm.Cond.instanceMethod ({ cls := "MetAnglesModel", name := "sheet", desc := "(III)I" } : Jvm.MethodName)) ∈ mg_ws := mg_in 669 rfl rfl
set_option maxRecDepth 20000 in
theorem mw_635 : (Jvm.Cond.selects "MetAnglesModel" ({ cls := "MetAnglesModel", name := "sheet", desc := "(III)I" } : Jvm.MethodName) ({ cls := "MetAnglesModel", name := "sheet", desc := "(III)I" } : Jvm.MethodName)) ∈ mg_ws := mg_in 670 rfl rfl
set_option maxRecDepth 20000 in
theorem mw_636 : (Jvm.Cond.code ({ cls := "MetAnglesModel", name := "sheet", desc := "(III)I" } : Jvm.MethodName) prog_6_method_51_code (5 : Nat) (Option.some Jvm.ClassFile.FieldType.int)) ∈ mg_ws := mg_in 671 rfl rfl
set_option maxRecDepth 20000 in
theorem mw_637 : (Jvm.Cond.methodLink "MetAnglesModel" (160 : Nat) ({ cls := "MetAnglesModel", name := "isSheet", desc := "(II)Z" } : Jvm.MethodName)) ∈ mg_ws := mg_in 672 rfl rfl
set_option maxRecDepth 20000 in
theorem mw_638 : (Jvm.Cond.static ({ cls := "MetAnglesModel", name := "isSheet", desc := "(II)Z" } : Jvm.MethodName)) ∈ mg_ws := mg_in 673 rfl rfl
set_option maxRecDepth 20000 in
theorem mw_639 : (Jvm.Cond.code ({ cls := "MetAnglesModel", name := "isSheet", desc := "(II)Z" } : Jvm.MethodName) prog_6_method_50_code (2 : Nat) (Option.some Jvm.ClassFile.FieldType.boolean)) ∈ mg_ws := mg_in 674 rfl rfl
set_option maxRecDepth 20000 in
theorem mw_640 : (Jvm.Cond.methodLink "MetAnglesLaw" (109 : Nat) ({ cls := "MetAnglesModel", name := "lay", desc := "(IIJ)I" } : Jvm.MethodName)) ∈ mg_ws := mg_in 675 rfl rfl
set_option maxRecDepth 20000 in
theorem mw_641 : (Jvm.Cond.instanceMethod ({ cls := "MetAnglesModel", name := "lay", desc := "(IIJ)I" } : Jvm.MethodName)) ∈ mg_ws := mg_in 676 rfl rfl
set_option maxRecDepth 20000 in
theorem mw_642 : (Jvm.Cond.selects "MetAnglesModel" ({ cls := "MetAnglesModel", name := "lay", desc := "(IIJ)I" } : Jvm.MethodName) ({ cls := "MetAnglesModel", name := "lay", desc := "(IIJ)I" } : Jvm.MethodName)) ∈ mg_ws := mg_in 677 rfl rfl
set_option maxRecDepth 20000 in
theorem mw_643 : (Jvm.Cond.code ({ cls := "MetAnglesModel", name := "lay", desc := "(IIJ)I" } : Jvm.MethodName) prog_6_method_52_code (5 : Nat) (Option.some Jvm.ClassFile.FieldType.int)) ∈ mg_ws := mg_in 678 rfl rfl
set_option maxRecDepth 20000 in
theorem mw_644 : (Jvm.Cond.methodLink "MetAnglesLaw" (113 : Nat) ({ cls := "MetAnglesModel", name := "scan", desc := "(IIII)I" } : Jvm.MethodName)) ∈ mg_ws := mg_in 679 rfl rfl
set_option maxRecDepth 20000 in
theorem mw_645 : (Jvm.Cond.instanceMethod ({ cls := "MetAnglesModel", name := "scan", desc := "(IIII)I" } : Jvm.MethodName)) ∈ mg_ws := mg_in 680 rfl rfl
set_option maxRecDepth 20000 in
theorem mw_646 : (Jvm.Cond.selects "MetAnglesModel" ({ cls := "MetAnglesModel", name := "scan", desc := "(IIII)I" } : Jvm.MethodName) ({ cls := "MetAnglesModel", name := "scan", desc := "(IIII)I" } : Jvm.MethodName)) ∈ mg_ws := mg_in 681 rfl rfl
set_option maxRecDepth 20000 in
theorem mw_647 : (Jvm.Cond.code ({ cls := "MetAnglesModel", name := "scan", desc := "(IIII)I" } : Jvm.MethodName) prog_6_method_53_code (11 : Nat) (Option.some Jvm.ClassFile.FieldType.int)) ∈ mg_ws := mg_in 682 rfl rfl
set_option maxRecDepth 20000 in
theorem mw_648 : (Jvm.Cond.constantLong "MetAnglesModel" (163 : Nat) (16 : Int64)) ∈ mg_ws := mg_in 683 rfl rfl
set_option maxRecDepth 20000 in
theorem mw_649 : (Jvm.Cond.methodLink "MetAnglesModel" (165 : Nat) ({ cls := "MetAnglesModel", name := "angle", desc := "(JJ)I" } : Jvm.MethodName)) ∈ mg_ws := mg_in 684 rfl rfl
set_option maxRecDepth 20000 in
theorem mw_650 : (Jvm.Cond.methodLink "MetAnglesLaw" (117 : Nat) ({ cls := "MetAnglesModel", name := "count", desc := "(I)I" } : Jvm.MethodName)) ∈ mg_ws := mg_in 685 rfl rfl
set_option maxRecDepth 20000 in
theorem mw_651 : (Jvm.Cond.instanceMethod ({ cls := "MetAnglesModel", name := "count", desc := "(I)I" } : Jvm.MethodName)) ∈ mg_ws := mg_in 686 rfl rfl
set_option maxRecDepth 20000 in
theorem mw_652 : (Jvm.Cond.selects "MetAnglesModel" ({ cls := "MetAnglesModel", name := "count", desc := "(I)I" } : Jvm.MethodName) ({ cls := "MetAnglesModel", name := "count", desc := "(I)I" } : Jvm.MethodName)) ∈ mg_ws := mg_in 687 rfl rfl
set_option maxRecDepth 20000 in
theorem mw_653 : (Jvm.Cond.code ({ cls := "MetAnglesModel", name := "count", desc := "(I)I" } : Jvm.MethodName) prog_6_method_54_code (7 : Nat) (Option.some Jvm.ClassFile.FieldType.int)) ∈ mg_ws := mg_in 688 rfl rfl
set_option maxRecDepth 20000 in
theorem mw_654 : (Jvm.Cond.constantLong "MetAnglesLaw" (13 : Nat) (4294967295 : Int64)) ∈ mg_ws := mg_in 689 rfl rfl
theorem mw_p0 : Cond.selects "MetAngles" (⟨"MetAngles", "keep", "(JJ)I"⟩ : MethodName) ⟨"MetAngles", "keep", "(JJ)I"⟩ ∈ mg_ws := mg_in 0 rfl rfl
theorem mw_p1 : Cond.selects "MetAngles" (⟨"MetAngles", "turnAt", "(I)LMetAngles$Turn;"⟩ : MethodName) ⟨"MetAngles", "turnAt", "(I)LMetAngles$Turn;"⟩ ∈ mg_ws := mg_in 1 rfl rfl
theorem mw_p2 : Cond.selects "MetAngles" (⟨"MetAngles", "justOfLength", "(I)I"⟩ : MethodName) ⟨"MetAngles", "justOfLength", "(I)I"⟩ ∈ mg_ws := mg_in 2 rfl rfl
theorem mw_p3 : Cond.selects "MetAngles" (⟨"MetAngles", "writeInner", "(LMetAngles$Turn;)V"⟩ : MethodName) ⟨"MetAngles", "writeInner", "(LMetAngles$Turn;)V"⟩ ∈ mg_ws := mg_in 3 rfl rfl
theorem mw_p4 : Cond.selects "MetAngles" (⟨"MetAngles", "nextInAddress", "(II)I"⟩ : MethodName) ⟨"MetAngles", "nextInAddress", "(II)I"⟩ ∈ mg_ws := mg_in 4 rfl rfl
theorem mw_p5 : Cond.selects "MetAngles" (⟨"MetAngles", "agreeInRings", "(LMetAngles$Turn;LMetAngles$Turn;LMetAngles$Turn;I)Z"⟩ : MethodName) ⟨"MetAngles", "agreeInRings", "(LMetAngles$Turn;LMetAngles$Turn;LMetAngles$Turn;I)Z"⟩ ∈ mg_ws := mg_in 5 rfl rfl
theorem mw_p6 : Cond.selects "MetAngles" (⟨"MetAngles", "known", "()LMetAngles$Partners;"⟩ : MethodName) ⟨"MetAngles", "known", "()LMetAngles$Partners;"⟩ ∈ mg_ws := mg_in 6 rfl rfl
theorem mw_p7 : Cond.selects "MetAngles$Partners" (⟨"MetAngles$Partners", "join", "(II)V"⟩ : MethodName) ⟨"MetAngles$Partners", "join", "(II)V"⟩ ∈ mg_ws := mg_in 7 rfl rfl
theorem mw_p8 : Cond.selects "MetAngles$Partners" (⟨"MetAngles$Partners", "joinFree", "([ZI)V"⟩ : MethodName) ⟨"MetAngles$Partners", "joinFree", "([ZI)V"⟩ ∈ mg_ws := mg_in 8 rfl rfl
theorem mw_p9 : Cond.selects "MetAngles$Partners" (⟨"MetAngles$Partners", "crossesNone", "(II)Z"⟩ : MethodName) ⟨"MetAngles$Partners", "crossesNone", "(II)Z"⟩ ∈ mg_ws := mg_in 9 rfl rfl
theorem mw_p10 : Cond.selects "MetAngles$Partners" (⟨"MetAngles$Partners", "isMade", "(I)Z"⟩ : MethodName) ⟨"MetAngles$Partners", "isMade", "(I)Z"⟩ ∈ mg_ws := mg_in 10 rfl rfl
theorem mw_p11 : Cond.selects "MetAngles" (⟨"MetAngles", "pairOf", "(LMetAngles$Turn;)I"⟩ : MethodName) ⟨"MetAngles", "pairOf", "(LMetAngles$Turn;)I"⟩ ∈ mg_ws := mg_in 11 rfl rfl
theorem mw_p12 : Cond.selects "MetAngles" (⟨"MetAngles", "pairForPutting", "(LMetAngles$Turn;LMetAngles$Turn;)I"⟩ : MethodName) ⟨"MetAngles", "pairForPutting", "(LMetAngles$Turn;LMetAngles$Turn;)I"⟩ ∈ mg_ws := mg_in 12 rfl rfl
theorem mw_p13 : Cond.selects "MetAngles" (⟨"MetAngles", "digitsTakenOut", "(IILMetAngles$Turn;I)J"⟩ : MethodName) ⟨"MetAngles", "digitsTakenOut", "(IILMetAngles$Turn;I)J"⟩ ∈ mg_ws := mg_in 13 rfl rfl
theorem mw_p14 : Cond.selects "MetAngles" (⟨"MetAngles", "readAngle", "(LMetAngles$Sheet;J)I"⟩ : MethodName) ⟨"MetAngles", "readAngle", "(LMetAngles$Sheet;J)I"⟩ ∈ mg_ws := mg_in 14 rfl rfl
theorem mw_p15 : Cond.selects "MetAngles" (⟨"MetAngles", "amountThatComesBack", "()I"⟩ : MethodName) ⟨"MetAngles", "amountThatComesBack", "()I"⟩ ∈ mg_ws := mg_in 15 rfl rfl
theorem mw_p16 : Cond.selects "MetAngles" (⟨"MetAngles", "amountOfUnlike", "()I"⟩ : MethodName) ⟨"MetAngles", "amountOfUnlike", "()I"⟩ ∈ mg_ws := mg_in 16 rfl rfl
theorem mw_p17 : Cond.selects "MetAngles" (⟨"MetAngles", "cameEarlier", "(I)Z"⟩ : MethodName) ⟨"MetAngles", "cameEarlier", "(I)Z"⟩ ∈ mg_ws := mg_in 17 rfl rfl
theorem mw_p18 : Cond.selects "MetAnglesModel" (⟨"MetAnglesModel", "findPairs", "()V"⟩ : MethodName) ⟨"MetAnglesModel", "findPairs", "()V"⟩ ∈ mg_ws := mg_in 18 rfl rfl
theorem mw_p19 : Cond.selects "MetAnglesModel" (⟨"MetAnglesModel", "pairs0", "(IJJ)V"⟩ : MethodName) ⟨"MetAnglesModel", "pairs0", "(IJJ)V"⟩ ∈ mg_ws := mg_in 19 rfl rfl
theorem mw_p20 : Cond.selects "MetAnglesModel" (⟨"MetAnglesModel", "crosses", "(IJJ)Z"⟩ : MethodName) ⟨"MetAnglesModel", "crosses", "(IJJ)Z"⟩ ∈ mg_ws := mg_in 20 rfl rfl
theorem mw_p21 : Cond.selects "MetAnglesModel" (⟨"MetAnglesModel", "comes", "(JJ)I"⟩ : MethodName) ⟨"MetAnglesModel", "comes", "(JJ)I"⟩ ∈ mg_ws := mg_in 21 rfl rfl
theorem mw_p22 : Cond.selects "MetAnglesModel" (⟨"MetAnglesModel", "isAngle", "(I)Z"⟩ : MethodName) ⟨"MetAnglesModel", "isAngle", "(I)Z"⟩ ∈ mg_ws := mg_in 22 rfl rfl
theorem mw_p23 : Cond.selects "MetAnglesModel" (⟨"MetAnglesModel", "letterOf", "(III)I"⟩ : MethodName) ⟨"MetAnglesModel", "letterOf", "(III)I"⟩ ∈ mg_ws := mg_in 23 rfl rfl
theorem mw_p24 : Cond.selects "MetAnglesModel" (⟨"MetAnglesModel", "isBack", "(I)Z"⟩ : MethodName) ⟨"MetAnglesModel", "isBack", "(I)Z"⟩ ∈ mg_ws := mg_in 24 rfl rfl
theorem mw_p25 : Cond.selects "MetAnglesModel" (⟨"MetAnglesModel", "isSame", "(II)Z"⟩ : MethodName) ⟨"MetAnglesModel", "isSame", "(II)Z"⟩ ∈ mg_ws := mg_in 25 rfl rfl
theorem mw_p26 : Cond.selects "MetAnglesModel" (⟨"MetAnglesModel", "liesBetween", "(III)Z"⟩ : MethodName) ⟨"MetAnglesModel", "liesBetween", "(III)Z"⟩ ∈ mg_ws := mg_in 26 rfl rfl
theorem mw_p27 : Cond.selects "MetAnglesModel" (⟨"MetAnglesModel", "isLess", "(II)Z"⟩ : MethodName) ⟨"MetAnglesModel", "isLess", "(II)Z"⟩ ∈ mg_ws := mg_in 27 rfl rfl
theorem mw_p28 : Cond.selects "MetAnglesModel" (⟨"MetAnglesModel", "firstOf", "(I)I"⟩ : MethodName) ⟨"MetAnglesModel", "firstOf", "(I)I"⟩ ∈ mg_ws := mg_in 28 rfl rfl
theorem mw_p29 : Cond.selects "MetAnglesModel" (⟨"MetAnglesModel", "pairOf", "(I)I"⟩ : MethodName) ⟨"MetAnglesModel", "pairOf", "(I)I"⟩ ∈ mg_ws := mg_in 29 rfl rfl
theorem mw_p30 : Cond.selects "MetAnglesModel" (⟨"MetAnglesModel", "holdsAngle", "(II)Z"⟩ : MethodName) ⟨"MetAnglesModel", "holdsAngle", "(II)Z"⟩ ∈ mg_ws := mg_in 30 rfl rfl
theorem mw_p31 : Cond.selects "MetAnglesModel" (⟨"MetAnglesModel", "isOrHolds", "(II)Z"⟩ : MethodName) ⟨"MetAnglesModel", "isOrHolds", "(II)Z"⟩ ∈ mg_ws := mg_in 31 rfl rfl
theorem mw_p32 : Cond.selects "MetAnglesModel" (⟨"MetAnglesModel", "within", "(II)J"⟩ : MethodName) ⟨"MetAnglesModel", "within", "(II)J"⟩ ∈ mg_ws := mg_in 32 rfl rfl
theorem mw_p33 : Cond.selects "MetAnglesModel" (⟨"MetAnglesModel", "digitOf", "(II)I"⟩ : MethodName) ⟨"MetAnglesModel", "digitOf", "(II)I"⟩ ∈ mg_ws := mg_in 33 rfl rfl
theorem mw_p34 : Cond.selects "MetAnglesModel" (⟨"MetAnglesModel", "canPut", "(II)Z"⟩ : MethodName) ⟨"MetAnglesModel", "canPut", "(II)Z"⟩ ∈ mg_ws := mg_in 34 rfl rfl
theorem mi_0 : ∀ x ∈ u_ws RX0 TX0 4, x ∈ mg_ws := by decide +kernel
theorem mi_1 : ∀ x ∈ u_ws RX1 TX1 2, x ∈ mg_ws := by decide +kernel
theorem mi_2 : ∀ x ∈ u_ws RX2 TX2 4, x ∈ mg_ws := by decide +kernel
theorem mi_3 : ∀ x ∈ u_ws RX3 TX3 5, x ∈ mg_ws := by decide +kernel
theorem mi_4 : ∀ x ∈ u_ws RX4 TX4 11, x ∈ mg_ws := by decide +kernel
