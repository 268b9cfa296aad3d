theorem wd_0 : Cond.selects "SphereSheets" ⟨"SphereSheets", "found", "(I)I"⟩ ⟨"SphereSheets", "found", "(I)I"⟩ ∈ mGood := m_mem 0 (by decide +kernel) rfl
theorem wd_1 : Cond.selects "SphereSheets" ⟨"SphereSheets", "fine", "(I)I"⟩ ⟨"SphereSheets", "fine", "(I)I"⟩ ∈ mGood := m_mem 1 (by decide +kernel) rfl
theorem wd_2 : Cond.selects "SphereSheets" ⟨"SphereSheets", "shelve", "(ILSphereSheets$Cover;)I"⟩ ⟨"SphereSheets", "shelve", "(ILSphereSheets$Cover;)I"⟩ ∈ mGood := m_mem 2 (by decide +kernel) rfl
theorem wd_3 : Cond.selects "SphereSheets$Cover" ⟨"SphereSheets$Cover", "narrowed", "(IJ)[J"⟩ ⟨"SphereSheets$Cover", "narrowed", "(IJ)[J"⟩ ∈ mGood := m_mem 3 (by decide +kernel) rfl
theorem wd_4 : Cond.selects "SphereSheets$Namer" ⟨"SphereSheets$Namer", "numberFrom", "(I[JI)Z"⟩ ⟨"SphereSheets$Namer", "numberFrom", "(I[JI)Z"⟩ ∈ mGood := m_mem 4 (by decide +kernel) rfl
theorem wd_5 : Cond.selects "SphereSheets$Namer" ⟨"SphereSheets$Namer", "againstLeast", "([JI)I"⟩ ⟨"SphereSheets$Namer", "againstLeast", "([JI)I"⟩ ∈ mGood := m_mem 5 (by decide +kernel) rfl
theorem wd_6 : Cond.selects "SphereSheets$Namer" ⟨"SphereSheets$Namer", "renamed", "(JI)J"⟩ ⟨"SphereSheets$Namer", "renamed", "(JI)J"⟩ ∈ mGood := m_mem 6 (by decide +kernel) rfl
theorem wd_7 : Cond.selects "SphereSheets$Namer" ⟨"SphereSheets$Namer", "keepAsLeast", "([JI)V"⟩ ⟨"SphereSheets$Namer", "keepAsLeast", "([JI)V"⟩ ∈ mGood := m_mem 7 (by decide +kernel) rfl
theorem wd_8 : Cond.selects "SphereSheets" ⟨"SphereSheets", "tellOf", "(LSphereSheets$Cover;I)I"⟩ ⟨"SphereSheets", "tellOf", "(LSphereSheets$Cover;I)I"⟩ ∈ mGood := m_mem 8 (by decide +kernel) rfl
theorem wd_9 : Cond.selects "SphereSheets$Heap" ⟨"SphereSheets$Heap", "sift", "(JI)V"⟩ ⟨"SphereSheets$Heap", "sift", "(JI)V"⟩ ∈ mGood := m_mem 9 (by decide +kernel) rfl
theorem wd_10 : Cond.selects "SphereSheets$Heap" ⟨"SphereSheets$Heap", "product", "(I)I"⟩ ⟨"SphereSheets$Heap", "product", "(I)I"⟩ ∈ mGood := m_mem 10 (by decide +kernel) rfl
theorem wd_11 : Cond.selects "SphereSheets" ⟨"SphereSheets", "alike", "(LSphereSheets$Cover;LSphereSheets$Cover;)Z"⟩ ⟨"SphereSheets", "alike", "(LSphereSheets$Cover;LSphereSheets$Cover;)Z"⟩ ∈ mGood := m_mem 11 (by decide +kernel) rfl
theorem wd_12 : Cond.selects "SphereSheets$Ring" ⟨"SphereSheets$Ring", "keep", "(I)V"⟩ ⟨"SphereSheets$Ring", "keep", "(I)V"⟩ ∈ mGood := m_mem 12 (by decide +kernel) rfl
theorem wd_13 : Cond.selects "SphereSheets$Ring" ⟨"SphereSheets$Ring", "known", "(I)Z"⟩ ⟨"SphereSheets$Ring", "known", "(I)Z"⟩ ∈ mGood := m_mem 13 (by decide +kernel) rfl
theorem wd_14 : Cond.selects "SphereSheets$Ring" ⟨"SphereSheets$Ring", "isLeastAt", "(II)Z"⟩ ⟨"SphereSheets$Ring", "isLeastAt", "(II)Z"⟩ ∈ mGood := m_mem 14 (by decide +kernel) rfl
theorem wd_15 : Cond.selects "SphereSheets$Shapes" ⟨"SphereSheets$Shapes", "listAll", "(I)V"⟩ ⟨"SphereSheets$Shapes", "listAll", "(I)V"⟩ ∈ mGood := m_mem 15 (by decide +kernel) rfl
theorem wd_16 : Cond.selects "SphereSheets$Shapes" ⟨"SphereSheets$Shapes", "nextBelow", "(JI)J"⟩ ⟨"SphereSheets$Shapes", "nextBelow", "(JI)J"⟩ ∈ mGood := m_mem 16 (by decide +kernel) rfl
theorem wd_17 : Cond.selects "SphereSheets$Shapes" ⟨"SphereSheets$Shapes", "cutAndJoined", "(JII)J"⟩ ⟨"SphereSheets$Shapes", "cutAndJoined", "(JII)J"⟩ ∈ mGood := m_mem 17 (by decide +kernel) rfl
theorem wd_18 : Cond.selects "SphereSheets$Shapes" ⟨"SphereSheets$Shapes", "cut", "(JII)J"⟩ ⟨"SphereSheets$Shapes", "cut", "(JII)J"⟩ ∈ mGood := m_mem 18 (by decide +kernel) rfl
theorem wd_19 : Cond.selects "SphereSheets$Shapes" ⟨"SphereSheets$Shapes", "indexOf", "(J)I"⟩ ⟨"SphereSheets$Shapes", "indexOf", "(J)I"⟩ ∈ mGood := m_mem 19 (by decide +kernel) rfl
theorem wd_20 : Cond.selects "SphereSheets" ⟨"SphereSheets", "rowsThere", "()I"⟩ ⟨"SphereSheets", "rowsThere", "()I"⟩ ∈ mGood := m_mem 20 (by decide +kernel) rfl
theorem wd_21 : Cond.selects "SphereSheets" ⟨"SphereSheets", "coversThere", "(I)I"⟩ ⟨"SphereSheets", "coversThere", "(I)I"⟩ ∈ mGood := m_mem 21 (by decide +kernel) rfl
theorem wd_22 : Cond.selects "SphereSheetsModel" ⟨"SphereSheetsModel", "found", "(I)I"⟩ ⟨"SphereSheetsModel", "found", "(I)I"⟩ ∈ mGood := m_mem 22 (by decide +kernel) rfl
theorem wd_23 : Cond.selects "SphereSheetsModel" ⟨"SphereSheetsModel", "put", "(IIII)V"⟩ ⟨"SphereSheetsModel", "put", "(IIII)V"⟩ ∈ mGood := m_mem 23 (by decide +kernel) rfl
theorem wd_24 : Cond.selects "SphereSheetsModel" ⟨"SphereSheetsModel", "lay", "(I)I"⟩ ⟨"SphereSheetsModel", "lay", "(I)I"⟩ ∈ mGood := m_mem 24 (by decide +kernel) rfl
theorem wd_25 : Cond.selects "SphereSheetsModel" ⟨"SphereSheetsModel", "become", "(II)V"⟩ ⟨"SphereSheetsModel", "become", "(II)V"⟩ ∈ mGood := m_mem 25 (by decide +kernel) rfl
theorem wd_26 : Cond.selects "SphereSheetsModel" ⟨"SphereSheetsModel", "kindOf", "(I)I"⟩ ⟨"SphereSheetsModel", "kindOf", "(I)I"⟩ ∈ mGood := m_mem 26 (by decide +kernel) rfl
theorem wd_27 : Cond.selects "SphereSheetsModel" ⟨"SphereSheetsModel", "at", "(III)I"⟩ ⟨"SphereSheetsModel", "at", "(III)I"⟩ ∈ mGood := m_mem 27 (by decide +kernel) rfl
theorem wd_28 : Cond.selects "SphereSheetsModel" ⟨"SphereSheetsModel", "rounds", "(II)I"⟩ ⟨"SphereSheetsModel", "rounds", "(II)I"⟩ ∈ mGood := m_mem 28 (by decide +kernel) rfl
theorem wd_29 : Cond.selects "SphereSheetsModel" ⟨"SphereSheetsModel", "look", "(IZ)I"⟩ ⟨"SphereSheetsModel", "look", "(IZ)I"⟩ ∈ mGood := m_mem 29 (by decide +kernel) rfl
theorem wd_30 : Cond.selects "SphereSheetsModel" ⟨"SphereSheetsModel", "parts", "(I)I"⟩ ⟨"SphereSheetsModel", "parts", "(I)I"⟩ ∈ mGood := m_mem 30 (by decide +kernel) rfl
theorem wd_31 : Cond.selects "SphereSheetsModel" ⟨"SphereSheetsModel", "least", "(II)I"⟩ ⟨"SphereSheetsModel", "least", "(II)I"⟩ ∈ mGood := m_mem 31 (by decide +kernel) rfl
theorem wd_32 : Cond.selects "SphereSheetsModel" ⟨"SphereSheetsModel", "rename", "(III)V"⟩ ⟨"SphereSheetsModel", "rename", "(III)V"⟩ ∈ mGood := m_mem 32 (by decide +kernel) rfl
theorem wd_33 : Cond.selects "SphereSheetsModel" ⟨"SphereSheetsModel", "compare", "(II)I"⟩ ⟨"SphereSheetsModel", "compare", "(II)I"⟩ ∈ mGood := m_mem 33 (by decide +kernel) rfl
theorem wd_34 : Cond.selects "SphereSheetsModel" ⟨"SphereSheetsModel", "isSheet", "(II)Z"⟩ ⟨"SphereSheetsModel", "isSheet", "(II)Z"⟩ ∈ mGood := m_mem 34 (by decide +kernel) rfl
theorem wd_35 : Cond.selects "SphereSheetsModel" ⟨"SphereSheetsModel", "blocks", "(III)I"⟩ ⟨"SphereSheetsModel", "blocks", "(III)I"⟩ ∈ mGood := m_mem 35 (by decide +kernel) rfl
theorem wd_36 : Cond.selects "SphereSheetsModel" ⟨"SphereSheetsModel", "merge", "(III)V"⟩ ⟨"SphereSheetsModel", "merge", "(III)V"⟩ ∈ mGood := m_mem 36 (by decide +kernel) rfl
theorem wd_37 : Cond.selects "SphereSheetsModel" ⟨"SphereSheetsModel", "braided", "(IIII)V"⟩ ⟨"SphereSheetsModel", "braided", "(IIII)V"⟩ ∈ mGood := m_mem 37 (by decide +kernel) rfl
theorem wd_38 : Cond.selects "SphereSheetsModel" ⟨"SphereSheetsModel", "backAt", "(III)I"⟩ ⟨"SphereSheetsModel", "backAt", "(III)I"⟩ ∈ mGood := m_mem 38 (by decide +kernel) rfl
theorem wd_39 : Cond.selects "SphereSheetsModel" ⟨"SphereSheetsModel", "heap", "(I)I"⟩ ⟨"SphereSheetsModel", "heap", "(I)I"⟩ ∈ mGood := m_mem 39 (by decide +kernel) rfl
theorem wd_40 : Cond.selects "SphereSheetsModel" ⟨"SphereSheetsModel", "sift", "(I)Z"⟩ ⟨"SphereSheetsModel", "sift", "(I)Z"⟩ ∈ mGood := m_mem 40 (by decide +kernel) rfl
theorem wd_41 : Cond.selects "SphereSheetsModel" ⟨"SphereSheetsModel", "isName", "(I)Z"⟩ ⟨"SphereSheetsModel", "isName", "(I)Z"⟩ ∈ mGood := m_mem 41 (by decide +kernel) rfl
theorem wd_42 : Cond.selects "SphereSheetsModel" ⟨"SphereSheetsModel", "sized", "(I)I"⟩ ⟨"SphereSheetsModel", "sized", "(I)I"⟩ ∈ mGood := m_mem 42 (by decide +kernel) rfl
theorem wd_43 : Cond.selects "SphereSheetsModel" ⟨"SphereSheetsModel", "began", "(I)V"⟩ ⟨"SphereSheetsModel", "began", "(I)V"⟩ ∈ mGood := m_mem 43 (by decide +kernel) rfl
theorem wd_44 : Cond.selects "SphereSheetsModel" ⟨"SphereSheetsModel", "marked", "(I)I"⟩ ⟨"SphereSheetsModel", "marked", "(I)I"⟩ ∈ mGood := m_mem 44 (by decide +kernel) rfl
theorem wd_45 : Cond.selects "SphereSheetsModel" ⟨"SphereSheetsModel", "findShapes", "(I)V"⟩ ⟨"SphereSheetsModel", "findShapes", "(I)V"⟩ ∈ mGood := m_mem 45 (by decide +kernel) rfl
theorem wd_46 : Cond.selects "SphereSheetsModel" ⟨"SphereSheetsModel", "changed", "(IIIII)I"⟩ ⟨"SphereSheetsModel", "changed", "(IIIII)I"⟩ ∈ mGood := m_mem 46 (by decide +kernel) rfl
theorem wd_48 : (Jvm.Cond.initialized "SphereSheets") ∈ mGood := m_mem 48 (by decide +kernel) rfl
theorem wd_49 : (Jvm.Cond.initialized "SphereSheets$Row") ∈ mGood := m_mem 49 (by decide +kernel) rfl
theorem wd_50 : (Jvm.Cond.initialized "java/util/Arrays") ∈ mGood := m_mem 50 (by decide +kernel) rfl
theorem wd_51 : (Jvm.Cond.initialized "SphereSheets$Namer") ∈ mGood := m_mem 51 (by decide +kernel) rfl
theorem wd_52 : (Jvm.Cond.initialized "SphereSheets$Ring") ∈ mGood := m_mem 52 (by decide +kernel) rfl
theorem wd_53 : (Jvm.Cond.initialized "SphereSheets$Heap") ∈ mGood := m_mem 53 (by decide +kernel) rfl
theorem wd_54 : (Jvm.Cond.initialized "SphereSheets$Shapes") ∈ mGood := m_mem 54 (by decide +kernel) rfl
theorem wd_55 : (Jvm.Cond.initialized "SphereSheetsModel") ∈ mGood := m_mem 55 (by decide +kernel) rfl
theorem wd_56 : (Jvm.Cond.initialized "java/lang/System") ∈ mGood := m_mem 56 (by decide +kernel) rfl
theorem wd_57 : (Jvm.Cond.initialized "SphereSheets$Orders") ∈ mGood := m_mem 57 (by decide +kernel) rfl
theorem wd_58 : (Jvm.Cond.initialized "SphereSheets$Cover") ∈ mGood := m_mem 58 (by decide +kernel) rfl
theorem wd_59 : (Jvm.Cond.initialized "java/lang/Math") ∈ mGood := m_mem 59 (by decide +kernel) rfl
theorem wd_60 : (Jvm.Cond.initialized "java/lang/Integer") ∈ mGood := m_mem 60 (by decide +kernel) rfl
theorem wd_61 : (Jvm.Cond.initialized "SphereSheets$Simple") ∈ mGood := m_mem 61 (by decide +kernel) rfl
theorem wd_62 : (Jvm.Cond.initialized "SphereSheets$Three") ∈ mGood := m_mem 62 (by decide +kernel) rfl
theorem wd_63 : (Jvm.Cond.initialized "SphereSheets$Bristled") ∈ mGood := m_mem 63 (by decide +kernel) rfl
theorem wd_64 : (Jvm.Cond.initialized "SphereSheets$One") ∈ mGood := m_mem 64 (by decide +kernel) rfl
theorem wd_65 : (Jvm.Cond.initialized "java/lang/Long") ∈ mGood := m_mem 65 (by decide +kernel) rfl
theorem wd_66 : (Jvm.Cond.classLink "SphereSheetsLaw" (7 : Nat) "SphereSheets") ∈ mGood := m_mem 66 (by decide +kernel) rfl
theorem wd_67 : (Jvm.Cond.instantiable "SphereSheets" (8 : Nat)) ∈ mGood := m_mem 67 (by decide +kernel) rfl
theorem wd_68 : (Jvm.Cond.methodLink "SphereSheetsLaw" (9 : Nat) ({ cls := "SphereSheets", name := "<init>", desc := "()V" } : Jvm.MethodName)) ∈ mGood := m_mem 68 (by decide +kernel) rfl
theorem wd_69 : (Jvm.Cond.instanceMethod ({ cls := "SphereSheets", name := "<init>", desc := "()V" } : Jvm.MethodName)) ∈ mGood := m_mem 69 (by decide +kernel) rfl
theorem wd_70 : (Jvm.Cond.code ({ cls := "SphereSheets", name := "<init>", desc := "()V" } : Jvm.MethodName) prog_1_method_1_code (2 : Nat) (Option.none : Option Jvm.ClassFile.FieldType)) ∈ mGood := m_mem 70 (by decide +kernel) rfl
theorem wd_71 : (Jvm.Cond.methodLink "SphereSheets" (1 : Nat) ({ cls := "java/lang/Object", name := "<init>", desc := "()V" } : Jvm.MethodName)) ∈ mGood := m_mem 71 (by decide +kernel) rfl
theorem wd_72 : (Jvm.Cond.instanceMethod ({ cls := "java/lang/Object", name := "<init>", desc := "()V" } : Jvm.MethodName)) ∈ mGood := m_mem 72 (by decide +kernel) rfl
theorem wd_73 : (Jvm.Cond.code ({ cls := "java/lang/Object", name := "<init>", desc := "()V" } : Jvm.MethodName) object_method_1_code (1 : Nat) (Option.none : Option Jvm.ClassFile.FieldType)) ∈ mGood := m_mem 73 (by decide +kernel) rfl
theorem wd_74 : (Jvm.Cond.classLink "SphereSheets" (9 : Nat) "SphereSheets$Row") ∈ mGood := m_mem 74 (by decide +kernel) rfl
theorem wd_76 : (Jvm.Cond.instantiable "SphereSheets$Row" (3 : Nat)) ∈ mGood := m_mem 76 (by decide +kernel) rfl
theorem wd_77 : (Jvm.Cond.methodLink "SphereSheets" (15 : Nat) ({ cls := "SphereSheets$Row", name := "<init>", desc := "(I)V" } : Jvm.MethodName)) ∈ mGood := m_mem 77 (by decide +kernel) rfl
theorem wd_78 : (Jvm.Cond.instanceMethod ({ cls := "SphereSheets$Row", name := "<init>", desc := "(I)V" } : Jvm.MethodName)) ∈ mGood := m_mem 78 (by decide +kernel) rfl
theorem wd_79 : (Jvm.Cond.code ({ cls := "SphereSheets$Row", name := "<init>", desc := "(I)V" } : Jvm.MethodName) prog_9_method_1_code (2 : Nat) (Option.none : Option Jvm.ClassFile.FieldType)) ∈ mGood := m_mem 79 (by decide +kernel) rfl
theorem wd_80 : (Jvm.Cond.methodLink "SphereSheets$Row" (1 : Nat) ({ cls := "java/lang/Object", name := "<init>", desc := "()V" } : Jvm.MethodName)) ∈ mGood := m_mem 80 (by decide +kernel) rfl
theorem wd_81 : (Jvm.Cond.fieldLink "SphereSheets$Row" (7 : Nat) "SphereSheets$Row" "items" "[I") ∈ mGood := m_mem 81 (by decide +kernel) rfl
theorem wd_82 : (Jvm.Cond.fieldLink "SphereSheets$Row" (13 : Nat) "SphereSheets$Row" "lane" "I") ∈ mGood := m_mem 82 (by decide +kernel) rfl
theorem wd_83 : (Jvm.Cond.fieldLink "SphereSheets" (84 : Nat) "SphereSheets$Row" "lane" "I") ∈ mGood := m_mem 83 (by decide +kernel) rfl
theorem wd_84 : (Jvm.Cond.fieldLink "SphereSheets$Row" (17 : Nat) "SphereSheets$Row" "size" "I") ∈ mGood := m_mem 84 (by decide +kernel) rfl
theorem wd_85 : (Jvm.Cond.fieldLink "SphereSheets" (92 : Nat) "SphereSheets$Row" "size" "I") ∈ mGood := m_mem 85 (by decide +kernel) rfl
theorem wd_94 : (Jvm.Cond.classLink "SphereSheets" (18 : Nat) "SphereSheets$Cover") ∈ mGood := m_mem 94 (by decide +kernel) rfl
theorem wd_96 : (Jvm.Cond.methodLink "SphereSheets" (28 : Nat) ({ cls := "SphereSheets$Row", name := "begin", desc := "(II)V" } : Jvm.MethodName)) ∈ mGood := m_mem 96 (by decide +kernel) rfl
theorem wd_97 : (Jvm.Cond.instanceMethod ({ cls := "SphereSheets$Row", name := "begin", desc := "(II)V" } : Jvm.MethodName)) ∈ mGood := m_mem 97 (by decide +kernel) rfl
theorem wd_98 : (Jvm.Cond.selects "SphereSheets$Row" ({ cls := "SphereSheets$Row", name := "begin", desc := "(II)V" } : Jvm.MethodName) ({ cls := "SphereSheets$Row", name := "begin", desc := "(II)V" } : Jvm.MethodName)) ∈ mGood := m_mem 98 (by decide +kernel) rfl
theorem wd_99 : (Jvm.Cond.code ({ cls := "SphereSheets$Row", name := "begin", desc := "(II)V" } : Jvm.MethodName) prog_9_method_3_code (3 : Nat) (Option.none : Option Jvm.ClassFile.FieldType)) ∈ mGood := m_mem 99 (by decide +kernel) rfl
theorem wd_100 : (Jvm.Cond.methodLink "SphereSheets$Row" (20 : Nat) ({ cls := "java/util/Arrays", name := "fill", desc := "([II)V" } : Jvm.MethodName)) ∈ mGood := m_mem 100 (by decide +kernel) rfl
theorem wd_101 : (Jvm.Cond.static ({ cls := "java/util/Arrays", name := "fill", desc := "([II)V" } : Jvm.MethodName)) ∈ mGood := m_mem 101 (by decide +kernel) rfl
theorem wd_102 : (Jvm.Cond.code ({ cls := "java/util/Arrays", name := "fill", desc := "([II)V" } : Jvm.MethodName) prog_20_method_103_code (4 : Nat) (Option.none : Option Jvm.ClassFile.FieldType)) ∈ mGood := m_mem 102 (by decide +kernel) rfl
theorem wd_103 : (Jvm.Cond.classLink "SphereSheets" (32 : Nat) "SphereSheets$Namer") ∈ mGood := m_mem 103 (by decide +kernel) rfl
theorem wd_104 : (Jvm.Cond.instantiable "SphereSheets$Namer" (4 : Nat)) ∈ mGood := m_mem 104 (by decide +kernel) rfl
theorem wd_105 : (Jvm.Cond.methodLink "SphereSheets" (34 : Nat) ({ cls := "SphereSheets$Namer", name := "<init>", desc := "()V" } : Jvm.MethodName)) ∈ mGood := m_mem 105 (by decide +kernel) rfl
theorem wd_106 : (Jvm.Cond.instanceMethod ({ cls := "SphereSheets$Namer", name := "<init>", desc := "()V" } : Jvm.MethodName)) ∈ mGood := m_mem 106 (by decide +kernel) rfl
theorem wd_107 : (Jvm.Cond.code ({ cls := "SphereSheets$Namer", name := "<init>", desc := "()V" } : Jvm.MethodName) prog_5_method_1_code (1 : Nat) (Option.none : Option Jvm.ClassFile.FieldType)) ∈ mGood := m_mem 107 (by decide +kernel) rfl
theorem wd_108 : (Jvm.Cond.methodLink "SphereSheets$Namer" (3 : Nat) ({ cls := "java/lang/Object", name := "<init>", desc := "()V" } : Jvm.MethodName)) ∈ mGood := m_mem 108 (by decide +kernel) rfl
theorem wd_109 : (Jvm.Cond.fieldLink "SphereSheets$Namer" (9 : Nat) "SphereSheets$Namer" "least" "[J") ∈ mGood := m_mem 109 (by decide +kernel) rfl
theorem wd_110 : (Jvm.Cond.fieldLink "SphereSheets$Ring" (58 : Nat) "SphereSheets$Namer" "least" "[J") ∈ mGood := m_mem 110 (by decide +kernel) rfl
theorem wd_111 : (Jvm.Cond.fieldLink "SphereSheets" (150 : Nat) "SphereSheets$Namer" "least" "[J") ∈ mGood := m_mem 111 (by decide +kernel) rfl
theorem wd_112 : (Jvm.Cond.fieldLink "SphereSheets$Namer" (48 : Nat) "SphereSheets$Namer" "likes" "I") ∈ mGood := m_mem 112 (by decide +kernel) rfl
theorem wd_113 : (Jvm.Cond.fieldLink "SphereSheets" (270 : Nat) "SphereSheets$Namer" "likes" "I") ∈ mGood := m_mem 113 (by decide +kernel) rfl
theorem wd_114 : (Jvm.Cond.fieldLink "SphereSheets$Namer" (52 : Nat) "SphereSheets$Namer" "newOf" "J") ∈ mGood := m_mem 114 (by decide +kernel) rfl
theorem wd_115 : (Jvm.Cond.fieldLink "SphereSheets$Namer" (37 : Nat) "SphereSheets$Namer" "oldOf" "J") ∈ mGood := m_mem 115 (by decide +kernel) rfl
theorem wd_126 : (Jvm.Cond.classLink "SphereSheets" (39 : Nat) "SphereSheets$Ring") ∈ mGood := m_mem 126 (by decide +kernel) rfl
theorem wd_127 : (Jvm.Cond.instantiable "SphereSheets$Ring" (3 : Nat)) ∈ mGood := m_mem 127 (by decide +kernel) rfl
theorem wd_128 : (Jvm.Cond.methodLink "SphereSheets" (41 : Nat) ({ cls := "SphereSheets$Ring", name := "<init>", desc := "()V" } : Jvm.MethodName)) ∈ mGood := m_mem 128 (by decide +kernel) rfl
theorem wd_129 : (Jvm.Cond.instanceMethod ({ cls := "SphereSheets$Ring", name := "<init>", desc := "()V" } : Jvm.MethodName)) ∈ mGood := m_mem 129 (by decide +kernel) rfl
theorem wd_130 : (Jvm.Cond.code ({ cls := "SphereSheets$Ring", name := "<init>", desc := "()V" } : Jvm.MethodName) prog_8_method_1_code (1 : Nat) (Option.none : Option Jvm.ClassFile.FieldType)) ∈ mGood := m_mem 130 (by decide +kernel) rfl
theorem wd_131 : (Jvm.Cond.methodLink "SphereSheets$Ring" (3 : Nat) ({ cls := "java/lang/Object", name := "<init>", desc := "()V" } : Jvm.MethodName)) ∈ mGood := m_mem 131 (by decide +kernel) rfl
theorem wd_132 : (Jvm.Cond.classLink "SphereSheets$Ring" (9 : Nat) "SphereSheets$Namer") ∈ mGood := m_mem 132 (by decide +kernel) rfl
theorem wd_133 : (Jvm.Cond.methodLink "SphereSheets$Ring" (11 : Nat) ({ cls := "SphereSheets$Namer", name := "<init>", desc := "()V" } : Jvm.MethodName)) ∈ mGood := m_mem 133 (by decide +kernel) rfl
theorem wd_134 : (Jvm.Cond.fieldLink "SphereSheets$Ring" (12 : Nat) "SphereSheets$Ring" "namer" "LSphereSheets$Namer;") ∈ mGood := m_mem 134 (by decide +kernel) rfl
theorem wd_135 : (Jvm.Cond.fieldLink "SphereSheets$Ring" (18 : Nat) "SphereSheets$Ring" "names" "[J") ∈ mGood := m_mem 135 (by decide +kernel) rfl
theorem wd_136 : (Jvm.Cond.fieldLink "SphereSheets$Ring" (27 : Nat) "SphereSheets$Ring" "many" "I") ∈ mGood := m_mem 136 (by decide +kernel) rfl
theorem wd_144 : (Jvm.Cond.classLink "SphereSheets" (46 : Nat) "SphereSheets$Heap") ∈ mGood := m_mem 144 (by decide +kernel) rfl
theorem wd_145 : (Jvm.Cond.instantiable "SphereSheets$Heap" (3 : Nat)) ∈ mGood := m_mem 145 (by decide +kernel) rfl
theorem wd_146 : (Jvm.Cond.methodLink "SphereSheets" (48 : Nat) ({ cls := "SphereSheets$Heap", name := "<init>", desc := "()V" } : Jvm.MethodName)) ∈ mGood := m_mem 146 (by decide +kernel) rfl
theorem wd_147 : (Jvm.Cond.instanceMethod ({ cls := "SphereSheets$Heap", name := "<init>", desc := "()V" } : Jvm.MethodName)) ∈ mGood := m_mem 147 (by decide +kernel) rfl
theorem wd_148 : (Jvm.Cond.code ({ cls := "SphereSheets$Heap", name := "<init>", desc := "()V" } : Jvm.MethodName) prog_4_method_1_code (1 : Nat) (Option.none : Option Jvm.ClassFile.FieldType)) ∈ mGood := m_mem 148 (by decide +kernel) rfl
theorem wd_149 : (Jvm.Cond.methodLink "SphereSheets$Heap" (3 : Nat) ({ cls := "java/lang/Object", name := "<init>", desc := "()V" } : Jvm.MethodName)) ∈ mGood := m_mem 149 (by decide +kernel) rfl
theorem wd_150 : (Jvm.Cond.fieldLink "SphereSheets$Heap" (11 : Nat) "SphereSheets$Heap" "kept" "[J") ∈ mGood := m_mem 150 (by decide +kernel) rfl
theorem wd_151 : (Jvm.Cond.fieldLink "SphereSheets$Heap" (15 : Nat) "SphereSheets$Heap" "backs" "[J") ∈ mGood := m_mem 151 (by decide +kernel) rfl
theorem wd_152 : (Jvm.Cond.fieldLink "SphereSheets$Heap" (24 : Nat) "SphereSheets$Heap" "many" "I") ∈ mGood := m_mem 152 (by decide +kernel) rfl
theorem wd_160 : (Jvm.Cond.classLink "SphereSheets" (53 : Nat) "SphereSheets$Shapes") ∈ mGood := m_mem 160 (by decide +kernel) rfl
theorem wd_161 : (Jvm.Cond.instantiable "SphereSheets$Shapes" (4 : Nat)) ∈ mGood := m_mem 161 (by decide +kernel) rfl
theorem wd_162 : (Jvm.Cond.methodLink "SphereSheets" (55 : Nat) ({ cls := "SphereSheets$Shapes", name := "<init>", desc := "()V" } : Jvm.MethodName)) ∈ mGood := m_mem 162 (by decide +kernel) rfl
theorem wd_163 : (Jvm.Cond.instanceMethod ({ cls := "SphereSheets$Shapes", name := "<init>", desc := "()V" } : Jvm.MethodName)) ∈ mGood := m_mem 163 (by decide +kernel) rfl
theorem wd_164 : (Jvm.Cond.code ({ cls := "SphereSheets$Shapes", name := "<init>", desc := "()V" } : Jvm.MethodName) prog_10_method_1_code (1 : Nat) (Option.none : Option Jvm.ClassFile.FieldType)) ∈ mGood := m_mem 164 (by decide +kernel) rfl
theorem wd_165 : (Jvm.Cond.methodLink "SphereSheets$Shapes" (3 : Nat) ({ cls := "java/lang/Object", name := "<init>", desc := "()V" } : Jvm.MethodName)) ∈ mGood := m_mem 165 (by decide +kernel) rfl
theorem wd_166 : (Jvm.Cond.fieldLink "SphereSheets$Shapes" (11 : Nat) "SphereSheets$Shapes" "list" "[J") ∈ mGood := m_mem 166 (by decide +kernel) rfl
theorem wd_167 : (Jvm.Cond.fieldLink "SphereSheets$Shapes" (15 : Nat) "SphereSheets$Shapes" "ways" "[J") ∈ mGood := m_mem 167 (by decide +kernel) rfl
theorem wd_168 : (Jvm.Cond.fieldLink "SphereSheets$Shapes" (40 : Nat) "SphereSheets$Shapes" "listedFor" "I") ∈ mGood := m_mem 168 (by decide +kernel) rfl
theorem wd_169 : (Jvm.Cond.fieldLink "SphereSheets$Shapes" (32 : Nat) "SphereSheets$Shapes" "many" "I") ∈ mGood := m_mem 169 (by decide +kernel) rfl
theorem wd_170 : (Jvm.Cond.fieldLink "SphereSheets" (251 : Nat) "SphereSheets$Shapes" "many" "I") ∈ mGood := m_mem 170 (by decide +kernel) rfl
theorem wd_180 : (Jvm.Cond.fieldLink "SphereSheets" (11 : Nat) "SphereSheets" "rows" "[LSphereSheets$Row;") ∈ mGood := m_mem 180 (by decide +kernel) rfl
theorem wd_181 : (Jvm.Cond.fieldLink "SphereSheets" (20 : Nat) "SphereSheets" "shelf" "[LSphereSheets$Cover;") ∈ mGood := m_mem 181 (by decide +kernel) rfl
theorem wd_182 : (Jvm.Cond.fieldLink "SphereSheets" (24 : Nat) "SphereSheets" "traced" "LSphereSheets$Row;") ∈ mGood := m_mem 182 (by decide +kernel) rfl
theorem wd_183 : (Jvm.Cond.fieldLink "SphereSheets" (35 : Nat) "SphereSheets" "namer" "LSphereSheets$Namer;") ∈ mGood := m_mem 183 (by decide +kernel) rfl
theorem wd_184 : (Jvm.Cond.fieldLink "SphereSheets" (42 : Nat) "SphereSheets" "rings" "LSphereSheets$Ring;") ∈ mGood := m_mem 184 (by decide +kernel) rfl
theorem wd_185 : (Jvm.Cond.fieldLink "SphereSheets" (49 : Nat) "SphereSheets" "heap" "LSphereSheets$Heap;") ∈ mGood := m_mem 185 (by decide +kernel) rfl
theorem wd_186 : (Jvm.Cond.fieldLink "SphereSheets" (56 : Nat) "SphereSheets" "shapesListed" "LSphereSheets$Shapes;") ∈ mGood := m_mem 186 (by decide +kernel) rfl
theorem wd_187 : (Jvm.Cond.fieldLink "SphereSheets" (263 : Nat) "SphereSheets" "finding" "I") ∈ mGood := m_mem 187 (by decide +kernel) rfl
theorem wd_205 : (Jvm.Cond.methodLink "SphereSheetsLaw" (13 : Nat) ({ cls := "SphereSheets", name := "row", desc := "(III)I" } : Jvm.MethodName)) ∈ mGood := m_mem 205 (by decide +kernel) rfl
theorem wd_206 : (Jvm.Cond.instanceMethod ({ cls := "SphereSheets", name := "row", desc := "(III)I" } : Jvm.MethodName)) ∈ mGood := m_mem 206 (by decide +kernel) rfl
theorem wd_207 : (Jvm.Cond.selects "SphereSheets" ({ cls := "SphereSheets", name := "row", desc := "(III)I" } : Jvm.MethodName) ({ cls := "SphereSheets", name := "row", desc := "(III)I" } : Jvm.MethodName)) ∈ mGood := m_mem 207 (by decide +kernel) rfl
theorem wd_208 : (Jvm.Cond.code ({ cls := "SphereSheets", name := "row", desc := "(III)I" } : Jvm.MethodName) prog_1_method_2_code (4 : Nat) (Option.some Jvm.ClassFile.FieldType.int)) ∈ mGood := m_mem 208 (by decide +kernel) rfl
theorem wd_209 : (Jvm.Cond.methodLink "SphereSheets" (60 : Nat) ({ cls := "SphereSheets", name := "noRow", desc := "(I)Z" } : Jvm.MethodName)) ∈ mGood := m_mem 209 (by decide +kernel) rfl
theorem wd_210 : (Jvm.Cond.static ({ cls := "SphereSheets", name := "noRow", desc := "(I)Z" } : Jvm.MethodName)) ∈ mGood := m_mem 210 (by decide +kernel) rfl
theorem wd_211 : (Jvm.Cond.code ({ cls := "SphereSheets", name := "noRow", desc := "(I)Z" } : Jvm.MethodName) prog_1_method_30_code (1 : Nat) (Option.some Jvm.ClassFile.FieldType.boolean)) ∈ mGood := m_mem 211 (by decide +kernel) rfl
theorem wd_212 : (Jvm.Cond.constant "SphereSheets" (64 : Nat) (-1000001 : Int32)) ∈ mGood := m_mem 212 (by decide +kernel) rfl
theorem wd_213 : (Jvm.Cond.methodLink "SphereSheets" (65 : Nat) ({ cls := "SphereSheets", name := "found", desc := "(I)I" } : Jvm.MethodName)) ∈ mGood := m_mem 213 (by decide +kernel) rfl
theorem wd_215 : (Jvm.Cond.instanceMethod ({ cls := "SphereSheets", name := "found", desc := "(I)I" } : Jvm.MethodName)) ∈ mGood := m_mem 215 (by decide +kernel) rfl
theorem wd_216 : (Jvm.Cond.code ({ cls := "SphereSheets", name := "found", desc := "(I)I" } : Jvm.MethodName) prog_1_method_32_code (2 : Nat) (Option.some Jvm.ClassFile.FieldType.int)) ∈ mGood := m_mem 216 (by decide +kernel) rfl
theorem wd_217 : (Jvm.Cond.constant "SphereSheets" (266 : Nat) (-1000010 : Int32)) ∈ mGood := m_mem 217 (by decide +kernel) rfl
theorem wd_218 : (Jvm.Cond.methodLink "SphereSheets" (69 : Nat) ({ cls := "SphereSheets", name := "fine", desc := "(I)I" } : Jvm.MethodName)) ∈ mGood := m_mem 218 (by decide +kernel) rfl
theorem wd_220 : (Jvm.Cond.instanceMethod ({ cls := "SphereSheets", name := "fine", desc := "(I)I" } : Jvm.MethodName)) ∈ mGood := m_mem 220 (by decide +kernel) rfl
theorem wd_221 : (Jvm.Cond.code ({ cls := "SphereSheets", name := "fine", desc := "(I)I" } : Jvm.MethodName) prog_1_method_33_code (2 : Nat) (Option.some Jvm.ClassFile.FieldType.int)) ∈ mGood := m_mem 221 (by decide +kernel) rfl
theorem wd_222 : (Jvm.Cond.methodLink "SphereSheetsLaw" (18 : Nat) ({ cls := "SphereSheets", name := "set", desc := "(III)I" } : Jvm.MethodName)) ∈ mGood := m_mem 222 (by decide +kernel) rfl
theorem wd_223 : (Jvm.Cond.instanceMethod ({ cls := "SphereSheets", name := "set", desc := "(III)I" } : Jvm.MethodName)) ∈ mGood := m_mem 223 (by decide +kernel) rfl
theorem wd_224 : (Jvm.Cond.selects "SphereSheets" ({ cls := "SphereSheets", name := "set", desc := "(III)I" } : Jvm.MethodName) ({ cls := "SphereSheets", name := "set", desc := "(III)I" } : Jvm.MethodName)) ∈ mGood := m_mem 224 (by decide +kernel) rfl
theorem wd_225 : (Jvm.Cond.code ({ cls := "SphereSheets", name := "set", desc := "(III)I" } : Jvm.MethodName) prog_1_method_3_code (5 : Nat) (Option.some Jvm.ClassFile.FieldType.int)) ∈ mGood := m_mem 225 (by decide +kernel) rfl
theorem wd_226 : (Jvm.Cond.methodLink "SphereSheets" (72 : Nat) ({ cls := "SphereSheets$Row", name := "missing", desc := "()Z" } : Jvm.MethodName)) ∈ mGood := m_mem 226 (by decide +kernel) rfl
theorem wd_227 : (Jvm.Cond.instanceMethod ({ cls := "SphereSheets$Row", name := "missing", desc := "()Z" } : Jvm.MethodName)) ∈ mGood := m_mem 227 (by decide +kernel) rfl
theorem wd_228 : (Jvm.Cond.selects "SphereSheets$Row" ({ cls := "SphereSheets$Row", name := "missing", desc := "()Z" } : Jvm.MethodName) ({ cls := "SphereSheets$Row", name := "missing", desc := "()Z" } : Jvm.MethodName)) ∈ mGood := m_mem 228 (by decide +kernel) rfl
theorem wd_229 : (Jvm.Cond.code ({ cls := "SphereSheets$Row", name := "missing", desc := "()Z" } : Jvm.MethodName) prog_9_method_2_code (1 : Nat) (Option.some Jvm.ClassFile.FieldType.boolean)) ∈ mGood := m_mem 229 (by decide +kernel) rfl
theorem wd_230 : (Jvm.Cond.methodLink "SphereSheets" (76 : Nat) ({ cls := "SphereSheets$Row", name := "holds", desc := "(II)Z" } : Jvm.MethodName)) ∈ mGood := m_mem 230 (by decide +kernel) rfl
theorem wd_231 : (Jvm.Cond.instanceMethod ({ cls := "SphereSheets$Row", name := "holds", desc := "(II)Z" } : Jvm.MethodName)) ∈ mGood := m_mem 231 (by decide +kernel) rfl
theorem wd_232 : (Jvm.Cond.selects "SphereSheets$Row" ({ cls := "SphereSheets$Row", name := "holds", desc := "(II)Z" } : Jvm.MethodName) ({ cls := "SphereSheets$Row", name := "holds", desc := "(II)Z" } : Jvm.MethodName)) ∈ mGood := m_mem 232 (by decide +kernel) rfl
theorem wd_233 : (Jvm.Cond.code ({ cls := "SphereSheets$Row", name := "holds", desc := "(II)Z" } : Jvm.MethodName) prog_9_method_5_code (3 : Nat) (Option.some Jvm.ClassFile.FieldType.boolean)) ∈ mGood := m_mem 233 (by decide +kernel) rfl
theorem wd_234 : (Jvm.Cond.methodLink "SphereSheets" (80 : Nat) ({ cls := "SphereSheets$Row", name := "put", desc := "(II)I" } : Jvm.MethodName)) ∈ mGood := m_mem 234 (by decide +kernel) rfl
theorem wd_235 : (Jvm.Cond.instanceMethod ({ cls := "SphereSheets$Row", name := "put", desc := "(II)I" } : Jvm.MethodName)) ∈ mGood := m_mem 235 (by decide +kernel) rfl
theorem wd_236 : (Jvm.Cond.selects "SphereSheets$Row" ({ cls := "SphereSheets$Row", name := "put", desc := "(II)I" } : Jvm.MethodName) ({ cls := "SphereSheets$Row", name := "put", desc := "(II)I" } : Jvm.MethodName)) ∈ mGood := m_mem 236 (by decide +kernel) rfl
theorem wd_237 : (Jvm.Cond.code ({ cls := "SphereSheets$Row", name := "put", desc := "(II)I" } : Jvm.MethodName) prog_9_method_7_code (3 : Nat) (Option.some Jvm.ClassFile.FieldType.int)) ∈ mGood := m_mem 237 (by decide +kernel) rfl
theorem wd_238 : (Jvm.Cond.methodLink "SphereSheets$Row" (26 : Nat) ({ cls := "SphereSheets$Row", name := "holds", desc := "(II)Z" } : Jvm.MethodName)) ∈ mGood := m_mem 238 (by decide +kernel) rfl
theorem wd_239 : (Jvm.Cond.methodLink "SphereSheetsLaw" (22 : Nat) ({ cls := "SphereSheets", name := "copy", desc := "(IIIII)I" } : Jvm.MethodName)) ∈ mGood := m_mem 239 (by decide +kernel) rfl
theorem wd_240 : (Jvm.Cond.instanceMethod ({ cls := "SphereSheets", name := "copy", desc := "(IIIII)I" } : Jvm.MethodName)) ∈ mGood := m_mem 240 (by decide +kernel) rfl
theorem wd_241 : (Jvm.Cond.selects "SphereSheets" ({ cls := "SphereSheets", name := "copy", desc := "(IIIII)I" } : Jvm.MethodName) ({ cls := "SphereSheets", name := "copy", desc := "(IIIII)I" } : Jvm.MethodName)) ∈ mGood := m_mem 241 (by decide +kernel) rfl
theorem wd_242 : (Jvm.Cond.code ({ cls := "SphereSheets", name := "copy", desc := "(IIIII)I" } : Jvm.MethodName) prog_1_method_4_code (8 : Nat) (Option.some Jvm.ClassFile.FieldType.int)) ∈ mGood := m_mem 242 (by decide +kernel) rfl
theorem wd_243 : (Jvm.Cond.methodLink "SphereSheets" (88 : Nat) ({ cls := "SphereSheets$Row", name := "take", desc := "(ILSphereSheets$Row;II)V" } : Jvm.MethodName)) ∈ mGood := m_mem 243 (by decide +kernel) rfl
theorem wd_244 : (Jvm.Cond.instanceMethod ({ cls := "SphereSheets$Row", name := "take", desc := "(ILSphereSheets$Row;II)V" } : Jvm.MethodName)) ∈ mGood := m_mem 244 (by decide +kernel) rfl
theorem wd_245 : (Jvm.Cond.selects "SphereSheets$Row" ({ cls := "SphereSheets$Row", name := "take", desc := "(ILSphereSheets$Row;II)V" } : Jvm.MethodName) ({ cls := "SphereSheets$Row", name := "take", desc := "(ILSphereSheets$Row;II)V" } : Jvm.MethodName)) ∈ mGood := m_mem 245 (by decide +kernel) rfl
theorem wd_246 : (Jvm.Cond.code ({ cls := "SphereSheets$Row", name := "take", desc := "(ILSphereSheets$Row;II)V" } : Jvm.MethodName) prog_9_method_9_code (5 : Nat) (Option.none : Option Jvm.ClassFile.FieldType)) ∈ mGood := m_mem 246 (by decide +kernel) rfl
theorem wd_247 : (Jvm.Cond.methodLink "SphereSheets$Row" (30 : Nat) ({ cls := "java/lang/System", name := "arraycopy", desc := "(Ljava/lang/Object;ILjava/lang/Object;II)V" } : Jvm.MethodName)) ∈ mGood := m_mem 247 (by decide +kernel) rfl
theorem wd_248 : (Jvm.Cond.static ({ cls := "java/lang/System", name := "arraycopy", desc := "(Ljava/lang/Object;ILjava/lang/Object;II)V" } : Jvm.MethodName)) ∈ mGood := m_mem 248 (by decide +kernel) rfl
theorem wd_249 : (Jvm.Cond.native ({ cls := "java/lang/System", name := "arraycopy", desc := "(Ljava/lang/Object;ILjava/lang/Object;II)V" } : Jvm.MethodName)) ∈ mGood := m_mem 249 (by decide +kernel) rfl
theorem wd_250 : (Jvm.Cond.methodLink "SphereSheetsLaw" (27 : Nat) ({ cls := "SphereSheets", name := "drop", desc := "(I)I" } : Jvm.MethodName)) ∈ mGood := m_mem 250 (by decide +kernel) rfl
theorem wd_251 : (Jvm.Cond.instanceMethod ({ cls := "SphereSheets", name := "drop", desc := "(I)I" } : Jvm.MethodName)) ∈ mGood := m_mem 251 (by decide +kernel) rfl
theorem wd_252 : (Jvm.Cond.selects "SphereSheets" ({ cls := "SphereSheets", name := "drop", desc := "(I)I" } : Jvm.MethodName) ({ cls := "SphereSheets", name := "drop", desc := "(I)I" } : Jvm.MethodName)) ∈ mGood := m_mem 252 (by decide +kernel) rfl
theorem wd_253 : (Jvm.Cond.code ({ cls := "SphereSheets", name := "drop", desc := "(I)I" } : Jvm.MethodName) prog_1_method_5_code (4 : Nat) (Option.some Jvm.ClassFile.FieldType.int)) ∈ mGood := m_mem 253 (by decide +kernel) rfl
theorem wd_254 : (Jvm.Cond.methodLink "SphereSheets" (95 : Nat) ({ cls := "SphereSheets$Row", name := "end", desc := "()V" } : Jvm.MethodName)) ∈ mGood := m_mem 254 (by decide +kernel) rfl
theorem wd_255 : (Jvm.Cond.instanceMethod ({ cls := "SphereSheets$Row", name := "end", desc := "()V" } : Jvm.MethodName)) ∈ mGood := m_mem 255 (by decide +kernel) rfl
theorem wd_256 : (Jvm.Cond.selects "SphereSheets$Row" ({ cls := "SphereSheets$Row", name := "end", desc := "()V" } : Jvm.MethodName) ({ cls := "SphereSheets$Row", name := "end", desc := "()V" } : Jvm.MethodName)) ∈ mGood := m_mem 256 (by decide +kernel) rfl
theorem wd_257 : (Jvm.Cond.code ({ cls := "SphereSheets$Row", name := "end", desc := "()V" } : Jvm.MethodName) prog_9_method_4_code (1 : Nat) (Option.none : Option Jvm.ClassFile.FieldType)) ∈ mGood := m_mem 257 (by decide +kernel) rfl
theorem wd_258 : (Jvm.Cond.methodLink "SphereSheetsLaw" (32 : Nat) ({ cls := "SphereSheets", name := "cover", desc := "(IIIII)I" } : Jvm.MethodName)) ∈ mGood := m_mem 258 (by decide +kernel) rfl
theorem wd_259 : (Jvm.Cond.instanceMethod ({ cls := "SphereSheets", name := "cover", desc := "(IIIII)I" } : Jvm.MethodName)) ∈ mGood := m_mem 259 (by decide +kernel) rfl
theorem wd_260 : (Jvm.Cond.selects "SphereSheets" ({ cls := "SphereSheets", name := "cover", desc := "(IIIII)I" } : Jvm.MethodName) ({ cls := "SphereSheets", name := "cover", desc := "(IIIII)I" } : Jvm.MethodName)) ∈ mGood := m_mem 260 (by decide +kernel) rfl
theorem wd_261 : (Jvm.Cond.code ({ cls := "SphereSheets", name := "cover", desc := "(IIIII)I" } : Jvm.MethodName) prog_1_method_6_code (11 : Nat) (Option.some Jvm.ClassFile.FieldType.int)) ∈ mGood := m_mem 261 (by decide +kernel) rfl
theorem wd_262 : (Jvm.Cond.methodLink "SphereSheets" (98 : Nat) ({ cls := "SphereSheets", name := "noPlace", desc := "(I)Z" } : Jvm.MethodName)) ∈ mGood := m_mem 262 (by decide +kernel) rfl
theorem wd_263 : (Jvm.Cond.static ({ cls := "SphereSheets", name := "noPlace", desc := "(I)Z" } : Jvm.MethodName)) ∈ mGood := m_mem 263 (by decide +kernel) rfl
theorem wd_264 : (Jvm.Cond.code ({ cls := "SphereSheets", name := "noPlace", desc := "(I)Z" } : Jvm.MethodName) prog_1_method_31_code (1 : Nat) (Option.some Jvm.ClassFile.FieldType.boolean)) ∈ mGood := m_mem 264 (by decide +kernel) rfl
theorem wd_265 : (Jvm.Cond.methodLink "SphereSheets" (101 : Nat) ({ cls := "SphereSheets$Orders", name := "still", desc := "(I)J" } : Jvm.MethodName)) ∈ mGood := m_mem 265 (by decide +kernel) rfl
theorem wd_266 : (Jvm.Cond.static ({ cls := "SphereSheets$Orders", name := "still", desc := "(I)J" } : Jvm.MethodName)) ∈ mGood := m_mem 266 (by decide +kernel) rfl
theorem wd_267 : (Jvm.Cond.code ({ cls := "SphereSheets$Orders", name := "still", desc := "(I)J" } : Jvm.MethodName) prog_7_method_4_code (4 : Nat) (Option.some Jvm.ClassFile.FieldType.long)) ∈ mGood := m_mem 267 (by decide +kernel) rfl
theorem wd_268 : (Jvm.Cond.methodLink "SphereSheets$Orders" (9 : Nat) ({ cls := "SphereSheets$Orders", name := "with", desc := "(JII)J" } : Jvm.MethodName)) ∈ mGood := m_mem 268 (by decide +kernel) rfl
theorem wd_269 : (Jvm.Cond.static ({ cls := "SphereSheets$Orders", name := "with", desc := "(JII)J" } : Jvm.MethodName)) ∈ mGood := m_mem 269 (by decide +kernel) rfl
theorem wd_270 : (Jvm.Cond.code ({ cls := "SphereSheets$Orders", name := "with", desc := "(JII)J" } : Jvm.MethodName) prog_7_method_3_code (4 : Nat) (Option.some Jvm.ClassFile.FieldType.long)) ∈ mGood := m_mem 270 (by decide +kernel) rfl
theorem wd_271 : (Jvm.Cond.methodLink "SphereSheets" (107 : Nat) ({ cls := "SphereSheets$Row", name := "orderFrom", desc := "(II)J" } : Jvm.MethodName)) ∈ mGood := m_mem 271 (by decide +kernel) rfl
theorem wd_272 : (Jvm.Cond.instanceMethod ({ cls := "SphereSheets$Row", name := "orderFrom", desc := "(II)J" } : Jvm.MethodName)) ∈ mGood := m_mem 272 (by decide +kernel) rfl
theorem wd_273 : (Jvm.Cond.selects "SphereSheets$Row" ({ cls := "SphereSheets$Row", name := "orderFrom", desc := "(II)J" } : Jvm.MethodName) ({ cls := "SphereSheets$Row", name := "orderFrom", desc := "(II)J" } : Jvm.MethodName)) ∈ mGood := m_mem 273 (by decide +kernel) rfl
theorem wd_274 : (Jvm.Cond.code ({ cls := "SphereSheets$Row", name := "orderFrom", desc := "(II)J" } : Jvm.MethodName) prog_9_method_10_code (8 : Nat) (Option.some Jvm.ClassFile.FieldType.long)) ∈ mGood := m_mem 274 (by decide +kernel) rfl
theorem wd_275 : (Jvm.Cond.methodLink "SphereSheets$Row" (36 : Nat) ({ cls := "SphereSheets$Row", name := "item", desc := "(I)I" } : Jvm.MethodName)) ∈ mGood := m_mem 275 (by decide +kernel) rfl
theorem wd_276 : (Jvm.Cond.instanceMethod ({ cls := "SphereSheets$Row", name := "item", desc := "(I)I" } : Jvm.MethodName)) ∈ mGood := m_mem 276 (by decide +kernel) rfl
theorem wd_277 : (Jvm.Cond.selects "SphereSheets$Row" ({ cls := "SphereSheets$Row", name := "item", desc := "(I)I" } : Jvm.MethodName) ({ cls := "SphereSheets$Row", name := "item", desc := "(I)I" } : Jvm.MethodName)) ∈ mGood := m_mem 277 (by decide +kernel) rfl
theorem wd_278 : (Jvm.Cond.code ({ cls := "SphereSheets$Row", name := "item", desc := "(I)I" } : Jvm.MethodName) prog_9_method_6_code (2 : Nat) (Option.some Jvm.ClassFile.FieldType.int)) ∈ mGood := m_mem 278 (by decide +kernel) rfl
theorem wd_279 : (Jvm.Cond.constantLong "SphereSheets$Row" (42 : Nat) (-1 : Int64)) ∈ mGood := m_mem 279 (by decide +kernel) rfl
theorem wd_280 : (Jvm.Cond.methodLink "SphereSheets$Row" (44 : Nat) ({ cls := "SphereSheets$Orders", name := "with", desc := "(JII)J" } : Jvm.MethodName)) ∈ mGood := m_mem 280 (by decide +kernel) rfl
theorem wd_281 : (Jvm.Cond.constantLong "SphereSheets" (111 : Nat) (-1 : Int64)) ∈ mGood := m_mem 281 (by decide +kernel) rfl
theorem wd_282 : (Jvm.Cond.methodLink "SphereSheets" (113 : Nat) ({ cls := "SphereSheets$Orders", name := "behind", desc := "(JJI)J" } : Jvm.MethodName)) ∈ mGood := m_mem 282 (by decide +kernel) rfl
theorem wd_283 : (Jvm.Cond.static ({ cls := "SphereSheets$Orders", name := "behind", desc := "(JJI)J" } : Jvm.MethodName)) ∈ mGood := m_mem 283 (by decide +kernel) rfl
theorem wd_284 : (Jvm.Cond.code ({ cls := "SphereSheets$Orders", name := "behind", desc := "(JJI)J" } : Jvm.MethodName) prog_7_method_5_code (8 : Nat) (Option.some Jvm.ClassFile.FieldType.long)) ∈ mGood := m_mem 284 (by decide +kernel) rfl
theorem wd_285 : (Jvm.Cond.methodLink "SphereSheets$Orders" (13 : Nat) ({ cls := "SphereSheets$Orders", name := "at", desc := "(JI)I" } : Jvm.MethodName)) ∈ mGood := m_mem 285 (by decide +kernel) rfl
theorem wd_286 : (Jvm.Cond.static ({ cls := "SphereSheets$Orders", name := "at", desc := "(JI)I" } : Jvm.MethodName)) ∈ mGood := m_mem 286 (by decide +kernel) rfl
theorem wd_287 : (Jvm.Cond.code ({ cls := "SphereSheets$Orders", name := "at", desc := "(JI)I" } : Jvm.MethodName) prog_7_method_2_code (3 : Nat) (Option.some Jvm.ClassFile.FieldType.int)) ∈ mGood := m_mem 287 (by decide +kernel) rfl
theorem wd_288 : (Jvm.Cond.methodLink "SphereSheets" (117 : Nat) ({ cls := "SphereSheets$Orders", name := "inverse", desc := "(JI)J" } : Jvm.MethodName)) ∈ mGood := m_mem 288 (by decide +kernel) rfl
theorem wd_289 : (Jvm.Cond.static ({ cls := "SphereSheets$Orders", name := "inverse", desc := "(JI)J" } : Jvm.MethodName)) ∈ mGood := m_mem 289 (by decide +kernel) rfl
theorem wd_290 : (Jvm.Cond.code ({ cls := "SphereSheets$Orders", name := "inverse", desc := "(JI)J" } : Jvm.MethodName) prog_7_method_6_code (6 : Nat) (Option.some Jvm.ClassFile.FieldType.long)) ∈ mGood := m_mem 290 (by decide +kernel) rfl
theorem wd_291 : (Jvm.Cond.methodLink "SphereSheets" (121 : Nat) ({ cls := "SphereSheets$Cover", name := "of", desc := "(I[J)LSphereSheets$Cover;" } : Jvm.MethodName)) ∈ mGood := m_mem 291 (by decide +kernel) rfl
theorem wd_292 : (Jvm.Cond.static ({ cls := "SphereSheets$Cover", name := "of", desc := "(I[J)LSphereSheets$Cover;" } : Jvm.MethodName)) ∈ mGood := m_mem 292 (by decide +kernel) rfl
theorem wd_293 : (Jvm.Cond.code ({ cls := "SphereSheets$Cover", name := "of", desc := "(I[J)LSphereSheets$Cover;" } : Jvm.MethodName) prog_3_method_2_code (5 : Nat) (Option.some (Jvm.ClassFile.FieldType.object "SphereSheets$Cover"))) ∈ mGood := m_mem 293 (by decide +kernel) rfl
theorem wd_294 : (Jvm.Cond.methodLink "SphereSheets$Cover" (20 : Nat) ({ cls := "SphereSheets$Orders", name := "ledTogether", desc := "([JI)J" } : Jvm.MethodName)) ∈ mGood := m_mem 294 (by decide +kernel) rfl
theorem wd_295 : (Jvm.Cond.static ({ cls := "SphereSheets$Orders", name := "ledTogether", desc := "([JI)J" } : Jvm.MethodName)) ∈ mGood := m_mem 295 (by decide +kernel) rfl
theorem wd_296 : (Jvm.Cond.code ({ cls := "SphereSheets$Orders", name := "ledTogether", desc := "([JI)J" } : Jvm.MethodName) prog_7_method_9_code (5 : Nat) (Option.some Jvm.ClassFile.FieldType.long)) ∈ mGood := m_mem 296 (by decide +kernel) rfl
theorem wd_297 : (Jvm.Cond.methodLink "SphereSheets$Orders" (30 : Nat) ({ cls := "SphereSheets$Orders", name := "still", desc := "(I)J" } : Jvm.MethodName)) ∈ mGood := m_mem 297 (by decide +kernel) rfl
theorem wd_298 : (Jvm.Cond.methodLink "SphereSheets$Orders" (34 : Nat) ({ cls := "SphereSheets$Orders", name := "mergedAlong", desc := "(JJJI)J" } : Jvm.MethodName)) ∈ mGood := m_mem 298 (by decide +kernel) rfl
theorem wd_299 : (Jvm.Cond.static ({ cls := "SphereSheets$Orders", name := "mergedAlong", desc := "(JJJI)J" } : Jvm.MethodName)) ∈ mGood := m_mem 299 (by decide +kernel) rfl
theorem wd_300 : (Jvm.Cond.code ({ cls := "SphereSheets$Orders", name := "mergedAlong", desc := "(JJJI)J" } : Jvm.MethodName) prog_7_method_8_code (10 : Nat) (Option.some Jvm.ClassFile.FieldType.long)) ∈ mGood := m_mem 300 (by decide +kernel) rfl
theorem wd_301 : (Jvm.Cond.methodLink "SphereSheets$Orders" (26 : Nat) ({ cls := "SphereSheets$Orders", name := "merged", desc := "(JIII)J" } : Jvm.MethodName)) ∈ mGood := m_mem 301 (by decide +kernel) rfl
theorem wd_302 : (Jvm.Cond.static ({ cls := "SphereSheets$Orders", name := "merged", desc := "(JIII)J" } : Jvm.MethodName)) ∈ mGood := m_mem 302 (by decide +kernel) rfl
theorem wd_303 : (Jvm.Cond.code ({ cls := "SphereSheets$Orders", name := "merged", desc := "(JIII)J" } : Jvm.MethodName) prog_7_method_7_code (11 : Nat) (Option.some Jvm.ClassFile.FieldType.long)) ∈ mGood := m_mem 303 (by decide +kernel) rfl
theorem wd_304 : (Jvm.Cond.methodLink "SphereSheets$Orders" (17 : Nat) ({ cls := "java/lang/Math", name := "min", desc := "(II)I" } : Jvm.MethodName)) ∈ mGood := m_mem 304 (by decide +kernel) rfl
theorem wd_305 : (Jvm.Cond.static ({ cls := "java/lang/Math", name := "min", desc := "(II)I" } : Jvm.MethodName)) ∈ mGood := m_mem 305 (by decide +kernel) rfl
theorem wd_306 : (Jvm.Cond.code ({ cls := "java/lang/Math", name := "min", desc := "(II)I" } : Jvm.MethodName) prog_18_method_69_code (2 : Nat) (Option.some Jvm.ClassFile.FieldType.int)) ∈ mGood := m_mem 306 (by decide +kernel) rfl
theorem wd_307 : (Jvm.Cond.methodLink "SphereSheets$Orders" (23 : Nat) ({ cls := "java/lang/Math", name := "max", desc := "(II)I" } : Jvm.MethodName)) ∈ mGood := m_mem 307 (by decide +kernel) rfl
theorem wd_308 : (Jvm.Cond.static ({ cls := "java/lang/Math", name := "max", desc := "(II)I" } : Jvm.MethodName)) ∈ mGood := m_mem 308 (by decide +kernel) rfl
theorem wd_309 : (Jvm.Cond.code ({ cls := "java/lang/Math", name := "max", desc := "(II)I" } : Jvm.MethodName) prog_18_method_65_code (2 : Nat) (Option.some Jvm.ClassFile.FieldType.int)) ∈ mGood := m_mem 309 (by decide +kernel) rfl
theorem wd_310 : (Jvm.Cond.methodLink "SphereSheets$Cover" (26 : Nat) ({ cls := "SphereSheets$Orders", name := "groups", desc := "(JI)I" } : Jvm.MethodName)) ∈ mGood := m_mem 310 (by decide +kernel) rfl
theorem wd_311 : (Jvm.Cond.static ({ cls := "SphereSheets$Orders", name := "groups", desc := "(JI)I" } : Jvm.MethodName)) ∈ mGood := m_mem 311 (by decide +kernel) rfl
theorem wd_312 : (Jvm.Cond.code ({ cls := "SphereSheets$Orders", name := "groups", desc := "(JI)I" } : Jvm.MethodName) prog_7_method_11_code (3 : Nat) (Option.some Jvm.ClassFile.FieldType.int)) ∈ mGood := m_mem 312 (by decide +kernel) rfl
theorem wd_313 : (Jvm.Cond.methodLink "SphereSheets$Orders" (38 : Nat) ({ cls := "SphereSheets$Orders", name := "leaders", desc := "(JI)I" } : Jvm.MethodName)) ∈ mGood := m_mem 313 (by decide +kernel) rfl
theorem wd_314 : (Jvm.Cond.static ({ cls := "SphereSheets$Orders", name := "leaders", desc := "(JI)I" } : Jvm.MethodName)) ∈ mGood := m_mem 314 (by decide +kernel) rfl
theorem wd_315 : (Jvm.Cond.code ({ cls := "SphereSheets$Orders", name := "leaders", desc := "(JI)I" } : Jvm.MethodName) prog_7_method_10_code (5 : Nat) (Option.some Jvm.ClassFile.FieldType.int)) ∈ mGood := m_mem 315 (by decide +kernel) rfl
theorem wd_316 : (Jvm.Cond.methodLink "SphereSheets$Orders" (41 : Nat) ({ cls := "java/lang/Integer", name := "bitCount", desc := "(I)I" } : Jvm.MethodName)) ∈ mGood := m_mem 316 (by decide +kernel) rfl
theorem wd_317 : (Jvm.Cond.static ({ cls := "java/lang/Integer", name := "bitCount", desc := "(I)I" } : Jvm.MethodName)) ∈ mGood := m_mem 317 (by decide +kernel) rfl
theorem wd_318 : (Jvm.Cond.code ({ cls := "java/lang/Integer", name := "bitCount", desc := "(I)I" } : Jvm.MethodName) prog_16_method_49_code (1 : Nat) (Option.some Jvm.ClassFile.FieldType.int)) ∈ mGood := m_mem 318 (by decide +kernel) rfl
theorem wd_319 : (Jvm.Cond.constant "java/lang/Integer" (265 : Nat) (1431655765 : Int32)) ∈ mGood := m_mem 319 (by decide +kernel) rfl
theorem wd_320 : (Jvm.Cond.constant "java/lang/Integer" (266 : Nat) (858993459 : Int32)) ∈ mGood := m_mem 320 (by decide +kernel) rfl
theorem wd_321 : (Jvm.Cond.constant "java/lang/Integer" (267 : Nat) (252645135 : Int32)) ∈ mGood := m_mem 321 (by decide +kernel) rfl
theorem wd_322 : (Jvm.Cond.methodLink "SphereSheets$Cover" (30 : Nat) ({ cls := "SphereSheets$Cover", name := "exchangesAhead", desc := "(I[J)Z" } : Jvm.MethodName)) ∈ mGood := m_mem 322 (by decide +kernel) rfl
theorem wd_323 : (Jvm.Cond.static ({ cls := "SphereSheets$Cover", name := "exchangesAhead", desc := "(I[J)Z" } : Jvm.MethodName)) ∈ mGood := m_mem 323 (by decide +kernel) rfl
theorem wd_324 : (Jvm.Cond.code ({ cls := "SphereSheets$Cover", name := "exchangesAhead", desc := "(I[J)Z" } : Jvm.MethodName) prog_3_method_3_code (5 : Nat) (Option.some Jvm.ClassFile.FieldType.boolean)) ∈ mGood := m_mem 324 (by decide +kernel) rfl
theorem wd_325 : (Jvm.Cond.methodLink "SphereSheets$Cover" (40 : Nat) ({ cls := "SphereSheets$Shapes", name := "one", desc := "(I)J" } : Jvm.MethodName)) ∈ mGood := m_mem 325 (by decide +kernel) rfl
theorem wd_326 : (Jvm.Cond.static ({ cls := "SphereSheets$Shapes", name := "one", desc := "(I)J" } : Jvm.MethodName)) ∈ mGood := m_mem 326 (by decide +kernel) rfl
theorem wd_327 : (Jvm.Cond.code ({ cls := "SphereSheets$Shapes", name := "one", desc := "(I)J" } : Jvm.MethodName) prog_10_method_2_code (1 : Nat) (Option.some Jvm.ClassFile.FieldType.long)) ∈ mGood := m_mem 327 (by decide +kernel) rfl
theorem wd_328 : (Jvm.Cond.methodLink "SphereSheets$Cover" (46 : Nat) ({ cls := "SphereSheets$Shapes", name := "lengthsOf", desc := "(JI)J" } : Jvm.MethodName)) ∈ mGood := m_mem 328 (by decide +kernel) rfl
theorem wd_329 : (Jvm.Cond.static ({ cls := "SphereSheets$Shapes", name := "lengthsOf", desc := "(JI)J" } : Jvm.MethodName)) ∈ mGood := m_mem 329 (by decide +kernel) rfl
theorem wd_330 : (Jvm.Cond.code ({ cls := "SphereSheets$Shapes", name := "lengthsOf", desc := "(JI)J" } : Jvm.MethodName) prog_10_method_4_code (10 : Nat) (Option.some Jvm.ClassFile.FieldType.long)) ∈ mGood := m_mem 330 (by decide +kernel) rfl
theorem wd_331 : (Jvm.Cond.methodLink "SphereSheets$Shapes" (18 : Nat) ({ cls := "SphereSheets$Orders", name := "at", desc := "(JI)I" } : Jvm.MethodName)) ∈ mGood := m_mem 331 (by decide +kernel) rfl
theorem wd_332 : (Jvm.Cond.methodLink "SphereSheets$Shapes" (24 : Nat) ({ cls := "SphereSheets$Shapes", name := "one", desc := "(I)J" } : Jvm.MethodName)) ∈ mGood := m_mem 332 (by decide +kernel) rfl
theorem wd_333 : (Jvm.Cond.classLink "SphereSheets$Cover" (34 : Nat) "SphereSheets$Simple") ∈ mGood := m_mem 333 (by decide +kernel) rfl
theorem wd_334 : (Jvm.Cond.instantiable "SphereSheets$Simple" (3 : Nat)) ∈ mGood := m_mem 334 (by decide +kernel) rfl
theorem wd_335 : (Jvm.Cond.methodLink "SphereSheets$Cover" (36 : Nat) ({ cls := "SphereSheets$Simple", name := "<init>", desc := "(I[JI)V" } : Jvm.MethodName)) ∈ mGood := m_mem 335 (by decide +kernel) rfl
theorem wd_336 : (Jvm.Cond.instanceMethod ({ cls := "SphereSheets$Simple", name := "<init>", desc := "(I[JI)V" } : Jvm.MethodName)) ∈ mGood := m_mem 336 (by decide +kernel) rfl
theorem wd_337 : (Jvm.Cond.code ({ cls := "SphereSheets$Simple", name := "<init>", desc := "(I[JI)V" } : Jvm.MethodName) prog_11_method_1_code (4 : Nat) (Option.none : Option Jvm.ClassFile.FieldType)) ∈ mGood := m_mem 337 (by decide +kernel) rfl
theorem wd_338 : (Jvm.Cond.methodLink "SphereSheets$Simple" (1 : Nat) ({ cls := "SphereSheets$Cover", name := "<init>", desc := "(I[JI)V" } : Jvm.MethodName)) ∈ mGood := m_mem 338 (by decide +kernel) rfl
theorem wd_339 : (Jvm.Cond.instanceMethod ({ cls := "SphereSheets$Cover", name := "<init>", desc := "(I[JI)V" } : Jvm.MethodName)) ∈ mGood := m_mem 339 (by decide +kernel) rfl
theorem wd_340 : (Jvm.Cond.code ({ cls := "SphereSheets$Cover", name := "<init>", desc := "(I[JI)V" } : Jvm.MethodName) prog_3_method_1_code (4 : Nat) (Option.none : Option Jvm.ClassFile.FieldType)) ∈ mGood := m_mem 340 (by decide +kernel) rfl
theorem wd_341 : (Jvm.Cond.methodLink "SphereSheets$Cover" (1 : Nat) ({ cls := "java/lang/Object", name := "<init>", desc := "()V" } : Jvm.MethodName)) ∈ mGood := m_mem 341 (by decide +kernel) rfl
theorem wd_342 : (Jvm.Cond.fieldLink "SphereSheets$Cover" (7 : Nat) "SphereSheets$Cover" "n" "I") ∈ mGood := m_mem 342 (by decide +kernel) rfl
theorem wd_343 : (Jvm.Cond.fieldLink "SphereSheets$Heap" (18 : Nat) "SphereSheets$Cover" "n" "I") ∈ mGood := m_mem 343 (by decide +kernel) rfl
theorem wd_344 : (Jvm.Cond.fieldLink "SphereSheets$Ring" (31 : Nat) "SphereSheets$Cover" "n" "I") ∈ mGood := m_mem 344 (by decide +kernel) rfl
theorem wd_345 : (Jvm.Cond.fieldLink "SphereSheets" (143 : Nat) "SphereSheets$Cover" "n" "I") ∈ mGood := m_mem 345 (by decide +kernel) rfl
theorem wd_346 : (Jvm.Cond.fieldLink "SphereSheets$Cover" (13 : Nat) "SphereSheets$Cover" "turns" "[J") ∈ mGood := m_mem 346 (by decide +kernel) rfl
theorem wd_347 : (Jvm.Cond.fieldLink "SphereSheets$Ring" (22 : Nat) "SphereSheets$Cover" "turns" "[J") ∈ mGood := m_mem 347 (by decide +kernel) rfl
theorem wd_348 : (Jvm.Cond.fieldLink "SphereSheets$Heap" (33 : Nat) "SphereSheets$Cover" "turns" "[J") ∈ mGood := m_mem 348 (by decide +kernel) rfl
theorem wd_349 : (Jvm.Cond.fieldLink "SphereSheets$Simple" (17 : Nat) "SphereSheets$Simple" "turns" "[J") ∈ mGood := m_mem 349 (by decide +kernel) rfl
theorem wd_350 : (Jvm.Cond.sameField "SphereSheets$Simple" "SphereSheets$Cover" "turns" "[J") ∈ mGood := m_mem 350 (by decide +kernel) rfl
theorem wd_351 : (Jvm.Cond.fieldLink "SphereSheets" (139 : Nat) "SphereSheets$Cover" "turns" "[J") ∈ mGood := m_mem 351 (by decide +kernel) rfl
theorem wd_352 : (Jvm.Cond.fieldLink "SphereSheets$Cover" (17 : Nat) "SphereSheets$Cover" "parts" "I") ∈ mGood := m_mem 352 (by decide +kernel) rfl
theorem wd_353 : (Jvm.Cond.fieldLink "SphereSheets" (129 : Nat) "SphereSheets$Cover" "parts" "I") ∈ mGood := m_mem 353 (by decide +kernel) rfl
theorem wd_360 : (Jvm.Cond.superclass "SphereSheets$Simple" "SphereSheets$Cover") ∈ mGood := m_mem 360 (by decide +kernel) rfl
theorem wd_361 : (Jvm.Cond.classLink "SphereSheets$Cover" (8 : Nat) "SphereSheets$Cover") ∈ mGood := m_mem 361 (by decide +kernel) rfl
theorem wd_362 : (Jvm.Cond.instantiable "SphereSheets$Cover" (3 : Nat)) ∈ mGood := m_mem 362 (by decide +kernel) rfl
theorem wd_363 : (Jvm.Cond.methodLink "SphereSheets$Cover" (39 : Nat) ({ cls := "SphereSheets$Cover", name := "<init>", desc := "(I[JI)V" } : Jvm.MethodName)) ∈ mGood := m_mem 363 (by decide +kernel) rfl
theorem wd_368 : (Jvm.Cond.classLink "SphereSheets$Cover" (50 : Nat) "SphereSheets$Three") ∈ mGood := m_mem 368 (by decide +kernel) rfl
theorem wd_369 : (Jvm.Cond.instantiable "SphereSheets$Three" (3 : Nat)) ∈ mGood := m_mem 369 (by decide +kernel) rfl
theorem wd_370 : (Jvm.Cond.methodLink "SphereSheets$Cover" (52 : Nat) ({ cls := "SphereSheets$Three", name := "<init>", desc := "(I[JI)V" } : Jvm.MethodName)) ∈ mGood := m_mem 370 (by decide +kernel) rfl
theorem wd_371 : (Jvm.Cond.instanceMethod ({ cls := "SphereSheets$Three", name := "<init>", desc := "(I[JI)V" } : Jvm.MethodName)) ∈ mGood := m_mem 371 (by decide +kernel) rfl
theorem wd_372 : (Jvm.Cond.code ({ cls := "SphereSheets$Three", name := "<init>", desc := "(I[JI)V" } : Jvm.MethodName) prog_12_method_1_code (4 : Nat) (Option.none : Option Jvm.ClassFile.FieldType)) ∈ mGood := m_mem 372 (by decide +kernel) rfl
theorem wd_373 : (Jvm.Cond.methodLink "SphereSheets$Three" (1 : Nat) ({ cls := "SphereSheets$Cover", name := "<init>", desc := "(I[JI)V" } : Jvm.MethodName)) ∈ mGood := m_mem 373 (by decide +kernel) rfl
theorem wd_377 : (Jvm.Cond.superclass "SphereSheets$Three" "SphereSheets$Cover") ∈ mGood := m_mem 377 (by decide +kernel) rfl
theorem wd_378 : (Jvm.Cond.classLink "SphereSheets$Cover" (53 : Nat) "SphereSheets$Bristled") ∈ mGood := m_mem 378 (by decide +kernel) rfl
theorem wd_379 : (Jvm.Cond.instantiable "SphereSheets$Bristled" (3 : Nat)) ∈ mGood := m_mem 379 (by decide +kernel) rfl
theorem wd_380 : (Jvm.Cond.methodLink "SphereSheets$Cover" (55 : Nat) ({ cls := "SphereSheets$Bristled", name := "<init>", desc := "(I[JI)V" } : Jvm.MethodName)) ∈ mGood := m_mem 380 (by decide +kernel) rfl
theorem wd_381 : (Jvm.Cond.instanceMethod ({ cls := "SphereSheets$Bristled", name := "<init>", desc := "(I[JI)V" } : Jvm.MethodName)) ∈ mGood := m_mem 381 (by decide +kernel) rfl
theorem wd_382 : (Jvm.Cond.code ({ cls := "SphereSheets$Bristled", name := "<init>", desc := "(I[JI)V" } : Jvm.MethodName) prog_2_method_1_code (4 : Nat) (Option.none : Option Jvm.ClassFile.FieldType)) ∈ mGood := m_mem 382 (by decide +kernel) rfl
theorem wd_383 : (Jvm.Cond.methodLink "SphereSheets$Bristled" (1 : Nat) ({ cls := "SphereSheets$Three", name := "<init>", desc := "(I[JI)V" } : Jvm.MethodName)) ∈ mGood := m_mem 383 (by decide +kernel) rfl
theorem wd_387 : (Jvm.Cond.superclass "SphereSheets$Bristled" "SphereSheets$Three") ∈ mGood := m_mem 387 (by decide +kernel) rfl
theorem wd_388 : (Jvm.Cond.classLink "SphereSheets$Cover" (56 : Nat) "SphereSheets$One") ∈ mGood := m_mem 388 (by decide +kernel) rfl
theorem wd_389 : (Jvm.Cond.instantiable "SphereSheets$One" (3 : Nat)) ∈ mGood := m_mem 389 (by decide +kernel) rfl
theorem wd_390 : (Jvm.Cond.methodLink "SphereSheets$Cover" (58 : Nat) ({ cls := "SphereSheets$One", name := "<init>", desc := "(I[JI)V" } : Jvm.MethodName)) ∈ mGood := m_mem 390 (by decide +kernel) rfl
theorem wd_391 : (Jvm.Cond.instanceMethod ({ cls := "SphereSheets$One", name := "<init>", desc := "(I[JI)V" } : Jvm.MethodName)) ∈ mGood := m_mem 391 (by decide +kernel) rfl
theorem wd_392 : (Jvm.Cond.code ({ cls := "SphereSheets$One", name := "<init>", desc := "(I[JI)V" } : Jvm.MethodName) prog_6_method_1_code (4 : Nat) (Option.none : Option Jvm.ClassFile.FieldType)) ∈ mGood := m_mem 392 (by decide +kernel) rfl
theorem wd_393 : (Jvm.Cond.methodLink "SphereSheets$One" (1 : Nat) ({ cls := "SphereSheets$Bristled", name := "<init>", desc := "(I[JI)V" } : Jvm.MethodName)) ∈ mGood := m_mem 393 (by decide +kernel) rfl
theorem wd_397 : (Jvm.Cond.superclass "SphereSheets$One" "SphereSheets$Bristled") ∈ mGood := m_mem 397 (by decide +kernel) rfl
theorem wd_398 : (Jvm.Cond.methodLink "SphereSheets" (125 : Nat) ({ cls := "SphereSheets", name := "shelve", desc := "(ILSphereSheets$Cover;)I" } : Jvm.MethodName)) ∈ mGood := m_mem 398 (by decide +kernel) rfl
theorem wd_400 : (Jvm.Cond.instanceMethod ({ cls := "SphereSheets", name := "shelve", desc := "(ILSphereSheets$Cover;)I" } : Jvm.MethodName)) ∈ mGood := m_mem 400 (by decide +kernel) rfl
theorem wd_401 : (Jvm.Cond.code ({ cls := "SphereSheets", name := "shelve", desc := "(ILSphereSheets$Cover;)I" } : Jvm.MethodName) prog_1_method_34_code (3 : Nat) (Option.some Jvm.ClassFile.FieldType.int)) ∈ mGood := m_mem 401 (by decide +kernel) rfl
theorem wd_402 : (Jvm.Cond.methodLink "SphereSheets" (224 : Nat) ({ cls := "SphereSheets$Cover", name := "kindNumber", desc := "()I" } : Jvm.MethodName)) ∈ mGood := m_mem 402 (by decide +kernel) rfl
theorem wd_403 : (Jvm.Cond.instanceMethod ({ cls := "SphereSheets$Cover", name := "kindNumber", desc := "()I" } : Jvm.MethodName)) ∈ mGood := m_mem 403 (by decide +kernel) rfl
theorem wd_404 : (Jvm.Cond.selects "SphereSheets$Cover" ({ cls := "SphereSheets$Cover", name := "kindNumber", desc := "()I" } : Jvm.MethodName) ({ cls := "SphereSheets$Cover", name := "kindNumber", desc := "()I" } : Jvm.MethodName)) ∈ mGood := m_mem 404 (by decide +kernel) rfl
theorem wd_405 : (Jvm.Cond.sameMethod "SphereSheets$Cover" "SphereSheets$Cover" "kindNumber" "()I") ∈ mGood := m_mem 405 (by decide +kernel) rfl
theorem wd_406 : (Jvm.Cond.selects "SphereSheets$Bristled" ({ cls := "SphereSheets$Cover", name := "kindNumber", desc := "()I" } : Jvm.MethodName) ({ cls := "SphereSheets$Bristled", name := "kindNumber", desc := "()I" } : Jvm.MethodName)) ∈ mGood := m_mem 406 (by decide +kernel) rfl
theorem wd_407 : (Jvm.Cond.instanceMethod ({ cls := "SphereSheets$Bristled", name := "kindNumber", desc := "()I" } : Jvm.MethodName)) ∈ mGood := m_mem 407 (by decide +kernel) rfl
theorem wd_408 : (Jvm.Cond.code ({ cls := "SphereSheets$Bristled", name := "kindNumber", desc := "()I" } : Jvm.MethodName) prog_2_method_2_code (1 : Nat) (Option.some Jvm.ClassFile.FieldType.int)) ∈ mGood := m_mem 408 (by decide +kernel) rfl
theorem wd_409 : (Jvm.Cond.selects "SphereSheets$One" ({ cls := "SphereSheets$Cover", name := "kindNumber", desc := "()I" } : Jvm.MethodName) ({ cls := "SphereSheets$One", name := "kindNumber", desc := "()I" } : Jvm.MethodName)) ∈ mGood := m_mem 409 (by decide +kernel) rfl
theorem wd_410 : (Jvm.Cond.instanceMethod ({ cls := "SphereSheets$One", name := "kindNumber", desc := "()I" } : Jvm.MethodName)) ∈ mGood := m_mem 410 (by decide +kernel) rfl
theorem wd_411 : (Jvm.Cond.code ({ cls := "SphereSheets$One", name := "kindNumber", desc := "()I" } : Jvm.MethodName) prog_6_method_2_code (1 : Nat) (Option.some Jvm.ClassFile.FieldType.int)) ∈ mGood := m_mem 411 (by decide +kernel) rfl
theorem wd_412 : (Jvm.Cond.selects "SphereSheets$Simple" ({ cls := "SphereSheets$Cover", name := "kindNumber", desc := "()I" } : Jvm.MethodName) ({ cls := "SphereSheets$Simple", name := "kindNumber", desc := "()I" } : Jvm.MethodName)) ∈ mGood := m_mem 412 (by decide +kernel) rfl
theorem wd_413 : (Jvm.Cond.instanceMethod ({ cls := "SphereSheets$Simple", name := "kindNumber", desc := "()I" } : Jvm.MethodName)) ∈ mGood := m_mem 413 (by decide +kernel) rfl
theorem wd_414 : (Jvm.Cond.code ({ cls := "SphereSheets$Simple", name := "kindNumber", desc := "()I" } : Jvm.MethodName) prog_11_method_2_code (1 : Nat) (Option.some Jvm.ClassFile.FieldType.int)) ∈ mGood := m_mem 414 (by decide +kernel) rfl
theorem wd_415 : (Jvm.Cond.selects "SphereSheets$Three" ({ cls := "SphereSheets$Cover", name := "kindNumber", desc := "()I" } : Jvm.MethodName) ({ cls := "SphereSheets$Three", name := "kindNumber", desc := "()I" } : Jvm.MethodName)) ∈ mGood := m_mem 415 (by decide +kernel) rfl
theorem wd_416 : (Jvm.Cond.instanceMethod ({ cls := "SphereSheets$Three", name := "kindNumber", desc := "()I" } : Jvm.MethodName)) ∈ mGood := m_mem 416 (by decide +kernel) rfl
theorem wd_417 : (Jvm.Cond.code ({ cls := "SphereSheets$Three", name := "kindNumber", desc := "()I" } : Jvm.MethodName) prog_12_method_2_code (1 : Nat) (Option.some Jvm.ClassFile.FieldType.int)) ∈ mGood := m_mem 417 (by decide +kernel) rfl
theorem wd_418 : (Jvm.Cond.code ({ cls := "SphereSheets$Cover", name := "kindNumber", desc := "()I" } : Jvm.MethodName) prog_3_method_4_code (1 : Nat) (Option.some Jvm.ClassFile.FieldType.int)) ∈ mGood := m_mem 418 (by decide +kernel) rfl
theorem wd_419 : (Jvm.Cond.methodLink "SphereSheetsLaw" (36 : Nat) ({ cls := "SphereSheets", name := "part", desc := "(III)I" } : Jvm.MethodName)) ∈ mGood := m_mem 419 (by decide +kernel) rfl
theorem wd_420 : (Jvm.Cond.instanceMethod ({ cls := "SphereSheets", name := "part", desc := "(III)I" } : Jvm.MethodName)) ∈ mGood := m_mem 420 (by decide +kernel) rfl
theorem wd_421 : (Jvm.Cond.selects "SphereSheets" ({ cls := "SphereSheets", name := "part", desc := "(III)I" } : Jvm.MethodName) ({ cls := "SphereSheets", name := "part", desc := "(III)I" } : Jvm.MethodName)) ∈ mGood := m_mem 421 (by decide +kernel) rfl
theorem wd_422 : (Jvm.Cond.code ({ cls := "SphereSheets", name := "part", desc := "(III)I" } : Jvm.MethodName) prog_1_method_7_code (5 : Nat) (Option.some Jvm.ClassFile.FieldType.int)) ∈ mGood := m_mem 422 (by decide +kernel) rfl
theorem wd_423 : (Jvm.Cond.methodLink "SphereSheets" (132 : Nat) ({ cls := "SphereSheets$Cover", name := "partAlone", desc := "(I)LSphereSheets$Cover;" } : Jvm.MethodName)) ∈ mGood := m_mem 423 (by decide +kernel) rfl
theorem wd_424 : (Jvm.Cond.instanceMethod ({ cls := "SphereSheets$Cover", name := "partAlone", desc := "(I)LSphereSheets$Cover;" } : Jvm.MethodName)) ∈ mGood := m_mem 424 (by decide +kernel) rfl
theorem wd_425 : (Jvm.Cond.selects "SphereSheets$Cover" ({ cls := "SphereSheets$Cover", name := "partAlone", desc := "(I)LSphereSheets$Cover;" } : Jvm.MethodName) ({ cls := "SphereSheets$Cover", name := "partAlone", desc := "(I)LSphereSheets$Cover;" } : Jvm.MethodName)) ∈ mGood := m_mem 425 (by decide +kernel) rfl
theorem wd_427 : (Jvm.Cond.selects "SphereSheets$Bristled" ({ cls := "SphereSheets$Cover", name := "partAlone", desc := "(I)LSphereSheets$Cover;" } : Jvm.MethodName) ({ cls := "SphereSheets$Cover", name := "partAlone", desc := "(I)LSphereSheets$Cover;" } : Jvm.MethodName)) ∈ mGood := m_mem 427 (by decide +kernel) rfl
theorem wd_428 : (Jvm.Cond.selects "SphereSheets$One" ({ cls := "SphereSheets$Cover", name := "partAlone", desc := "(I)LSphereSheets$Cover;" } : Jvm.MethodName) ({ cls := "SphereSheets$Cover", name := "partAlone", desc := "(I)LSphereSheets$Cover;" } : Jvm.MethodName)) ∈ mGood := m_mem 428 (by decide +kernel) rfl
theorem wd_429 : (Jvm.Cond.selects "SphereSheets$Simple" ({ cls := "SphereSheets$Cover", name := "partAlone", desc := "(I)LSphereSheets$Cover;" } : Jvm.MethodName) ({ cls := "SphereSheets$Cover", name := "partAlone", desc := "(I)LSphereSheets$Cover;" } : Jvm.MethodName)) ∈ mGood := m_mem 429 (by decide +kernel) rfl
theorem wd_430 : (Jvm.Cond.selects "SphereSheets$Three" ({ cls := "SphereSheets$Cover", name := "partAlone", desc := "(I)LSphereSheets$Cover;" } : Jvm.MethodName) ({ cls := "SphereSheets$Cover", name := "partAlone", desc := "(I)LSphereSheets$Cover;" } : Jvm.MethodName)) ∈ mGood := m_mem 430 (by decide +kernel) rfl
theorem wd_431 : (Jvm.Cond.code ({ cls := "SphereSheets$Cover", name := "partAlone", desc := "(I)LSphereSheets$Cover;" } : Jvm.MethodName) prog_3_method_16_code (6 : Nat) (Option.some (Jvm.ClassFile.FieldType.object "SphereSheets$Cover"))) ∈ mGood := m_mem 431 (by decide +kernel) rfl
theorem wd_432 : (Jvm.Cond.methodLink "SphereSheets$Cover" (75 : Nat) ({ cls := "SphereSheets$Orders", name := "at", desc := "(JI)I" } : Jvm.MethodName)) ∈ mGood := m_mem 432 (by decide +kernel) rfl
theorem wd_433 : (Jvm.Cond.methodLink "SphereSheets$Cover" (101 : Nat) ({ cls := "java/lang/Integer", name := "bitCount", desc := "(I)I" } : Jvm.MethodName)) ∈ mGood := m_mem 433 (by decide +kernel) rfl
theorem wd_434 : (Jvm.Cond.methodLink "SphereSheets$Cover" (69 : Nat) ({ cls := "SphereSheets$Orders", name := "still", desc := "(I)J" } : Jvm.MethodName)) ∈ mGood := m_mem 434 (by decide +kernel) rfl
theorem wd_435 : (Jvm.Cond.methodLink "SphereSheets$Cover" (106 : Nat) ({ cls := "SphereSheets$Cover", name := "narrowed", desc := "(IJ)[J" } : Jvm.MethodName)) ∈ mGood := m_mem 435 (by decide +kernel) rfl
theorem wd_437 : (Jvm.Cond.instanceMethod ({ cls := "SphereSheets$Cover", name := "narrowed", desc := "(IJ)[J" } : Jvm.MethodName)) ∈ mGood := m_mem 437 (by decide +kernel) rfl
theorem wd_438 : (Jvm.Cond.code ({ cls := "SphereSheets$Cover", name := "narrowed", desc := "(IJ)[J" } : Jvm.MethodName) prog_3_method_18_code (9 : Nat) (Option.some (Jvm.ClassFile.FieldType.array Jvm.ClassFile.FieldType.long))) ∈ mGood := m_mem 438 (by decide +kernel) rfl
theorem wd_439 : (Jvm.Cond.methodLink "SphereSheets$Cover" (121 : Nat) ({ cls := "SphereSheets$Orders", name := "with", desc := "(JII)J" } : Jvm.MethodName)) ∈ mGood := m_mem 439 (by decide +kernel) rfl
theorem wd_440 : (Jvm.Cond.methodLink "SphereSheets$Cover" (110 : Nat) ({ cls := "SphereSheets$Cover", name := "of", desc := "(I[J)LSphereSheets$Cover;" } : Jvm.MethodName)) ∈ mGood := m_mem 440 (by decide +kernel) rfl
theorem wd_441 : (Jvm.Cond.methodLink "SphereSheetsLaw" (40 : Nat) ({ cls := "SphereSheets", name := "name", desc := "(II)I" } : Jvm.MethodName)) ∈ mGood := m_mem 441 (by decide +kernel) rfl
theorem wd_442 : (Jvm.Cond.instanceMethod ({ cls := "SphereSheets", name := "name", desc := "(II)I" } : Jvm.MethodName)) ∈ mGood := m_mem 442 (by decide +kernel) rfl
theorem wd_443 : (Jvm.Cond.selects "SphereSheets" ({ cls := "SphereSheets", name := "name", desc := "(II)I" } : Jvm.MethodName) ({ cls := "SphereSheets", name := "name", desc := "(II)I" } : Jvm.MethodName)) ∈ mGood := m_mem 443 (by decide +kernel) rfl
theorem wd_444 : (Jvm.Cond.code ({ cls := "SphereSheets", name := "name", desc := "(II)I" } : Jvm.MethodName) prog_1_method_8_code (4 : Nat) (Option.some Jvm.ClassFile.FieldType.int)) ∈ mGood := m_mem 444 (by decide +kernel) rfl
theorem wd_445 : (Jvm.Cond.methodLink "SphereSheets" (136 : Nat) ({ cls := "SphereSheets$Cover", name := "whole", desc := "()Z" } : Jvm.MethodName)) ∈ mGood := m_mem 445 (by decide +kernel) rfl
theorem wd_446 : (Jvm.Cond.instanceMethod ({ cls := "SphereSheets$Cover", name := "whole", desc := "()Z" } : Jvm.MethodName)) ∈ mGood := m_mem 446 (by decide +kernel) rfl
theorem wd_447 : (Jvm.Cond.selects "SphereSheets$Cover" ({ cls := "SphereSheets$Cover", name := "whole", desc := "()Z" } : Jvm.MethodName) ({ cls := "SphereSheets$Cover", name := "whole", desc := "()Z" } : Jvm.MethodName)) ∈ mGood := m_mem 447 (by decide +kernel) rfl
theorem wd_449 : (Jvm.Cond.selects "SphereSheets$Bristled" ({ cls := "SphereSheets$Cover", name := "whole", desc := "()Z" } : Jvm.MethodName) ({ cls := "SphereSheets$Cover", name := "whole", desc := "()Z" } : Jvm.MethodName)) ∈ mGood := m_mem 449 (by decide +kernel) rfl
theorem wd_450 : (Jvm.Cond.selects "SphereSheets$One" ({ cls := "SphereSheets$Cover", name := "whole", desc := "()Z" } : Jvm.MethodName) ({ cls := "SphereSheets$Cover", name := "whole", desc := "()Z" } : Jvm.MethodName)) ∈ mGood := m_mem 450 (by decide +kernel) rfl
theorem wd_451 : (Jvm.Cond.selects "SphereSheets$Simple" ({ cls := "SphereSheets$Cover", name := "whole", desc := "()Z" } : Jvm.MethodName) ({ cls := "SphereSheets$Cover", name := "whole", desc := "()Z" } : Jvm.MethodName)) ∈ mGood := m_mem 451 (by decide +kernel) rfl
theorem wd_452 : (Jvm.Cond.selects "SphereSheets$Three" ({ cls := "SphereSheets$Cover", name := "whole", desc := "()Z" } : Jvm.MethodName) ({ cls := "SphereSheets$Cover", name := "whole", desc := "()Z" } : Jvm.MethodName)) ∈ mGood := m_mem 452 (by decide +kernel) rfl
theorem wd_453 : (Jvm.Cond.code ({ cls := "SphereSheets$Cover", name := "whole", desc := "()Z" } : Jvm.MethodName) prog_3_method_13_code (1 : Nat) (Option.some Jvm.ClassFile.FieldType.boolean)) ∈ mGood := m_mem 453 (by decide +kernel) rfl
theorem wd_454 : (Jvm.Cond.methodLink "SphereSheets" (146 : Nat) ({ cls := "SphereSheets$Namer", name := "find", desc := "([JI)V" } : Jvm.MethodName)) ∈ mGood := m_mem 454 (by decide +kernel) rfl
theorem wd_455 : (Jvm.Cond.instanceMethod ({ cls := "SphereSheets$Namer", name := "find", desc := "([JI)V" } : Jvm.MethodName)) ∈ mGood := m_mem 455 (by decide +kernel) rfl
theorem wd_456 : (Jvm.Cond.selects "SphereSheets$Namer" ({ cls := "SphereSheets$Namer", name := "find", desc := "([JI)V" } : Jvm.MethodName) ({ cls := "SphereSheets$Namer", name := "find", desc := "([JI)V" } : Jvm.MethodName)) ∈ mGood := m_mem 456 (by decide +kernel) rfl
theorem wd_457 : (Jvm.Cond.code ({ cls := "SphereSheets$Namer", name := "find", desc := "([JI)V" } : Jvm.MethodName) prog_5_method_2_code (9 : Nat) (Option.none : Option Jvm.ClassFile.FieldType)) ∈ mGood := m_mem 457 (by decide +kernel) rfl
theorem wd_458 : (Jvm.Cond.methodLink "SphereSheets$Namer" (15 : Nat) ({ cls := "SphereSheets$Orders", name := "still", desc := "(I)J" } : Jvm.MethodName)) ∈ mGood := m_mem 458 (by decide +kernel) rfl
theorem wd_459 : (Jvm.Cond.methodLink "SphereSheets$Namer" (21 : Nat) ({ cls := "SphereSheets$Orders", name := "at", desc := "(JI)I" } : Jvm.MethodName)) ∈ mGood := m_mem 459 (by decide +kernel) rfl
theorem wd_460 : (Jvm.Cond.methodLink "SphereSheets$Namer" (25 : Nat) ({ cls := "SphereSheets$Namer", name := "numberFrom", desc := "(I[JI)Z" } : Jvm.MethodName)) ∈ mGood := m_mem 460 (by decide +kernel) rfl
theorem wd_462 : (Jvm.Cond.instanceMethod ({ cls := "SphereSheets$Namer", name := "numberFrom", desc := "(I[JI)Z" } : Jvm.MethodName)) ∈ mGood := m_mem 462 (by decide +kernel) rfl
theorem wd_463 : (Jvm.Cond.code ({ cls := "SphereSheets$Namer", name := "numberFrom", desc := "(I[JI)Z" } : Jvm.MethodName) prog_5_method_3_code (12 : Nat) (Option.some Jvm.ClassFile.FieldType.boolean)) ∈ mGood := m_mem 463 (by decide +kernel) rfl
theorem wd_464 : (Jvm.Cond.methodLink "SphereSheets$Namer" (55 : Nat) ({ cls := "SphereSheets$Orders", name := "with", desc := "(JII)J" } : Jvm.MethodName)) ∈ mGood := m_mem 464 (by decide +kernel) rfl
theorem wd_465 : (Jvm.Cond.methodLink "SphereSheets$Namer" (29 : Nat) ({ cls := "SphereSheets$Namer", name := "againstLeast", desc := "([JI)I" } : Jvm.MethodName)) ∈ mGood := m_mem 465 (by decide +kernel) rfl
theorem wd_467 : (Jvm.Cond.instanceMethod ({ cls := "SphereSheets$Namer", name := "againstLeast", desc := "([JI)I" } : Jvm.MethodName)) ∈ mGood := m_mem 467 (by decide +kernel) rfl
theorem wd_468 : (Jvm.Cond.code ({ cls := "SphereSheets$Namer", name := "againstLeast", desc := "([JI)I" } : Jvm.MethodName) prog_5_method_5_code (5 : Nat) (Option.some Jvm.ClassFile.FieldType.int)) ∈ mGood := m_mem 468 (by decide +kernel) rfl
theorem wd_469 : (Jvm.Cond.methodLink "SphereSheets$Namer" (59 : Nat) ({ cls := "SphereSheets$Namer", name := "renamed", desc := "(JI)J" } : Jvm.MethodName)) ∈ mGood := m_mem 469 (by decide +kernel) rfl
theorem wd_471 : (Jvm.Cond.instanceMethod ({ cls := "SphereSheets$Namer", name := "renamed", desc := "(JI)J" } : Jvm.MethodName)) ∈ mGood := m_mem 471 (by decide +kernel) rfl
theorem wd_472 : (Jvm.Cond.code ({ cls := "SphereSheets$Namer", name := "renamed", desc := "(JI)J" } : Jvm.MethodName) prog_5_method_4_code (8 : Nat) (Option.some Jvm.ClassFile.FieldType.long)) ∈ mGood := m_mem 472 (by decide +kernel) rfl
theorem wd_473 : (Jvm.Cond.methodLink "SphereSheets$Namer" (63 : Nat) ({ cls := "java/lang/Long", name := "compare", desc := "(JJ)I" } : Jvm.MethodName)) ∈ mGood := m_mem 473 (by decide +kernel) rfl
theorem wd_474 : (Jvm.Cond.static ({ cls := "java/lang/Long", name := "compare", desc := "(JJ)I" } : Jvm.MethodName)) ∈ mGood := m_mem 474 (by decide +kernel) rfl
theorem wd_475 : (Jvm.Cond.code ({ cls := "java/lang/Long", name := "compare", desc := "(JJ)I" } : Jvm.MethodName) prog_17_method_42_code (4 : Nat) (Option.some Jvm.ClassFile.FieldType.int)) ∈ mGood := m_mem 475 (by decide +kernel) rfl
theorem wd_476 : (Jvm.Cond.methodLink "SphereSheets$Namer" (33 : Nat) ({ cls := "SphereSheets$Namer", name := "keepAsLeast", desc := "([JI)V" } : Jvm.MethodName)) ∈ mGood := m_mem 476 (by decide +kernel) rfl
theorem wd_478 : (Jvm.Cond.instanceMethod ({ cls := "SphereSheets$Namer", name := "keepAsLeast", desc := "([JI)V" } : Jvm.MethodName)) ∈ mGood := m_mem 478 (by decide +kernel) rfl
theorem wd_479 : (Jvm.Cond.code ({ cls := "SphereSheets$Namer", name := "keepAsLeast", desc := "([JI)V" } : Jvm.MethodName) prog_5_method_6_code (4 : Nat) (Option.none : Option Jvm.ClassFile.FieldType)) ∈ mGood := m_mem 479 (by decide +kernel) rfl
theorem wd_480 : (Jvm.Cond.methodLink "SphereSheets$Namer" (41 : Nat) ({ cls := "SphereSheets$Orders", name := "mergedAlong", desc := "(JJJI)J" } : Jvm.MethodName)) ∈ mGood := m_mem 480 (by decide +kernel) rfl
theorem wd_481 : (Jvm.Cond.methodLink "SphereSheets$Namer" (45 : Nat) ({ cls := "SphereSheets$Orders", name := "withFirst", desc := "(JI)I" } : Jvm.MethodName)) ∈ mGood := m_mem 481 (by decide +kernel) rfl
theorem wd_482 : (Jvm.Cond.static ({ cls := "SphereSheets$Orders", name := "withFirst", desc := "(JI)I" } : Jvm.MethodName)) ∈ mGood := m_mem 482 (by decide +kernel) rfl
theorem wd_483 : (Jvm.Cond.code ({ cls := "SphereSheets$Orders", name := "withFirst", desc := "(JI)I" } : Jvm.MethodName) prog_7_method_12_code (5 : Nat) (Option.some Jvm.ClassFile.FieldType.int)) ∈ mGood := m_mem 483 (by decide +kernel) rfl
theorem wd_484 : (Jvm.Cond.methodLink "SphereSheets" (153 : Nat) ({ cls := "java/util/Arrays", name := "copyOf", desc := "([JI)[J" } : Jvm.MethodName)) ∈ mGood := m_mem 484 (by decide +kernel) rfl
theorem wd_485 : (Jvm.Cond.static ({ cls := "java/util/Arrays", name := "copyOf", desc := "([JI)[J" } : Jvm.MethodName)) ∈ mGood := m_mem 485 (by decide +kernel) rfl
theorem wd_486 : (Jvm.Cond.code ({ cls := "java/util/Arrays", name := "copyOf", desc := "([JI)[J" } : Jvm.MethodName) prog_20_method_124_code (3 : Nat) (Option.some (Jvm.ClassFile.FieldType.array Jvm.ClassFile.FieldType.long))) ∈ mGood := m_mem 486 (by decide +kernel) rfl
theorem wd_487 : (Jvm.Cond.methodLink "java/util/Arrays" (319 : Nat) ({ cls := "[J", name := "clone", desc := "()Ljava/lang/Object;" } : Jvm.MethodName)) ∈ mGood := m_mem 487 (by decide +kernel) rfl
theorem wd_488 : (Jvm.Cond.sameMethod "[J" "java/lang/Object" "clone" "()Ljava/lang/Object;") ∈ mGood := m_mem 488 (by decide +kernel) rfl
theorem wd_489 : (Jvm.Cond.native ({ cls := "java/lang/Object", name := "clone", desc := "()Ljava/lang/Object;" } : Jvm.MethodName)) ∈ mGood := m_mem 489 (by decide +kernel) rfl
theorem wd_490 : (Jvm.Cond.instanceMethod ({ cls := "java/lang/Object", name := "clone", desc := "()Ljava/lang/Object;" } : Jvm.MethodName)) ∈ mGood := m_mem 490 (by decide +kernel) rfl
theorem wd_491 : (Jvm.Cond.selects "[J" ({ cls := "[J", name := "clone", desc := "()Ljava/lang/Object;" } : Jvm.MethodName) ({ cls := "java/lang/Object", name := "clone", desc := "()Ljava/lang/Object;" } : Jvm.MethodName)) ∈ mGood := m_mem 491 (by decide +kernel) rfl
theorem wd_493 : (Jvm.Cond.classLink "java/util/Arrays" (320 : Nat) "[J") ∈ mGood := m_mem 493 (by decide +kernel) rfl
theorem wd_494 : (Jvm.Cond.methodLink "java/util/Arrays" (304 : Nat) ({ cls := "java/lang/Math", name := "min", desc := "(II)I" } : Jvm.MethodName)) ∈ mGood := m_mem 494 (by decide +kernel) rfl
theorem wd_495 : (Jvm.Cond.methodLink "java/util/Arrays" (150 : Nat) ({ cls := "java/lang/System", name := "arraycopy", desc := "(Ljava/lang/Object;ILjava/lang/Object;II)V" } : Jvm.MethodName)) ∈ mGood := m_mem 495 (by decide +kernel) rfl
theorem wd_496 : (Jvm.Cond.methodLink "SphereSheetsLaw" (45 : Nat) ({ cls := "SphereSheets", name := "between", desc := "(IIII)I" } : Jvm.MethodName)) ∈ mGood := m_mem 496 (by decide +kernel) rfl
theorem wd_497 : (Jvm.Cond.instanceMethod ({ cls := "SphereSheets", name := "between", desc := "(IIII)I" } : Jvm.MethodName)) ∈ mGood := m_mem 497 (by decide +kernel) rfl
theorem wd_498 : (Jvm.Cond.selects "SphereSheets" ({ cls := "SphereSheets", name := "between", desc := "(IIII)I" } : Jvm.MethodName) ({ cls := "SphereSheets", name := "between", desc := "(IIII)I" } : Jvm.MethodName)) ∈ mGood := m_mem 498 (by decide +kernel) rfl
theorem wd_499 : (Jvm.Cond.code ({ cls := "SphereSheets", name := "between", desc := "(IIII)I" } : Jvm.MethodName) prog_1_method_9_code (6 : Nat) (Option.some Jvm.ClassFile.FieldType.int)) ∈ mGood := m_mem 499 (by decide +kernel) rfl
theorem wd_500 : (Jvm.Cond.methodLink "SphereSheets" (159 : Nat) ({ cls := "SphereSheets$Cover", name := "noSheet", desc := "(I)Z" } : Jvm.MethodName)) ∈ mGood := m_mem 500 (by decide +kernel) rfl
theorem wd_501 : (Jvm.Cond.instanceMethod ({ cls := "SphereSheets$Cover", name := "noSheet", desc := "(I)Z" } : Jvm.MethodName)) ∈ mGood := m_mem 501 (by decide +kernel) rfl
theorem wd_502 : (Jvm.Cond.selects "SphereSheets$Cover" ({ cls := "SphereSheets$Cover", name := "noSheet", desc := "(I)Z" } : Jvm.MethodName) ({ cls := "SphereSheets$Cover", name := "noSheet", desc := "(I)Z" } : Jvm.MethodName)) ∈ mGood := m_mem 502 (by decide +kernel) rfl
theorem wd_504 : (Jvm.Cond.selects "SphereSheets$Bristled" ({ cls := "SphereSheets$Cover", name := "noSheet", desc := "(I)Z" } : Jvm.MethodName) ({ cls := "SphereSheets$Cover", name := "noSheet", desc := "(I)Z" } : Jvm.MethodName)) ∈ mGood := m_mem 504 (by decide +kernel) rfl
theorem wd_505 : (Jvm.Cond.selects "SphereSheets$One" ({ cls := "SphereSheets$Cover", name := "noSheet", desc := "(I)Z" } : Jvm.MethodName) ({ cls := "SphereSheets$Cover", name := "noSheet", desc := "(I)Z" } : Jvm.MethodName)) ∈ mGood := m_mem 505 (by decide +kernel) rfl
theorem wd_506 : (Jvm.Cond.selects "SphereSheets$Simple" ({ cls := "SphereSheets$Cover", name := "noSheet", desc := "(I)Z" } : Jvm.MethodName) ({ cls := "SphereSheets$Cover", name := "noSheet", desc := "(I)Z" } : Jvm.MethodName)) ∈ mGood := m_mem 506 (by decide +kernel) rfl
theorem wd_507 : (Jvm.Cond.selects "SphereSheets$Three" ({ cls := "SphereSheets$Cover", name := "noSheet", desc := "(I)Z" } : Jvm.MethodName) ({ cls := "SphereSheets$Cover", name := "noSheet", desc := "(I)Z" } : Jvm.MethodName)) ∈ mGood := m_mem 507 (by decide +kernel) rfl
theorem wd_508 : (Jvm.Cond.code ({ cls := "SphereSheets$Cover", name := "noSheet", desc := "(I)Z" } : Jvm.MethodName) prog_3_method_7_code (2 : Nat) (Option.some Jvm.ClassFile.FieldType.boolean)) ∈ mGood := m_mem 508 (by decide +kernel) rfl
theorem wd_509 : (Jvm.Cond.methodLink "SphereSheets" (162 : Nat) ({ cls := "SphereSheets$Cover", name := "ofBlocks", desc := "(II)LSphereSheets$Cover;" } : Jvm.MethodName)) ∈ mGood := m_mem 509 (by decide +kernel) rfl
theorem wd_510 : (Jvm.Cond.instanceMethod ({ cls := "SphereSheets$Cover", name := "ofBlocks", desc := "(II)LSphereSheets$Cover;" } : Jvm.MethodName)) ∈ mGood := m_mem 510 (by decide +kernel) rfl
theorem wd_511 : (Jvm.Cond.selects "SphereSheets$Cover" ({ cls := "SphereSheets$Cover", name := "ofBlocks", desc := "(II)LSphereSheets$Cover;" } : Jvm.MethodName) ({ cls := "SphereSheets$Cover", name := "ofBlocks", desc := "(II)LSphereSheets$Cover;" } : Jvm.MethodName)) ∈ mGood := m_mem 511 (by decide +kernel) rfl
theorem wd_513 : (Jvm.Cond.selects "SphereSheets$Bristled" ({ cls := "SphereSheets$Cover", name := "ofBlocks", desc := "(II)LSphereSheets$Cover;" } : Jvm.MethodName) ({ cls := "SphereSheets$Cover", name := "ofBlocks", desc := "(II)LSphereSheets$Cover;" } : Jvm.MethodName)) ∈ mGood := m_mem 513 (by decide +kernel) rfl
theorem wd_514 : (Jvm.Cond.selects "SphereSheets$One" ({ cls := "SphereSheets$Cover", name := "ofBlocks", desc := "(II)LSphereSheets$Cover;" } : Jvm.MethodName) ({ cls := "SphereSheets$Cover", name := "ofBlocks", desc := "(II)LSphereSheets$Cover;" } : Jvm.MethodName)) ∈ mGood := m_mem 514 (by decide +kernel) rfl
theorem wd_515 : (Jvm.Cond.selects "SphereSheets$Simple" ({ cls := "SphereSheets$Cover", name := "ofBlocks", desc := "(II)LSphereSheets$Cover;" } : Jvm.MethodName) ({ cls := "SphereSheets$Cover", name := "ofBlocks", desc := "(II)LSphereSheets$Cover;" } : Jvm.MethodName)) ∈ mGood := m_mem 515 (by decide +kernel) rfl
theorem wd_516 : (Jvm.Cond.selects "SphereSheets$Three" ({ cls := "SphereSheets$Cover", name := "ofBlocks", desc := "(II)LSphereSheets$Cover;" } : Jvm.MethodName) ({ cls := "SphereSheets$Cover", name := "ofBlocks", desc := "(II)LSphereSheets$Cover;" } : Jvm.MethodName)) ∈ mGood := m_mem 516 (by decide +kernel) rfl
theorem wd_517 : (Jvm.Cond.code ({ cls := "SphereSheets$Cover", name := "ofBlocks", desc := "(II)LSphereSheets$Cover;" } : Jvm.MethodName) prog_3_method_17_code (6 : Nat) (Option.some (Jvm.ClassFile.FieldType.object "SphereSheets$Cover"))) ∈ mGood := m_mem 517 (by decide +kernel) rfl
theorem wd_518 : (Jvm.Cond.methodLink "SphereSheets$Cover" (114 : Nat) ({ cls := "SphereSheets$Cover", name := "blockLabels", desc := "(II)J" } : Jvm.MethodName)) ∈ mGood := m_mem 518 (by decide +kernel) rfl
theorem wd_519 : (Jvm.Cond.instanceMethod ({ cls := "SphereSheets$Cover", name := "blockLabels", desc := "(II)J" } : Jvm.MethodName)) ∈ mGood := m_mem 519 (by decide +kernel) rfl
theorem wd_520 : (Jvm.Cond.selects "SphereSheets$Cover" ({ cls := "SphereSheets$Cover", name := "blockLabels", desc := "(II)J" } : Jvm.MethodName) ({ cls := "SphereSheets$Cover", name := "blockLabels", desc := "(II)J" } : Jvm.MethodName)) ∈ mGood := m_mem 520 (by decide +kernel) rfl
theorem wd_522 : (Jvm.Cond.selects "SphereSheets$Bristled" ({ cls := "SphereSheets$Cover", name := "blockLabels", desc := "(II)J" } : Jvm.MethodName) ({ cls := "SphereSheets$Cover", name := "blockLabels", desc := "(II)J" } : Jvm.MethodName)) ∈ mGood := m_mem 522 (by decide +kernel) rfl
theorem wd_523 : (Jvm.Cond.selects "SphereSheets$One" ({ cls := "SphereSheets$Cover", name := "blockLabels", desc := "(II)J" } : Jvm.MethodName) ({ cls := "SphereSheets$Cover", name := "blockLabels", desc := "(II)J" } : Jvm.MethodName)) ∈ mGood := m_mem 523 (by decide +kernel) rfl
theorem wd_524 : (Jvm.Cond.selects "SphereSheets$Simple" ({ cls := "SphereSheets$Cover", name := "blockLabels", desc := "(II)J" } : Jvm.MethodName) ({ cls := "SphereSheets$Cover", name := "blockLabels", desc := "(II)J" } : Jvm.MethodName)) ∈ mGood := m_mem 524 (by decide +kernel) rfl
theorem wd_525 : (Jvm.Cond.selects "SphereSheets$Three" ({ cls := "SphereSheets$Cover", name := "blockLabels", desc := "(II)J" } : Jvm.MethodName) ({ cls := "SphereSheets$Cover", name := "blockLabels", desc := "(II)J" } : Jvm.MethodName)) ∈ mGood := m_mem 525 (by decide +kernel) rfl
theorem wd_526 : (Jvm.Cond.code ({ cls := "SphereSheets$Cover", name := "blockLabels", desc := "(II)J" } : Jvm.MethodName) prog_3_method_15_code (9 : Nat) (Option.some Jvm.ClassFile.FieldType.long)) ∈ mGood := m_mem 526 (by decide +kernel) rfl
theorem wd_527 : (Jvm.Cond.methodLink "SphereSheets$Cover" (89 : Nat) ({ cls := "SphereSheets$Orders", name := "merged", desc := "(JIII)J" } : Jvm.MethodName)) ∈ mGood := m_mem 527 (by decide +kernel) rfl
theorem wd_528 : (Jvm.Cond.methodLink "SphereSheets$Cover" (93 : Nat) ({ cls := "SphereSheets$Orders", name := "behind", desc := "(JJI)J" } : Jvm.MethodName)) ∈ mGood := m_mem 528 (by decide +kernel) rfl
theorem wd_529 : (Jvm.Cond.methodLink "SphereSheets$Cover" (97 : Nat) ({ cls := "SphereSheets$Orders", name := "mergedAlong", desc := "(JJJI)J" } : Jvm.MethodName)) ∈ mGood := m_mem 529 (by decide +kernel) rfl
theorem wd_530 : (Jvm.Cond.methodLink "SphereSheets$Cover" (118 : Nat) ({ cls := "SphereSheets$Orders", name := "leaders", desc := "(JI)I" } : Jvm.MethodName)) ∈ mGood := m_mem 530 (by decide +kernel) rfl
theorem wd_531 : (Jvm.Cond.methodLink "SphereSheetsLaw" (50 : Nat) ({ cls := "SphereSheets", name := "braid", desc := "(IIII)I" } : Jvm.MethodName)) ∈ mGood := m_mem 531 (by decide +kernel) rfl
theorem wd_532 : (Jvm.Cond.instanceMethod ({ cls := "SphereSheets", name := "braid", desc := "(IIII)I" } : Jvm.MethodName)) ∈ mGood := m_mem 532 (by decide +kernel) rfl
theorem wd_533 : (Jvm.Cond.selects "SphereSheets" ({ cls := "SphereSheets", name := "braid", desc := "(IIII)I" } : Jvm.MethodName) ({ cls := "SphereSheets", name := "braid", desc := "(IIII)I" } : Jvm.MethodName)) ∈ mGood := m_mem 533 (by decide +kernel) rfl
theorem wd_534 : (Jvm.Cond.code ({ cls := "SphereSheets", name := "braid", desc := "(IIII)I" } : Jvm.MethodName) prog_1_method_10_code (6 : Nat) (Option.some Jvm.ClassFile.FieldType.int)) ∈ mGood := m_mem 534 (by decide +kernel) rfl
theorem wd_535 : (Jvm.Cond.methodLink "SphereSheets" (166 : Nat) ({ cls := "SphereSheets$Cover", name := "ledPast", desc := "(IZ)LSphereSheets$Cover;" } : Jvm.MethodName)) ∈ mGood := m_mem 535 (by decide +kernel) rfl
theorem wd_536 : (Jvm.Cond.instanceMethod ({ cls := "SphereSheets$Cover", name := "ledPast", desc := "(IZ)LSphereSheets$Cover;" } : Jvm.MethodName)) ∈ mGood := m_mem 536 (by decide +kernel) rfl
theorem wd_537 : (Jvm.Cond.selects "SphereSheets$Cover" ({ cls := "SphereSheets$Cover", name := "ledPast", desc := "(IZ)LSphereSheets$Cover;" } : Jvm.MethodName) ({ cls := "SphereSheets$Cover", name := "ledPast", desc := "(IZ)LSphereSheets$Cover;" } : Jvm.MethodName)) ∈ mGood := m_mem 537 (by decide +kernel) rfl
theorem wd_539 : (Jvm.Cond.selects "SphereSheets$Bristled" ({ cls := "SphereSheets$Cover", name := "ledPast", desc := "(IZ)LSphereSheets$Cover;" } : Jvm.MethodName) ({ cls := "SphereSheets$Cover", name := "ledPast", desc := "(IZ)LSphereSheets$Cover;" } : Jvm.MethodName)) ∈ mGood := m_mem 539 (by decide +kernel) rfl
theorem wd_540 : (Jvm.Cond.selects "SphereSheets$One" ({ cls := "SphereSheets$Cover", name := "ledPast", desc := "(IZ)LSphereSheets$Cover;" } : Jvm.MethodName) ({ cls := "SphereSheets$Cover", name := "ledPast", desc := "(IZ)LSphereSheets$Cover;" } : Jvm.MethodName)) ∈ mGood := m_mem 540 (by decide +kernel) rfl
theorem wd_541 : (Jvm.Cond.selects "SphereSheets$Simple" ({ cls := "SphereSheets$Cover", name := "ledPast", desc := "(IZ)LSphereSheets$Cover;" } : Jvm.MethodName) ({ cls := "SphereSheets$Cover", name := "ledPast", desc := "(IZ)LSphereSheets$Cover;" } : Jvm.MethodName)) ∈ mGood := m_mem 541 (by decide +kernel) rfl
theorem wd_542 : (Jvm.Cond.selects "SphereSheets$Three" ({ cls := "SphereSheets$Cover", name := "ledPast", desc := "(IZ)LSphereSheets$Cover;" } : Jvm.MethodName) ({ cls := "SphereSheets$Cover", name := "ledPast", desc := "(IZ)LSphereSheets$Cover;" } : Jvm.MethodName)) ∈ mGood := m_mem 542 (by decide +kernel) rfl
theorem wd_543 : (Jvm.Cond.code ({ cls := "SphereSheets$Cover", name := "ledPast", desc := "(IZ)LSphereSheets$Cover;" } : Jvm.MethodName) prog_3_method_19_code (4 : Nat) (Option.some (Jvm.ClassFile.FieldType.object "SphereSheets$Cover"))) ∈ mGood := m_mem 543 (by decide +kernel) rfl
theorem wd_544 : (Jvm.Cond.methodLink "SphereSheets$Cover" (125 : Nat) ({ cls := "java/util/Arrays", name := "copyOf", desc := "([JI)[J" } : Jvm.MethodName)) ∈ mGood := m_mem 544 (by decide +kernel) rfl
theorem wd_545 : (Jvm.Cond.methodLink "SphereSheets$Cover" (131 : Nat) ({ cls := "SphereSheets$Orders", name := "leadForward", desc := "([JII)V" } : Jvm.MethodName)) ∈ mGood := m_mem 545 (by decide +kernel) rfl
theorem wd_546 : (Jvm.Cond.static ({ cls := "SphereSheets$Orders", name := "leadForward", desc := "([JII)V" } : Jvm.MethodName)) ∈ mGood := m_mem 546 (by decide +kernel) rfl
theorem wd_547 : (Jvm.Cond.code ({ cls := "SphereSheets$Orders", name := "leadForward", desc := "([JII)V" } : Jvm.MethodName) prog_7_method_13_code (7 : Nat) (Option.none : Option Jvm.ClassFile.FieldType)) ∈ mGood := m_mem 547 (by decide +kernel) rfl
theorem wd_548 : (Jvm.Cond.methodLink "SphereSheets$Orders" (47 : Nat) ({ cls := "SphereSheets$Orders", name := "inverse", desc := "(JI)J" } : Jvm.MethodName)) ∈ mGood := m_mem 548 (by decide +kernel) rfl
theorem wd_549 : (Jvm.Cond.methodLink "SphereSheets$Orders" (51 : Nat) ({ cls := "SphereSheets$Orders", name := "behind", desc := "(JJI)J" } : Jvm.MethodName)) ∈ mGood := m_mem 549 (by decide +kernel) rfl
theorem wd_550 : (Jvm.Cond.methodLink "SphereSheets$Cover" (135 : Nat) ({ cls := "SphereSheets$Orders", name := "leadBack", desc := "([JII)V" } : Jvm.MethodName)) ∈ mGood := m_mem 550 (by decide +kernel) rfl
theorem wd_551 : (Jvm.Cond.static ({ cls := "SphereSheets$Orders", name := "leadBack", desc := "([JII)V" } : Jvm.MethodName)) ∈ mGood := m_mem 551 (by decide +kernel) rfl
theorem wd_552 : (Jvm.Cond.code ({ cls := "SphereSheets$Orders", name := "leadBack", desc := "([JII)V" } : Jvm.MethodName) prog_7_method_14_code (7 : Nat) (Option.none : Option Jvm.ClassFile.FieldType)) ∈ mGood := m_mem 552 (by decide +kernel) rfl
theorem wd_553 : (Jvm.Cond.methodLink "SphereSheetsLaw" (54 : Nat) ({ cls := "SphereSheets", name := "turn", desc := "(III)I" } : Jvm.MethodName)) ∈ mGood := m_mem 553 (by decide +kernel) rfl
theorem wd_554 : (Jvm.Cond.instanceMethod ({ cls := "SphereSheets", name := "turn", desc := "(III)I" } : Jvm.MethodName)) ∈ mGood := m_mem 554 (by decide +kernel) rfl
theorem wd_555 : (Jvm.Cond.selects "SphereSheets" ({ cls := "SphereSheets", name := "turn", desc := "(III)I" } : Jvm.MethodName) ({ cls := "SphereSheets", name := "turn", desc := "(III)I" } : Jvm.MethodName)) ∈ mGood := m_mem 555 (by decide +kernel) rfl
theorem wd_556 : (Jvm.Cond.code ({ cls := "SphereSheets", name := "turn", desc := "(III)I" } : Jvm.MethodName) prog_1_method_11_code (5 : Nat) (Option.some Jvm.ClassFile.FieldType.int)) ∈ mGood := m_mem 556 (by decide +kernel) rfl
theorem wd_557 : (Jvm.Cond.methodLink "SphereSheets" (170 : Nat) ({ cls := "SphereSheets$Cover", name := "mirror", desc := "()LSphereSheets$Cover;" } : Jvm.MethodName)) ∈ mGood := m_mem 557 (by decide +kernel) rfl
theorem wd_558 : (Jvm.Cond.instanceMethod ({ cls := "SphereSheets$Cover", name := "mirror", desc := "()LSphereSheets$Cover;" } : Jvm.MethodName)) ∈ mGood := m_mem 558 (by decide +kernel) rfl
theorem wd_559 : (Jvm.Cond.selects "SphereSheets$Cover" ({ cls := "SphereSheets$Cover", name := "mirror", desc := "()LSphereSheets$Cover;" } : Jvm.MethodName) ({ cls := "SphereSheets$Cover", name := "mirror", desc := "()LSphereSheets$Cover;" } : Jvm.MethodName)) ∈ mGood := m_mem 559 (by decide +kernel) rfl
theorem wd_561 : (Jvm.Cond.selects "SphereSheets$Bristled" ({ cls := "SphereSheets$Cover", name := "mirror", desc := "()LSphereSheets$Cover;" } : Jvm.MethodName) ({ cls := "SphereSheets$Cover", name := "mirror", desc := "()LSphereSheets$Cover;" } : Jvm.MethodName)) ∈ mGood := m_mem 561 (by decide +kernel) rfl
theorem wd_562 : (Jvm.Cond.selects "SphereSheets$One" ({ cls := "SphereSheets$Cover", name := "mirror", desc := "()LSphereSheets$Cover;" } : Jvm.MethodName) ({ cls := "SphereSheets$Cover", name := "mirror", desc := "()LSphereSheets$Cover;" } : Jvm.MethodName)) ∈ mGood := m_mem 562 (by decide +kernel) rfl
theorem wd_563 : (Jvm.Cond.selects "SphereSheets$Simple" ({ cls := "SphereSheets$Cover", name := "mirror", desc := "()LSphereSheets$Cover;" } : Jvm.MethodName) ({ cls := "SphereSheets$Cover", name := "mirror", desc := "()LSphereSheets$Cover;" } : Jvm.MethodName)) ∈ mGood := m_mem 563 (by decide +kernel) rfl
theorem wd_564 : (Jvm.Cond.selects "SphereSheets$Three" ({ cls := "SphereSheets$Cover", name := "mirror", desc := "()LSphereSheets$Cover;" } : Jvm.MethodName) ({ cls := "SphereSheets$Cover", name := "mirror", desc := "()LSphereSheets$Cover;" } : Jvm.MethodName)) ∈ mGood := m_mem 564 (by decide +kernel) rfl
theorem wd_565 : (Jvm.Cond.code ({ cls := "SphereSheets$Cover", name := "mirror", desc := "()LSphereSheets$Cover;" } : Jvm.MethodName) prog_3_method_20_code (4 : Nat) (Option.some (Jvm.ClassFile.FieldType.object "SphereSheets$Cover"))) ∈ mGood := m_mem 565 (by decide +kernel) rfl
theorem wd_566 : (Jvm.Cond.methodLink "SphereSheets$Cover" (78 : Nat) ({ cls := "SphereSheets$Orders", name := "inverse", desc := "(JI)J" } : Jvm.MethodName)) ∈ mGood := m_mem 566 (by decide +kernel) rfl
theorem wd_567 : (Jvm.Cond.classLink "SphereSheets" (174 : Nat) "SphereSheets$Three") ∈ mGood := m_mem 567 (by decide +kernel) rfl
theorem wd_568 : (Jvm.Cond.methodLink "SphereSheetsLaw" (58 : Nat) ({ cls := "SphereSheets", name := "over", desc := "(III)I" } : Jvm.MethodName)) ∈ mGood := m_mem 568 (by decide +kernel) rfl
theorem wd_569 : (Jvm.Cond.instanceMethod ({ cls := "SphereSheets", name := "over", desc := "(III)I" } : Jvm.MethodName)) ∈ mGood := m_mem 569 (by decide +kernel) rfl
theorem wd_570 : (Jvm.Cond.selects "SphereSheets" ({ cls := "SphereSheets", name := "over", desc := "(III)I" } : Jvm.MethodName) ({ cls := "SphereSheets", name := "over", desc := "(III)I" } : Jvm.MethodName)) ∈ mGood := m_mem 570 (by decide +kernel) rfl
theorem wd_571 : (Jvm.Cond.code ({ cls := "SphereSheets", name := "over", desc := "(III)I" } : Jvm.MethodName) prog_1_method_12_code (6 : Nat) (Option.some Jvm.ClassFile.FieldType.int)) ∈ mGood := m_mem 571 (by decide +kernel) rfl
theorem wd_572 : (Jvm.Cond.constant "SphereSheets" (176 : Nat) (-1000003 : Int32)) ∈ mGood := m_mem 572 (by decide +kernel) rfl
theorem wd_573 : (Jvm.Cond.methodLink "SphereSheets" (177 : Nat) ({ cls := "SphereSheets$Cover", name := "laidOver", desc := "(LSphereSheets$Cover;)LSphereSheets$Cover;" } : Jvm.MethodName)) ∈ mGood := m_mem 573 (by decide +kernel) rfl
theorem wd_574 : (Jvm.Cond.instanceMethod ({ cls := "SphereSheets$Cover", name := "laidOver", desc := "(LSphereSheets$Cover;)LSphereSheets$Cover;" } : Jvm.MethodName)) ∈ mGood := m_mem 574 (by decide +kernel) rfl
theorem wd_575 : (Jvm.Cond.selects "SphereSheets$Cover" ({ cls := "SphereSheets$Cover", name := "laidOver", desc := "(LSphereSheets$Cover;)LSphereSheets$Cover;" } : Jvm.MethodName) ({ cls := "SphereSheets$Cover", name := "laidOver", desc := "(LSphereSheets$Cover;)LSphereSheets$Cover;" } : Jvm.MethodName)) ∈ mGood := m_mem 575 (by decide +kernel) rfl
theorem wd_577 : (Jvm.Cond.selects "SphereSheets$Bristled" ({ cls := "SphereSheets$Cover", name := "laidOver", desc := "(LSphereSheets$Cover;)LSphereSheets$Cover;" } : Jvm.MethodName) ({ cls := "SphereSheets$Cover", name := "laidOver", desc := "(LSphereSheets$Cover;)LSphereSheets$Cover;" } : Jvm.MethodName)) ∈ mGood := m_mem 577 (by decide +kernel) rfl
theorem wd_578 : (Jvm.Cond.selects "SphereSheets$One" ({ cls := "SphereSheets$Cover", name := "laidOver", desc := "(LSphereSheets$Cover;)LSphereSheets$Cover;" } : Jvm.MethodName) ({ cls := "SphereSheets$Cover", name := "laidOver", desc := "(LSphereSheets$Cover;)LSphereSheets$Cover;" } : Jvm.MethodName)) ∈ mGood := m_mem 578 (by decide +kernel) rfl
theorem wd_579 : (Jvm.Cond.selects "SphereSheets$Simple" ({ cls := "SphereSheets$Cover", name := "laidOver", desc := "(LSphereSheets$Cover;)LSphereSheets$Cover;" } : Jvm.MethodName) ({ cls := "SphereSheets$Cover", name := "laidOver", desc := "(LSphereSheets$Cover;)LSphereSheets$Cover;" } : Jvm.MethodName)) ∈ mGood := m_mem 579 (by decide +kernel) rfl
theorem wd_580 : (Jvm.Cond.selects "SphereSheets$Three" ({ cls := "SphereSheets$Cover", name := "laidOver", desc := "(LSphereSheets$Cover;)LSphereSheets$Cover;" } : Jvm.MethodName) ({ cls := "SphereSheets$Cover", name := "laidOver", desc := "(LSphereSheets$Cover;)LSphereSheets$Cover;" } : Jvm.MethodName)) ∈ mGood := m_mem 580 (by decide +kernel) rfl
theorem wd_581 : (Jvm.Cond.code ({ cls := "SphereSheets$Cover", name := "laidOver", desc := "(LSphereSheets$Cover;)LSphereSheets$Cover;" } : Jvm.MethodName) prog_3_method_21_code (7 : Nat) (Option.some (Jvm.ClassFile.FieldType.object "SphereSheets$Cover"))) ∈ mGood := m_mem 581 (by decide +kernel) rfl
theorem wd_582 : (Jvm.Cond.methodLink "SphereSheets$Cover" (72 : Nat) ({ cls := "SphereSheets$Cover", name := "turnAt", desc := "(I)J" } : Jvm.MethodName)) ∈ mGood := m_mem 582 (by decide +kernel) rfl
theorem wd_583 : (Jvm.Cond.instanceMethod ({ cls := "SphereSheets$Cover", name := "turnAt", desc := "(I)J" } : Jvm.MethodName)) ∈ mGood := m_mem 583 (by decide +kernel) rfl
theorem wd_584 : (Jvm.Cond.selects "SphereSheets$Cover" ({ cls := "SphereSheets$Cover", name := "turnAt", desc := "(I)J" } : Jvm.MethodName) ({ cls := "SphereSheets$Cover", name := "turnAt", desc := "(I)J" } : Jvm.MethodName)) ∈ mGood := m_mem 584 (by decide +kernel) rfl
theorem wd_586 : (Jvm.Cond.selects "SphereSheets$Bristled" ({ cls := "SphereSheets$Cover", name := "turnAt", desc := "(I)J" } : Jvm.MethodName) ({ cls := "SphereSheets$Cover", name := "turnAt", desc := "(I)J" } : Jvm.MethodName)) ∈ mGood := m_mem 586 (by decide +kernel) rfl
theorem wd_587 : (Jvm.Cond.selects "SphereSheets$One" ({ cls := "SphereSheets$Cover", name := "turnAt", desc := "(I)J" } : Jvm.MethodName) ({ cls := "SphereSheets$Cover", name := "turnAt", desc := "(I)J" } : Jvm.MethodName)) ∈ mGood := m_mem 587 (by decide +kernel) rfl
theorem wd_588 : (Jvm.Cond.selects "SphereSheets$Simple" ({ cls := "SphereSheets$Cover", name := "turnAt", desc := "(I)J" } : Jvm.MethodName) ({ cls := "SphereSheets$Cover", name := "turnAt", desc := "(I)J" } : Jvm.MethodName)) ∈ mGood := m_mem 588 (by decide +kernel) rfl
theorem wd_589 : (Jvm.Cond.selects "SphereSheets$Three" ({ cls := "SphereSheets$Cover", name := "turnAt", desc := "(I)J" } : Jvm.MethodName) ({ cls := "SphereSheets$Cover", name := "turnAt", desc := "(I)J" } : Jvm.MethodName)) ∈ mGood := m_mem 589 (by decide +kernel) rfl
theorem wd_590 : (Jvm.Cond.code ({ cls := "SphereSheets$Cover", name := "turnAt", desc := "(I)J" } : Jvm.MethodName) prog_3_method_9_code (2 : Nat) (Option.some Jvm.ClassFile.FieldType.long)) ∈ mGood := m_mem 590 (by decide +kernel) rfl
theorem wd_591 : (Jvm.Cond.methodLink "SphereSheets$Cover" (65 : Nat) ({ cls := "SphereSheets$Cover", name := "noTurn", desc := "(I)Z" } : Jvm.MethodName)) ∈ mGood := m_mem 591 (by decide +kernel) rfl
theorem wd_592 : (Jvm.Cond.instanceMethod ({ cls := "SphereSheets$Cover", name := "noTurn", desc := "(I)Z" } : Jvm.MethodName)) ∈ mGood := m_mem 592 (by decide +kernel) rfl
theorem wd_593 : (Jvm.Cond.selects "SphereSheets$Cover" ({ cls := "SphereSheets$Cover", name := "noTurn", desc := "(I)Z" } : Jvm.MethodName) ({ cls := "SphereSheets$Cover", name := "noTurn", desc := "(I)Z" } : Jvm.MethodName)) ∈ mGood := m_mem 593 (by decide +kernel) rfl
theorem wd_595 : (Jvm.Cond.selects "SphereSheets$Bristled" ({ cls := "SphereSheets$Cover", name := "noTurn", desc := "(I)Z" } : Jvm.MethodName) ({ cls := "SphereSheets$Cover", name := "noTurn", desc := "(I)Z" } : Jvm.MethodName)) ∈ mGood := m_mem 595 (by decide +kernel) rfl
theorem wd_596 : (Jvm.Cond.selects "SphereSheets$One" ({ cls := "SphereSheets$Cover", name := "noTurn", desc := "(I)Z" } : Jvm.MethodName) ({ cls := "SphereSheets$Cover", name := "noTurn", desc := "(I)Z" } : Jvm.MethodName)) ∈ mGood := m_mem 596 (by decide +kernel) rfl
theorem wd_597 : (Jvm.Cond.selects "SphereSheets$Simple" ({ cls := "SphereSheets$Cover", name := "noTurn", desc := "(I)Z" } : Jvm.MethodName) ({ cls := "SphereSheets$Cover", name := "noTurn", desc := "(I)Z" } : Jvm.MethodName)) ∈ mGood := m_mem 597 (by decide +kernel) rfl
theorem wd_598 : (Jvm.Cond.selects "SphereSheets$Three" ({ cls := "SphereSheets$Cover", name := "noTurn", desc := "(I)Z" } : Jvm.MethodName) ({ cls := "SphereSheets$Cover", name := "noTurn", desc := "(I)Z" } : Jvm.MethodName)) ∈ mGood := m_mem 598 (by decide +kernel) rfl
theorem wd_599 : (Jvm.Cond.code ({ cls := "SphereSheets$Cover", name := "noTurn", desc := "(I)Z" } : Jvm.MethodName) prog_3_method_8_code (2 : Nat) (Option.some Jvm.ClassFile.FieldType.boolean)) ∈ mGood := m_mem 599 (by decide +kernel) rfl
theorem wd_600 : (Jvm.Cond.methodLink "SphereSheetsLaw" (62 : Nat) ({ cls := "SphereSheets", name := "clear", desc := "(I)I" } : Jvm.MethodName)) ∈ mGood := m_mem 600 (by decide +kernel) rfl
theorem wd_601 : (Jvm.Cond.instanceMethod ({ cls := "SphereSheets", name := "clear", desc := "(I)I" } : Jvm.MethodName)) ∈ mGood := m_mem 601 (by decide +kernel) rfl
theorem wd_602 : (Jvm.Cond.selects "SphereSheets" ({ cls := "SphereSheets", name := "clear", desc := "(I)I" } : Jvm.MethodName) ({ cls := "SphereSheets", name := "clear", desc := "(I)I" } : Jvm.MethodName)) ∈ mGood := m_mem 602 (by decide +kernel) rfl
theorem wd_603 : (Jvm.Cond.code ({ cls := "SphereSheets", name := "clear", desc := "(I)I" } : Jvm.MethodName) prog_1_method_13_code (3 : Nat) (Option.some Jvm.ClassFile.FieldType.int)) ∈ mGood := m_mem 603 (by decide +kernel) rfl
