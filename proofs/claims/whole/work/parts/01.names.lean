-- ===== PART A: goes FIRST, ahead of the names: the tables' words, and 'selects' of the private methods out of them =====
/-- a private method of a class that the tables say can be made, by its rows of tables_1 -/
def lw_okq (q : MethodName × Nat) : Prop := (q.1.cls ≠ "java/lang/invoke/MethodHandle" ∧ q.1.cls ≠ "java/lang/invoke/VarHandle") ∧ Cond.instantiable q.1.cls q.2 ∈ tables_1 ∧ Cond.privateMethod q.1 ∈ tables_1 ∧ Cond.instanceMethod q.1 ∈ tables_1
theorem lw_p0 : lw_okq (⟨"SphereSheets", "found", "(I)I"⟩, 8) := ⟨⟨by decide +kernel, by decide +kernel⟩, List.mem_of_getElem? (i := 20) (by decide +kernel), List.mem_of_getElem? (i := 167) (by decide +kernel), List.mem_of_getElem? (i := 168) (by decide +kernel)⟩
theorem lw_p1 : lw_okq (⟨"SphereSheets", "fine", "(I)I"⟩, 8) := ⟨⟨by decide +kernel, by decide +kernel⟩, List.mem_of_getElem? (i := 20) (by decide +kernel), List.mem_of_getElem? (i := 172) (by decide +kernel), List.mem_of_getElem? (i := 173) (by decide +kernel)⟩
theorem lw_p2 : lw_okq (⟨"SphereSheets", "shelve", "(ILSphereSheets$Cover;)I"⟩, 8) := ⟨⟨by decide +kernel, by decide +kernel⟩, List.mem_of_getElem? (i := 20) (by decide +kernel), List.mem_of_getElem? (i := 352) (by decide +kernel), List.mem_of_getElem? (i := 353) (by decide +kernel)⟩
theorem lw_p3 : lw_okq (⟨"SphereSheets$Cover", "narrowed", "(IJ)[J"⟩, 3) := ⟨⟨by decide +kernel, by decide +kernel⟩, List.mem_of_getElem? (i := 315) (by decide +kernel), List.mem_of_getElem? (i := 389) (by decide +kernel), List.mem_of_getElem? (i := 390) (by decide +kernel)⟩
theorem lw_p4 : lw_okq (⟨"SphereSheets$Namer", "numberFrom", "(I[JI)Z"⟩, 4) := ⟨⟨by decide +kernel, by decide +kernel⟩, List.mem_of_getElem? (i := 57) (by decide +kernel), List.mem_of_getElem? (i := 414) (by decide +kernel), List.mem_of_getElem? (i := 415) (by decide +kernel)⟩
theorem lw_p5 : lw_okq (⟨"SphereSheets$Namer", "againstLeast", "([JI)I"⟩, 4) := ⟨⟨by decide +kernel, by decide +kernel⟩, List.mem_of_getElem? (i := 57) (by decide +kernel), List.mem_of_getElem? (i := 419) (by decide +kernel), List.mem_of_getElem? (i := 420) (by decide +kernel)⟩
theorem lw_p6 : lw_okq (⟨"SphereSheets$Namer", "renamed", "(JI)J"⟩, 4) := ⟨⟨by decide +kernel, by decide +kernel⟩, List.mem_of_getElem? (i := 57) (by decide +kernel), List.mem_of_getElem? (i := 423) (by decide +kernel), List.mem_of_getElem? (i := 424) (by decide +kernel)⟩
theorem lw_p7 : lw_okq (⟨"SphereSheets$Namer", "keepAsLeast", "([JI)V"⟩, 4) := ⟨⟨by decide +kernel, by decide +kernel⟩, List.mem_of_getElem? (i := 57) (by decide +kernel), List.mem_of_getElem? (i := 430) (by decide +kernel), List.mem_of_getElem? (i := 431) (by decide +kernel)⟩
theorem lw_p8 : lw_okq (⟨"SphereSheets", "tellOf", "(LSphereSheets$Cover;I)I"⟩, 8) := ⟨⟨by decide +kernel, by decide +kernel⟩, List.mem_of_getElem? (i := 20) (by decide +kernel), List.mem_of_getElem? (i := 562) (by decide +kernel), List.mem_of_getElem? (i := 563) (by decide +kernel)⟩
theorem lw_p9 : lw_okq (⟨"SphereSheets$Heap", "sift", "(JI)V"⟩, 3) := ⟨⟨by decide +kernel, by decide +kernel⟩, List.mem_of_getElem? (i := 98) (by decide +kernel), List.mem_of_getElem? (i := 597) (by decide +kernel), List.mem_of_getElem? (i := 598) (by decide +kernel)⟩
theorem lw_p10 : lw_okq (⟨"SphereSheets$Heap", "product", "(I)I"⟩, 3) := ⟨⟨by decide +kernel, by decide +kernel⟩, List.mem_of_getElem? (i := 98) (by decide +kernel), List.mem_of_getElem? (i := 604) (by decide +kernel), List.mem_of_getElem? (i := 605) (by decide +kernel)⟩
theorem lw_p11 : lw_okq (⟨"SphereSheets", "alike", "(LSphereSheets$Cover;LSphereSheets$Cover;)Z"⟩, 8) := ⟨⟨by decide +kernel, by decide +kernel⟩, List.mem_of_getElem? (i := 20) (by decide +kernel), List.mem_of_getElem? (i := 634) (by decide +kernel), List.mem_of_getElem? (i := 635) (by decide +kernel)⟩
theorem lw_p12 : lw_okq (⟨"SphereSheets$Ring", "keep", "(I)V"⟩, 3) := ⟨⟨by decide +kernel, by decide +kernel⟩, List.mem_of_getElem? (i := 80) (by decide +kernel), List.mem_of_getElem? (i := 647) (by decide +kernel), List.mem_of_getElem? (i := 648) (by decide +kernel)⟩
theorem lw_p13 : lw_okq (⟨"SphereSheets$Ring", "known", "(I)Z"⟩, 3) := ⟨⟨by decide +kernel, by decide +kernel⟩, List.mem_of_getElem? (i := 80) (by decide +kernel), List.mem_of_getElem? (i := 653) (by decide +kernel), List.mem_of_getElem? (i := 654) (by decide +kernel)⟩
theorem lw_p14 : lw_okq (⟨"SphereSheets$Ring", "isLeastAt", "(II)Z"⟩, 3) := ⟨⟨by decide +kernel, by decide +kernel⟩, List.mem_of_getElem? (i := 80) (by decide +kernel), List.mem_of_getElem? (i := 657) (by decide +kernel), List.mem_of_getElem? (i := 658) (by decide +kernel)⟩
theorem lw_p15 : lw_okq (⟨"SphereSheets$Shapes", "listAll", "(I)V"⟩, 4) := ⟨⟨by decide +kernel, by decide +kernel⟩, List.mem_of_getElem? (i := 114) (by decide +kernel), List.mem_of_getElem? (i := 771) (by decide +kernel), List.mem_of_getElem? (i := 772) (by decide +kernel)⟩
def lw_privs_1 : List (MethodName × Nat) := [(⟨"SphereSheets", "found", "(I)I"⟩, 8), (⟨"SphereSheets", "fine", "(I)I"⟩, 8), (⟨"SphereSheets", "shelve", "(ILSphereSheets$Cover;)I"⟩, 8), (⟨"SphereSheets$Cover", "narrowed", "(IJ)[J"⟩, 3), (⟨"SphereSheets$Namer", "numberFrom", "(I[JI)Z"⟩, 4), (⟨"SphereSheets$Namer", "againstLeast", "([JI)I"⟩, 4), (⟨"SphereSheets$Namer", "renamed", "(JI)J"⟩, 4), (⟨"SphereSheets$Namer", "keepAsLeast", "([JI)V"⟩, 4), (⟨"SphereSheets", "tellOf", "(LSphereSheets$Cover;I)I"⟩, 8), (⟨"SphereSheets$Heap", "sift", "(JI)V"⟩, 3), (⟨"SphereSheets$Heap", "product", "(I)I"⟩, 3), (⟨"SphereSheets", "alike", "(LSphereSheets$Cover;LSphereSheets$Cover;)Z"⟩, 8), (⟨"SphereSheets$Ring", "keep", "(I)V"⟩, 3), (⟨"SphereSheets$Ring", "known", "(I)Z"⟩, 3), (⟨"SphereSheets$Ring", "isLeastAt", "(II)Z"⟩, 3), (⟨"SphereSheets$Shapes", "listAll", "(I)V"⟩, 4)]
theorem lw_r1 : ∀ q ∈ lw_privs_1, lw_okq q := List.forall_mem_cons.mpr ⟨lw_p0, List.forall_mem_cons.mpr ⟨lw_p1, List.forall_mem_cons.mpr ⟨lw_p2, List.forall_mem_cons.mpr ⟨lw_p3, List.forall_mem_cons.mpr ⟨lw_p4, List.forall_mem_cons.mpr ⟨lw_p5, List.forall_mem_cons.mpr ⟨lw_p6, List.forall_mem_cons.mpr ⟨lw_p7, List.forall_mem_cons.mpr ⟨lw_p8, List.forall_mem_cons.mpr ⟨lw_p9, List.forall_mem_cons.mpr ⟨lw_p10, List.forall_mem_cons.mpr ⟨lw_p11, List.forall_mem_cons.mpr ⟨lw_p12, List.forall_mem_cons.mpr ⟨lw_p13, List.forall_mem_cons.mpr ⟨lw_p14, List.forall_mem_cons.mpr ⟨lw_p15, fun _ h => absurd h List.not_mem_nil⟩⟩⟩⟩⟩⟩⟩⟩⟩⟩⟩⟩⟩⟩⟩⟩
theorem lw_p16 : lw_okq (⟨"SphereSheets$Shapes", "nextBelow", "(JI)J"⟩, 4) := ⟨⟨by decide +kernel, by decide +kernel⟩, List.mem_of_getElem? (i := 114) (by decide +kernel), List.mem_of_getElem? (i := 775) (by decide +kernel), List.mem_of_getElem? (i := 776) (by decide +kernel)⟩
theorem lw_p17 : lw_okq (⟨"SphereSheets$Shapes", "cutAndJoined", "(JII)J"⟩, 4) := ⟨⟨by decide +kernel, by decide +kernel⟩, List.mem_of_getElem? (i := 114) (by decide +kernel), List.mem_of_getElem? (i := 780) (by decide +kernel), List.mem_of_getElem? (i := 781) (by decide +kernel)⟩
theorem lw_p18 : lw_okq (⟨"SphereSheets$Shapes", "cut", "(JII)J"⟩, 4) := ⟨⟨by decide +kernel, by decide +kernel⟩, List.mem_of_getElem? (i := 114) (by decide +kernel), List.mem_of_getElem? (i := 784) (by decide +kernel), List.mem_of_getElem? (i := 785) (by decide +kernel)⟩
theorem lw_p19 : lw_okq (⟨"SphereSheets$Shapes", "indexOf", "(J)I"⟩, 4) := ⟨⟨by decide +kernel, by decide +kernel⟩, List.mem_of_getElem? (i := 114) (by decide +kernel), List.mem_of_getElem? (i := 788) (by decide +kernel), List.mem_of_getElem? (i := 789) (by decide +kernel)⟩
theorem lw_p20 : lw_okq (⟨"SphereSheets", "rowsThere", "()I"⟩, 8) := ⟨⟨by decide +kernel, by decide +kernel⟩, List.mem_of_getElem? (i := 20) (by decide +kernel), List.mem_of_getElem? (i := 814) (by decide +kernel), List.mem_of_getElem? (i := 815) (by decide +kernel)⟩
theorem lw_p21 : lw_okq (⟨"SphereSheets", "coversThere", "(I)I"⟩, 8) := ⟨⟨by decide +kernel, by decide +kernel⟩, List.mem_of_getElem? (i := 20) (by decide +kernel), List.mem_of_getElem? (i := 818) (by decide +kernel), List.mem_of_getElem? (i := 819) (by decide +kernel)⟩
theorem lw_p22 : lw_okq (⟨"SphereSheetsModel", "found", "(I)I"⟩, 26) := ⟨⟨by decide +kernel, by decide +kernel⟩, List.mem_of_getElem? (i := 826) (by decide +kernel), List.mem_of_getElem? (i := 925) (by decide +kernel), List.mem_of_getElem? (i := 926) (by decide +kernel)⟩
theorem lw_p23 : lw_okq (⟨"SphereSheetsModel", "put", "(IIII)V"⟩, 26) := ⟨⟨by decide +kernel, by decide +kernel⟩, List.mem_of_getElem? (i := 826) (by decide +kernel), List.mem_of_getElem? (i := 952) (by decide +kernel), List.mem_of_getElem? (i := 953) (by decide +kernel)⟩
theorem lw_p24 : lw_okq (⟨"SphereSheetsModel", "lay", "(I)I"⟩, 26) := ⟨⟨by decide +kernel, by decide +kernel⟩, List.mem_of_getElem? (i := 826) (by decide +kernel), List.mem_of_getElem? (i := 956) (by decide +kernel), List.mem_of_getElem? (i := 957) (by decide +kernel)⟩
theorem lw_p25 : lw_okq (⟨"SphereSheetsModel", "become", "(II)V"⟩, 26) := ⟨⟨by decide +kernel, by decide +kernel⟩, List.mem_of_getElem? (i := 826) (by decide +kernel), List.mem_of_getElem? (i := 960) (by decide +kernel), List.mem_of_getElem? (i := 961) (by decide +kernel)⟩
theorem lw_p26 : lw_okq (⟨"SphereSheetsModel", "kindOf", "(I)I"⟩, 26) := ⟨⟨by decide +kernel, by decide +kernel⟩, List.mem_of_getElem? (i := 826) (by decide +kernel), List.mem_of_getElem? (i := 964) (by decide +kernel), List.mem_of_getElem? (i := 965) (by decide +kernel)⟩
theorem lw_p27 : lw_okq (⟨"SphereSheetsModel", "at", "(III)I"⟩, 26) := ⟨⟨by decide +kernel, by decide +kernel⟩, List.mem_of_getElem? (i := 826) (by decide +kernel), List.mem_of_getElem? (i := 968) (by decide +kernel), List.mem_of_getElem? (i := 969) (by decide +kernel)⟩
theorem lw_p28 : lw_okq (⟨"SphereSheetsModel", "rounds", "(II)I"⟩, 26) := ⟨⟨by decide +kernel, by decide +kernel⟩, List.mem_of_getElem? (i := 826) (by decide +kernel), List.mem_of_getElem? (i := 972) (by decide +kernel), List.mem_of_getElem? (i := 973) (by decide +kernel)⟩
theorem lw_p29 : lw_okq (⟨"SphereSheetsModel", "look", "(IZ)I"⟩, 26) := ⟨⟨by decide +kernel, by decide +kernel⟩, List.mem_of_getElem? (i := 826) (by decide +kernel), List.mem_of_getElem? (i := 980) (by decide +kernel), List.mem_of_getElem? (i := 981) (by decide +kernel)⟩
theorem lw_p30 : lw_okq (⟨"SphereSheetsModel", "parts", "(I)I"⟩, 26) := ⟨⟨by decide +kernel, by decide +kernel⟩, List.mem_of_getElem? (i := 826) (by decide +kernel), List.mem_of_getElem? (i := 984) (by decide +kernel), List.mem_of_getElem? (i := 985) (by decide +kernel)⟩
theorem lw_p31 : lw_okq (⟨"SphereSheetsModel", "least", "(II)I"⟩, 26) := ⟨⟨by decide +kernel, by decide +kernel⟩, List.mem_of_getElem? (i := 826) (by decide +kernel), List.mem_of_getElem? (i := 992) (by decide +kernel), List.mem_of_getElem? (i := 993) (by decide +kernel)⟩
def lw_privs_2 : List (MethodName × Nat) := [(⟨"SphereSheets$Shapes", "nextBelow", "(JI)J"⟩, 4), (⟨"SphereSheets$Shapes", "cutAndJoined", "(JII)J"⟩, 4), (⟨"SphereSheets$Shapes", "cut", "(JII)J"⟩, 4), (⟨"SphereSheets$Shapes", "indexOf", "(J)I"⟩, 4), (⟨"SphereSheets", "rowsThere", "()I"⟩, 8), (⟨"SphereSheets", "coversThere", "(I)I"⟩, 8), (⟨"SphereSheetsModel", "found", "(I)I"⟩, 26), (⟨"SphereSheetsModel", "put", "(IIII)V"⟩, 26), (⟨"SphereSheetsModel", "lay", "(I)I"⟩, 26), (⟨"SphereSheetsModel", "become", "(II)V"⟩, 26), (⟨"SphereSheetsModel", "kindOf", "(I)I"⟩, 26), (⟨"SphereSheetsModel", "at", "(III)I"⟩, 26), (⟨"SphereSheetsModel", "rounds", "(II)I"⟩, 26), (⟨"SphereSheetsModel", "look", "(IZ)I"⟩, 26), (⟨"SphereSheetsModel", "parts", "(I)I"⟩, 26), (⟨"SphereSheetsModel", "least", "(II)I"⟩, 26)]
theorem lw_r2 : ∀ q ∈ lw_privs_2, lw_okq q := List.forall_mem_cons.mpr ⟨lw_p16, List.forall_mem_cons.mpr ⟨lw_p17, List.forall_mem_cons.mpr ⟨lw_p18, List.forall_mem_cons.mpr ⟨lw_p19, List.forall_mem_cons.mpr ⟨lw_p20, List.forall_mem_cons.mpr ⟨lw_p21, List.forall_mem_cons.mpr ⟨lw_p22, List.forall_mem_cons.mpr ⟨lw_p23, List.forall_mem_cons.mpr ⟨lw_p24, List.forall_mem_cons.mpr ⟨lw_p25, List.forall_mem_cons.mpr ⟨lw_p26, List.forall_mem_cons.mpr ⟨lw_p27, List.forall_mem_cons.mpr ⟨lw_p28, List.forall_mem_cons.mpr ⟨lw_p29, List.forall_mem_cons.mpr ⟨lw_p30, List.forall_mem_cons.mpr ⟨lw_p31, fun _ h => absurd h List.not_mem_nil⟩⟩⟩⟩⟩⟩⟩⟩⟩⟩⟩⟩⟩⟩⟩⟩
theorem lw_p32 : lw_okq (⟨"SphereSheetsModel", "rename", "(III)V"⟩, 26) := ⟨⟨by decide +kernel, by decide +kernel⟩, List.mem_of_getElem? (i := 826) (by decide +kernel), List.mem_of_getElem? (i := 996) (by decide +kernel), List.mem_of_getElem? (i := 997) (by decide +kernel)⟩
theorem lw_p33 : lw_okq (⟨"SphereSheetsModel", "compare", "(II)I"⟩, 26) := ⟨⟨by decide +kernel, by decide +kernel⟩, List.mem_of_getElem? (i := 826) (by decide +kernel), List.mem_of_getElem? (i := 1000) (by decide +kernel), List.mem_of_getElem? (i := 1001) (by decide +kernel)⟩
theorem lw_p34 : lw_okq (⟨"SphereSheetsModel", "isSheet", "(II)Z"⟩, 26) := ⟨⟨by decide +kernel, by decide +kernel⟩, List.mem_of_getElem? (i := 826) (by decide +kernel), List.mem_of_getElem? (i := 1008) (by decide +kernel), List.mem_of_getElem? (i := 1009) (by decide +kernel)⟩
theorem lw_p35 : lw_okq (⟨"SphereSheetsModel", "blocks", "(III)I"⟩, 26) := ⟨⟨by decide +kernel, by decide +kernel⟩, List.mem_of_getElem? (i := 826) (by decide +kernel), List.mem_of_getElem? (i := 1012) (by decide +kernel), List.mem_of_getElem? (i := 1013) (by decide +kernel)⟩
theorem lw_p36 : lw_okq (⟨"SphereSheetsModel", "merge", "(III)V"⟩, 26) := ⟨⟨by decide +kernel, by decide +kernel⟩, List.mem_of_getElem? (i := 826) (by decide +kernel), List.mem_of_getElem? (i := 1016) (by decide +kernel), List.mem_of_getElem? (i := 1017) (by decide +kernel)⟩
theorem lw_p37 : lw_okq (⟨"SphereSheetsModel", "braided", "(IIII)V"⟩, 26) := ⟨⟨by decide +kernel, by decide +kernel⟩, List.mem_of_getElem? (i := 826) (by decide +kernel), List.mem_of_getElem? (i := 1024) (by decide +kernel), List.mem_of_getElem? (i := 1025) (by decide +kernel)⟩
theorem lw_p38 : lw_okq (⟨"SphereSheetsModel", "backAt", "(III)I"⟩, 26) := ⟨⟨by decide +kernel, by decide +kernel⟩, List.mem_of_getElem? (i := 826) (by decide +kernel), List.mem_of_getElem? (i := 1028) (by decide +kernel), List.mem_of_getElem? (i := 1029) (by decide +kernel)⟩
theorem lw_p39 : lw_okq (⟨"SphereSheetsModel", "heap", "(I)I"⟩, 26) := ⟨⟨by decide +kernel, by decide +kernel⟩, List.mem_of_getElem? (i := 826) (by decide +kernel), List.mem_of_getElem? (i := 1050) (by decide +kernel), List.mem_of_getElem? (i := 1051) (by decide +kernel)⟩
theorem lw_p40 : lw_okq (⟨"SphereSheetsModel", "sift", "(I)Z"⟩, 26) := ⟨⟨by decide +kernel, by decide +kernel⟩, List.mem_of_getElem? (i := 826) (by decide +kernel), List.mem_of_getElem? (i := 1054) (by decide +kernel), List.mem_of_getElem? (i := 1055) (by decide +kernel)⟩
theorem lw_p41 : lw_okq (⟨"SphereSheetsModel", "isName", "(I)Z"⟩, 26) := ⟨⟨by decide +kernel, by decide +kernel⟩, List.mem_of_getElem? (i := 826) (by decide +kernel), List.mem_of_getElem? (i := 1079) (by decide +kernel), List.mem_of_getElem? (i := 1080) (by decide +kernel)⟩
theorem lw_p42 : lw_okq (⟨"SphereSheetsModel", "sized", "(I)I"⟩, 26) := ⟨⟨by decide +kernel, by decide +kernel⟩, List.mem_of_getElem? (i := 826) (by decide +kernel), List.mem_of_getElem? (i := 1108) (by decide +kernel), List.mem_of_getElem? (i := 1109) (by decide +kernel)⟩
theorem lw_p43 : lw_okq (⟨"SphereSheetsModel", "began", "(I)V"⟩, 26) := ⟨⟨by decide +kernel, by decide +kernel⟩, List.mem_of_getElem? (i := 826) (by decide +kernel), List.mem_of_getElem? (i := 1112) (by decide +kernel), List.mem_of_getElem? (i := 1113) (by decide +kernel)⟩
theorem lw_p44 : lw_okq (⟨"SphereSheetsModel", "marked", "(I)I"⟩, 26) := ⟨⟨by decide +kernel, by decide +kernel⟩, List.mem_of_getElem? (i := 826) (by decide +kernel), List.mem_of_getElem? (i := 1116) (by decide +kernel), List.mem_of_getElem? (i := 1117) (by decide +kernel)⟩
theorem lw_p45 : lw_okq (⟨"SphereSheetsModel", "findShapes", "(I)V"⟩, 26) := ⟨⟨by decide +kernel, by decide +kernel⟩, List.mem_of_getElem? (i := 826) (by decide +kernel), List.mem_of_getElem? (i := 1130) (by decide +kernel), List.mem_of_getElem? (i := 1131) (by decide +kernel)⟩
theorem lw_p46 : lw_okq (⟨"SphereSheetsModel", "changed", "(IIIII)I"⟩, 26) := ⟨⟨by decide +kernel, by decide +kernel⟩, List.mem_of_getElem? (i := 826) (by decide +kernel), List.mem_of_getElem? (i := 1134) (by decide +kernel), List.mem_of_getElem? (i := 1135) (by decide +kernel)⟩
def lw_privs_3 : List (MethodName × Nat) := [(⟨"SphereSheetsModel", "rename", "(III)V"⟩, 26), (⟨"SphereSheetsModel", "compare", "(II)I"⟩, 26), (⟨"SphereSheetsModel", "isSheet", "(II)Z"⟩, 26), (⟨"SphereSheetsModel", "blocks", "(III)I"⟩, 26), (⟨"SphereSheetsModel", "merge", "(III)V"⟩, 26), (⟨"SphereSheetsModel", "braided", "(IIII)V"⟩, 26), (⟨"SphereSheetsModel", "backAt", "(III)I"⟩, 26), (⟨"SphereSheetsModel", "heap", "(I)I"⟩, 26), (⟨"SphereSheetsModel", "sift", "(I)Z"⟩, 26), (⟨"SphereSheetsModel", "isName", "(I)Z"⟩, 26), (⟨"SphereSheetsModel", "sized", "(I)I"⟩, 26), (⟨"SphereSheetsModel", "began", "(I)V"⟩, 26), (⟨"SphereSheetsModel", "marked", "(I)I"⟩, 26), (⟨"SphereSheetsModel", "findShapes", "(I)V"⟩, 26), (⟨"SphereSheetsModel", "changed", "(IIIII)I"⟩, 26)]
theorem lw_r3 : ∀ q ∈ lw_privs_3, lw_okq q := List.forall_mem_cons.mpr ⟨lw_p32, List.forall_mem_cons.mpr ⟨lw_p33, List.forall_mem_cons.mpr ⟨lw_p34, List.forall_mem_cons.mpr ⟨lw_p35, List.forall_mem_cons.mpr ⟨lw_p36, List.forall_mem_cons.mpr ⟨lw_p37, List.forall_mem_cons.mpr ⟨lw_p38, List.forall_mem_cons.mpr ⟨lw_p39, List.forall_mem_cons.mpr ⟨lw_p40, List.forall_mem_cons.mpr ⟨lw_p41, List.forall_mem_cons.mpr ⟨lw_p42, List.forall_mem_cons.mpr ⟨lw_p43, List.forall_mem_cons.mpr ⟨lw_p44, List.forall_mem_cons.mpr ⟨lw_p45, List.forall_mem_cons.mpr ⟨lw_p46, fun _ h => absurd h List.not_mem_nil⟩⟩⟩⟩⟩⟩⟩⟩⟩⟩⟩⟩⟩⟩⟩
def lw_privs : List (MethodName × Nat) := lw_privs_1 ++ (lw_privs_2 ++ (lw_privs_3))
def lw_tbl : List Cond := k2_sels lw_privs ++ tables_1
theorem lw_privs_ok : ∀ q ∈ lw_privs, lw_okq q := by
  show ∀ q ∈ lw_privs_1 ++ (lw_privs_2 ++ (lw_privs_3)), lw_okq q
  exact List.forall_mem_append.mpr ⟨lw_r1, List.forall_mem_append.mpr ⟨lw_r2, lw_r3⟩⟩
def RX0 : String := "SphereSheets$Bristled"
def TX0 : u_T := fun k => match k with
  | 0 => ("SphereSheets$Cover", "n", "I", true)
  | 1 => ("SphereSheets$Cover", "turns", "[J", true)
  | _ => ("SphereSheets$Cover", "parts", "I", true)
def tyX0 : Nat → FieldType := fun k => match k with
  | 0 => .int
  | 1 => .array .long
  | _ => .int
theorem nmX0 : ∀ a, a < 3 → ∀ b, b < 3 → a ≠ b → (TX0 a).2.1 ≠ (TX0 b).2.1 := by decide +kernel
theorem tyX0_ok : ∀ k, k < 3 → parseFieldDescriptor (TX0 k).2.2.1 = some (tyX0 k) := by decide +kernel
abbrev cX0_init : ByteArray := prog_2_method_1_code
def yX0_init : MethodName := ⟨RX0, "<init>", "(I[JI)V"⟩
abbrev cX0_kindNumber : ByteArray := prog_2_method_2_code
def yX0_kindNumber : MethodName := ⟨RX0, "kindNumber", "()I"⟩
abbrev cX0_sizeAsked : ByteArray := prog_2_method_3_code
def yX0_sizeAsked : MethodName := ⟨RX0, "sizeAsked", "(LSphereSheets$Row;)I"⟩
def RX1 : String := "SphereSheets$Cover"
def TX1 : u_T := fun k => match k with
  | 0 => ("SphereSheets$Cover", "n", "I", true)
  | 1 => ("SphereSheets$Cover", "turns", "[J", true)
  | _ => ("SphereSheets$Cover", "parts", "I", true)
def tyX1 : Nat → FieldType := fun k => match k with
  | 0 => .int
  | 1 => .array .long
  | _ => .int
theorem nmX1 : ∀ a, a < 3 → ∀ b, b < 3 → a ≠ b → (TX1 a).2.1 ≠ (TX1 b).2.1 := by decide +kernel
theorem tyX1_ok : ∀ k, k < 3 → parseFieldDescriptor (TX1 k).2.2.1 = some (tyX1 k) := by decide +kernel
abbrev cX1_init : ByteArray := prog_3_method_1_code
def yX1_init : MethodName := ⟨RX1, "<init>", "(I[JI)V"⟩
abbrev cX1_of : ByteArray := prog_3_method_2_code
def yX1_of : MethodName := ⟨RX1, "of", "(I[J)LSphereSheets$Cover;"⟩
abbrev cX1_exchangesAhead : ByteArray := prog_3_method_3_code
def yX1_exchangesAhead : MethodName := ⟨RX1, "exchangesAhead", "(I[J)Z"⟩
abbrev cX1_kindNumber : ByteArray := prog_3_method_4_code
def yX1_kindNumber : MethodName := ⟨RX1, "kindNumber", "()I"⟩
abbrev cX1_sizeAsked : ByteArray := prog_3_method_5_code
def yX1_sizeAsked : MethodName := ⟨RX1, "sizeAsked", "(LSphereSheets$Row;)I"⟩
abbrev cX1_markAsked : ByteArray := prog_3_method_6_code
def yX1_markAsked : MethodName := ⟨RX1, "markAsked", "(LSphereSheets$Row;)I"⟩
abbrev cX1_noSheet : ByteArray := prog_3_method_7_code
def yX1_noSheet : MethodName := ⟨RX1, "noSheet", "(I)Z"⟩
abbrev cX1_noTurn : ByteArray := prog_3_method_8_code
def yX1_noTurn : MethodName := ⟨RX1, "noTurn", "(I)Z"⟩
abbrev cX1_turnAt : ByteArray := prog_3_method_9_code
def yX1_turnAt : MethodName := ⟨RX1, "turnAt", "(I)J"⟩
abbrev cX1_noStep : ByteArray := prog_3_method_10_code
def yX1_noStep : MethodName := ⟨RX1, "noStep", "(I)Z"⟩
abbrev cX1_stepped : ByteArray := prog_3_method_11_code
def yX1_stepped : MethodName := ⟨RX1, "stepped", "(II)I"⟩
abbrev cX1_rounds : ByteArray := prog_3_method_12_code
def yX1_rounds : MethodName := ⟨RX1, "rounds", "(I)I"⟩
abbrev cX1_whole : ByteArray := prog_3_method_13_code
def yX1_whole : MethodName := ⟨RX1, "whole", "()Z"⟩
abbrev cX1_holes : ByteArray := prog_3_method_14_code
def yX1_holes : MethodName := ⟨RX1, "holes", "()I"⟩
abbrev cX1_blockLabels : ByteArray := prog_3_method_15_code
def yX1_blockLabels : MethodName := ⟨RX1, "blockLabels", "(II)J"⟩
abbrev cX1_partAlone : ByteArray := prog_3_method_16_code
def yX1_partAlone : MethodName := ⟨RX1, "partAlone", "(I)LSphereSheets$Cover;"⟩
abbrev cX1_ofBlocks : ByteArray := prog_3_method_17_code
def yX1_ofBlocks : MethodName := ⟨RX1, "ofBlocks", "(II)LSphereSheets$Cover;"⟩
abbrev cX1_narrowed : ByteArray := prog_3_method_18_code
def yX1_narrowed : MethodName := ⟨RX1, "narrowed", "(IJ)[J"⟩
abbrev cX1_ledPast : ByteArray := prog_3_method_19_code
def yX1_ledPast : MethodName := ⟨RX1, "ledPast", "(IZ)LSphereSheets$Cover;"⟩
abbrev cX1_mirror : ByteArray := prog_3_method_20_code
def yX1_mirror : MethodName := ⟨RX1, "mirror", "()LSphereSheets$Cover;"⟩
abbrev cX1_laidOver : ByteArray := prog_3_method_21_code
def yX1_laidOver : MethodName := ⟨RX1, "laidOver", "(LSphereSheets$Cover;)LSphereSheets$Cover;"⟩
def RX2 : String := "SphereSheets$Heap"
def TX2 : u_T := fun k => match k with
  | 0 => ("SphereSheets$Heap", "kept", "[J", true)
  | 1 => ("SphereSheets$Heap", "backs", "[J", true)
  | _ => ("SphereSheets$Heap", "many", "I", false)
def tyX2 : Nat → FieldType := fun k => match k with
  | 0 => .array .long
  | 1 => .array .long
  | _ => .int
theorem nmX2 : ∀ a, a < 3 → ∀ b, b < 3 → a ≠ b → (TX2 a).2.1 ≠ (TX2 b).2.1 := by decide +kernel
theorem tyX2_ok : ∀ k, k < 3 → parseFieldDescriptor (TX2 k).2.2.1 = some (tyX2 k) := by decide +kernel
abbrev cX2_init : ByteArray := prog_4_method_1_code
def yX2_init : MethodName := ⟨RX2, "<init>", "()V"⟩
abbrev cX2_orders : ByteArray := prog_4_method_2_code
def yX2_orders : MethodName := ⟨RX2, "orders", "(LSphereSheets$Cover;)I"⟩
abbrev cX2_sift : ByteArray := prog_4_method_3_code
def yX2_sift : MethodName := ⟨RX2, "sift", "(JI)V"⟩
abbrev cX2_product : ByteArray := prog_4_method_4_code
def yX2_product : MethodName := ⟨RX2, "product", "(I)I"⟩
def RX3 : String := "SphereSheets$Namer"
def TX3 : u_T := fun k => match k with
  | 0 => ("SphereSheets$Namer", "least", "[J", true)
  | 1 => ("SphereSheets$Namer", "likes", "I", false)
  | 2 => ("SphereSheets$Namer", "newOf", "J", false)
  | _ => ("SphereSheets$Namer", "oldOf", "J", false)
def tyX3 : Nat → FieldType := fun k => match k with
  | 0 => .array .long
  | 1 => .int
  | 2 => .long
  | _ => .long
theorem nmX3 : ∀ a, a < 4 → ∀ b, b < 4 → a ≠ b → (TX3 a).2.1 ≠ (TX3 b).2.1 := by decide +kernel
theorem tyX3_ok : ∀ k, k < 4 → parseFieldDescriptor (TX3 k).2.2.1 = some (tyX3 k) := by decide +kernel
abbrev cX3_init : ByteArray := prog_5_method_1_code
def yX3_init : MethodName := ⟨RX3, "<init>", "()V"⟩
abbrev cX3_find : ByteArray := prog_5_method_2_code
def yX3_find : MethodName := ⟨RX3, "find", "([JI)V"⟩
abbrev cX3_numberFrom : ByteArray := prog_5_method_3_code
def yX3_numberFrom : MethodName := ⟨RX3, "numberFrom", "(I[JI)Z"⟩
abbrev cX3_renamed : ByteArray := prog_5_method_4_code
def yX3_renamed : MethodName := ⟨RX3, "renamed", "(JI)J"⟩
abbrev cX3_againstLeast : ByteArray := prog_5_method_5_code
def yX3_againstLeast : MethodName := ⟨RX3, "againstLeast", "([JI)I"⟩
abbrev cX3_keepAsLeast : ByteArray := prog_5_method_6_code
def yX3_keepAsLeast : MethodName := ⟨RX3, "keepAsLeast", "([JI)V"⟩
def RX4 : String := "SphereSheets$One"
def TX4 : u_T := fun k => match k with
  | 0 => ("SphereSheets$Cover", "n", "I", true)
  | 1 => ("SphereSheets$Cover", "turns", "[J", true)
  | _ => ("SphereSheets$Cover", "parts", "I", true)
def tyX4 : Nat → FieldType := fun k => match k with
  | 0 => .int
  | 1 => .array .long
  | _ => .int
theorem nmX4 : ∀ a, a < 3 → ∀ b, b < 3 → a ≠ b → (TX4 a).2.1 ≠ (TX4 b).2.1 := by decide +kernel
theorem tyX4_ok : ∀ k, k < 3 → parseFieldDescriptor (TX4 k).2.2.1 = some (tyX4 k) := by decide +kernel
abbrev cX4_init : ByteArray := prog_6_method_1_code
def yX4_init : MethodName := ⟨RX4, "<init>", "(I[JI)V"⟩
abbrev cX4_kindNumber : ByteArray := prog_6_method_2_code
def yX4_kindNumber : MethodName := ⟨RX4, "kindNumber", "()I"⟩
abbrev cX4_sizeAsked : ByteArray := prog_6_method_3_code
def yX4_sizeAsked : MethodName := ⟨RX4, "sizeAsked", "(LSphereSheets$Row;)I"⟩
abbrev cX4_markAsked : ByteArray := prog_6_method_4_code
def yX4_markAsked : MethodName := ⟨RX4, "markAsked", "(LSphereSheets$Row;)I"⟩
def RX5 : String := "SphereSheets$Orders"
def TX5 : u_T := fun k => match k with
  | _ => ("", "", "", false)
def tyX5 : Nat → FieldType := fun k => match k with
  | _ => .int
theorem nmX5 : ∀ a, a < 0 → ∀ b, b < 0 → a ≠ b → (TX5 a).2.1 ≠ (TX5 b).2.1 := by decide +kernel
theorem tyX5_ok : ∀ k, k < 0 → parseFieldDescriptor (TX5 k).2.2.1 = some (tyX5 k) := by decide +kernel
abbrev cX5_at : ByteArray := prog_7_method_2_code
def yX5_at : MethodName := ⟨RX5, "at", "(JI)I"⟩
abbrev cX5_with : ByteArray := prog_7_method_3_code
def yX5_with : MethodName := ⟨RX5, "with", "(JII)J"⟩
abbrev cX5_still : ByteArray := prog_7_method_4_code
def yX5_still : MethodName := ⟨RX5, "still", "(I)J"⟩
abbrev cX5_behind : ByteArray := prog_7_method_5_code
def yX5_behind : MethodName := ⟨RX5, "behind", "(JJI)J"⟩
abbrev cX5_inverse : ByteArray := prog_7_method_6_code
def yX5_inverse : MethodName := ⟨RX5, "inverse", "(JI)J"⟩
abbrev cX5_merged : ByteArray := prog_7_method_7_code
def yX5_merged : MethodName := ⟨RX5, "merged", "(JIII)J"⟩
abbrev cX5_mergedAlong : ByteArray := prog_7_method_8_code
def yX5_mergedAlong : MethodName := ⟨RX5, "mergedAlong", "(JJJI)J"⟩
abbrev cX5_ledTogether : ByteArray := prog_7_method_9_code
def yX5_ledTogether : MethodName := ⟨RX5, "ledTogether", "([JI)J"⟩
abbrev cX5_leaders : ByteArray := prog_7_method_10_code
def yX5_leaders : MethodName := ⟨RX5, "leaders", "(JI)I"⟩
abbrev cX5_groups : ByteArray := prog_7_method_11_code
def yX5_groups : MethodName := ⟨RX5, "groups", "(JI)I"⟩
abbrev cX5_withFirst : ByteArray := prog_7_method_12_code
def yX5_withFirst : MethodName := ⟨RX5, "withFirst", "(JI)I"⟩
abbrev cX5_leadForward : ByteArray := prog_7_method_13_code
def yX5_leadForward : MethodName := ⟨RX5, "leadForward", "([JII)V"⟩
abbrev cX5_leadBack : ByteArray := prog_7_method_14_code
def yX5_leadBack : MethodName := ⟨RX5, "leadBack", "([JII)V"⟩
def RX6 : String := "SphereSheets$Ring"
def TX6 : u_T := fun k => match k with
  | 0 => ("SphereSheets$Ring", "namer", "LSphereSheets$Namer;", true)
  | 1 => ("SphereSheets$Ring", "names", "[J", true)
  | _ => ("SphereSheets$Ring", "many", "I", false)
def tyX6 : Nat → FieldType := fun k => match k with
  | 0 => .object "SphereSheets$Namer"
  | 1 => .array .long
  | _ => .int
theorem nmX6 : ∀ a, a < 3 → ∀ b, b < 3 → a ≠ b → (TX6 a).2.1 ≠ (TX6 b).2.1 := by decide +kernel
theorem tyX6_ok : ∀ k, k < 3 → parseFieldDescriptor (TX6 k).2.2.1 = some (tyX6 k) := by decide +kernel
abbrev cX6_init : ByteArray := prog_8_method_1_code
def yX6_init : MethodName := ⟨RX6, "<init>", "()V"⟩
abbrev cX6_walk : ByteArray := prog_8_method_2_code
def yX6_walk : MethodName := ⟨RX6, "walk", "(LSphereSheets$Cover;)I"⟩
abbrev cX6_keep : ByteArray := prog_8_method_3_code
def yX6_keep : MethodName := ⟨RX6, "keep", "(I)V"⟩
abbrev cX6_known : ByteArray := prog_8_method_4_code
def yX6_known : MethodName := ⟨RX6, "known", "(I)Z"⟩
abbrev cX6_isLeastAt : ByteArray := prog_8_method_5_code
def yX6_isLeastAt : MethodName := ⟨RX6, "isLeastAt", "(II)Z"⟩
def RX7 : String := "SphereSheets$Row"
def TX7 : u_T := fun k => match k with
  | 0 => ("SphereSheets$Row", "items", "[I", true)
  | 1 => ("SphereSheets$Row", "lane", "I", false)
  | _ => ("SphereSheets$Row", "size", "I", false)
def tyX7 : Nat → FieldType := fun k => match k with
  | 0 => .array .int
  | 1 => .int
  | _ => .int
theorem nmX7 : ∀ a, a < 3 → ∀ b, b < 3 → a ≠ b → (TX7 a).2.1 ≠ (TX7 b).2.1 := by decide +kernel
theorem tyX7_ok : ∀ k, k < 3 → parseFieldDescriptor (TX7 k).2.2.1 = some (tyX7 k) := by decide +kernel
abbrev cX7_init : ByteArray := prog_9_method_1_code
def yX7_init : MethodName := ⟨RX7, "<init>", "(I)V"⟩
abbrev cX7_missing : ByteArray := prog_9_method_2_code
def yX7_missing : MethodName := ⟨RX7, "missing", "()Z"⟩
abbrev cX7_begin : ByteArray := prog_9_method_3_code
def yX7_begin : MethodName := ⟨RX7, "begin", "(II)V"⟩
abbrev cX7_end : ByteArray := prog_9_method_4_code
def yX7_end : MethodName := ⟨RX7, "end", "()V"⟩
abbrev cX7_holds : ByteArray := prog_9_method_5_code
def yX7_holds : MethodName := ⟨RX7, "holds", "(II)Z"⟩
abbrev cX7_item : ByteArray := prog_9_method_6_code
def yX7_item : MethodName := ⟨RX7, "item", "(I)I"⟩
abbrev cX7_put : ByteArray := prog_9_method_7_code
def yX7_put : MethodName := ⟨RX7, "put", "(II)I"⟩
abbrev cX7_add : ByteArray := prog_9_method_8_code
def yX7_add : MethodName := ⟨RX7, "add", "(I)V"⟩
abbrev cX7_take : ByteArray := prog_9_method_9_code
def yX7_take : MethodName := ⟨RX7, "take", "(ILSphereSheets$Row;II)V"⟩
abbrev cX7_orderFrom : ByteArray := prog_9_method_10_code
def yX7_orderFrom : MethodName := ⟨RX7, "orderFrom", "(II)J"⟩
def RX8 : String := "SphereSheets$Shapes"
def TX8 : u_T := fun k => match k with
  | 0 => ("SphereSheets$Shapes", "list", "[J", true)
  | 1 => ("SphereSheets$Shapes", "ways", "[J", true)
  | 2 => ("SphereSheets$Shapes", "listedFor", "I", false)
  | _ => ("SphereSheets$Shapes", "many", "I", false)
def tyX8 : Nat → FieldType := fun k => match k with
  | 0 => .array .long
  | 1 => .array .long
  | 2 => .int
  | _ => .int
theorem nmX8 : ∀ a, a < 4 → ∀ b, b < 4 → a ≠ b → (TX8 a).2.1 ≠ (TX8 b).2.1 := by decide +kernel
theorem tyX8_ok : ∀ k, k < 4 → parseFieldDescriptor (TX8 k).2.2.1 = some (tyX8 k) := by decide +kernel
abbrev cX8_init : ByteArray := prog_10_method_1_code
def yX8_init : MethodName := ⟨RX8, "<init>", "()V"⟩
abbrev cX8_one : ByteArray := prog_10_method_2_code
def yX8_one : MethodName := ⟨RX8, "one", "(I)J"⟩
abbrev cX8_times : ByteArray := prog_10_method_3_code
def yX8_times : MethodName := ⟨RX8, "times", "(JI)I"⟩
abbrev cX8_lengthsOf : ByteArray := prog_10_method_4_code
def yX8_lengthsOf : MethodName := ⟨RX8, "lengthsOf", "(JI)J"⟩
abbrev cX8_total : ByteArray := prog_10_method_5_code
def yX8_total : MethodName := ⟨RX8, "total", "(J)I"⟩
abbrev cX8_lengthAt : ByteArray := prog_10_method_6_code
def yX8_lengthAt : MethodName := ⟨RX8, "lengthAt", "(JI)I"⟩
abbrev cX8_lacks : ByteArray := prog_10_method_7_code
def yX8_lacks : MethodName := ⟨RX8, "lacks", "(I)Z"⟩
abbrev cX8_lengthsAt : ByteArray := prog_10_method_8_code
def yX8_lengthsAt : MethodName := ⟨RX8, "lengthsAt", "(I)J"⟩
abbrev cX8_rowsOf : ByteArray := prog_10_method_9_code
def yX8_rowsOf : MethodName := ⟨RX8, "rowsOf", "(II)J"⟩
abbrev cX8_prepare : ByteArray := prog_10_method_10_code
def yX8_prepare : MethodName := ⟨RX8, "prepare", "(I)V"⟩
abbrev cX8_listAll : ByteArray := prog_10_method_11_code
def yX8_listAll : MethodName := ⟨RX8, "listAll", "(I)V"⟩
abbrev cX8_nextBelow : ByteArray := prog_10_method_12_code
def yX8_nextBelow : MethodName := ⟨RX8, "nextBelow", "(JI)J"⟩
abbrev cX8_cutAndJoined : ByteArray := prog_10_method_13_code
def yX8_cutAndJoined : MethodName := ⟨RX8, "cutAndJoined", "(JII)J"⟩
abbrev cX8_cut : ByteArray := prog_10_method_14_code
def yX8_cut : MethodName := ⟨RX8, "cut", "(JII)J"⟩
abbrev cX8_indexOf : ByteArray := prog_10_method_15_code
def yX8_indexOf : MethodName := ⟨RX8, "indexOf", "(J)I"⟩
def RX9 : String := "SphereSheets$Simple"
def TX9 : u_T := fun k => match k with
  | 0 => ("SphereSheets$Cover", "n", "I", true)
  | 1 => ("SphereSheets$Cover", "turns", "[J", true)
  | _ => ("SphereSheets$Cover", "parts", "I", true)
def tyX9 : Nat → FieldType := fun k => match k with
  | 0 => .int
  | 1 => .array .long
  | _ => .int
theorem nmX9 : ∀ a, a < 3 → ∀ b, b < 3 → a ≠ b → (TX9 a).2.1 ≠ (TX9 b).2.1 := by decide +kernel
theorem tyX9_ok : ∀ k, k < 3 → parseFieldDescriptor (TX9 k).2.2.1 = some (tyX9 k) := by decide +kernel
abbrev cX9_init : ByteArray := prog_11_method_1_code
def yX9_init : MethodName := ⟨RX9, "<init>", "(I[JI)V"⟩
abbrev cX9_kindNumber : ByteArray := prog_11_method_2_code
def yX9_kindNumber : MethodName := ⟨RX9, "kindNumber", "()I"⟩
abbrev cX9_sizeAsked : ByteArray := prog_11_method_3_code
def yX9_sizeAsked : MethodName := ⟨RX9, "sizeAsked", "(LSphereSheets$Row;)I"⟩
def RX10 : String := "SphereSheets$Three"
def TX10 : u_T := fun k => match k with
  | 0 => ("SphereSheets$Cover", "n", "I", true)
  | 1 => ("SphereSheets$Cover", "turns", "[J", true)
  | _ => ("SphereSheets$Cover", "parts", "I", true)
def tyX10 : Nat → FieldType := fun k => match k with
  | 0 => .int
  | 1 => .array .long
  | _ => .int
theorem nmX10 : ∀ a, a < 3 → ∀ b, b < 3 → a ≠ b → (TX10 a).2.1 ≠ (TX10 b).2.1 := by decide +kernel
theorem tyX10_ok : ∀ k, k < 3 → parseFieldDescriptor (TX10 k).2.2.1 = some (tyX10 k) := by decide +kernel
abbrev cX10_init : ByteArray := prog_12_method_1_code
def yX10_init : MethodName := ⟨RX10, "<init>", "(I[JI)V"⟩
abbrev cX10_kindNumber : ByteArray := prog_12_method_2_code
def yX10_kindNumber : MethodName := ⟨RX10, "kindNumber", "()I"⟩
abbrev cX10_sizeAsked : ByteArray := prog_12_method_3_code
def yX10_sizeAsked : MethodName := ⟨RX10, "sizeAsked", "(LSphereSheets$Row;)I"⟩
abbrev cX10_markAsked : ByteArray := prog_12_method_4_code
def yX10_markAsked : MethodName := ⟨RX10, "markAsked", "(LSphereSheets$Row;)I"⟩
def RX11 : String := "SphereSheets"
def TX11 : u_T := fun k => match k with
  | 0 => ("SphereSheets", "rows", "[LSphereSheets$Row;", true)
  | 1 => ("SphereSheets", "shelf", "[LSphereSheets$Cover;", true)
  | 2 => ("SphereSheets", "traced", "LSphereSheets$Row;", true)
  | 3 => ("SphereSheets", "namer", "LSphereSheets$Namer;", true)
  | 4 => ("SphereSheets", "rings", "LSphereSheets$Ring;", true)
  | 5 => ("SphereSheets", "heap", "LSphereSheets$Heap;", true)
  | 6 => ("SphereSheets", "shapesListed", "LSphereSheets$Shapes;", true)
  | _ => ("SphereSheets", "finding", "I", false)
def tyX11 : Nat → FieldType := fun k => match k with
  | 0 => .array (.object "SphereSheets$Row")
  | 1 => .array (.object "SphereSheets$Cover")
  | 2 => .object "SphereSheets$Row"
  | 3 => .object "SphereSheets$Namer"
  | 4 => .object "SphereSheets$Ring"
  | 5 => .object "SphereSheets$Heap"
  | 6 => .object "SphereSheets$Shapes"
  | _ => .int
theorem nmX11 : ∀ a, a < 8 → ∀ b, b < 8 → a ≠ b → (TX11 a).2.1 ≠ (TX11 b).2.1 := by decide +kernel
theorem tyX11_ok : ∀ k, k < 8 → parseFieldDescriptor (TX11 k).2.2.1 = some (tyX11 k) := by decide +kernel
abbrev cX11_init : ByteArray := prog_1_method_1_code
def yX11_init : MethodName := ⟨RX11, "<init>", "()V"⟩
abbrev cX11_row : ByteArray := prog_1_method_2_code
def yX11_row : MethodName := ⟨RX11, "row", "(III)I"⟩
abbrev cX11_set : ByteArray := prog_1_method_3_code
def yX11_set : MethodName := ⟨RX11, "set", "(III)I"⟩
abbrev cX11_copy : ByteArray := prog_1_method_4_code
def yX11_copy : MethodName := ⟨RX11, "copy", "(IIIII)I"⟩
abbrev cX11_drop : ByteArray := prog_1_method_5_code
def yX11_drop : MethodName := ⟨RX11, "drop", "(I)I"⟩
abbrev cX11_cover : ByteArray := prog_1_method_6_code
def yX11_cover : MethodName := ⟨RX11, "cover", "(IIIII)I"⟩
abbrev cX11_part : ByteArray := prog_1_method_7_code
def yX11_part : MethodName := ⟨RX11, "part", "(III)I"⟩
abbrev cX11_name : ByteArray := prog_1_method_8_code
def yX11_name : MethodName := ⟨RX11, "name", "(II)I"⟩
abbrev cX11_between : ByteArray := prog_1_method_9_code
def yX11_between : MethodName := ⟨RX11, "between", "(IIII)I"⟩
abbrev cX11_braid : ByteArray := prog_1_method_10_code
def yX11_braid : MethodName := ⟨RX11, "braid", "(IIII)I"⟩
abbrev cX11_turn : ByteArray := prog_1_method_11_code
def yX11_turn : MethodName := ⟨RX11, "turn", "(III)I"⟩
abbrev cX11_over : ByteArray := prog_1_method_12_code
def yX11_over : MethodName := ⟨RX11, "over", "(III)I"⟩
abbrev cX11_clear : ByteArray := prog_1_method_13_code
def yX11_clear : MethodName := ⟨RX11, "clear", "(I)I"⟩
abbrev cX11_told : ByteArray := prog_1_method_14_code
def yX11_told : MethodName := ⟨RX11, "told", "(II)I"⟩
abbrev cX11_leads : ByteArray := prog_1_method_15_code
def yX11_leads : MethodName := ⟨RX11, "leads", "(III)I"⟩
abbrev cX11_shape : ByteArray := prog_1_method_16_code
def yX11_shape : MethodName := ⟨RX11, "shape", "(III)I"⟩
abbrev cX11_block : ByteArray := prog_1_method_17_code
def yX11_block : MethodName := ⟨RX11, "block", "(IIII)I"⟩
abbrev cX11_same : ByteArray := prog_1_method_18_code
def yX11_same : MethodName := ⟨RX11, "same", "(II)I"⟩
abbrev cX11_ring : ByteArray := prog_1_method_19_code
def yX11_ring : MethodName := ⟨RX11, "ring", "(I)I"⟩
abbrev cX11_lift : ByteArray := prog_1_method_20_code
def yX11_lift : MethodName := ⟨RX11, "lift", "(IIIII)I"⟩
abbrev cX11_kind : ByteArray := prog_1_method_21_code
def yX11_kind : MethodName := ⟨RX11, "kind", "(I)I"⟩
abbrev cX11_is : ByteArray := prog_1_method_22_code
def yX11_is : MethodName := ⟨RX11, "is", "(II)I"⟩
abbrev cX11_as : ByteArray := prog_1_method_23_code
def yX11_as : MethodName := ⟨RX11, "as", "(II)I"⟩
abbrev cX11_ask : ByteArray := prog_1_method_24_code
def yX11_ask : MethodName := ⟨RX11, "ask", "(II)I"⟩
abbrev cX11_trace : ByteArray := prog_1_method_25_code
def yX11_trace : MethodName := ⟨RX11, "trace", "(I)I"⟩
abbrev cX11_joins : ByteArray := prog_1_method_26_code
def yX11_joins : MethodName := ⟨RX11, "joins", "(III)J"⟩
abbrev cX11_shapes : ByteArray := prog_1_method_27_code
def yX11_shapes : MethodName := ⟨RX11, "shapes", "(III)I"⟩
abbrev cX11_count : ByteArray := prog_1_method_28_code
def yX11_count : MethodName := ⟨RX11, "count", "(I)I"⟩
abbrev cX11_status : ByteArray := prog_1_method_29_code
def yX11_status : MethodName := ⟨RX11, "status", "()I"⟩
abbrev cX11_noRow : ByteArray := prog_1_method_30_code
def yX11_noRow : MethodName := ⟨RX11, "noRow", "(I)Z"⟩
abbrev cX11_noPlace : ByteArray := prog_1_method_31_code
def yX11_noPlace : MethodName := ⟨RX11, "noPlace", "(I)Z"⟩
abbrev cX11_found : ByteArray := prog_1_method_32_code
def yX11_found : MethodName := ⟨RX11, "found", "(I)I"⟩
abbrev cX11_fine : ByteArray := prog_1_method_33_code
def yX11_fine : MethodName := ⟨RX11, "fine", "(I)I"⟩
abbrev cX11_shelve : ByteArray := prog_1_method_34_code
def yX11_shelve : MethodName := ⟨RX11, "shelve", "(ILSphereSheets$Cover;)I"⟩
abbrev cX11_tellOf : ByteArray := prog_1_method_35_code
def yX11_tellOf : MethodName := ⟨RX11, "tellOf", "(LSphereSheets$Cover;I)I"⟩
abbrev cX11_alike : ByteArray := prog_1_method_36_code
def yX11_alike : MethodName := ⟨RX11, "alike", "(LSphereSheets$Cover;LSphereSheets$Cover;)Z"⟩
abbrev cX11_ofKind : ByteArray := prog_1_method_37_code
def yX11_ofKind : MethodName := ⟨RX11, "ofKind", "(LSphereSheets$Cover;I)Z"⟩
abbrev cX11_rowsThere : ByteArray := prog_1_method_38_code
def yX11_rowsThere : MethodName := ⟨RX11, "rowsThere", "()I"⟩
abbrev cX11_coversThere : ByteArray := prog_1_method_39_code
def yX11_coversThere : MethodName := ⟨RX11, "coversThere", "(I)I"⟩
def RX12 : String := "SphereSheetsModel"
def TX12 : u_T := fun k => match k with
  | 0 => ("SphereSheetsModel", "thrown", "I", false)
  | 1 => ("SphereSheetsModel", "status", "I", false)
  | 2 => ("SphereSheetsModel", "lane", "[I", true)
  | 3 => ("SphereSheetsModel", "many", "[I", true)
  | 4 => ("SphereSheetsModel", "item", "[I", true)
  | 5 => ("SphereSheetsModel", "size", "[I", true)
  | 6 => ("SphereSheetsModel", "turns", "[I", true)
  | 7 => ("SphereSheetsModel", "lead", "[I", true)
  | 8 => ("SphereSheetsModel", "isGone", "[Z", true)
  | 9 => ("SphereSheetsModel", "round", "[I", true)
  | 10 => ("SphereSheetsModel", "partOf", "[I", true)
  | 11 => ("SphereSheetsModel", "nameOf", "[I", true)
  | 12 => ("SphereSheetsModel", "sheetOf", "[I", true)
  | 13 => ("SphereSheetsModel", "blockOf", "[I", true)
  | 14 => ("SphereSheetsModel", "isThere", "[Z", true)
  | 15 => ("SphereSheetsModel", "stays", "[I", true)
  | 16 => ("SphereSheetsModel", "now", "[I", true)
  | 17 => ("SphereSheetsModel", "mixed", "[I", true)
  | 18 => ("SphereSheetsModel", "names", "[I", true)
  | 19 => ("SphereSheetsModel", "trace", "[I", true)
  | 20 => ("SphereSheetsModel", "traced", "I", false)
  | 21 => ("SphereSheetsModel", "shapes", "I", false)
  | 22 => ("SphereSheetsModel", "length", "[I", true)
  | 23 => ("SphereSheetsModel", "next", "[I", true)
  | 24 => ("SphereSheetsModel", "ways", "[J", true)
  | _ => ("SphereSheetsModel", "then", "[J", true)
def tyX12 : Nat → FieldType := fun k => match k with
  | 0 => .int
  | 1 => .int
  | 2 => .array .int
  | 3 => .array .int
  | 4 => .array .int
  | 5 => .array .int
  | 6 => .array .int
  | 7 => .array .int
  | 8 => .array .boolean
  | 9 => .array .int
  | 10 => .array .int
  | 11 => .array .int
  | 12 => .array .int
  | 13 => .array .int
  | 14 => .array .boolean
  | 15 => .array .int
  | 16 => .array .int
  | 17 => .array .int
  | 18 => .array .int
  | 19 => .array .int
  | 20 => .int
  | 21 => .int
  | 22 => .array .int
  | 23 => .array .int
  | 24 => .array .long
  | _ => .array .long
theorem nmX12 : ∀ a, a < 26 → ∀ b, b < 26 → a ≠ b → (TX12 a).2.1 ≠ (TX12 b).2.1 := by decide +kernel
theorem tyX12_ok : ∀ k, k < 26 → parseFieldDescriptor (TX12 k).2.2.1 = some (tyX12 k) := by decide +kernel
abbrev cX12_init : ByteArray := prog_14_method_1_code
def yX12_init : MethodName := ⟨RX12, "<init>", "()V"⟩
abbrev cX12_in : ByteArray := prog_14_method_3_code
def yX12_in : MethodName := ⟨RX12, "in", "(JJJ)Z"⟩
abbrev cX12_found : ByteArray := prog_14_method_4_code
def yX12_found : MethodName := ⟨RX12, "found", "(I)I"⟩
abbrev cX12_isRow : ByteArray := prog_14_method_5_code
def yX12_isRow : MethodName := ⟨RX12, "isRow", "(I)Z"⟩
abbrev cX12_row : ByteArray := prog_14_method_6_code
def yX12_row : MethodName := ⟨RX12, "row", "(III)I"⟩
abbrev cX12_set : ByteArray := prog_14_method_7_code
def yX12_set : MethodName := ⟨RX12, "set", "(III)I"⟩
abbrev cX12_copy : ByteArray := prog_14_method_8_code
def yX12_copy : MethodName := ⟨RX12, "copy", "(IIIII)I"⟩
abbrev cX12_drop : ByteArray := prog_14_method_9_code
def yX12_drop : MethodName := ⟨RX12, "drop", "(I)I"⟩
abbrev cX12_isPlace : ByteArray := prog_14_method_10_code
def yX12_isPlace : MethodName := ⟨RX12, "isPlace", "(I)Z"⟩
abbrev cX12_at : ByteArray := prog_14_method_11_code
def yX12_at : MethodName := ⟨RX12, "at", "(III)I"⟩
abbrev cX12_put : ByteArray := prog_14_method_12_code
def yX12_put : MethodName := ⟨RX12, "put", "(IIII)V"⟩
abbrev cX12_backAt : ByteArray := prog_14_method_13_code
def yX12_backAt : MethodName := ⟨RX12, "backAt", "(III)I"⟩
abbrev cX12_become : ByteArray := prog_14_method_14_code
def yX12_become : MethodName := ⟨RX12, "become", "(II)V"⟩
abbrev cX12_rounds : ByteArray := prog_14_method_15_code
def yX12_rounds : MethodName := ⟨RX12, "rounds", "(II)I"⟩
abbrev cX12_parts : ByteArray := prog_14_method_16_code
def yX12_parts : MethodName := ⟨RX12, "parts", "(I)I"⟩
abbrev cX12_kindOf : ByteArray := prog_14_method_17_code
def yX12_kindOf : MethodName := ⟨RX12, "kindOf", "(I)I"⟩
abbrev cX12_lay : ByteArray := prog_14_method_18_code
def yX12_lay : MethodName := ⟨RX12, "lay", "(I)I"⟩
abbrev cX12_cover : ByteArray := prog_14_method_19_code
def yX12_cover : MethodName := ⟨RX12, "cover", "(IIIII)I"⟩
abbrev cX12_look : ByteArray := prog_14_method_20_code
def yX12_look : MethodName := ⟨RX12, "look", "(IZ)I"⟩
abbrev cX12_part : ByteArray := prog_14_method_21_code
def yX12_part : MethodName := ⟨RX12, "part", "(III)I"⟩
abbrev cX12_rename : ByteArray := prog_14_method_22_code
def yX12_rename : MethodName := ⟨RX12, "rename", "(III)V"⟩
abbrev cX12_compare : ByteArray := prog_14_method_23_code
def yX12_compare : MethodName := ⟨RX12, "compare", "(II)I"⟩
abbrev cX12_least : ByteArray := prog_14_method_24_code
def yX12_least : MethodName := ⟨RX12, "least", "(II)I"⟩
abbrev cX12_name : ByteArray := prog_14_method_25_code
def yX12_name : MethodName := ⟨RX12, "name", "(II)I"⟩
abbrev cX12_blocks : ByteArray := prog_14_method_26_code
def yX12_blocks : MethodName := ⟨RX12, "blocks", "(III)I"⟩
abbrev cX12_merge : ByteArray := prog_14_method_27_code
def yX12_merge : MethodName := ⟨RX12, "merge", "(III)V"⟩
abbrev cX12_isSheet : ByteArray := prog_14_method_28_code
def yX12_isSheet : MethodName := ⟨RX12, "isSheet", "(II)Z"⟩
abbrev cX12_between : ByteArray := prog_14_method_29_code
def yX12_between : MethodName := ⟨RX12, "between", "(IIII)I"⟩
abbrev cX12_braided : ByteArray := prog_14_method_30_code
def yX12_braided : MethodName := ⟨RX12, "braided", "(IIII)V"⟩
abbrev cX12_braid : ByteArray := prog_14_method_31_code
def yX12_braid : MethodName := ⟨RX12, "braid", "(IIII)I"⟩
abbrev cX12_turn : ByteArray := prog_14_method_32_code
def yX12_turn : MethodName := ⟨RX12, "turn", "(III)I"⟩
abbrev cX12_over : ByteArray := prog_14_method_33_code
def yX12_over : MethodName := ⟨RX12, "over", "(III)I"⟩
abbrev cX12_clear : ByteArray := prog_14_method_34_code
def yX12_clear : MethodName := ⟨RX12, "clear", "(I)I"⟩
abbrev cX12_sift : ByteArray := prog_14_method_35_code
def yX12_sift : MethodName := ⟨RX12, "sift", "(I)Z"⟩
abbrev cX12_heap : ByteArray := prog_14_method_36_code
def yX12_heap : MethodName := ⟨RX12, "heap", "(I)I"⟩
abbrev cX12_told : ByteArray := prog_14_method_37_code
def yX12_told : MethodName := ⟨RX12, "told", "(II)I"⟩
abbrev cX12_leads : ByteArray := prog_14_method_38_code
def yX12_leads : MethodName := ⟨RX12, "leads", "(III)I"⟩
abbrev cX12_shape : ByteArray := prog_14_method_39_code
def yX12_shape : MethodName := ⟨RX12, "shape", "(III)I"⟩
abbrev cX12_block : ByteArray := prog_14_method_40_code
def yX12_block : MethodName := ⟨RX12, "block", "(IIII)I"⟩
abbrev cX12_same : ByteArray := prog_14_method_41_code
def yX12_same : MethodName := ⟨RX12, "same", "(II)I"⟩
abbrev cX12_isName : ByteArray := prog_14_method_42_code
def yX12_isName : MethodName := ⟨RX12, "isName", "(I)Z"⟩
abbrev cX12_ring : ByteArray := prog_14_method_43_code
def yX12_ring : MethodName := ⟨RX12, "ring", "(I)I"⟩
abbrev cX12_lift : ByteArray := prog_14_method_44_code
def yX12_lift : MethodName := ⟨RX12, "lift", "(IIIII)I"⟩
abbrev cX12_kind : ByteArray := prog_14_method_45_code
def yX12_kind : MethodName := ⟨RX12, "kind", "(I)I"⟩
abbrev cX12_isOf : ByteArray := prog_14_method_46_code
def yX12_isOf : MethodName := ⟨RX12, "isOf", "(II)Z"⟩
abbrev cX12_is : ByteArray := prog_14_method_47_code
def yX12_is : MethodName := ⟨RX12, "is", "(II)I"⟩
abbrev cX12_as : ByteArray := prog_14_method_48_code
def yX12_as : MethodName := ⟨RX12, "as", "(II)I"⟩
abbrev cX12_began : ByteArray := prog_14_method_49_code
def yX12_began : MethodName := ⟨RX12, "began", "(I)V"⟩
abbrev cX12_marked : ByteArray := prog_14_method_50_code
def yX12_marked : MethodName := ⟨RX12, "marked", "(I)I"⟩
abbrev cX12_sized : ByteArray := prog_14_method_51_code
def yX12_sized : MethodName := ⟨RX12, "sized", "(I)I"⟩
abbrev cX12_ask : ByteArray := prog_14_method_52_code
def yX12_ask : MethodName := ⟨RX12, "ask", "(II)I"⟩
abbrev cX12_trace : ByteArray := prog_14_method_53_code
def yX12_trace : MethodName := ⟨RX12, "trace", "(I)I"⟩
abbrev cX12_findShapes : ByteArray := prog_14_method_54_code
def yX12_findShapes : MethodName := ⟨RX12, "findShapes", "(I)V"⟩
abbrev cX12_changed : ByteArray := prog_14_method_55_code
def yX12_changed : MethodName := ⟨RX12, "changed", "(IIIII)I"⟩
abbrev cX12_joins : ByteArray := prog_14_method_56_code
def yX12_joins : MethodName := ⟨RX12, "joins", "(III)J"⟩
abbrev cX12_shapes : ByteArray := prog_14_method_57_code
def yX12_shapes : MethodName := ⟨RX12, "shapes", "(III)I"⟩
abbrev cX12_count : ByteArray := prog_14_method_58_code
def yX12_count : MethodName := ⟨RX12, "count", "(I)I"⟩
abbrev cX12_status : ByteArray := prog_14_method_59_code
def yX12_status : MethodName := ⟨RX12, "status", "()I"⟩
def RJx8e188 : String := "java/lang/Cloneable"
def TJx8e188 : u_T := fun k => match k with
  | _ => ("", "", "", false)
def tyJx8e188 : Nat → FieldType := fun k => match k with
  | _ => .int
theorem nmJx8e188 : ∀ a, a < 0 → ∀ b, b < 0 → a ≠ b → (TJx8e188 a).2.1 ≠ (TJx8e188 b).2.1 := by decide +kernel
theorem tyJx8e188_ok : ∀ k, k < 0 → parseFieldDescriptor (TJx8e188 k).2.2.1 = some (tyJx8e188 k) := by decide +kernel
def RJ6 : String := "java/lang/Integer"
def TJ6 : u_T := fun k => match k with
  | _ => ("", "", "", false)
def tyJ6 : Nat → FieldType := fun k => match k with
  | _ => .int
theorem nmJ6 : ∀ a, a < 0 → ∀ b, b < 0 → a ≠ b → (TJ6 a).2.1 ≠ (TJ6 b).2.1 := by decide +kernel
theorem tyJ6_ok : ∀ k, k < 0 → parseFieldDescriptor (TJ6 k).2.2.1 = some (tyJ6 k) := by decide +kernel
abbrev cJ6_bitCount_0f7a4 : ByteArray := prog_16_method_49_code
def yJ6_bitCount_0f7a4 : MethodName := ⟨RJ6, "bitCount", "(I)I"⟩
def RJ13 : String := "java/lang/Long"
def TJ13 : u_T := fun k => match k with
  | _ => ("", "", "", false)
def tyJ13 : Nat → FieldType := fun k => match k with
  | _ => .int
theorem nmJ13 : ∀ a, a < 0 → ∀ b, b < 0 → a ≠ b → (TJ13 a).2.1 ≠ (TJ13 b).2.1 := by decide +kernel
theorem tyJ13_ok : ∀ k, k < 0 → parseFieldDescriptor (TJ13 k).2.2.1 = some (tyJ13 k) := by decide +kernel
abbrev cJ13_compare_74951 : ByteArray := prog_17_method_42_code
def yJ13_compare_74951 : MethodName := ⟨RJ13, "compare", "(JJ)I"⟩
def RJ9 : String := "java/lang/Math"
def TJ9 : u_T := fun k => match k with
  | _ => ("", "", "", false)
def tyJ9 : Nat → FieldType := fun k => match k with
  | _ => .int
theorem nmJ9 : ∀ a, a < 0 → ∀ b, b < 0 → a ≠ b → (TJ9 a).2.1 ≠ (TJ9 b).2.1 := by decide +kernel
theorem tyJ9_ok : ∀ k, k < 0 → parseFieldDescriptor (TJ9 k).2.2.1 = some (tyJ9 k) := by decide +kernel
abbrev cJ9_max_7cf53 : ByteArray := prog_18_method_65_code
def yJ9_max_7cf53 : MethodName := ⟨RJ9, "max", "(II)I"⟩
abbrev cJ9_min_7cf53 : ByteArray := prog_18_method_69_code
def yJ9_min_7cf53 : MethodName := ⟨RJ9, "min", "(II)I"⟩
def RJ10 : String := "java/lang/System"
def TJ10 : u_T := fun k => match k with
  | _ => ("", "", "", false)
def tyJ10 : Nat → FieldType := fun k => match k with
  | _ => .int
theorem nmJ10 : ∀ a, a < 0 → ∀ b, b < 0 → a ≠ b → (TJ10 a).2.1 ≠ (TJ10 b).2.1 := by decide +kernel
theorem tyJ10_ok : ∀ k, k < 0 → parseFieldDescriptor (TJ10 k).2.2.1 = some (tyJ10 k) := by decide +kernel
def RJ7 : String := "java/util/Arrays"
def TJ7 : u_T := fun k => match k with
  | _ => ("", "", "", false)
def tyJ7 : Nat → FieldType := fun k => match k with
  | _ => .int
theorem nmJ7 : ∀ a, a < 0 → ∀ b, b < 0 → a ≠ b → (TJ7 a).2.1 ≠ (TJ7 b).2.1 := by decide +kernel
theorem tyJ7_ok : ∀ k, k < 0 → parseFieldDescriptor (TJ7 k).2.2.1 = some (tyJ7 k) := by decide +kernel
abbrev cJ7_fill_d0a16 : ByteArray := prog_20_method_101_code
def yJ7_fill_d0a16 : MethodName := ⟨RJ7, "fill", "([JJ)V"⟩
abbrev cJ7_fill_53178 : ByteArray := prog_20_method_103_code
def yJ7_fill_53178 : MethodName := ⟨RJ7, "fill", "([II)V"⟩
abbrev cJ7_copyOf_c38d5 : ByteArray := prog_20_method_124_code
def yJ7_copyOf_c38d5 : MethodName := ⟨RJ7, "copyOf", "([JI)[J"⟩
def RL : String := "SphereSheetsLaw"
abbrev cL_law : ByteArray := code
def yL_law : MethodName := ⟨RL, "law", "([I)Z"⟩
abbrev vwCl : List vw_C := [(RX0, TX0, 3), (RX1, TX1, 3), (RX2, TX2, 3), (RX3, TX3, 4), (RX4, TX4, 3), (RX6, TX6, 3), (RX7, TX7, 3), (RX8, TX8, 4), (RX9, TX9, 3), (RX10, TX10, 3), (RX11, TX11, 8), (RX12, TX12, 26)]
