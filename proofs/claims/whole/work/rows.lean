section
-- ===== PART A: goes FIRST, ahead of the names: the tables' words, and 'selects' of the private methods out of them =====
/-- a private method of a class that the tables say can be made, by its rows of tables_1 -/
def lw_okq (q : MethodName × Nat) : Prop := (q.1.cls ≠ "java/lang/invoke/MethodHandle" ∧ q.1.cls ≠ "java/lang/invoke/VarHandle") ∧ Cond.instantiable q.1.cls q.2 ∈ tables_1 ∧ Cond.privateMethod q.1 ∈ tables_1 ∧ Cond.instanceMethod q.1 ∈ tables_1
theorem lw_p0 : lw_okq (⟨"SphereSheets", "found", "(I)I"⟩, 8) := ⟨⟨by decide +kernel, by decide +kernel⟩, List.mem_of_getElem? (i := 20) (by decide +kernel), List.mem_of_getElem? (i := 167) (by decide +kernel), List.mem_of_getElem? (i := 168) (by decide +kernel)⟩
theorem lw_p1 : lw_okq (⟨"SphereSheets", "fine", "(I)I"⟩, 8) := ⟨⟨by decide +kernel, by decide +kernel⟩, List.mem_of_getElem? (i := 20) (by decide +kernel), List.mem_of_getElem? (i := 172) (by decide +kernel), List.mem_of_getElem? (i := 173) (by decide +kernel)⟩
theorem lw_p2 : lw_okq (⟨"SphereSheets", "shelve", "(ILSphereSheets$Cover;)I"⟩, 8) := ⟨⟨by decide +kernel, by decide +kernel⟩, List.mem_of_getElem? (i := 20) (by decide +kernel), List.mem_of_getElem? (i := 352) (by decide +kernel), List.mem_of_getElem? (i := 353) (by decide +kernel)⟩
theorem lw_p3 : lw_okq (⟨"SphereSheets$Cover", "narrowed", "(IJ)[J"⟩, 3) := ⟨⟨by decide +kernel, by decide +kernel⟩, List.mem_of_getElem? (i := 315) (by decide +kernel), List.mem_of_getElem? (i := 389) (by decide +kernel), List.mem_of_getElem? (i := 390) (by decide +kernel)⟩
theorem lw_p4 : lw_okq (⟨"SphereSheets$Namer", "numberFrom", "(I[JI)Z"⟩, 4) := ⟨⟨by decide +kernel, by decide +kernel⟩, List.mem_of_getElem? (i := 57) (by decide +kernel), List.mem_of_getElem? (i := 414) (by decide +kernel), List.mem_of_getElem? (i := 415) (by decide +kernel)⟩
theorem lw_p5 : lw_okq (⟨"SphereSheets$Namer", "againstLeast", "([JI)I"⟩, 4) := ⟨⟨by decide +kernel, by decide +kernel⟩, List.mem_of_getElem? (i := 57) (by decide +kernel), List.mem_of_getElem? (i := 419) (by decide +kernel), List.mem_of_getElem? (i := 420) (by decide +kernel)⟩
theorem lw_p6 : lw_okq (⟨"SphereSheets$Namer", "renamed", "(JI)J"⟩, 4) := ⟨⟨by decide +kernel, by decide +kernel⟩, List.mem_of_getElem? (i := 57) (by decide +kernel), List.mem_of_getElem? (i := 423) (by decide +kernel), List.mem_of_getElem? (i := 424) (by decide +kernel)⟩
theorem lw_p7 : lw_okq (⟨"SphereSheets$Namer", "keepAsLeast", "([JI)V"⟩, 4) := ⟨⟨by decide +kernel, by decide +kernel⟩, List.mem_of_getElem? (i := 57) (by decide +kernel), List.mem_of_getElem? (i := 430) (by decide +kernel), List.mem_of_getElem? (i := 431) (by decide +kernel)⟩
theorem lw_p8 : lw_okq (⟨"SphereSheets", "tellOf", "(LSphereSheets$Cover;I)I"⟩, 8) := ⟨⟨by decide +kernel, by decide +kernel⟩, List.mem_of_getElem? (i := 20) (by decide +kernel), List.mem_of_getElem? (i := 562) (by decide +kernel), List.mem_of_getElem? (i := 563) (by decide +kernel)⟩
theorem lw_p9 : lw_okq (⟨"SphereSheets$Heap", "sift", "(JI)V"⟩, 3) := ⟨⟨by decide +kernel, by decide +kernel⟩, List.mem_of_getElem? (i := 98) (by decide +kernel), List.mem_of_getElem? (i := 597) (by decide +kernel), List.mem_of_getElem? (i := 598) (by decide +kernel)⟩
theorem lw_p10 : lw_okq (⟨"SphereSheets$Heap", "product", "(I)I"⟩, 3) := ⟨⟨by decide +kernel, by decide +kernel⟩, List.mem_of_getElem? (i := 98) (by decide +kernel), List.mem_of_getElem? (i := 604) (by decide +kernel), List.mem_of_getElem? (i := 605) (by decide +kernel)⟩
theorem lw_p11 : lw_okq (⟨"SphereSheets", "alike", "(LSphereSheets$Cover;LSphereSheets$Cover;)Z"⟩, 8) := ⟨⟨by decide +kernel, by decide +kernel⟩, List.mem_of_getElem? (i := 20) (by decide +kernel), List.mem_of_getElem? (i := 634) (by decide +kernel), List.mem_of_getElem? (i := 635) (by decide +kernel)⟩
theorem lw_p12 : lw_okq (⟨"SphereSheets$Ring", "keep", "(I)V"⟩, 3) := ⟨⟨by decide +kernel, by decide +kernel⟩, List.mem_of_getElem? (i := 80) (by decide +kernel), List.mem_of_getElem? (i := 647) (by decide +kernel), List.mem_of_getElem? (i := 648) (by decide +kernel)⟩
theorem lw_p13 : lw_okq (⟨"SphereSheets$Ring", "known", "(I)Z"⟩, 3) := ⟨⟨by decide +kernel, by decide +kernel⟩, List.mem_of_getElem? (i := 80) (by decide +kernel), List.mem_of_getElem? (i := 653) (by decide +kernel), List.mem_of_getElem? (i := 654) (by decide +kernel)⟩
theorem lw_p14 : lw_okq (⟨"SphereSheets$Ring", "isLeastAt", "(II)Z"⟩, 3) := ⟨⟨by decide +kernel, by decide +kernel⟩, List.mem_of_getElem? (i := 80) (by decide +kernel), List.mem_of_getElem? (i := 657) (by decide +kernel), List.mem_of_getElem? (i := 658) (by decide +kernel)⟩
theorem lw_p15 : lw_okq (⟨"SphereSheets$Shapes", "listAll", "(I)V"⟩, 4) := ⟨⟨by decide +kernel, by decide +kernel⟩, List.mem_of_getElem? (i := 114) (by decide +kernel), List.mem_of_getElem? (i := 771) (by decide +kernel), List.mem_of_getElem? (i := 772) (by decide +kernel)⟩
def lw_privs_1 : List (MethodName × Nat) := [(⟨"SphereSheets", "found", "(I)I"⟩, 8), (⟨"SphereSheets", "fine", "(I)I"⟩, 8), (⟨"SphereSheets", "shelve", "(ILSphereSheets$Cover;)I"⟩, 8), (⟨"SphereSheets$Cover", "narrowed", "(IJ)[J"⟩, 3), (⟨"SphereSheets$Namer", "numberFrom", "(I[JI)Z"⟩, 4), (⟨"SphereSheets$Namer", "againstLeast", "([JI)I"⟩, 4), (⟨"SphereSheets$Namer", "renamed", "(JI)J"⟩, 4), (⟨"SphereSheets$Namer", "keepAsLeast", "([JI)V"⟩, 4), (⟨"SphereSheets", "tellOf", "(LSphereSheets$Cover;I)I"⟩, 8), (⟨"SphereSheets$Heap", "sift", "(JI)V"⟩, 3), (⟨"SphereSheets$Heap", "product", "(I)I"⟩, 3), (⟨"SphereSheets", "alike", "(LSphereSheets$Cover;LSphereSheets$Cover;)Z"⟩, 8), (⟨"SphereSheets$Ring", "keep", "(I)V"⟩, 3), (⟨"SphereSheets$Ring", "known", "(I)Z"⟩, 3), (⟨"SphereSheets$Ring", "isLeastAt", "(II)Z"⟩, 3), (⟨"SphereSheets$Shapes", "listAll", "(I)V"⟩, 4)]
theorem lw_r1 : ∀ q ∈ lw_privs_1, lw_okq q := List.forall_mem_cons.mpr ⟨lw_p0, List.forall_mem_cons.mpr ⟨lw_p1, List.forall_mem_cons.mpr ⟨lw_p2, List.forall_mem_cons.mpr ⟨lw_p3, List.forall_mem_cons.mpr ⟨lw_p4, List.forall_mem_cons.mpr ⟨lw_p5, List.forall_mem_cons.mpr ⟨lw_p6, List.forall_mem_cons.mpr ⟨lw_p7, List.forall_mem_cons.mpr ⟨lw_p8, List.forall_mem_cons.mpr ⟨lw_p9, List.forall_mem_cons.mpr ⟨lw_p10, List.forall_mem_cons.mpr ⟨lw_p11, List.forall_mem_cons.mpr ⟨lw_p12, List.forall_mem_cons.mpr ⟨lw_p13, List.forall_mem_cons.mpr ⟨lw_p14, List.forall_mem_cons.mpr ⟨lw_p15, fun _ h => absurd h List.not_mem_nil⟩⟩⟩⟩⟩⟩⟩⟩⟩⟩⟩⟩⟩⟩⟩⟩
theorem lw_p16 : lw_okq (⟨"SphereSheets$Shapes", "nextBelow", "(JI)J"⟩, 4) := ⟨⟨by decide +kernel, by decide +kernel⟩, List.mem_of_getElem? (i := 114) (by decide +kernel), List.mem_of_getElem? (i := 775) (by decide +kernel), List.mem_of_getElem? (i := 776) (by decide +kernel)⟩
theorem lw_p17 : lw_okq (⟨"SphereSheets$Shapes", "cutAndJoined", "(JII)J"⟩, 4) := ⟨⟨by decide +kernel, by decide +kernel⟩, List.mem_of_getElem? (i := 114) (by decide +kernel), List.mem_of_getElem? (i := 780) (by decide +kernel), List.mem_of_getElem? (i := 781) (by decide +kernel)⟩
theorem lw_p18 : lw_okq (⟨"SphereSheets$Shapes", "cut", "(JII)J"⟩, 4) := ⟨⟨by decide +kernel, by decide +kernel⟩, List.mem_of_getElem? (i := 114) (by decide +kernel), List.mem_of_getElem? (i := 784) (by decide +kernel), List.mem_of_getElem? (i := 785) (by decide +kernel)⟩
theorem lw_p19 : lw_okq (⟨"SphereSheets$Shapes", "indexOf", "(J)I"⟩, 4) := ⟨⟨by decide +kernel, by decide +kernel⟩, List.mem_of_getElem? (i := 114) (by decide +kernel), List.mem_of_getElem? (i := 788) (by decide +kernel), List.mem_of_getElem? (i := 789) (by decide +kernel)⟩
theorem lw_p20 : lw_okq (⟨"SphereSheets", "rowsThere", "()I"⟩, 8) := ⟨⟨by decide +kernel, by decide +kernel⟩, List.mem_of_getElem? (i := 20) (by decide +kernel), List.mem_of_getElem? (i := 814) (by decide +kernel), List.mem_of_getElem? (i := 815) (by decide +kernel)⟩
theorem lw_p21 : lw_okq (⟨"SphereSheets", "coversThere", "(I)I"⟩, 8) := ⟨⟨by decide +kernel, by decide +kernel⟩, List.mem_of_getElem? (i := 20) (by decide +kernel), List.mem_of_getElem? (i := 818) (by decide +kernel), List.mem_of_getElem? (i := 819) (by decide +kernel)⟩
theorem lw_p22 : lw_okq (⟨"SphereSheetsModel", "found", "(I)I"⟩, 26) := ⟨⟨by decide +kernel, by decide +kernel⟩, List.mem_of_getElem? (i := 826) (by decide +kernel), List.mem_of_getElem? (i := 925) (by decide +kernel), List.mem_of_getElem? (i := 926) (by decide +kernel)⟩
theorem lw_p23 : lw_okq (⟨"SphereSheetsModel", "put", "(IIII)V"⟩, 26) := ⟨⟨by decide +kernel, by decide +kernel⟩, List.mem_of_getElem? (i := 826) (by decide +kernel), List.mem_of_getElem? (i := 952) (by decide +kernel), List.mem_of_getElem? (i := 953) (by decide +kernel)⟩
theorem lw_p24 : lw_okq (⟨"SphereSheetsModel", "lay", "(I)I"⟩, 26) := ⟨⟨by decide +kernel, by decide +kernel⟩, List.mem_of_getElem? (i := 826) (by decide +kernel), List.mem_of_getElem? (i := 956) (by decide +kernel), List.mem_of_getElem? (i := 957) (by decide +kernel)⟩
theorem lw_p25 : lw_okq (⟨"SphereSheetsModel", "become", "(II)V"⟩, 26) := ⟨⟨by decide +kernel, by decide +kernel⟩, List.mem_of_getElem? (i := 826) (by decide +kernel), List.mem_of_getElem? (i := 960) (by decide +kernel), List.mem_of_getElem? (i := 961) (by decide +kernel)⟩
theorem lw_p26 : lw_okq (⟨"SphereSheetsModel", "kindOf", "(I)I"⟩, 26) := ⟨⟨by decide +kernel, by decide +kernel⟩, List.mem_of_getElem? (i := 826) (by decide +kernel), List.mem_of_getElem? (i := 964) (by decide +kernel), List.mem_of_getElem? (i := 965) (by decide +kernel)⟩
theorem lw_p27 : lw_okq (⟨"SphereSheetsModel", "at", "(III)I"⟩, 26) := ⟨⟨by decide +kernel, by decide +kernel⟩, List.mem_of_getElem? (i := 826) (by decide +kernel), List.mem_of_getElem? (i := 968) (by decide +kernel), List.mem_of_getElem? (i := 969) (by decide +kernel)⟩
theorem lw_p28 : lw_okq (⟨"SphereSheetsModel", "rounds", "(II)I"⟩, 26) := ⟨⟨by decide +kernel, by decide +kernel⟩, List.mem_of_getElem? (i := 826) (by decide +kernel), List.mem_of_getElem? (i := 972) (by decide +kernel), List.mem_of_getElem? (i := 973) (by decide +kernel)⟩
theorem lw_p29 : lw_okq (⟨"SphereSheetsModel", "look", "(IZ)I"⟩, 26) := ⟨⟨by decide +kernel, by decide +kernel⟩, List.mem_of_getElem? (i := 826) (by decide +kernel), List.mem_of_getElem? (i := 980) (by decide +kernel), List.mem_of_getElem? (i := 981) (by decide +kernel)⟩
theorem lw_p30 : lw_okq (⟨"SphereSheetsModel", "parts", "(I)I"⟩, 26) := ⟨⟨by decide +kernel, by decide +kernel⟩, List.mem_of_getElem? (i := 826) (by decide +kernel), List.mem_of_getElem? (i := 984) (by decide +kernel), List.mem_of_getElem? (i := 985) (by decide +kernel)⟩
theorem lw_p31 : lw_okq (⟨"SphereSheetsModel", "least", "(II)I"⟩, 26) := ⟨⟨by decide +kernel, by decide +kernel⟩, List.mem_of_getElem? (i := 826) (by decide +kernel), List.mem_of_getElem? (i := 992) (by decide +kernel), List.mem_of_getElem? (i := 993) (by decide +kernel)⟩
def lw_privs_2 : List (MethodName × Nat) := [(⟨"SphereSheets$Shapes", "nextBelow", "(JI)J"⟩, 4), (⟨"SphereSheets$Shapes", "cutAndJoined", "(JII)J"⟩, 4), (⟨"SphereSheets$Shapes", "cut", "(JII)J"⟩, 4), (⟨"SphereSheets$Shapes", "indexOf", "(J)I"⟩, 4), (⟨"SphereSheets", "rowsThere", "()I"⟩, 8), (⟨"SphereSheets", "coversThere", "(I)I"⟩, 8), (⟨"SphereSheetsModel", "found", "(I)I"⟩, 26), (⟨"SphereSheetsModel", "put", "(IIII)V"⟩, 26), (⟨"SphereSheetsModel", "lay", "(I)I"⟩, 26), (⟨"SphereSheetsModel", "become", "(II)V"⟩, 26), (⟨"SphereSheetsModel", "kindOf", "(I)I"⟩, 26), (⟨"SphereSheetsModel", "at", "(III)I"⟩, 26), (⟨"SphereSheetsModel", "rounds", "(II)I"⟩, 26), (⟨"SphereSheetsModel", "look", "(IZ)I"⟩, 26), (⟨"SphereSheetsModel", "parts", "(I)I"⟩, 26), (⟨"SphereSheetsModel", "least", "(II)I"⟩, 26)]
theorem lw_r2 : ∀ q ∈ lw_privs_2, lw_okq q := List.forall_mem_cons.mpr ⟨lw_p16, List.forall_mem_cons.mpr ⟨lw_p17, List.forall_mem_cons.mpr ⟨lw_p18, List.forall_mem_cons.mpr ⟨lw_p19, List.forall_mem_cons.mpr ⟨lw_p20, List.forall_mem_cons.mpr ⟨lw_p21, List.forall_mem_cons.mpr ⟨lw_p22, List.forall_mem_cons.mpr ⟨lw_p23, List.forall_mem_cons.mpr ⟨lw_p24, List.forall_mem_cons.mpr ⟨lw_p25, List.forall_mem_cons.mpr ⟨lw_p26, List.forall_mem_cons.mpr ⟨lw_p27, List.forall_mem_cons.mpr ⟨lw_p28, List.forall_mem_cons.mpr ⟨lw_p29, List.forall_mem_cons.mpr ⟨lw_p30, List.forall_mem_cons.mpr ⟨lw_p31, fun _ h => absurd h List.not_mem_nil⟩⟩⟩⟩⟩⟩⟩⟩⟩⟩⟩⟩⟩⟩⟩⟩
theorem lw_p32 : lw_okq (⟨"SphereSheetsModel", "rename", "(III)V"⟩, 26) := ⟨⟨by decide +kernel, by decide +kernel⟩, List.mem_of_getElem? (i := 826) (by decide +kernel), List.mem_of_getElem? (i := 996) (by decide +kernel), List.mem_of_getElem? (i := 997) (by decide +kernel)⟩
theorem lw_p33 : lw_okq (⟨"SphereSheetsModel", "compare", "(II)I"⟩, 26) := ⟨⟨by decide +kernel, by decide +kernel⟩, List.mem_of_getElem? (i := 826) (by decide +kernel), List.mem_of_getElem? (i := 1000) (by decide +kernel), List.mem_of_getElem? (i := 1001) (by decide +kernel)⟩
theorem lw_p34 : lw_okq (⟨"SphereSheetsModel", "isSheet", "(II)Z"⟩, 26) := ⟨⟨by decide +kernel, by decide +kernel⟩, List.mem_of_getElem? (i := 826) (by decide +kernel), List.mem_of_getElem? (i := 1008) (by decide +kernel), List.mem_of_getElem? (i := 1009) (by decide +kernel)⟩
theorem lw_p35 : lw_okq (⟨"SphereSheetsModel", "blocks", "(III)I"⟩, 26) := ⟨⟨by decide +kernel, by decide +kernel⟩, List.mem_of_getElem? (i := 826) (by decide +kernel), List.mem_of_getElem? (i := 1012) (by decide +kernel), List.mem_of_getElem? (i := 1013) (by decide +kernel)⟩
theorem lw_p36 : lw_okq (⟨"SphereSheetsModel", "merge", "(III)V"⟩, 26) := ⟨⟨by decide +kernel, by decide +kernel⟩, List.mem_of_getElem? (i := 826) (by decide +kernel), List.mem_of_getElem? (i := 1016) (by decide +kernel), List.mem_of_getElem? (i := 1017) (by decide +kernel)⟩
theorem lw_p37 : lw_okq (⟨"SphereSheetsModel", "braided", "(IIII)V"⟩, 26) := ⟨⟨by decide +kernel, by decide +kernel⟩, List.mem_of_getElem? (i := 826) (by decide +kernel), List.mem_of_getElem? (i := 1024) (by decide +kernel), List.mem_of_getElem? (i := 1025) (by decide +kernel)⟩
theorem lw_p38 : lw_okq (⟨"SphereSheetsModel", "backAt", "(III)I"⟩, 26) := ⟨⟨by decide +kernel, by decide +kernel⟩, List.mem_of_getElem? (i := 826) (by decide +kernel), List.mem_of_getElem? (i := 1028) (by decide +kernel), List.mem_of_getElem? (i := 1029) (by decide +kernel)⟩
theorem lw_p39 : lw_okq (⟨"SphereSheetsModel", "heap", "(I)I"⟩, 26) := ⟨⟨by decide +kernel, by decide +kernel⟩, List.mem_of_getElem? (i := 826) (by decide +kernel), List.mem_of_getElem? (i := 1050) (by decide +kernel), List.mem_of_getElem? (i := 1051) (by decide +kernel)⟩
theorem lw_p40 : lw_okq (⟨"SphereSheetsModel", "sift", "(I)Z"⟩, 26) := ⟨⟨by decide +kernel, by decide +kernel⟩, List.mem_of_getElem? (i := 826) (by decide +kernel), List.mem_of_getElem? (i := 1054) (by decide +kernel), List.mem_of_getElem? (i := 1055) (by decide +kernel)⟩
theorem lw_p41 : lw_okq (⟨"SphereSheetsModel", "isName", "(I)Z"⟩, 26) := ⟨⟨by decide +kernel, by decide +kernel⟩, List.mem_of_getElem? (i := 826) (by decide +kernel), List.mem_of_getElem? (i := 1079) (by decide +kernel), List.mem_of_getElem? (i := 1080) (by decide +kernel)⟩
theorem lw_p42 : lw_okq (⟨"SphereSheetsModel", "sized", "(I)I"⟩, 26) := ⟨⟨by decide +kernel, by decide +kernel⟩, List.mem_of_getElem? (i := 826) (by decide +kernel), List.mem_of_getElem? (i := 1108) (by decide +kernel), List.mem_of_getElem? (i := 1109) (by decide +kernel)⟩
theorem lw_p43 : lw_okq (⟨"SphereSheetsModel", "began", "(I)V"⟩, 26) := ⟨⟨by decide +kernel, by decide +kernel⟩, List.mem_of_getElem? (i := 826) (by decide +kernel), List.mem_of_getElem? (i := 1112) (by decide +kernel), List.mem_of_getElem? (i := 1113) (by decide +kernel)⟩
theorem lw_p44 : lw_okq (⟨"SphereSheetsModel", "marked", "(I)I"⟩, 26) := ⟨⟨by decide +kernel, by decide +kernel⟩, List.mem_of_getElem? (i := 826) (by decide +kernel), List.mem_of_getElem? (i := 1116) (by decide +kernel), List.mem_of_getElem? (i := 1117) (by decide +kernel)⟩
theorem lw_p45 : lw_okq (⟨"SphereSheetsModel", "findShapes", "(I)V"⟩, 26) := ⟨⟨by decide +kernel, by decide +kernel⟩, List.mem_of_getElem? (i := 826) (by decide +kernel), List.mem_of_getElem? (i := 1130) (by decide +kernel), List.mem_of_getElem? (i := 1131) (by decide +kernel)⟩
theorem lw_p46 : lw_okq (⟨"SphereSheetsModel", "changed", "(IIIII)I"⟩, 26) := ⟨⟨by decide +kernel, by decide +kernel⟩, List.mem_of_getElem? (i := 826) (by decide +kernel), List.mem_of_getElem? (i := 1134) (by decide +kernel), List.mem_of_getElem? (i := 1135) (by decide +kernel)⟩
def lw_privs_3 : List (MethodName × Nat) := [(⟨"SphereSheetsModel", "rename", "(III)V"⟩, 26), (⟨"SphereSheetsModel", "compare", "(II)I"⟩, 26), (⟨"SphereSheetsModel", "isSheet", "(II)Z"⟩, 26), (⟨"SphereSheetsModel", "blocks", "(III)I"⟩, 26), (⟨"SphereSheetsModel", "merge", "(III)V"⟩, 26), (⟨"SphereSheetsModel", "braided", "(IIII)V"⟩, 26), (⟨"SphereSheetsModel", "backAt", "(III)I"⟩, 26), (⟨"SphereSheetsModel", "heap", "(I)I"⟩, 26), (⟨"SphereSheetsModel", "sift", "(I)Z"⟩, 26), (⟨"SphereSheetsModel", "isName", "(I)Z"⟩, 26), (⟨"SphereSheetsModel", "sized", "(I)I"⟩, 26), (⟨"SphereSheetsModel", "began", "(I)V"⟩, 26), (⟨"SphereSheetsModel", "marked", "(I)I"⟩, 26), (⟨"SphereSheetsModel", "findShapes", "(I)V"⟩, 26), (⟨"SphereSheetsModel", "changed", "(IIIII)I"⟩, 26)]
theorem lw_r3 : ∀ q ∈ lw_privs_3, lw_okq q := List.forall_mem_cons.mpr ⟨lw_p32, List.forall_mem_cons.mpr ⟨lw_p33, List.forall_mem_cons.mpr ⟨lw_p34, List.forall_mem_cons.mpr ⟨lw_p35, List.forall_mem_cons.mpr ⟨lw_p36, List.forall_mem_cons.mpr ⟨lw_p37, List.forall_mem_cons.mpr ⟨lw_p38, List.forall_mem_cons.mpr ⟨lw_p39, List.forall_mem_cons.mpr ⟨lw_p40, List.forall_mem_cons.mpr ⟨lw_p41, List.forall_mem_cons.mpr ⟨lw_p42, List.forall_mem_cons.mpr ⟨lw_p43, List.forall_mem_cons.mpr ⟨lw_p44, List.forall_mem_cons.mpr ⟨lw_p45, List.forall_mem_cons.mpr ⟨lw_p46, fun _ h => absurd h List.not_mem_nil⟩⟩⟩⟩⟩⟩⟩⟩⟩⟩⟩⟩⟩⟩⟩
def lw_privs : List (MethodName × Nat) := lw_privs_1 ++ (lw_privs_2 ++ (lw_privs_3))
def lw_tbl : List Cond := k2_sels lw_privs ++ tables_1
theorem lw_privs_ok : ∀ q ∈ lw_privs, lw_okq q := by
  show ∀ q ∈ lw_privs_1 ++ (lw_privs_2 ++ (lw_privs_3)), lw_okq q
  exact List.forall_mem_append.mpr ⟨lw_r1, List.forall_mem_append.mpr ⟨lw_r2, lw_r3⟩⟩
def RX0 : String := "SphereSheets$Bristled"
def TX0 : u_T := fun k => match k with
  | 0 => ("SphereSheets$Cover", "n", "I", true)
  | 1 => ("SphereSheets$Cover", "turns", "[J", true)
  | _ => ("SphereSheets$Cover", "parts", "I", true)
def tyX0 : Nat → FieldType := fun k => match k with
  | 0 => .int
  | 1 => .array .long
  | _ => .int
theorem nmX0 : ∀ a, a < 3 → ∀ b, b < 3 → a ≠ b → (TX0 a).2.1 ≠ (TX0 b).2.1 := by decide +kernel
theorem tyX0_ok : ∀ k, k < 3 → parseFieldDescriptor (TX0 k).2.2.1 = some (tyX0 k) := by decide +kernel
abbrev cX0_init : ByteArray := prog_2_method_1_code
def yX0_init : MethodName := ⟨RX0, "<init>", "(I[JI)V"⟩
abbrev cX0_kindNumber : ByteArray := prog_2_method_2_code
def yX0_kindNumber : MethodName := ⟨RX0, "kindNumber", "()I"⟩
abbrev cX0_sizeAsked : ByteArray := prog_2_method_3_code
def yX0_sizeAsked : MethodName := ⟨RX0, "sizeAsked", "(LSphereSheets$Row;)I"⟩
def RX1 : String := "SphereSheets$Cover"
def TX1 : u_T := fun k => match k with
  | 0 => ("SphereSheets$Cover", "n", "I", true)
  | 1 => ("SphereSheets$Cover", "turns", "[J", true)
  | _ => ("SphereSheets$Cover", "parts", "I", true)
def tyX1 : Nat → FieldType := fun k => match k with
  | 0 => .int
  | 1 => .array .long
  | _ => .int
theorem nmX1 : ∀ a, a < 3 → ∀ b, b < 3 → a ≠ b → (TX1 a).2.1 ≠ (TX1 b).2.1 := by decide +kernel
theorem tyX1_ok : ∀ k, k < 3 → parseFieldDescriptor (TX1 k).2.2.1 = some (tyX1 k) := by decide +kernel
abbrev cX1_init : ByteArray := prog_3_method_1_code
def yX1_init : MethodName := ⟨RX1, "<init>", "(I[JI)V"⟩
abbrev cX1_of : ByteArray := prog_3_method_2_code
def yX1_of : MethodName := ⟨RX1, "of", "(I[J)LSphereSheets$Cover;"⟩
abbrev cX1_exchangesAhead : ByteArray := prog_3_method_3_code
def yX1_exchangesAhead : MethodName := ⟨RX1, "exchangesAhead", "(I[J)Z"⟩
abbrev cX1_kindNumber : ByteArray := prog_3_method_4_code
def yX1_kindNumber : MethodName := ⟨RX1, "kindNumber", "()I"⟩
abbrev cX1_sizeAsked : ByteArray := prog_3_method_5_code
def yX1_sizeAsked : MethodName := ⟨RX1, "sizeAsked", "(LSphereSheets$Row;)I"⟩
abbrev cX1_markAsked : ByteArray := prog_3_method_6_code
def yX1_markAsked : MethodName := ⟨RX1, "markAsked", "(LSphereSheets$Row;)I"⟩
abbrev cX1_noSheet : ByteArray := prog_3_method_7_code
def yX1_noSheet : MethodName := ⟨RX1, "noSheet", "(I)Z"⟩
abbrev cX1_noTurn : ByteArray := prog_3_method_8_code
def yX1_noTurn : MethodName := ⟨RX1, "noTurn", "(I)Z"⟩
abbrev cX1_turnAt : ByteArray := prog_3_method_9_code
def yX1_turnAt : MethodName := ⟨RX1, "turnAt", "(I)J"⟩
abbrev cX1_noStep : ByteArray := prog_3_method_10_code
def yX1_noStep : MethodName := ⟨RX1, "noStep", "(I)Z"⟩
abbrev cX1_stepped : ByteArray := prog_3_method_11_code
def yX1_stepped : MethodName := ⟨RX1, "stepped", "(II)I"⟩
abbrev cX1_rounds : ByteArray := prog_3_method_12_code
def yX1_rounds : MethodName := ⟨RX1, "rounds", "(I)I"⟩
abbrev cX1_whole : ByteArray := prog_3_method_13_code
def yX1_whole : MethodName := ⟨RX1, "whole", "()Z"⟩
abbrev cX1_holes : ByteArray := prog_3_method_14_code
def yX1_holes : MethodName := ⟨RX1, "holes", "()I"⟩
abbrev cX1_blockLabels : ByteArray := prog_3_method_15_code
def yX1_blockLabels : MethodName := ⟨RX1, "blockLabels", "(II)J"⟩
abbrev cX1_partAlone : ByteArray := prog_3_method_16_code
def yX1_partAlone : MethodName := ⟨RX1, "partAlone", "(I)LSphereSheets$Cover;"⟩
abbrev cX1_ofBlocks : ByteArray := prog_3_method_17_code
def yX1_ofBlocks : MethodName := ⟨RX1, "ofBlocks", "(II)LSphereSheets$Cover;"⟩
abbrev cX1_narrowed : ByteArray := prog_3_method_18_code
def yX1_narrowed : MethodName := ⟨RX1, "narrowed", "(IJ)[J"⟩
abbrev cX1_ledPast : ByteArray := prog_3_method_19_code
def yX1_ledPast : MethodName := ⟨RX1, "ledPast", "(IZ)LSphereSheets$Cover;"⟩
abbrev cX1_mirror : ByteArray := prog_3_method_20_code
def yX1_mirror : MethodName := ⟨RX1, "mirror", "()LSphereSheets$Cover;"⟩
abbrev cX1_laidOver : ByteArray := prog_3_method_21_code
def yX1_laidOver : MethodName := ⟨RX1, "laidOver", "(LSphereSheets$Cover;)LSphereSheets$Cover;"⟩
def RX2 : String := "SphereSheets$Heap"
def TX2 : u_T := fun k => match k with
  | 0 => ("SphereSheets$Heap", "kept", "[J", true)
  | 1 => ("SphereSheets$Heap", "backs", "[J", true)
  | _ => ("SphereSheets$Heap", "many", "I", false)
def tyX2 : Nat → FieldType := fun k => match k with
  | 0 => .array .long
  | 1 => .array .long
  | _ => .int
theorem nmX2 : ∀ a, a < 3 → ∀ b, b < 3 → a ≠ b → (TX2 a).2.1 ≠ (TX2 b).2.1 := by decide +kernel
theorem tyX2_ok : ∀ k, k < 3 → parseFieldDescriptor (TX2 k).2.2.1 = some (tyX2 k) := by decide +kernel
abbrev cX2_init : ByteArray := prog_4_method_1_code
def yX2_init : MethodName := ⟨RX2, "<init>", "()V"⟩
abbrev cX2_orders : ByteArray := prog_4_method_2_code
def yX2_orders : MethodName := ⟨RX2, "orders", "(LSphereSheets$Cover;)I"⟩
abbrev cX2_sift : ByteArray := prog_4_method_3_code
def yX2_sift : MethodName := ⟨RX2, "sift", "(JI)V"⟩
abbrev cX2_product : ByteArray := prog_4_method_4_code
def yX2_product : MethodName := ⟨RX2, "product", "(I)I"⟩
def RX3 : String := "SphereSheets$Namer"
def TX3 : u_T := fun k => match k with
  | 0 => ("SphereSheets$Namer", "least", "[J", true)
  | 1 => ("SphereSheets$Namer", "likes", "I", false)
  | 2 => ("SphereSheets$Namer", "newOf", "J", false)
  | _ => ("SphereSheets$Namer", "oldOf", "J", false)
def tyX3 : Nat → FieldType := fun k => match k with
  | 0 => .array .long
  | 1 => .int
  | 2 => .long
  | _ => .long
theorem nmX3 : ∀ a, a < 4 → ∀ b, b < 4 → a ≠ b → (TX3 a).2.1 ≠ (TX3 b).2.1 := by decide +kernel
theorem tyX3_ok : ∀ k, k < 4 → parseFieldDescriptor (TX3 k).2.2.1 = some (tyX3 k) := by decide +kernel
abbrev cX3_init : ByteArray := prog_5_method_1_code
def yX3_init : MethodName := ⟨RX3, "<init>", "()V"⟩
abbrev cX3_find : ByteArray := prog_5_method_2_code
def yX3_find : MethodName := ⟨RX3, "find", "([JI)V"⟩
abbrev cX3_numberFrom : ByteArray := prog_5_method_3_code
def yX3_numberFrom : MethodName := ⟨RX3, "numberFrom", "(I[JI)Z"⟩
abbrev cX3_renamed : ByteArray := prog_5_method_4_code
def yX3_renamed : MethodName := ⟨RX3, "renamed", "(JI)J"⟩
abbrev cX3_againstLeast : ByteArray := prog_5_method_5_code
def yX3_againstLeast : MethodName := ⟨RX3, "againstLeast", "([JI)I"⟩
abbrev cX3_keepAsLeast : ByteArray := prog_5_method_6_code
def yX3_keepAsLeast : MethodName := ⟨RX3, "keepAsLeast", "([JI)V"⟩
def RX4 : String := "SphereSheets$One"
def TX4 : u_T := fun k => match k with
  | 0 => ("SphereSheets$Cover", "n", "I", true)
  | 1 => ("SphereSheets$Cover", "turns", "[J", true)
  | _ => ("SphereSheets$Cover", "parts", "I", true)
def tyX4 : Nat → FieldType := fun k => match k with
  | 0 => .int
  | 1 => .array .long
  | _ => .int
theorem nmX4 : ∀ a, a < 3 → ∀ b, b < 3 → a ≠ b → (TX4 a).2.1 ≠ (TX4 b).2.1 := by decide +kernel
theorem tyX4_ok : ∀ k, k < 3 → parseFieldDescriptor (TX4 k).2.2.1 = some (tyX4 k) := by decide +kernel
abbrev cX4_init : ByteArray := prog_6_method_1_code
def yX4_init : MethodName := ⟨RX4, "<init>", "(I[JI)V"⟩
abbrev cX4_kindNumber : ByteArray := prog_6_method_2_code
def yX4_kindNumber : MethodName := ⟨RX4, "kindNumber", "()I"⟩
abbrev cX4_sizeAsked : ByteArray := prog_6_method_3_code
def yX4_sizeAsked : MethodName := ⟨RX4, "sizeAsked", "(LSphereSheets$Row;)I"⟩
abbrev cX4_markAsked : ByteArray := prog_6_method_4_code
def yX4_markAsked : MethodName := ⟨RX4, "markAsked", "(LSphereSheets$Row;)I"⟩
def RX5 : String := "SphereSheets$Orders"
def TX5 : u_T := fun k => match k with
  | _ => ("", "", "", false)
def tyX5 : Nat → FieldType := fun k => match k with
  | _ => .int
theorem nmX5 : ∀ a, a < 0 → ∀ b, b < 0 → a ≠ b → (TX5 a).2.1 ≠ (TX5 b).2.1 := by decide +kernel
theorem tyX5_ok : ∀ k, k < 0 → parseFieldDescriptor (TX5 k).2.2.1 = some (tyX5 k) := by decide +kernel
abbrev cX5_at : ByteArray := prog_7_method_2_code
def yX5_at : MethodName := ⟨RX5, "at", "(JI)I"⟩
abbrev cX5_with : ByteArray := prog_7_method_3_code
def yX5_with : MethodName := ⟨RX5, "with", "(JII)J"⟩
abbrev cX5_still : ByteArray := prog_7_method_4_code
def yX5_still : MethodName := ⟨RX5, "still", "(I)J"⟩
abbrev cX5_behind : ByteArray := prog_7_method_5_code
def yX5_behind : MethodName := ⟨RX5, "behind", "(JJI)J"⟩
abbrev cX5_inverse : ByteArray := prog_7_method_6_code
def yX5_inverse : MethodName := ⟨RX5, "inverse", "(JI)J"⟩
abbrev cX5_merged : ByteArray := prog_7_method_7_code
def yX5_merged : MethodName := ⟨RX5, "merged", "(JIII)J"⟩
abbrev cX5_mergedAlong : ByteArray := prog_7_method_8_code
def yX5_mergedAlong : MethodName := ⟨RX5, "mergedAlong", "(JJJI)J"⟩
abbrev cX5_ledTogether : ByteArray := prog_7_method_9_code
def yX5_ledTogether : MethodName := ⟨RX5, "ledTogether", "([JI)J"⟩
abbrev cX5_leaders : ByteArray := prog_7_method_10_code
def yX5_leaders : MethodName := ⟨RX5, "leaders", "(JI)I"⟩
abbrev cX5_groups : ByteArray := prog_7_method_11_code
def yX5_groups : MethodName := ⟨RX5, "groups", "(JI)I"⟩
abbrev cX5_withFirst : ByteArray := prog_7_method_12_code
def yX5_withFirst : MethodName := ⟨RX5, "withFirst", "(JI)I"⟩
abbrev cX5_leadForward : ByteArray := prog_7_method_13_code
def yX5_leadForward : MethodName := ⟨RX5, "leadForward", "([JII)V"⟩
abbrev cX5_leadBack : ByteArray := prog_7_method_14_code
def yX5_leadBack : MethodName := ⟨RX5, "leadBack", "([JII)V"⟩
def RX6 : String := "SphereSheets$Ring"
def TX6 : u_T := fun k => match k with
  | 0 => ("SphereSheets$Ring", "namer", "LSphereSheets$Namer;", true)
  | 1 => ("SphereSheets$Ring", "names", "[J", true)
  | _ => ("SphereSheets$Ring", "many", "I", false)
def tyX6 : Nat → FieldType := fun k => match k with
  | 0 => .object "SphereSheets$Namer"
  | 1 => .array .long
  | _ => .int
theorem nmX6 : ∀ a, a < 3 → ∀ b, b < 3 → a ≠ b → (TX6 a).2.1 ≠ (TX6 b).2.1 := by decide +kernel
theorem tyX6_ok : ∀ k, k < 3 → parseFieldDescriptor (TX6 k).2.2.1 = some (tyX6 k) := by decide +kernel
abbrev cX6_init : ByteArray := prog_8_method_1_code
def yX6_init : MethodName := ⟨RX6, "<init>", "()V"⟩
abbrev cX6_walk : ByteArray := prog_8_method_2_code
def yX6_walk : MethodName := ⟨RX6, "walk", "(LSphereSheets$Cover;)I"⟩
abbrev cX6_keep : ByteArray := prog_8_method_3_code
def yX6_keep : MethodName := ⟨RX6, "keep", "(I)V"⟩
abbrev cX6_known : ByteArray := prog_8_method_4_code
def yX6_known : MethodName := ⟨RX6, "known", "(I)Z"⟩
abbrev cX6_isLeastAt : ByteArray := prog_8_method_5_code
def yX6_isLeastAt : MethodName := ⟨RX6, "isLeastAt", "(II)Z"⟩
def RX7 : String := "SphereSheets$Row"
def TX7 : u_T := fun k => match k with
  | 0 => ("SphereSheets$Row", "items", "[I", true)
  | 1 => ("SphereSheets$Row", "lane", "I", false)
  | _ => ("SphereSheets$Row", "size", "I", false)
def tyX7 : Nat → FieldType := fun k => match k with
  | 0 => .array .int
  | 1 => .int
  | _ => .int
theorem nmX7 : ∀ a, a < 3 → ∀ b, b < 3 → a ≠ b → (TX7 a).2.1 ≠ (TX7 b).2.1 := by decide +kernel
theorem tyX7_ok : ∀ k, k < 3 → parseFieldDescriptor (TX7 k).2.2.1 = some (tyX7 k) := by decide +kernel
abbrev cX7_init : ByteArray := prog_9_method_1_code
def yX7_init : MethodName := ⟨RX7, "<init>", "(I)V"⟩
abbrev cX7_missing : ByteArray := prog_9_method_2_code
def yX7_missing : MethodName := ⟨RX7, "missing", "()Z"⟩
abbrev cX7_begin : ByteArray := prog_9_method_3_code
def yX7_begin : MethodName := ⟨RX7, "begin", "(II)V"⟩
abbrev cX7_end : ByteArray := prog_9_method_4_code
def yX7_end : MethodName := ⟨RX7, "end", "()V"⟩
abbrev cX7_holds : ByteArray := prog_9_method_5_code
def yX7_holds : MethodName := ⟨RX7, "holds", "(II)Z"⟩
abbrev cX7_item : ByteArray := prog_9_method_6_code
def yX7_item : MethodName := ⟨RX7, "item", "(I)I"⟩
abbrev cX7_put : ByteArray := prog_9_method_7_code
def yX7_put : MethodName := ⟨RX7, "put", "(II)I"⟩
abbrev cX7_add : ByteArray := prog_9_method_8_code
def yX7_add : MethodName := ⟨RX7, "add", "(I)V"⟩
abbrev cX7_take : ByteArray := prog_9_method_9_code
def yX7_take : MethodName := ⟨RX7, "take", "(ILSphereSheets$Row;II)V"⟩
abbrev cX7_orderFrom : ByteArray := prog_9_method_10_code
def yX7_orderFrom : MethodName := ⟨RX7, "orderFrom", "(II)J"⟩
def RX8 : String := "SphereSheets$Shapes"
def TX8 : u_T := fun k => match k with
  | 0 => ("SphereSheets$Shapes", "list", "[J", true)
  | 1 => ("SphereSheets$Shapes", "ways", "[J", true)
  | 2 => ("SphereSheets$Shapes", "listedFor", "I", false)
  | _ => ("SphereSheets$Shapes", "many", "I", false)
def tyX8 : Nat → FieldType := fun k => match k with
  | 0 => .array .long
  | 1 => .array .long
  | 2 => .int
  | _ => .int
theorem nmX8 : ∀ a, a < 4 → ∀ b, b < 4 → a ≠ b → (TX8 a).2.1 ≠ (TX8 b).2.1 := by decide +kernel
theorem tyX8_ok : ∀ k, k < 4 → parseFieldDescriptor (TX8 k).2.2.1 = some (tyX8 k) := by decide +kernel
abbrev cX8_init : ByteArray := prog_10_method_1_code
def yX8_init : MethodName := ⟨RX8, "<init>", "()V"⟩
abbrev cX8_one : ByteArray := prog_10_method_2_code
def yX8_one : MethodName := ⟨RX8, "one", "(I)J"⟩
abbrev cX8_times : ByteArray := prog_10_method_3_code
def yX8_times : MethodName := ⟨RX8, "times", "(JI)I"⟩
abbrev cX8_lengthsOf : ByteArray := prog_10_method_4_code
def yX8_lengthsOf : MethodName := ⟨RX8, "lengthsOf", "(JI)J"⟩
abbrev cX8_total : ByteArray := prog_10_method_5_code
def yX8_total : MethodName := ⟨RX8, "total", "(J)I"⟩
abbrev cX8_lengthAt : ByteArray := prog_10_method_6_code
def yX8_lengthAt : MethodName := ⟨RX8, "lengthAt", "(JI)I"⟩
abbrev cX8_lacks : ByteArray := prog_10_method_7_code
def yX8_lacks : MethodName := ⟨RX8, "lacks", "(I)Z"⟩
abbrev cX8_lengthsAt : ByteArray := prog_10_method_8_code
def yX8_lengthsAt : MethodName := ⟨RX8, "lengthsAt", "(I)J"⟩
abbrev cX8_rowsOf : ByteArray := prog_10_method_9_code
def yX8_rowsOf : MethodName := ⟨RX8, "rowsOf", "(II)J"⟩
abbrev cX8_prepare : ByteArray := prog_10_method_10_code
def yX8_prepare : MethodName := ⟨RX8, "prepare", "(I)V"⟩
abbrev cX8_listAll : ByteArray := prog_10_method_11_code
def yX8_listAll : MethodName := ⟨RX8, "listAll", "(I)V"⟩
abbrev cX8_nextBelow : ByteArray := prog_10_method_12_code
def yX8_nextBelow : MethodName := ⟨RX8, "nextBelow", "(JI)J"⟩
abbrev cX8_cutAndJoined : ByteArray := prog_10_method_13_code
def yX8_cutAndJoined : MethodName := ⟨RX8, "cutAndJoined", "(JII)J"⟩
abbrev cX8_cut : ByteArray := prog_10_method_14_code
def yX8_cut : MethodName := ⟨RX8, "cut", "(JII)J"⟩
abbrev cX8_indexOf : ByteArray := prog_10_method_15_code
def yX8_indexOf : MethodName := ⟨RX8, "indexOf", "(J)I"⟩
def RX9 : String := "SphereSheets$Simple"
def TX9 : u_T := fun k => match k with
  | 0 => ("SphereSheets$Cover", "n", "I", true)
  | 1 => ("SphereSheets$Cover", "turns", "[J", true)
  | _ => ("SphereSheets$Cover", "parts", "I", true)
def tyX9 : Nat → FieldType := fun k => match k with
  | 0 => .int
  | 1 => .array .long
  | _ => .int
theorem nmX9 : ∀ a, a < 3 → ∀ b, b < 3 → a ≠ b → (TX9 a).2.1 ≠ (TX9 b).2.1 := by decide +kernel
theorem tyX9_ok : ∀ k, k < 3 → parseFieldDescriptor (TX9 k).2.2.1 = some (tyX9 k) := by decide +kernel
abbrev cX9_init : ByteArray := prog_11_method_1_code
def yX9_init : MethodName := ⟨RX9, "<init>", "(I[JI)V"⟩
abbrev cX9_kindNumber : ByteArray := prog_11_method_2_code
def yX9_kindNumber : MethodName := ⟨RX9, "kindNumber", "()I"⟩
abbrev cX9_sizeAsked : ByteArray := prog_11_method_3_code
def yX9_sizeAsked : MethodName := ⟨RX9, "sizeAsked", "(LSphereSheets$Row;)I"⟩
def RX10 : String := "SphereSheets$Three"
def TX10 : u_T := fun k => match k with
  | 0 => ("SphereSheets$Cover", "n", "I", true)
  | 1 => ("SphereSheets$Cover", "turns", "[J", true)
  | _ => ("SphereSheets$Cover", "parts", "I", true)
def tyX10 : Nat → FieldType := fun k => match k with
  | 0 => .int
  | 1 => .array .long
  | _ => .int
theorem nmX10 : ∀ a, a < 3 → ∀ b, b < 3 → a ≠ b → (TX10 a).2.1 ≠ (TX10 b).2.1 := by decide +kernel
theorem tyX10_ok : ∀ k, k < 3 → parseFieldDescriptor (TX10 k).2.2.1 = some (tyX10 k) := by decide +kernel
abbrev cX10_init : ByteArray := prog_12_method_1_code
def yX10_init : MethodName := ⟨RX10, "<init>", "(I[JI)V"⟩
abbrev cX10_kindNumber : ByteArray := prog_12_method_2_code
def yX10_kindNumber : MethodName := ⟨RX10, "kindNumber", "()I"⟩
abbrev cX10_sizeAsked : ByteArray := prog_12_method_3_code
def yX10_sizeAsked : MethodName := ⟨RX10, "sizeAsked", "(LSphereSheets$Row;)I"⟩
abbrev cX10_markAsked : ByteArray := prog_12_method_4_code
def yX10_markAsked : MethodName := ⟨RX10, "markAsked", "(LSphereSheets$Row;)I"⟩
def RX11 : String := "SphereSheets"
def TX11 : u_T := fun k => match k with
  | 0 => ("SphereSheets", "rows", "[LSphereSheets$Row;", true)
  | 1 => ("SphereSheets", "shelf", "[LSphereSheets$Cover;", true)
  | 2 => ("SphereSheets", "traced", "LSphereSheets$Row;", true)
  | 3 => ("SphereSheets", "namer", "LSphereSheets$Namer;", true)
  | 4 => ("SphereSheets", "rings", "LSphereSheets$Ring;", true)
  | 5 => ("SphereSheets", "heap", "LSphereSheets$Heap;", true)
  | 6 => ("SphereSheets", "shapesListed", "LSphereSheets$Shapes;", true)
  | _ => ("SphereSheets", "finding", "I", false)
def tyX11 : Nat → FieldType := fun k => match k with
  | 0 => .array (.object "SphereSheets$Row")
  | 1 => .array (.object "SphereSheets$Cover")
  | 2 => .object "SphereSheets$Row"
  | 3 => .object "SphereSheets$Namer"
  | 4 => .object "SphereSheets$Ring"
  | 5 => .object "SphereSheets$Heap"
  | 6 => .object "SphereSheets$Shapes"
  | _ => .int
theorem nmX11 : ∀ a, a < 8 → ∀ b, b < 8 → a ≠ b → (TX11 a).2.1 ≠ (TX11 b).2.1 := by decide +kernel
theorem tyX11_ok : ∀ k, k < 8 → parseFieldDescriptor (TX11 k).2.2.1 = some (tyX11 k) := by decide +kernel
abbrev cX11_init : ByteArray := prog_1_method_1_code
def yX11_init : MethodName := ⟨RX11, "<init>", "()V"⟩
abbrev cX11_row : ByteArray := prog_1_method_2_code
def yX11_row : MethodName := ⟨RX11, "row", "(III)I"⟩
abbrev cX11_set : ByteArray := prog_1_method_3_code
def yX11_set : MethodName := ⟨RX11, "set", "(III)I"⟩
abbrev cX11_copy : ByteArray := prog_1_method_4_code
def yX11_copy : MethodName := ⟨RX11, "copy", "(IIIII)I"⟩
abbrev cX11_drop : ByteArray := prog_1_method_5_code
def yX11_drop : MethodName := ⟨RX11, "drop", "(I)I"⟩
abbrev cX11_cover : ByteArray := prog_1_method_6_code
def yX11_cover : MethodName := ⟨RX11, "cover", "(IIIII)I"⟩
abbrev cX11_part : ByteArray := prog_1_method_7_code
def yX11_part : MethodName := ⟨RX11, "part", "(III)I"⟩
abbrev cX11_name : ByteArray := prog_1_method_8_code
def yX11_name : MethodName := ⟨RX11, "name", "(II)I"⟩
abbrev cX11_between : ByteArray := prog_1_method_9_code
def yX11_between : MethodName := ⟨RX11, "between", "(IIII)I"⟩
abbrev cX11_braid : ByteArray := prog_1_method_10_code
def yX11_braid : MethodName := ⟨RX11, "braid", "(IIII)I"⟩
abbrev cX11_turn : ByteArray := prog_1_method_11_code
def yX11_turn : MethodName := ⟨RX11, "turn", "(III)I"⟩
abbrev cX11_over : ByteArray := prog_1_method_12_code
def yX11_over : MethodName := ⟨RX11, "over", "(III)I"⟩
abbrev cX11_clear : ByteArray := prog_1_method_13_code
def yX11_clear : MethodName := ⟨RX11, "clear", "(I)I"⟩
abbrev cX11_told : ByteArray := prog_1_method_14_code
def yX11_told : MethodName := ⟨RX11, "told", "(II)I"⟩
abbrev cX11_leads : ByteArray := prog_1_method_15_code
def yX11_leads : MethodName := ⟨RX11, "leads", "(III)I"⟩
abbrev cX11_shape : ByteArray := prog_1_method_16_code
def yX11_shape : MethodName := ⟨RX11, "shape", "(III)I"⟩
abbrev cX11_block : ByteArray := prog_1_method_17_code
def yX11_block : MethodName := ⟨RX11, "block", "(IIII)I"⟩
abbrev cX11_same : ByteArray := prog_1_method_18_code
def yX11_same : MethodName := ⟨RX11, "same", "(II)I"⟩
abbrev cX11_ring : ByteArray := prog_1_method_19_code
def yX11_ring : MethodName := ⟨RX11, "ring", "(I)I"⟩
abbrev cX11_lift : ByteArray := prog_1_method_20_code
def yX11_lift : MethodName := ⟨RX11, "lift", "(IIIII)I"⟩
abbrev cX11_kind : ByteArray := prog_1_method_21_code
def yX11_kind : MethodName := ⟨RX11, "kind", "(I)I"⟩
abbrev cX11_is : ByteArray := prog_1_method_22_code
def yX11_is : MethodName := ⟨RX11, "is", "(II)I"⟩
abbrev cX11_as : ByteArray := prog_1_method_23_code
def yX11_as : MethodName := ⟨RX11, "as", "(II)I"⟩
abbrev cX11_ask : ByteArray := prog_1_method_24_code
def yX11_ask : MethodName := ⟨RX11, "ask", "(II)I"⟩
abbrev cX11_trace : ByteArray := prog_1_method_25_code
def yX11_trace : MethodName := ⟨RX11, "trace", "(I)I"⟩
abbrev cX11_joins : ByteArray := prog_1_method_26_code
def yX11_joins : MethodName := ⟨RX11, "joins", "(III)J"⟩
abbrev cX11_shapes : ByteArray := prog_1_method_27_code
def yX11_shapes : MethodName := ⟨RX11, "shapes", "(III)I"⟩
abbrev cX11_count : ByteArray := prog_1_method_28_code
def yX11_count : MethodName := ⟨RX11, "count", "(I)I"⟩
abbrev cX11_status : ByteArray := prog_1_method_29_code
def yX11_status : MethodName := ⟨RX11, "status", "()I"⟩
abbrev cX11_noRow : ByteArray := prog_1_method_30_code
def yX11_noRow : MethodName := ⟨RX11, "noRow", "(I)Z"⟩
abbrev cX11_noPlace : ByteArray := prog_1_method_31_code
def yX11_noPlace : MethodName := ⟨RX11, "noPlace", "(I)Z"⟩
abbrev cX11_found : ByteArray := prog_1_method_32_code
def yX11_found : MethodName := ⟨RX11, "found", "(I)I"⟩
abbrev cX11_fine : ByteArray := prog_1_method_33_code
def yX11_fine : MethodName := ⟨RX11, "fine", "(I)I"⟩
abbrev cX11_shelve : ByteArray := prog_1_method_34_code
def yX11_shelve : MethodName := ⟨RX11, "shelve", "(ILSphereSheets$Cover;)I"⟩
abbrev cX11_tellOf : ByteArray := prog_1_method_35_code
def yX11_tellOf : MethodName := ⟨RX11, "tellOf", "(LSphereSheets$Cover;I)I"⟩
abbrev cX11_alike : ByteArray := prog_1_method_36_code
def yX11_alike : MethodName := ⟨RX11, "alike", "(LSphereSheets$Cover;LSphereSheets$Cover;)Z"⟩
abbrev cX11_ofKind : ByteArray := prog_1_method_37_code
def yX11_ofKind : MethodName := ⟨RX11, "ofKind", "(LSphereSheets$Cover;I)Z"⟩
abbrev cX11_rowsThere : ByteArray := prog_1_method_38_code
def yX11_rowsThere : MethodName := ⟨RX11, "rowsThere", "()I"⟩
abbrev cX11_coversThere : ByteArray := prog_1_method_39_code
def yX11_coversThere : MethodName := ⟨RX11, "coversThere", "(I)I"⟩
def RX12 : String := "SphereSheetsModel"
def TX12 : u_T := fun k => match k with
  | 0 => ("SphereSheetsModel", "thrown", "I", false)
  | 1 => ("SphereSheetsModel", "status", "I", false)
  | 2 => ("SphereSheetsModel", "lane", "[I", true)
  | 3 => ("SphereSheetsModel", "many", "[I", true)
  | 4 => ("SphereSheetsModel", "item", "[I", true)
  | 5 => ("SphereSheetsModel", "size", "[I", true)
  | 6 => ("SphereSheetsModel", "turns", "[I", true)
  | 7 => ("SphereSheetsModel", "lead", "[I", true)
  | 8 => ("SphereSheetsModel", "isGone", "[Z", true)
  | 9 => ("SphereSheetsModel", "round", "[I", true)
  | 10 => ("SphereSheetsModel", "partOf", "[I", true)
  | 11 => ("SphereSheetsModel", "nameOf", "[I", true)
  | 12 => ("SphereSheetsModel", "sheetOf", "[I", true)
  | 13 => ("SphereSheetsModel", "blockOf", "[I", true)
  | 14 => ("SphereSheetsModel", "isThere", "[Z", true)
  | 15 => ("SphereSheetsModel", "stays", "[I", true)
  | 16 => ("SphereSheetsModel", "now", "[I", true)
  | 17 => ("SphereSheetsModel", "mixed", "[I", true)
  | 18 => ("SphereSheetsModel", "names", "[I", true)
  | 19 => ("SphereSheetsModel", "trace", "[I", true)
  | 20 => ("SphereSheetsModel", "traced", "I", false)
  | 21 => ("SphereSheetsModel", "shapes", "I", false)
  | 22 => ("SphereSheetsModel", "length", "[I", true)
  | 23 => ("SphereSheetsModel", "next", "[I", true)
  | 24 => ("SphereSheetsModel", "ways", "[J", true)
  | _ => ("SphereSheetsModel", "then", "[J", true)
def tyX12 : Nat → FieldType := fun k => match k with
  | 0 => .int
  | 1 => .int
  | 2 => .array .int
  | 3 => .array .int
  | 4 => .array .int
  | 5 => .array .int
  | 6 => .array .int
  | 7 => .array .int
  | 8 => .array .boolean
  | 9 => .array .int
  | 10 => .array .int
  | 11 => .array .int
  | 12 => .array .int
  | 13 => .array .int
  | 14 => .array .boolean
  | 15 => .array .int
  | 16 => .array .int
  | 17 => .array .int
  | 18 => .array .int
  | 19 => .array .int
  | 20 => .int
  | 21 => .int
  | 22 => .array .int
  | 23 => .array .int
  | 24 => .array .long
  | _ => .array .long
theorem nmX12 : ∀ a, a < 26 → ∀ b, b < 26 → a ≠ b → (TX12 a).2.1 ≠ (TX12 b).2.1 := by decide +kernel
theorem tyX12_ok : ∀ k, k < 26 → parseFieldDescriptor (TX12 k).2.2.1 = some (tyX12 k) := by decide +kernel
abbrev cX12_init : ByteArray := prog_14_method_1_code
def yX12_init : MethodName := ⟨RX12, "<init>", "()V"⟩
abbrev cX12_in : ByteArray := prog_14_method_3_code
def yX12_in : MethodName := ⟨RX12, "in", "(JJJ)Z"⟩
abbrev cX12_found : ByteArray := prog_14_method_4_code
def yX12_found : MethodName := ⟨RX12, "found", "(I)I"⟩
abbrev cX12_isRow : ByteArray := prog_14_method_5_code
def yX12_isRow : MethodName := ⟨RX12, "isRow", "(I)Z"⟩
abbrev cX12_row : ByteArray := prog_14_method_6_code
def yX12_row : MethodName := ⟨RX12, "row", "(III)I"⟩
abbrev cX12_set : ByteArray := prog_14_method_7_code
def yX12_set : MethodName := ⟨RX12, "set", "(III)I"⟩
abbrev cX12_copy : ByteArray := prog_14_method_8_code
def yX12_copy : MethodName := ⟨RX12, "copy", "(IIIII)I"⟩
abbrev cX12_drop : ByteArray := prog_14_method_9_code
def yX12_drop : MethodName := ⟨RX12, "drop", "(I)I"⟩
abbrev cX12_isPlace : ByteArray := prog_14_method_10_code
def yX12_isPlace : MethodName := ⟨RX12, "isPlace", "(I)Z"⟩
abbrev cX12_at : ByteArray := prog_14_method_11_code
def yX12_at : MethodName := ⟨RX12, "at", "(III)I"⟩
abbrev cX12_put : ByteArray := prog_14_method_12_code
def yX12_put : MethodName := ⟨RX12, "put", "(IIII)V"⟩
abbrev cX12_backAt : ByteArray := prog_14_method_13_code
def yX12_backAt : MethodName := ⟨RX12, "backAt", "(III)I"⟩
abbrev cX12_become : ByteArray := prog_14_method_14_code
def yX12_become : MethodName := ⟨RX12, "become", "(II)V"⟩
abbrev cX12_rounds : ByteArray := prog_14_method_15_code
def yX12_rounds : MethodName := ⟨RX12, "rounds", "(II)I"⟩
abbrev cX12_parts : ByteArray := prog_14_method_16_code
def yX12_parts : MethodName := ⟨RX12, "parts", "(I)I"⟩
abbrev cX12_kindOf : ByteArray := prog_14_method_17_code
def yX12_kindOf : MethodName := ⟨RX12, "kindOf", "(I)I"⟩
abbrev cX12_lay : ByteArray := prog_14_method_18_code
def yX12_lay : MethodName := ⟨RX12, "lay", "(I)I"⟩
abbrev cX12_cover : ByteArray := prog_14_method_19_code
def yX12_cover : MethodName := ⟨RX12, "cover", "(IIIII)I"⟩
abbrev cX12_look : ByteArray := prog_14_method_20_code
def yX12_look : MethodName := ⟨RX12, "look", "(IZ)I"⟩
abbrev cX12_part : ByteArray := prog_14_method_21_code
def yX12_part : MethodName := ⟨RX12, "part", "(III)I"⟩
abbrev cX12_rename : ByteArray := prog_14_method_22_code
def yX12_rename : MethodName := ⟨RX12, "rename", "(III)V"⟩
abbrev cX12_compare : ByteArray := prog_14_method_23_code
def yX12_compare : MethodName := ⟨RX12, "compare", "(II)I"⟩
abbrev cX12_least : ByteArray := prog_14_method_24_code
def yX12_least : MethodName := ⟨RX12, "least", "(II)I"⟩
abbrev cX12_name : ByteArray := prog_14_method_25_code
def yX12_name : MethodName := ⟨RX12, "name", "(II)I"⟩
abbrev cX12_blocks : ByteArray := prog_14_method_26_code
def yX12_blocks : MethodName := ⟨RX12, "blocks", "(III)I"⟩
abbrev cX12_merge : ByteArray := prog_14_method_27_code
def yX12_merge : MethodName := ⟨RX12, "merge", "(III)V"⟩
abbrev cX12_isSheet : ByteArray := prog_14_method_28_code
def yX12_isSheet : MethodName := ⟨RX12, "isSheet", "(II)Z"⟩
abbrev cX12_between : ByteArray := prog_14_method_29_code
def yX12_between : MethodName := ⟨RX12, "between", "(IIII)I"⟩
abbrev cX12_braided : ByteArray := prog_14_method_30_code
def yX12_braided : MethodName := ⟨RX12, "braided", "(IIII)V"⟩
abbrev cX12_braid : ByteArray := prog_14_method_31_code
def yX12_braid : MethodName := ⟨RX12, "braid", "(IIII)I"⟩
abbrev cX12_turn : ByteArray := prog_14_method_32_code
def yX12_turn : MethodName := ⟨RX12, "turn", "(III)I"⟩
abbrev cX12_over : ByteArray := prog_14_method_33_code
def yX12_over : MethodName := ⟨RX12, "over", "(III)I"⟩
abbrev cX12_clear : ByteArray := prog_14_method_34_code
def yX12_clear : MethodName := ⟨RX12, "clear", "(I)I"⟩
abbrev cX12_sift : ByteArray := prog_14_method_35_code
def yX12_sift : MethodName := ⟨RX12, "sift", "(I)Z"⟩
abbrev cX12_heap : ByteArray := prog_14_method_36_code
def yX12_heap : MethodName := ⟨RX12, "heap", "(I)I"⟩
abbrev cX12_told : ByteArray := prog_14_method_37_code
def yX12_told : MethodName := ⟨RX12, "told", "(II)I"⟩
abbrev cX12_leads : ByteArray := prog_14_method_38_code
def yX12_leads : MethodName := ⟨RX12, "leads", "(III)I"⟩
abbrev cX12_shape : ByteArray := prog_14_method_39_code
def yX12_shape : MethodName := ⟨RX12, "shape", "(III)I"⟩
abbrev cX12_block : ByteArray := prog_14_method_40_code
def yX12_block : MethodName := ⟨RX12, "block", "(IIII)I"⟩
abbrev cX12_same : ByteArray := prog_14_method_41_code
def yX12_same : MethodName := ⟨RX12, "same", "(II)I"⟩
abbrev cX12_isName : ByteArray := prog_14_method_42_code
def yX12_isName : MethodName := ⟨RX12, "isName", "(I)Z"⟩
abbrev cX12_ring : ByteArray := prog_14_method_43_code
def yX12_ring : MethodName := ⟨RX12, "ring", "(I)I"⟩
abbrev cX12_lift : ByteArray := prog_14_method_44_code
def yX12_lift : MethodName := ⟨RX12, "lift", "(IIIII)I"⟩
abbrev cX12_kind : ByteArray := prog_14_method_45_code
def yX12_kind : MethodName := ⟨RX12, "kind", "(I)I"⟩
abbrev cX12_isOf : ByteArray := prog_14_method_46_code
def yX12_isOf : MethodName := ⟨RX12, "isOf", "(II)Z"⟩
abbrev cX12_is : ByteArray := prog_14_method_47_code
def yX12_is : MethodName := ⟨RX12, "is", "(II)I"⟩
abbrev cX12_as : ByteArray := prog_14_method_48_code
def yX12_as : MethodName := ⟨RX12, "as", "(II)I"⟩
abbrev cX12_began : ByteArray := prog_14_method_49_code
def yX12_began : MethodName := ⟨RX12, "began", "(I)V"⟩
abbrev cX12_marked : ByteArray := prog_14_method_50_code
def yX12_marked : MethodName := ⟨RX12, "marked", "(I)I"⟩
abbrev cX12_sized : ByteArray := prog_14_method_51_code
def yX12_sized : MethodName := ⟨RX12, "sized", "(I)I"⟩
abbrev cX12_ask : ByteArray := prog_14_method_52_code
def yX12_ask : MethodName := ⟨RX12, "ask", "(II)I"⟩
abbrev cX12_trace : ByteArray := prog_14_method_53_code
def yX12_trace : MethodName := ⟨RX12, "trace", "(I)I"⟩
abbrev cX12_findShapes : ByteArray := prog_14_method_54_code
def yX12_findShapes : MethodName := ⟨RX12, "findShapes", "(I)V"⟩
abbrev cX12_changed : ByteArray := prog_14_method_55_code
def yX12_changed : MethodName := ⟨RX12, "changed", "(IIIII)I"⟩
abbrev cX12_joins : ByteArray := prog_14_method_56_code
def yX12_joins : MethodName := ⟨RX12, "joins", "(III)J"⟩
abbrev cX12_shapes : ByteArray := prog_14_method_57_code
def yX12_shapes : MethodName := ⟨RX12, "shapes", "(III)I"⟩
abbrev cX12_count : ByteArray := prog_14_method_58_code
def yX12_count : MethodName := ⟨RX12, "count", "(I)I"⟩
abbrev cX12_status : ByteArray := prog_14_method_59_code
def yX12_status : MethodName := ⟨RX12, "status", "()I"⟩
def RJx8e188 : String := "java/lang/Cloneable"
def TJx8e188 : u_T := fun k => match k with
  | _ => ("", "", "", false)
def tyJx8e188 : Nat → FieldType := fun k => match k with
  | _ => .int
theorem nmJx8e188 : ∀ a, a < 0 → ∀ b, b < 0 → a ≠ b → (TJx8e188 a).2.1 ≠ (TJx8e188 b).2.1 := by decide +kernel
theorem tyJx8e188_ok : ∀ k, k < 0 → parseFieldDescriptor (TJx8e188 k).2.2.1 = some (tyJx8e188 k) := by decide +kernel
def RJ6 : String := "java/lang/Integer"
def TJ6 : u_T := fun k => match k with
  | _ => ("", "", "", false)
def tyJ6 : Nat → FieldType := fun k => match k with
  | _ => .int
theorem nmJ6 : ∀ a, a < 0 → ∀ b, b < 0 → a ≠ b → (TJ6 a).2.1 ≠ (TJ6 b).2.1 := by decide +kernel
theorem tyJ6_ok : ∀ k, k < 0 → parseFieldDescriptor (TJ6 k).2.2.1 = some (tyJ6 k) := by decide +kernel
abbrev cJ6_bitCount_0f7a4 : ByteArray := prog_16_method_49_code
def yJ6_bitCount_0f7a4 : MethodName := ⟨RJ6, "bitCount", "(I)I"⟩
def RJ13 : String := "java/lang/Long"
def TJ13 : u_T := fun k => match k with
  | _ => ("", "", "", false)
def tyJ13 : Nat → FieldType := fun k => match k with
  | _ => .int
theorem nmJ13 : ∀ a, a < 0 → ∀ b, b < 0 → a ≠ b → (TJ13 a).2.1 ≠ (TJ13 b).2.1 := by decide +kernel
theorem tyJ13_ok : ∀ k, k < 0 → parseFieldDescriptor (TJ13 k).2.2.1 = some (tyJ13 k) := by decide +kernel
abbrev cJ13_compare_74951 : ByteArray := prog_17_method_42_code
def yJ13_compare_74951 : MethodName := ⟨RJ13, "compare", "(JJ)I"⟩
def RJ9 : String := "java/lang/Math"
def TJ9 : u_T := fun k => match k with
  | _ => ("", "", "", false)
def tyJ9 : Nat → FieldType := fun k => match k with
  | _ => .int
theorem nmJ9 : ∀ a, a < 0 → ∀ b, b < 0 → a ≠ b → (TJ9 a).2.1 ≠ (TJ9 b).2.1 := by decide +kernel
theorem tyJ9_ok : ∀ k, k < 0 → parseFieldDescriptor (TJ9 k).2.2.1 = some (tyJ9 k) := by decide +kernel
abbrev cJ9_max_7cf53 : ByteArray := prog_18_method_65_code
def yJ9_max_7cf53 : MethodName := ⟨RJ9, "max", "(II)I"⟩
abbrev cJ9_min_7cf53 : ByteArray := prog_18_method_69_code
def yJ9_min_7cf53 : MethodName := ⟨RJ9, "min", "(II)I"⟩
def RJ10 : String := "java/lang/System"
def TJ10 : u_T := fun k => match k with
  | _ => ("", "", "", false)
def tyJ10 : Nat → FieldType := fun k => match k with
  | _ => .int
theorem nmJ10 : ∀ a, a < 0 → ∀ b, b < 0 → a ≠ b → (TJ10 a).2.1 ≠ (TJ10 b).2.1 := by decide +kernel
theorem tyJ10_ok : ∀ k, k < 0 → parseFieldDescriptor (TJ10 k).2.2.1 = some (tyJ10 k) := by decide +kernel
def RJ7 : String := "java/util/Arrays"
def TJ7 : u_T := fun k => match k with
  | _ => ("", "", "", false)
def tyJ7 : Nat → FieldType := fun k => match k with
  | _ => .int
theorem nmJ7 : ∀ a, a < 0 → ∀ b, b < 0 → a ≠ b → (TJ7 a).2.1 ≠ (TJ7 b).2.1 := by decide +kernel
theorem tyJ7_ok : ∀ k, k < 0 → parseFieldDescriptor (TJ7 k).2.2.1 = some (tyJ7 k) := by decide +kernel
abbrev cJ7_fill_d0a16 : ByteArray := prog_20_method_101_code
def yJ7_fill_d0a16 : MethodName := ⟨RJ7, "fill", "([JJ)V"⟩
abbrev cJ7_fill_53178 : ByteArray := prog_20_method_103_code
def yJ7_fill_53178 : MethodName := ⟨RJ7, "fill", "([II)V"⟩
abbrev cJ7_copyOf_c38d5 : ByteArray := prog_20_method_124_code
def yJ7_copyOf_c38d5 : MethodName := ⟨RJ7, "copyOf", "([JI)[J"⟩
def RL : String := "SphereSheetsLaw"
abbrev cL_law : ByteArray := code
def yL_law : MethodName := ⟨RL, "law", "([I)Z"⟩
abbrev vwCl : List vw_C := [(RX0, TX0, 3), (RX1, TX1, 3), (RX2, TX2, 3), (RX3, TX3, 4), (RX4, TX4, 3), (RX6, TX6, 3), (RX7, TX7, 3), (RX8, TX8, 4), (RX9, TX9, 3), (RX10, TX10, 3), (RX11, TX11, 8), (RX12, TX12, 26)]
end
section
theorem dX0_init_0 : decode cX0_init 0 = .ok (.aload_n 0, 1) := by decide +kernel
theorem dX0_init_1 : decode cX0_init 1 = .ok (.iload_n 1, 1) := by decide +kernel
theorem dX0_init_2 : decode cX0_init 2 = .ok (.aload_n 2, 1) := by decide +kernel
theorem dX0_init_3 : decode cX0_init 3 = .ok (.iload_n 3, 1) := by decide +kernel
theorem dX0_init_4 : decode cX0_init 4 = .ok (.invokespecial 1, 3) := by decide +kernel
theorem dX0_init_7 : decode cX0_init 7 = .ok (.return_, 1) := by decide +kernel
theorem dX0_kindNumber_0 : decode cX0_kindNumber 0 = .ok (.iconst 3, 1) := by decide +kernel
theorem dX0_kindNumber_1 : decode cX0_kindNumber 1 = .ok (.ireturn, 1) := by decide +kernel
theorem dX0_sizeAsked_0 : decode cX0_sizeAsked 0 = .ok (.aload_n 1, 1) := by decide +kernel
theorem dX0_sizeAsked_1 : decode cX0_sizeAsked 1 = .ok (.bipush 13, 2) := by decide +kernel
theorem dX0_sizeAsked_3 : decode cX0_sizeAsked 3 = .ok (.invokevirtual 7, 3) := by decide +kernel
theorem dX0_sizeAsked_6 : decode cX0_sizeAsked 6 = .ok (.iconst 2, 1) := by decide +kernel
theorem dX0_sizeAsked_7 : decode cX0_sizeAsked 7 = .ok (.aload_n 0, 1) := by decide +kernel
theorem dX0_sizeAsked_8 : decode cX0_sizeAsked 8 = .ok (.aload_n 1, 1) := by decide +kernel
theorem dX0_sizeAsked_9 : decode cX0_sizeAsked 9 = .ok (.invokespecial 13, 3) := by decide +kernel
theorem dX0_sizeAsked_12 : decode cX0_sizeAsked 12 = .ok (.imul, 1) := by decide +kernel
theorem dX0_sizeAsked_13 : decode cX0_sizeAsked 13 = .ok (.ireturn, 1) := by decide +kernel
theorem dX1_init_0 : decode cX1_init 0 = .ok (.aload_n 0, 1) := by decide +kernel
theorem dX1_init_1 : decode cX1_init 1 = .ok (.invokespecial 1, 3) := by decide +kernel
theorem dX1_init_4 : decode cX1_init 4 = .ok (.aload_n 0, 1) := by decide +kernel
theorem dX1_init_5 : decode cX1_init 5 = .ok (.iload_n 1, 1) := by decide +kernel
theorem dX1_init_6 : decode cX1_init 6 = .ok (.putfield 7, 3) := by decide +kernel
theorem dX1_init_9 : decode cX1_init 9 = .ok (.aload_n 0, 1) := by decide +kernel
theorem dX1_init_10 : decode cX1_init 10 = .ok (.aload_n 2, 1) := by decide +kernel
theorem dX1_init_11 : decode cX1_init 11 = .ok (.putfield 13, 3) := by decide +kernel
theorem dX1_init_14 : decode cX1_init 14 = .ok (.aload_n 0, 1) := by decide +kernel
theorem dX1_init_15 : decode cX1_init 15 = .ok (.iload_n 3, 1) := by decide +kernel
theorem dX1_init_16 : decode cX1_init 16 = .ok (.putfield 17, 3) := by decide +kernel
theorem dX1_init_19 : decode cX1_init 19 = .ok (.return_, 1) := by decide +kernel
theorem dX1_of_0 : decode cX1_of 0 = .ok (.aload_n 1, 1) := by decide +kernel
theorem dX1_of_1 : decode cX1_of 1 = .ok (.iload_n 0, 1) := by decide +kernel
theorem dX1_of_2 : decode cX1_of 2 = .ok (.invokestatic 20, 3) := by decide +kernel
theorem dX1_of_5 : decode cX1_of 5 = .ok (.iload_n 0, 1) := by decide +kernel
theorem dX1_of_6 : decode cX1_of 6 = .ok (.invokestatic 26, 3) := by decide +kernel
theorem dX1_of_9 : decode cX1_of 9 = .ok (.istore_n 2, 1) := by decide +kernel
theorem dX1_of_10 : decode cX1_of 10 = .ok (.aload_n 1, 1) := by decide +kernel
theorem dX1_of_11 : decode cX1_of 11 = .ok (.arraylength, 1) := by decide +kernel
theorem dX1_of_12 : decode cX1_of 12 = .ok (.iconst 3, 1) := by decide +kernel
theorem dX1_of_13 : decode cX1_of 13 = .ok (.if_icmp .eq 35, 3) := by decide +kernel
theorem dX1_of_16 : decode cX1_of 16 = .ok (.iload_n 0, 1) := by decide +kernel
theorem dX1_of_17 : decode cX1_of 17 = .ok (.aload_n 1, 1) := by decide +kernel
theorem dX1_of_18 : decode cX1_of 18 = .ok (.invokestatic 30, 3) := by decide +kernel
theorem dX1_of_21 : decode cX1_of 21 = .ok (.ifCond .eq 16, 3) := by decide +kernel
theorem dX1_of_24 : decode cX1_of 24 = .ok (.new 34, 3) := by decide +kernel
theorem dX1_of_27 : decode cX1_of 27 = .ok (.dup, 1) := by decide +kernel
theorem dX1_of_28 : decode cX1_of 28 = .ok (.iload_n 0, 1) := by decide +kernel
theorem dX1_of_29 : decode cX1_of 29 = .ok (.aload_n 1, 1) := by decide +kernel
theorem dX1_of_30 : decode cX1_of 30 = .ok (.iload_n 2, 1) := by decide +kernel
theorem dX1_of_31 : decode cX1_of 31 = .ok (.invokespecial 36, 3) := by decide +kernel
theorem dX1_of_34 : decode cX1_of 34 = .ok (.goto 13, 3) := by decide +kernel
theorem dX1_of_37 : decode cX1_of 37 = .ok (.new 8, 3) := by decide +kernel
theorem dX1_of_40 : decode cX1_of 40 = .ok (.dup, 1) := by decide +kernel
theorem dX1_of_41 : decode cX1_of 41 = .ok (.iload_n 0, 1) := by decide +kernel
theorem dX1_of_42 : decode cX1_of 42 = .ok (.aload_n 1, 1) := by decide +kernel
theorem dX1_of_43 : decode cX1_of 43 = .ok (.iload_n 2, 1) := by decide +kernel
theorem dX1_of_44 : decode cX1_of 44 = .ok (.invokespecial 39, 3) := by decide +kernel
theorem dX1_of_47 : decode cX1_of 47 = .ok (.areturn, 1) := by decide +kernel
theorem dX1_of_48 : decode cX1_of 48 = .ok (.iload_n 0, 1) := by decide +kernel
theorem dX1_of_49 : decode cX1_of 49 = .ok (.iconst 2, 1) := by decide +kernel
theorem dX1_of_50 : decode cX1_of 50 = .ok (.idiv, 1) := by decide +kernel
theorem dX1_of_51 : decode cX1_of 51 = .ok (.i2l, 1) := by decide +kernel
theorem dX1_of_52 : decode cX1_of 52 = .ok (.iconst 2, 1) := by decide +kernel
theorem dX1_of_53 : decode cX1_of 53 = .ok (.invokestatic 40, 3) := by decide +kernel
theorem dX1_of_56 : decode cX1_of 56 = .ok (.lmul, 1) := by decide +kernel
theorem dX1_of_57 : decode cX1_of 57 = .ok (.lstore_n 3, 1) := by decide +kernel
theorem dX1_of_58 : decode cX1_of 58 = .ok (.iload_n 0, 1) := by decide +kernel
theorem dX1_of_59 : decode cX1_of 59 = .ok (.iconst 2, 1) := by decide +kernel
theorem dX1_of_60 : decode cX1_of 60 = .ok (.irem, 1) := by decide +kernel
theorem dX1_of_61 : decode cX1_of 61 = .ok (.ifCond .ne 15, 3) := by decide +kernel
theorem dX1_of_64 : decode cX1_of 64 = .ok (.aload_n 1, 1) := by decide +kernel
theorem dX1_of_65 : decode cX1_of 65 = .ok (.iconst 2, 1) := by decide +kernel
theorem dX1_of_66 : decode cX1_of 66 = .ok (.laload, 1) := by decide +kernel
theorem dX1_of_67 : decode cX1_of 67 = .ok (.iload_n 0, 1) := by decide +kernel
theorem dX1_of_68 : decode cX1_of 68 = .ok (.invokestatic 46, 3) := by decide +kernel
theorem dX1_of_71 : decode cX1_of 71 = .ok (.lload_n 3, 1) := by decide +kernel
theorem dX1_of_72 : decode cX1_of 72 = .ok (.lcmp, 1) := by decide +kernel
theorem dX1_of_73 : decode cX1_of 73 = .ok (.ifCond .eq 14, 3) := by decide +kernel
theorem dX1_of_76 : decode cX1_of 76 = .ok (.new 50, 3) := by decide +kernel
theorem dX1_of_79 : decode cX1_of 79 = .ok (.dup, 1) := by decide +kernel
theorem dX1_of_80 : decode cX1_of 80 = .ok (.iload_n 0, 1) := by decide +kernel
theorem dX1_of_81 : decode cX1_of 81 = .ok (.aload_n 1, 1) := by decide +kernel
theorem dX1_of_82 : decode cX1_of 82 = .ok (.iload_n 2, 1) := by decide +kernel
theorem dX1_of_83 : decode cX1_of 83 = .ok (.invokespecial 52, 3) := by decide +kernel
theorem dX1_of_86 : decode cX1_of 86 = .ok (.areturn, 1) := by decide +kernel
theorem dX1_of_87 : decode cX1_of 87 = .ok (.aload_n 1, 1) := by decide +kernel
theorem dX1_of_88 : decode cX1_of 88 = .ok (.iconst 1, 1) := by decide +kernel
theorem dX1_of_89 : decode cX1_of 89 = .ok (.laload, 1) := by decide +kernel
theorem dX1_of_90 : decode cX1_of 90 = .ok (.iload_n 0, 1) := by decide +kernel
theorem dX1_of_91 : decode cX1_of 91 = .ok (.invokestatic 46, 3) := by decide +kernel
theorem dX1_of_94 : decode cX1_of 94 = .ok (.iload_n 0, 1) := by decide +kernel
theorem dX1_of_95 : decode cX1_of 95 = .ok (.invokestatic 40, 3) := by decide +kernel
theorem dX1_of_98 : decode cX1_of 98 = .ok (.lcmp, 1) := by decide +kernel
theorem dX1_of_99 : decode cX1_of 99 = .ok (.ifCond .eq 14, 3) := by decide +kernel
theorem dX1_of_102 : decode cX1_of 102 = .ok (.new 53, 3) := by decide +kernel
theorem dX1_of_105 : decode cX1_of 105 = .ok (.dup, 1) := by decide +kernel
theorem dX1_of_106 : decode cX1_of 106 = .ok (.iload_n 0, 1) := by decide +kernel
theorem dX1_of_107 : decode cX1_of 107 = .ok (.aload_n 1, 1) := by decide +kernel
theorem dX1_of_108 : decode cX1_of 108 = .ok (.iload_n 2, 1) := by decide +kernel
theorem dX1_of_109 : decode cX1_of 109 = .ok (.invokespecial 55, 3) := by decide +kernel
theorem dX1_of_112 : decode cX1_of 112 = .ok (.areturn, 1) := by decide +kernel
theorem dX1_of_113 : decode cX1_of 113 = .ok (.new 56, 3) := by decide +kernel
theorem dX1_of_116 : decode cX1_of 116 = .ok (.dup, 1) := by decide +kernel
theorem dX1_of_117 : decode cX1_of 117 = .ok (.iload_n 0, 1) := by decide +kernel
theorem dX1_of_118 : decode cX1_of 118 = .ok (.aload_n 1, 1) := by decide +kernel
theorem dX1_of_119 : decode cX1_of 119 = .ok (.iload_n 2, 1) := by decide +kernel
theorem dX1_of_120 : decode cX1_of 120 = .ok (.invokespecial 58, 3) := by decide +kernel
theorem dX1_of_123 : decode cX1_of 123 = .ok (.areturn, 1) := by decide +kernel
theorem dX1_exchangesAhead_0 : decode cX1_exchangesAhead 0 = .ok (.iload_n 0, 1) := by decide +kernel
theorem dX1_exchangesAhead_1 : decode cX1_exchangesAhead 1 = .ok (.iconst 2, 1) := by decide +kernel
theorem dX1_exchangesAhead_2 : decode cX1_exchangesAhead 2 = .ok (.if_icmp .lt 9, 3) := by decide +kernel
theorem dX1_exchangesAhead_5 : decode cX1_exchangesAhead 5 = .ok (.aload_n 1, 1) := by decide +kernel
theorem dX1_exchangesAhead_6 : decode cX1_exchangesAhead 6 = .ok (.arraylength, 1) := by decide +kernel
theorem dX1_exchangesAhead_7 : decode cX1_exchangesAhead 7 = .ok (.iconst 2, 1) := by decide +kernel
theorem dX1_exchangesAhead_8 : decode cX1_exchangesAhead 8 = .ok (.if_icmp .ge 5, 3) := by decide +kernel
theorem dX1_exchangesAhead_11 : decode cX1_exchangesAhead 11 = .ok (.iconst 0, 1) := by decide +kernel
theorem dX1_exchangesAhead_12 : decode cX1_exchangesAhead 12 = .ok (.ireturn, 1) := by decide +kernel
theorem dX1_exchangesAhead_13 : decode cX1_exchangesAhead 13 = .ok (.iconst 2, 1) := by decide +kernel
theorem dX1_exchangesAhead_14 : decode cX1_exchangesAhead 14 = .ok (.invokestatic 40, 3) := by decide +kernel
theorem dX1_exchangesAhead_17 : decode cX1_exchangesAhead 17 = .ok (.iload_n 0, 1) := by decide +kernel
theorem dX1_exchangesAhead_18 : decode cX1_exchangesAhead 18 = .ok (.iconst 2, 1) := by decide +kernel
theorem dX1_exchangesAhead_19 : decode cX1_exchangesAhead 19 = .ok (.isub, 1) := by decide +kernel
theorem dX1_exchangesAhead_20 : decode cX1_exchangesAhead 20 = .ok (.i2l, 1) := by decide +kernel
theorem dX1_exchangesAhead_21 : decode cX1_exchangesAhead 21 = .ok (.iconst 1, 1) := by decide +kernel
theorem dX1_exchangesAhead_22 : decode cX1_exchangesAhead 22 = .ok (.invokestatic 40, 3) := by decide +kernel
theorem dX1_exchangesAhead_25 : decode cX1_exchangesAhead 25 = .ok (.lmul, 1) := by decide +kernel
theorem dX1_exchangesAhead_26 : decode cX1_exchangesAhead 26 = .ok (.ladd, 1) := by decide +kernel
theorem dX1_exchangesAhead_27 : decode cX1_exchangesAhead 27 = .ok (.lstore_n 2, 1) := by decide +kernel
theorem dX1_exchangesAhead_28 : decode cX1_exchangesAhead 28 = .ok (.iconst 0, 1) := by decide +kernel
theorem dX1_exchangesAhead_29 : decode cX1_exchangesAhead 29 = .ok (.istore 4, 2) := by decide +kernel
theorem dX1_exchangesAhead_31 : decode cX1_exchangesAhead 31 = .ok (.iload 4, 2) := by decide +kernel
theorem dX1_exchangesAhead_33 : decode cX1_exchangesAhead 33 = .ok (.aload_n 1, 1) := by decide +kernel
theorem dX1_exchangesAhead_34 : decode cX1_exchangesAhead 34 = .ok (.arraylength, 1) := by decide +kernel
theorem dX1_exchangesAhead_35 : decode cX1_exchangesAhead 35 = .ok (.iconst 1, 1) := by decide +kernel
theorem dX1_exchangesAhead_36 : decode cX1_exchangesAhead 36 = .ok (.isub, 1) := by decide +kernel
theorem dX1_exchangesAhead_37 : decode cX1_exchangesAhead 37 = .ok (.if_icmp .ge 24, 3) := by decide +kernel
theorem dX1_exchangesAhead_40 : decode cX1_exchangesAhead 40 = .ok (.aload_n 1, 1) := by decide +kernel
theorem dX1_exchangesAhead_41 : decode cX1_exchangesAhead 41 = .ok (.iload 4, 2) := by decide +kernel
theorem dX1_exchangesAhead_43 : decode cX1_exchangesAhead 43 = .ok (.laload, 1) := by decide +kernel
theorem dX1_exchangesAhead_44 : decode cX1_exchangesAhead 44 = .ok (.iload_n 0, 1) := by decide +kernel
theorem dX1_exchangesAhead_45 : decode cX1_exchangesAhead 45 = .ok (.invokestatic 46, 3) := by decide +kernel
theorem dX1_exchangesAhead_48 : decode cX1_exchangesAhead 48 = .ok (.lload_n 2, 1) := by decide +kernel
theorem dX1_exchangesAhead_49 : decode cX1_exchangesAhead 49 = .ok (.lcmp, 1) := by decide +kernel
theorem dX1_exchangesAhead_50 : decode cX1_exchangesAhead 50 = .ok (.ifCond .eq 5, 3) := by decide +kernel
theorem dX1_exchangesAhead_53 : decode cX1_exchangesAhead 53 = .ok (.iconst 0, 1) := by decide +kernel
theorem dX1_exchangesAhead_54 : decode cX1_exchangesAhead 54 = .ok (.ireturn, 1) := by decide +kernel
theorem dX1_exchangesAhead_55 : decode cX1_exchangesAhead 55 = .ok (.iinc 4 1, 3) := by decide +kernel
theorem dX1_exchangesAhead_58 : decode cX1_exchangesAhead 58 = .ok (.goto (-27), 3) := by decide +kernel
theorem dX1_exchangesAhead_61 : decode cX1_exchangesAhead 61 = .ok (.iconst 1, 1) := by decide +kernel
theorem dX1_exchangesAhead_62 : decode cX1_exchangesAhead 62 = .ok (.ireturn, 1) := by decide +kernel
theorem dX1_kindNumber_0 : decode cX1_kindNumber 0 = .ok (.iconst 0, 1) := by decide +kernel
theorem dX1_kindNumber_1 : decode cX1_kindNumber 1 = .ok (.ireturn, 1) := by decide +kernel
theorem dX1_sizeAsked_0 : decode cX1_sizeAsked 0 = .ok (.aload_n 1, 1) := by decide +kernel
theorem dX1_sizeAsked_1 : decode cX1_sizeAsked 1 = .ok (.bipush 10, 2) := by decide +kernel
theorem dX1_sizeAsked_3 : decode cX1_sizeAsked 3 = .ok (.invokevirtual 59, 3) := by decide +kernel
theorem dX1_sizeAsked_6 : decode cX1_sizeAsked 6 = .ok (.aload_n 0, 1) := by decide +kernel
theorem dX1_sizeAsked_7 : decode cX1_sizeAsked 7 = .ok (.getfield 7, 3) := by decide +kernel
theorem dX1_sizeAsked_10 : decode cX1_sizeAsked 10 = .ok (.ireturn, 1) := by decide +kernel
theorem dX1_markAsked_0 : decode cX1_markAsked 0 = .ok (.aload_n 1, 1) := by decide +kernel
theorem dX1_markAsked_1 : decode cX1_markAsked 1 = .ok (.bipush 20, 2) := by decide +kernel
theorem dX1_markAsked_3 : decode cX1_markAsked 3 = .ok (.invokevirtual 59, 3) := by decide +kernel
theorem dX1_markAsked_6 : decode cX1_markAsked 6 = .ok (.aload_n 0, 1) := by decide +kernel
theorem dX1_markAsked_7 : decode cX1_markAsked 7 = .ok (.getfield 17, 3) := by decide +kernel
theorem dX1_markAsked_10 : decode cX1_markAsked 10 = .ok (.ireturn, 1) := by decide +kernel
theorem dX1_noSheet_0 : decode cX1_noSheet 0 = .ok (.iload_n 1, 1) := by decide +kernel
theorem dX1_noSheet_1 : decode cX1_noSheet 1 = .ok (.ifCond .lt 11, 3) := by decide +kernel
theorem dX1_noSheet_4 : decode cX1_noSheet 4 = .ok (.iload_n 1, 1) := by decide +kernel
theorem dX1_noSheet_5 : decode cX1_noSheet 5 = .ok (.aload_n 0, 1) := by decide +kernel
theorem dX1_noSheet_6 : decode cX1_noSheet 6 = .ok (.getfield 7, 3) := by decide +kernel
theorem dX1_noSheet_9 : decode cX1_noSheet 9 = .ok (.if_icmp .lt 7, 3) := by decide +kernel
theorem dX1_noSheet_12 : decode cX1_noSheet 12 = .ok (.iconst 1, 1) := by decide +kernel
theorem dX1_noSheet_13 : decode cX1_noSheet 13 = .ok (.goto 4, 3) := by decide +kernel
theorem dX1_noSheet_16 : decode cX1_noSheet 16 = .ok (.iconst 0, 1) := by decide +kernel
theorem dX1_noSheet_17 : decode cX1_noSheet 17 = .ok (.ireturn, 1) := by decide +kernel
theorem dX1_noTurn_0 : decode cX1_noTurn 0 = .ok (.iload_n 1, 1) := by decide +kernel
theorem dX1_noTurn_1 : decode cX1_noTurn 1 = .ok (.ifCond .lt 12, 3) := by decide +kernel
theorem dX1_noTurn_4 : decode cX1_noTurn 4 = .ok (.iload_n 1, 1) := by decide +kernel
theorem dX1_noTurn_5 : decode cX1_noTurn 5 = .ok (.aload_n 0, 1) := by decide +kernel
theorem dX1_noTurn_6 : decode cX1_noTurn 6 = .ok (.getfield 13, 3) := by decide +kernel
theorem dX1_noTurn_9 : decode cX1_noTurn 9 = .ok (.arraylength, 1) := by decide +kernel
theorem dX1_noTurn_10 : decode cX1_noTurn 10 = .ok (.if_icmp .lt 7, 3) := by decide +kernel
theorem dX1_noTurn_13 : decode cX1_noTurn 13 = .ok (.iconst 1, 1) := by decide +kernel
theorem dX1_noTurn_14 : decode cX1_noTurn 14 = .ok (.goto 4, 3) := by decide +kernel
theorem dX1_noTurn_17 : decode cX1_noTurn 17 = .ok (.iconst 0, 1) := by decide +kernel
theorem dX1_noTurn_18 : decode cX1_noTurn 18 = .ok (.ireturn, 1) := by decide +kernel
theorem dX1_turnAt_0 : decode cX1_turnAt 0 = .ok (.aload_n 0, 1) := by decide +kernel
theorem dX1_turnAt_1 : decode cX1_turnAt 1 = .ok (.iload_n 1, 1) := by decide +kernel
theorem dX1_turnAt_2 : decode cX1_turnAt 2 = .ok (.invokevirtual 65, 3) := by decide +kernel
theorem dX1_turnAt_5 : decode cX1_turnAt 5 = .ok (.ifCond .eq 13, 3) := by decide +kernel
theorem dX1_turnAt_8 : decode cX1_turnAt 8 = .ok (.aload_n 0, 1) := by decide +kernel
theorem dX1_turnAt_9 : decode cX1_turnAt 9 = .ok (.getfield 7, 3) := by decide +kernel
theorem dX1_turnAt_12 : decode cX1_turnAt 12 = .ok (.invokestatic 69, 3) := by decide +kernel
theorem dX1_turnAt_15 : decode cX1_turnAt 15 = .ok (.goto 9, 3) := by decide +kernel
theorem dX1_turnAt_18 : decode cX1_turnAt 18 = .ok (.aload_n 0, 1) := by decide +kernel
theorem dX1_turnAt_19 : decode cX1_turnAt 19 = .ok (.getfield 13, 3) := by decide +kernel
theorem dX1_turnAt_22 : decode cX1_turnAt 22 = .ok (.iload_n 1, 1) := by decide +kernel
theorem dX1_turnAt_23 : decode cX1_turnAt 23 = .ok (.laload, 1) := by decide +kernel
theorem dX1_turnAt_24 : decode cX1_turnAt 24 = .ok (.lreturn, 1) := by decide +kernel
theorem dX1_noStep_0 : decode cX1_noStep 0 = .ok (.iload_n 1, 1) := by decide +kernel
theorem dX1_noStep_1 : decode cX1_noStep 1 = .ok (.ifCond .eq 22, 3) := by decide +kernel
theorem dX1_noStep_4 : decode cX1_noStep 4 = .ok (.iload_n 1, 1) := by decide +kernel
theorem dX1_noStep_5 : decode cX1_noStep 5 = .ok (.aload_n 0, 1) := by decide +kernel
theorem dX1_noStep_6 : decode cX1_noStep 6 = .ok (.getfield 13, 3) := by decide +kernel
theorem dX1_noStep_9 : decode cX1_noStep 9 = .ok (.arraylength, 1) := by decide +kernel
theorem dX1_noStep_10 : decode cX1_noStep 10 = .ok (.if_icmp .gt 13, 3) := by decide +kernel
theorem dX1_noStep_13 : decode cX1_noStep 13 = .ok (.iload_n 1, 1) := by decide +kernel
theorem dX1_noStep_14 : decode cX1_noStep 14 = .ok (.aload_n 0, 1) := by decide +kernel
theorem dX1_noStep_15 : decode cX1_noStep 15 = .ok (.getfield 13, 3) := by decide +kernel
theorem dX1_noStep_18 : decode cX1_noStep 18 = .ok (.arraylength, 1) := by decide +kernel
theorem dX1_noStep_19 : decode cX1_noStep 19 = .ok (.ineg, 1) := by decide +kernel
theorem dX1_noStep_20 : decode cX1_noStep 20 = .ok (.if_icmp .ge 7, 3) := by decide +kernel
theorem dX1_noStep_23 : decode cX1_noStep 23 = .ok (.iconst 1, 1) := by decide +kernel
theorem dX1_noStep_24 : decode cX1_noStep 24 = .ok (.goto 4, 3) := by decide +kernel
theorem dX1_noStep_27 : decode cX1_noStep 27 = .ok (.iconst 0, 1) := by decide +kernel
theorem dX1_noStep_28 : decode cX1_noStep 28 = .ok (.ireturn, 1) := by decide +kernel
theorem dX1_stepped_0 : decode cX1_stepped 0 = .ok (.iload_n 1, 1) := by decide +kernel
theorem dX1_stepped_1 : decode cX1_stepped 1 = .ok (.ifCond .le 15, 3) := by decide +kernel
theorem dX1_stepped_4 : decode cX1_stepped 4 = .ok (.aload_n 0, 1) := by decide +kernel
theorem dX1_stepped_5 : decode cX1_stepped 5 = .ok (.iload_n 1, 1) := by decide +kernel
theorem dX1_stepped_6 : decode cX1_stepped 6 = .ok (.iconst 1, 1) := by decide +kernel
theorem dX1_stepped_7 : decode cX1_stepped 7 = .ok (.isub, 1) := by decide +kernel
theorem dX1_stepped_8 : decode cX1_stepped 8 = .ok (.invokevirtual 72, 3) := by decide +kernel
theorem dX1_stepped_11 : decode cX1_stepped 11 = .ok (.iload_n 2, 1) := by decide +kernel
theorem dX1_stepped_12 : decode cX1_stepped 12 = .ok (.invokestatic 75, 3) := by decide +kernel
theorem dX1_stepped_15 : decode cX1_stepped 15 = .ok (.ireturn, 1) := by decide +kernel
theorem dX1_stepped_16 : decode cX1_stepped 16 = .ok (.aload_n 0, 1) := by decide +kernel
theorem dX1_stepped_17 : decode cX1_stepped 17 = .ok (.iload_n 1, 1) := by decide +kernel
theorem dX1_stepped_18 : decode cX1_stepped 18 = .ok (.ineg, 1) := by decide +kernel
theorem dX1_stepped_19 : decode cX1_stepped 19 = .ok (.iconst 1, 1) := by decide +kernel
theorem dX1_stepped_20 : decode cX1_stepped 20 = .ok (.isub, 1) := by decide +kernel
theorem dX1_stepped_21 : decode cX1_stepped 21 = .ok (.invokevirtual 72, 3) := by decide +kernel
theorem dX1_stepped_24 : decode cX1_stepped 24 = .ok (.aload_n 0, 1) := by decide +kernel
theorem dX1_stepped_25 : decode cX1_stepped 25 = .ok (.getfield 7, 3) := by decide +kernel
theorem dX1_stepped_28 : decode cX1_stepped 28 = .ok (.invokestatic 78, 3) := by decide +kernel
theorem dX1_stepped_31 : decode cX1_stepped 31 = .ok (.iload_n 2, 1) := by decide +kernel
theorem dX1_stepped_32 : decode cX1_stepped 32 = .ok (.invokestatic 75, 3) := by decide +kernel
theorem dX1_stepped_35 : decode cX1_stepped 35 = .ok (.ireturn, 1) := by decide +kernel
theorem dX1_rounds_0 : decode cX1_rounds 0 = .ok (.aload_n 0, 1) := by decide +kernel
theorem dX1_rounds_1 : decode cX1_rounds 1 = .ok (.iload_n 1, 1) := by decide +kernel
theorem dX1_rounds_2 : decode cX1_rounds 2 = .ok (.invokevirtual 72, 3) := by decide +kernel
theorem dX1_rounds_5 : decode cX1_rounds 5 = .ok (.aload_n 0, 1) := by decide +kernel
theorem dX1_rounds_6 : decode cX1_rounds 6 = .ok (.getfield 7, 3) := by decide +kernel
theorem dX1_rounds_9 : decode cX1_rounds 9 = .ok (.invokestatic 46, 3) := by decide +kernel
theorem dX1_rounds_12 : decode cX1_rounds 12 = .ok (.invokestatic 81, 3) := by decide +kernel
theorem dX1_rounds_15 : decode cX1_rounds 15 = .ok (.ireturn, 1) := by decide +kernel
theorem dX1_whole_0 : decode cX1_whole 0 = .ok (.aload_n 0, 1) := by decide +kernel
theorem dX1_whole_1 : decode cX1_whole 1 = .ok (.getfield 17, 3) := by decide +kernel
theorem dX1_whole_4 : decode cX1_whole 4 = .ok (.iconst 1, 1) := by decide +kernel
theorem dX1_whole_5 : decode cX1_whole 5 = .ok (.if_icmp .ne 7, 3) := by decide +kernel
theorem dX1_whole_8 : decode cX1_whole 8 = .ok (.iconst 1, 1) := by decide +kernel
theorem dX1_whole_9 : decode cX1_whole 9 = .ok (.goto 4, 3) := by decide +kernel
theorem dX1_whole_12 : decode cX1_whole 12 = .ok (.iconst 0, 1) := by decide +kernel
theorem dX1_whole_13 : decode cX1_whole 13 = .ok (.ireturn, 1) := by decide +kernel
theorem dX1_holes_0 : decode cX1_holes 0 = .ok (.iconst 2, 1) := by decide +kernel
theorem dX1_holes_1 : decode cX1_holes 1 = .ok (.iconst 2, 1) := by decide +kernel
theorem dX1_holes_2 : decode cX1_holes 2 = .ok (.aload_n 0, 1) := by decide +kernel
theorem dX1_holes_3 : decode cX1_holes 3 = .ok (.getfield 7, 3) := by decide +kernel
theorem dX1_holes_6 : decode cX1_holes 6 = .ok (.imul, 1) := by decide +kernel
theorem dX1_holes_7 : decode cX1_holes 7 = .ok (.isub, 1) := by decide +kernel
theorem dX1_holes_8 : decode cX1_holes 8 = .ok (.istore_n 1, 1) := by decide +kernel
theorem dX1_holes_9 : decode cX1_holes 9 = .ok (.iconst 0, 1) := by decide +kernel
theorem dX1_holes_10 : decode cX1_holes 10 = .ok (.istore_n 2, 1) := by decide +kernel
theorem dX1_holes_11 : decode cX1_holes 11 = .ok (.iload_n 2, 1) := by decide +kernel
theorem dX1_holes_12 : decode cX1_holes 12 = .ok (.aload_n 0, 1) := by decide +kernel
theorem dX1_holes_13 : decode cX1_holes 13 = .ok (.getfield 13, 3) := by decide +kernel
theorem dX1_holes_16 : decode cX1_holes 16 = .ok (.arraylength, 1) := by decide +kernel
theorem dX1_holes_17 : decode cX1_holes 17 = .ok (.if_icmp .ge 22, 3) := by decide +kernel
theorem dX1_holes_20 : decode cX1_holes 20 = .ok (.iload_n 1, 1) := by decide +kernel
theorem dX1_holes_21 : decode cX1_holes 21 = .ok (.aload_n 0, 1) := by decide +kernel
theorem dX1_holes_22 : decode cX1_holes 22 = .ok (.getfield 7, 3) := by decide +kernel
theorem dX1_holes_25 : decode cX1_holes 25 = .ok (.aload_n 0, 1) := by decide +kernel
theorem dX1_holes_26 : decode cX1_holes 26 = .ok (.iload_n 2, 1) := by decide +kernel
theorem dX1_holes_27 : decode cX1_holes 27 = .ok (.invokevirtual 85, 3) := by decide +kernel
theorem dX1_holes_30 : decode cX1_holes 30 = .ok (.isub, 1) := by decide +kernel
theorem dX1_holes_31 : decode cX1_holes 31 = .ok (.iadd, 1) := by decide +kernel
theorem dX1_holes_32 : decode cX1_holes 32 = .ok (.istore_n 1, 1) := by decide +kernel
theorem dX1_holes_33 : decode cX1_holes 33 = .ok (.iinc 2 1, 3) := by decide +kernel
theorem dX1_holes_36 : decode cX1_holes 36 = .ok (.goto (-25), 3) := by decide +kernel
theorem dX1_holes_39 : decode cX1_holes 39 = .ok (.iload_n 1, 1) := by decide +kernel
theorem dX1_holes_40 : decode cX1_holes 40 = .ok (.iconst 2, 1) := by decide +kernel
theorem dX1_holes_41 : decode cX1_holes 41 = .ok (.idiv, 1) := by decide +kernel
theorem dX1_holes_42 : decode cX1_holes 42 = .ok (.ireturn, 1) := by decide +kernel
theorem dX1_blockLabels_0 : decode cX1_blockLabels 0 = .ok (.aload_n 0, 1) := by decide +kernel
theorem dX1_blockLabels_1 : decode cX1_blockLabels 1 = .ok (.getfield 7, 3) := by decide +kernel
theorem dX1_blockLabels_4 : decode cX1_blockLabels 4 = .ok (.invokestatic 69, 3) := by decide +kernel
theorem dX1_blockLabels_7 : decode cX1_blockLabels 7 = .ok (.iload_n 1, 1) := by decide +kernel
theorem dX1_blockLabels_8 : decode cX1_blockLabels 8 = .ok (.iload_n 2, 1) := by decide +kernel
theorem dX1_blockLabels_9 : decode cX1_blockLabels 9 = .ok (.aload_n 0, 1) := by decide +kernel
theorem dX1_blockLabels_10 : decode cX1_blockLabels 10 = .ok (.getfield 7, 3) := by decide +kernel
theorem dX1_blockLabels_13 : decode cX1_blockLabels 13 = .ok (.invokestatic 89, 3) := by decide +kernel
theorem dX1_blockLabels_16 : decode cX1_blockLabels 16 = .ok (.lstore_n 3, 1) := by decide +kernel
theorem dX1_blockLabels_17 : decode cX1_blockLabels 17 = .ok (.iconst 0, 1) := by decide +kernel
theorem dX1_blockLabels_18 : decode cX1_blockLabels 18 = .ok (.istore 5, 2) := by decide +kernel
theorem dX1_blockLabels_20 : decode cX1_blockLabels 20 = .ok (.iload 5, 2) := by decide +kernel
theorem dX1_blockLabels_22 : decode cX1_blockLabels 22 = .ok (.aload_n 0, 1) := by decide +kernel
theorem dX1_blockLabels_23 : decode cX1_blockLabels 23 = .ok (.getfield 7, 3) := by decide +kernel
theorem dX1_blockLabels_26 : decode cX1_blockLabels 26 = .ok (.if_icmp .ge 72, 3) := by decide +kernel
theorem dX1_blockLabels_29 : decode cX1_blockLabels 29 = .ok (.lload_n 3, 1) := by decide +kernel
theorem dX1_blockLabels_30 : decode cX1_blockLabels 30 = .ok (.lstore 6, 2) := by decide +kernel
theorem dX1_blockLabels_32 : decode cX1_blockLabels 32 = .ok (.iconst 0, 1) := by decide +kernel
theorem dX1_blockLabels_33 : decode cX1_blockLabels 33 = .ok (.istore 8, 2) := by decide +kernel
theorem dX1_blockLabels_35 : decode cX1_blockLabels 35 = .ok (.iload 8, 2) := by decide +kernel
theorem dX1_blockLabels_37 : decode cX1_blockLabels 37 = .ok (.aload_n 0, 1) := by decide +kernel
theorem dX1_blockLabels_38 : decode cX1_blockLabels 38 = .ok (.getfield 13, 3) := by decide +kernel
theorem dX1_blockLabels_41 : decode cX1_blockLabels 41 = .ok (.arraylength, 1) := by decide +kernel
theorem dX1_blockLabels_42 : decode cX1_blockLabels 42 = .ok (.if_icmp .ge 40, 3) := by decide +kernel
theorem dX1_blockLabels_45 : decode cX1_blockLabels 45 = .ok (.lload_n 3, 1) := by decide +kernel
theorem dX1_blockLabels_46 : decode cX1_blockLabels 46 = .ok (.aload_n 0, 1) := by decide +kernel
theorem dX1_blockLabels_47 : decode cX1_blockLabels 47 = .ok (.getfield 13, 3) := by decide +kernel
theorem dX1_blockLabels_50 : decode cX1_blockLabels 50 = .ok (.iload 8, 2) := by decide +kernel
theorem dX1_blockLabels_52 : decode cX1_blockLabels 52 = .ok (.laload, 1) := by decide +kernel
theorem dX1_blockLabels_53 : decode cX1_blockLabels 53 = .ok (.lload_n 3, 1) := by decide +kernel
theorem dX1_blockLabels_54 : decode cX1_blockLabels 54 = .ok (.aload_n 0, 1) := by decide +kernel
theorem dX1_blockLabels_55 : decode cX1_blockLabels 55 = .ok (.getfield 13, 3) := by decide +kernel
theorem dX1_blockLabels_58 : decode cX1_blockLabels 58 = .ok (.iload 8, 2) := by decide +kernel
theorem dX1_blockLabels_60 : decode cX1_blockLabels 60 = .ok (.laload, 1) := by decide +kernel
theorem dX1_blockLabels_61 : decode cX1_blockLabels 61 = .ok (.aload_n 0, 1) := by decide +kernel
theorem dX1_blockLabels_62 : decode cX1_blockLabels 62 = .ok (.getfield 7, 3) := by decide +kernel
theorem dX1_blockLabels_65 : decode cX1_blockLabels 65 = .ok (.invokestatic 93, 3) := by decide +kernel
theorem dX1_blockLabels_68 : decode cX1_blockLabels 68 = .ok (.aload_n 0, 1) := by decide +kernel
theorem dX1_blockLabels_69 : decode cX1_blockLabels 69 = .ok (.getfield 7, 3) := by decide +kernel
theorem dX1_blockLabels_72 : decode cX1_blockLabels 72 = .ok (.invokestatic 97, 3) := by decide +kernel
theorem dX1_blockLabels_75 : decode cX1_blockLabels 75 = .ok (.lstore_n 3, 1) := by decide +kernel
theorem dX1_blockLabels_76 : decode cX1_blockLabels 76 = .ok (.iinc 8 1, 3) := by decide +kernel
theorem dX1_blockLabels_79 : decode cX1_blockLabels 79 = .ok (.goto (-44), 3) := by decide +kernel
theorem dX1_blockLabels_82 : decode cX1_blockLabels 82 = .ok (.lload_n 3, 1) := by decide +kernel
theorem dX1_blockLabels_83 : decode cX1_blockLabels 83 = .ok (.lload 6, 2) := by decide +kernel
theorem dX1_blockLabels_85 : decode cX1_blockLabels 85 = .ok (.lcmp, 1) := by decide +kernel
theorem dX1_blockLabels_86 : decode cX1_blockLabels 86 = .ok (.ifCond .ne 6, 3) := by decide +kernel
theorem dX1_blockLabels_89 : decode cX1_blockLabels 89 = .ok (.goto 9, 3) := by decide +kernel
theorem dX1_blockLabels_92 : decode cX1_blockLabels 92 = .ok (.iinc 5 1, 3) := by decide +kernel
theorem dX1_blockLabels_95 : decode cX1_blockLabels 95 = .ok (.goto (-75), 3) := by decide +kernel
theorem dX1_blockLabels_98 : decode cX1_blockLabels 98 = .ok (.lload_n 3, 1) := by decide +kernel
theorem dX1_blockLabels_99 : decode cX1_blockLabels 99 = .ok (.lreturn, 1) := by decide +kernel
theorem dX1_partAlone_0 : decode cX1_partAlone 0 = .ok (.aload_n 0, 1) := by decide +kernel
theorem dX1_partAlone_1 : decode cX1_partAlone 1 = .ok (.getfield 13, 3) := by decide +kernel
theorem dX1_partAlone_4 : decode cX1_partAlone 4 = .ok (.aload_n 0, 1) := by decide +kernel
theorem dX1_partAlone_5 : decode cX1_partAlone 5 = .ok (.getfield 7, 3) := by decide +kernel
theorem dX1_partAlone_8 : decode cX1_partAlone 8 = .ok (.invokestatic 20, 3) := by decide +kernel
theorem dX1_partAlone_11 : decode cX1_partAlone 11 = .ok (.lstore_n 2, 1) := by decide +kernel
theorem dX1_partAlone_12 : decode cX1_partAlone 12 = .ok (.iconst 0, 1) := by decide +kernel
theorem dX1_partAlone_13 : decode cX1_partAlone 13 = .ok (.istore 4, 2) := by decide +kernel
theorem dX1_partAlone_15 : decode cX1_partAlone 15 = .ok (.iconst 0, 1) := by decide +kernel
theorem dX1_partAlone_16 : decode cX1_partAlone 16 = .ok (.istore 5, 2) := by decide +kernel
theorem dX1_partAlone_18 : decode cX1_partAlone 18 = .ok (.iload 5, 2) := by decide +kernel
theorem dX1_partAlone_20 : decode cX1_partAlone 20 = .ok (.aload_n 0, 1) := by decide +kernel
theorem dX1_partAlone_21 : decode cX1_partAlone 21 = .ok (.getfield 7, 3) := by decide +kernel
theorem dX1_partAlone_24 : decode cX1_partAlone 24 = .ok (.if_icmp .ge 32, 3) := by decide +kernel
theorem dX1_partAlone_27 : decode cX1_partAlone 27 = .ok (.lload_n 2, 1) := by decide +kernel
theorem dX1_partAlone_28 : decode cX1_partAlone 28 = .ok (.lload_n 2, 1) := by decide +kernel
theorem dX1_partAlone_29 : decode cX1_partAlone 29 = .ok (.iload 5, 2) := by decide +kernel
theorem dX1_partAlone_31 : decode cX1_partAlone 31 = .ok (.invokestatic 75, 3) := by decide +kernel
theorem dX1_partAlone_34 : decode cX1_partAlone 34 = .ok (.invokestatic 26, 3) := by decide +kernel
theorem dX1_partAlone_37 : decode cX1_partAlone 37 = .ok (.iload_n 1, 1) := by decide +kernel
theorem dX1_partAlone_38 : decode cX1_partAlone 38 = .ok (.if_icmp .ne 12, 3) := by decide +kernel
theorem dX1_partAlone_41 : decode cX1_partAlone 41 = .ok (.iload 4, 2) := by decide +kernel
theorem dX1_partAlone_43 : decode cX1_partAlone 43 = .ok (.iconst 1, 1) := by decide +kernel
theorem dX1_partAlone_44 : decode cX1_partAlone 44 = .ok (.iload 5, 2) := by decide +kernel
theorem dX1_partAlone_46 : decode cX1_partAlone 46 = .ok (.ishl, 1) := by decide +kernel
theorem dX1_partAlone_47 : decode cX1_partAlone 47 = .ok (.ior, 1) := by decide +kernel
theorem dX1_partAlone_48 : decode cX1_partAlone 48 = .ok (.istore 4, 2) := by decide +kernel
theorem dX1_partAlone_50 : decode cX1_partAlone 50 = .ok (.iinc 5 1, 3) := by decide +kernel
theorem dX1_partAlone_53 : decode cX1_partAlone 53 = .ok (.goto (-35), 3) := by decide +kernel
theorem dX1_partAlone_56 : decode cX1_partAlone 56 = .ok (.iload 4, 2) := by decide +kernel
theorem dX1_partAlone_58 : decode cX1_partAlone 58 = .ok (.invokestatic 101, 3) := by decide +kernel
theorem dX1_partAlone_61 : decode cX1_partAlone 61 = .ok (.aload_n 0, 1) := by decide +kernel
theorem dX1_partAlone_62 : decode cX1_partAlone 62 = .ok (.iload 4, 2) := by decide +kernel
theorem dX1_partAlone_64 : decode cX1_partAlone 64 = .ok (.aload_n 0, 1) := by decide +kernel
theorem dX1_partAlone_65 : decode cX1_partAlone 65 = .ok (.getfield 7, 3) := by decide +kernel
theorem dX1_partAlone_68 : decode cX1_partAlone 68 = .ok (.invokestatic 69, 3) := by decide +kernel
theorem dX1_partAlone_71 : decode cX1_partAlone 71 = .ok (.invokevirtual 106, 3) := by decide +kernel
theorem dX1_partAlone_74 : decode cX1_partAlone 74 = .ok (.invokestatic 110, 3) := by decide +kernel
theorem dX1_partAlone_77 : decode cX1_partAlone 77 = .ok (.areturn, 1) := by decide +kernel
theorem dX1_ofBlocks_0 : decode cX1_ofBlocks 0 = .ok (.aload_n 0, 1) := by decide +kernel
theorem dX1_ofBlocks_1 : decode cX1_ofBlocks 1 = .ok (.iload_n 1, 1) := by decide +kernel
theorem dX1_ofBlocks_2 : decode cX1_ofBlocks 2 = .ok (.iload_n 2, 1) := by decide +kernel
theorem dX1_ofBlocks_3 : decode cX1_ofBlocks 3 = .ok (.invokevirtual 114, 3) := by decide +kernel
theorem dX1_ofBlocks_6 : decode cX1_ofBlocks 6 = .ok (.lstore_n 3, 1) := by decide +kernel
theorem dX1_ofBlocks_7 : decode cX1_ofBlocks 7 = .ok (.lload_n 3, 1) := by decide +kernel
theorem dX1_ofBlocks_8 : decode cX1_ofBlocks 8 = .ok (.aload_n 0, 1) := by decide +kernel
theorem dX1_ofBlocks_9 : decode cX1_ofBlocks 9 = .ok (.getfield 7, 3) := by decide +kernel
theorem dX1_ofBlocks_12 : decode cX1_ofBlocks 12 = .ok (.invokestatic 118, 3) := by decide +kernel
theorem dX1_ofBlocks_15 : decode cX1_ofBlocks 15 = .ok (.istore 5, 2) := by decide +kernel
theorem dX1_ofBlocks_17 : decode cX1_ofBlocks 17 = .ok (.iload 5, 2) := by decide +kernel
theorem dX1_ofBlocks_19 : decode cX1_ofBlocks 19 = .ok (.invokestatic 101, 3) := by decide +kernel
theorem dX1_ofBlocks_22 : decode cX1_ofBlocks 22 = .ok (.aload_n 0, 1) := by decide +kernel
theorem dX1_ofBlocks_23 : decode cX1_ofBlocks 23 = .ok (.iload 5, 2) := by decide +kernel
theorem dX1_ofBlocks_25 : decode cX1_ofBlocks 25 = .ok (.lload_n 3, 1) := by decide +kernel
theorem dX1_ofBlocks_26 : decode cX1_ofBlocks 26 = .ok (.invokevirtual 106, 3) := by decide +kernel
theorem dX1_ofBlocks_29 : decode cX1_ofBlocks 29 = .ok (.invokestatic 110, 3) := by decide +kernel
theorem dX1_ofBlocks_32 : decode cX1_ofBlocks 32 = .ok (.areturn, 1) := by decide +kernel
theorem dX1_narrowed_0 : decode cX1_narrowed 0 = .ok (.aload_n 0, 1) := by decide +kernel
theorem dX1_narrowed_1 : decode cX1_narrowed 1 = .ok (.getfield 13, 3) := by decide +kernel
theorem dX1_narrowed_4 : decode cX1_narrowed 4 = .ok (.arraylength, 1) := by decide +kernel
theorem dX1_narrowed_5 : decode cX1_narrowed 5 = .ok (.newarray .long, 2) := by decide +kernel
theorem dX1_narrowed_7 : decode cX1_narrowed 7 = .ok (.astore 4, 2) := by decide +kernel
theorem dX1_narrowed_9 : decode cX1_narrowed 9 = .ok (.iconst 0, 1) := by decide +kernel
theorem dX1_narrowed_10 : decode cX1_narrowed 10 = .ok (.istore 5, 2) := by decide +kernel
theorem dX1_narrowed_12 : decode cX1_narrowed 12 = .ok (.iload 5, 2) := by decide +kernel
theorem dX1_narrowed_14 : decode cX1_narrowed 14 = .ok (.aload_n 0, 1) := by decide +kernel
theorem dX1_narrowed_15 : decode cX1_narrowed 15 = .ok (.getfield 13, 3) := by decide +kernel
theorem dX1_narrowed_18 : decode cX1_narrowed 18 = .ok (.arraylength, 1) := by decide +kernel
theorem dX1_narrowed_19 : decode cX1_narrowed 19 = .ok (.if_icmp .ge 86, 3) := by decide +kernel
theorem dX1_narrowed_22 : decode cX1_narrowed 22 = .ok (.iconst 0, 1) := by decide +kernel
theorem dX1_narrowed_23 : decode cX1_narrowed 23 = .ok (.istore 6, 2) := by decide +kernel
theorem dX1_narrowed_25 : decode cX1_narrowed 25 = .ok (.iconst 0, 1) := by decide +kernel
theorem dX1_narrowed_26 : decode cX1_narrowed 26 = .ok (.istore 7, 2) := by decide +kernel
theorem dX1_narrowed_28 : decode cX1_narrowed 28 = .ok (.iload 7, 2) := by decide +kernel
theorem dX1_narrowed_30 : decode cX1_narrowed 30 = .ok (.aload_n 0, 1) := by decide +kernel
theorem dX1_narrowed_31 : decode cX1_narrowed 31 = .ok (.getfield 7, 3) := by decide +kernel
theorem dX1_narrowed_34 : decode cX1_narrowed 34 = .ok (.if_icmp .ge 65, 3) := by decide +kernel
theorem dX1_narrowed_37 : decode cX1_narrowed 37 = .ok (.iload_n 1, 1) := by decide +kernel
theorem dX1_narrowed_38 : decode cX1_narrowed 38 = .ok (.iload 7, 2) := by decide +kernel
theorem dX1_narrowed_40 : decode cX1_narrowed 40 = .ok (.ishr, 1) := by decide +kernel
theorem dX1_narrowed_41 : decode cX1_narrowed 41 = .ok (.iconst 1, 1) := by decide +kernel
theorem dX1_narrowed_42 : decode cX1_narrowed 42 = .ok (.iand, 1) := by decide +kernel
theorem dX1_narrowed_43 : decode cX1_narrowed 43 = .ok (.ifCond .eq 50, 3) := by decide +kernel
theorem dX1_narrowed_46 : decode cX1_narrowed 46 = .ok (.lload_n 2, 1) := by decide +kernel
theorem dX1_narrowed_47 : decode cX1_narrowed 47 = .ok (.aload_n 0, 1) := by decide +kernel
theorem dX1_narrowed_48 : decode cX1_narrowed 48 = .ok (.getfield 13, 3) := by decide +kernel
theorem dX1_narrowed_51 : decode cX1_narrowed 51 = .ok (.iload 5, 2) := by decide +kernel
theorem dX1_narrowed_53 : decode cX1_narrowed 53 = .ok (.laload, 1) := by decide +kernel
theorem dX1_narrowed_54 : decode cX1_narrowed 54 = .ok (.iload 7, 2) := by decide +kernel
theorem dX1_narrowed_56 : decode cX1_narrowed 56 = .ok (.invokestatic 75, 3) := by decide +kernel
theorem dX1_narrowed_59 : decode cX1_narrowed 59 = .ok (.invokestatic 75, 3) := by decide +kernel
theorem dX1_narrowed_62 : decode cX1_narrowed 62 = .ok (.istore 8, 2) := by decide +kernel
theorem dX1_narrowed_64 : decode cX1_narrowed 64 = .ok (.aload 4, 2) := by decide +kernel
theorem dX1_narrowed_66 : decode cX1_narrowed 66 = .ok (.iload 5, 2) := by decide +kernel
theorem dX1_narrowed_68 : decode cX1_narrowed 68 = .ok (.aload 4, 2) := by decide +kernel
theorem dX1_narrowed_70 : decode cX1_narrowed 70 = .ok (.iload 5, 2) := by decide +kernel
theorem dX1_narrowed_72 : decode cX1_narrowed 72 = .ok (.laload, 1) := by decide +kernel
theorem dX1_narrowed_73 : decode cX1_narrowed 73 = .ok (.iload 6, 2) := by decide +kernel
theorem dX1_narrowed_75 : decode cX1_narrowed 75 = .ok (.iload_n 1, 1) := by decide +kernel
theorem dX1_narrowed_76 : decode cX1_narrowed 76 = .ok (.iconst 1, 1) := by decide +kernel
theorem dX1_narrowed_77 : decode cX1_narrowed 77 = .ok (.iload 8, 2) := by decide +kernel
theorem dX1_narrowed_79 : decode cX1_narrowed 79 = .ok (.ishl, 1) := by decide +kernel
theorem dX1_narrowed_80 : decode cX1_narrowed 80 = .ok (.iconst 1, 1) := by decide +kernel
theorem dX1_narrowed_81 : decode cX1_narrowed 81 = .ok (.isub, 1) := by decide +kernel
theorem dX1_narrowed_82 : decode cX1_narrowed 82 = .ok (.iand, 1) := by decide +kernel
theorem dX1_narrowed_83 : decode cX1_narrowed 83 = .ok (.invokestatic 101, 3) := by decide +kernel
theorem dX1_narrowed_86 : decode cX1_narrowed 86 = .ok (.invokestatic 121, 3) := by decide +kernel
theorem dX1_narrowed_89 : decode cX1_narrowed 89 = .ok (.lastore, 1) := by decide +kernel
theorem dX1_narrowed_90 : decode cX1_narrowed 90 = .ok (.iinc 6 1, 3) := by decide +kernel
theorem dX1_narrowed_93 : decode cX1_narrowed 93 = .ok (.iinc 7 1, 3) := by decide +kernel
theorem dX1_narrowed_96 : decode cX1_narrowed 96 = .ok (.goto (-68), 3) := by decide +kernel
theorem dX1_narrowed_99 : decode cX1_narrowed 99 = .ok (.iinc 5 1, 3) := by decide +kernel
theorem dX1_narrowed_102 : decode cX1_narrowed 102 = .ok (.goto (-90), 3) := by decide +kernel
theorem dX1_narrowed_105 : decode cX1_narrowed 105 = .ok (.aload 4, 2) := by decide +kernel
theorem dX1_narrowed_107 : decode cX1_narrowed 107 = .ok (.areturn, 1) := by decide +kernel
theorem dX1_ledPast_0 : decode cX1_ledPast 0 = .ok (.aload_n 0, 1) := by decide +kernel
theorem dX1_ledPast_1 : decode cX1_ledPast 1 = .ok (.getfield 13, 3) := by decide +kernel
theorem dX1_ledPast_4 : decode cX1_ledPast 4 = .ok (.aload_n 0, 1) := by decide +kernel
theorem dX1_ledPast_5 : decode cX1_ledPast 5 = .ok (.getfield 13, 3) := by decide +kernel
theorem dX1_ledPast_8 : decode cX1_ledPast 8 = .ok (.arraylength, 1) := by decide +kernel
theorem dX1_ledPast_9 : decode cX1_ledPast 9 = .ok (.invokestatic 125, 3) := by decide +kernel
theorem dX1_ledPast_12 : decode cX1_ledPast 12 = .ok (.astore_n 3, 1) := by decide +kernel
theorem dX1_ledPast_13 : decode cX1_ledPast 13 = .ok (.iload_n 2, 1) := by decide +kernel
theorem dX1_ledPast_14 : decode cX1_ledPast 14 = .ok (.ifCond .eq 15, 3) := by decide +kernel
theorem dX1_ledPast_17 : decode cX1_ledPast 17 = .ok (.aload_n 3, 1) := by decide +kernel
theorem dX1_ledPast_18 : decode cX1_ledPast 18 = .ok (.iload_n 1, 1) := by decide +kernel
theorem dX1_ledPast_19 : decode cX1_ledPast 19 = .ok (.aload_n 0, 1) := by decide +kernel
theorem dX1_ledPast_20 : decode cX1_ledPast 20 = .ok (.getfield 7, 3) := by decide +kernel
theorem dX1_ledPast_23 : decode cX1_ledPast 23 = .ok (.invokestatic 131, 3) := by decide +kernel
theorem dX1_ledPast_26 : decode cX1_ledPast 26 = .ok (.goto 12, 3) := by decide +kernel
theorem dX1_ledPast_29 : decode cX1_ledPast 29 = .ok (.aload_n 3, 1) := by decide +kernel
theorem dX1_ledPast_30 : decode cX1_ledPast 30 = .ok (.iload_n 1, 1) := by decide +kernel
theorem dX1_ledPast_31 : decode cX1_ledPast 31 = .ok (.aload_n 0, 1) := by decide +kernel
theorem dX1_ledPast_32 : decode cX1_ledPast 32 = .ok (.getfield 7, 3) := by decide +kernel
theorem dX1_ledPast_35 : decode cX1_ledPast 35 = .ok (.invokestatic 135, 3) := by decide +kernel
theorem dX1_ledPast_38 : decode cX1_ledPast 38 = .ok (.aload_n 0, 1) := by decide +kernel
theorem dX1_ledPast_39 : decode cX1_ledPast 39 = .ok (.getfield 7, 3) := by decide +kernel
theorem dX1_ledPast_42 : decode cX1_ledPast 42 = .ok (.aload_n 3, 1) := by decide +kernel
theorem dX1_ledPast_43 : decode cX1_ledPast 43 = .ok (.invokestatic 110, 3) := by decide +kernel
theorem dX1_ledPast_46 : decode cX1_ledPast 46 = .ok (.areturn, 1) := by decide +kernel
theorem dX1_mirror_0 : decode cX1_mirror 0 = .ok (.aload_n 0, 1) := by decide +kernel
theorem dX1_mirror_1 : decode cX1_mirror 1 = .ok (.getfield 13, 3) := by decide +kernel
theorem dX1_mirror_4 : decode cX1_mirror 4 = .ok (.arraylength, 1) := by decide +kernel
theorem dX1_mirror_5 : decode cX1_mirror 5 = .ok (.istore_n 1, 1) := by decide +kernel
theorem dX1_mirror_6 : decode cX1_mirror 6 = .ok (.iload_n 1, 1) := by decide +kernel
theorem dX1_mirror_7 : decode cX1_mirror 7 = .ok (.newarray .long, 2) := by decide +kernel
theorem dX1_mirror_9 : decode cX1_mirror 9 = .ok (.astore_n 2, 1) := by decide +kernel
theorem dX1_mirror_10 : decode cX1_mirror 10 = .ok (.iconst 0, 1) := by decide +kernel
theorem dX1_mirror_11 : decode cX1_mirror 11 = .ok (.istore_n 3, 1) := by decide +kernel
theorem dX1_mirror_12 : decode cX1_mirror 12 = .ok (.iload_n 3, 1) := by decide +kernel
theorem dX1_mirror_13 : decode cX1_mirror 13 = .ok (.iload_n 1, 1) := by decide +kernel
theorem dX1_mirror_14 : decode cX1_mirror 14 = .ok (.if_icmp .ge 29, 3) := by decide +kernel
theorem dX1_mirror_17 : decode cX1_mirror 17 = .ok (.aload_n 2, 1) := by decide +kernel
theorem dX1_mirror_18 : decode cX1_mirror 18 = .ok (.iload_n 3, 1) := by decide +kernel
theorem dX1_mirror_19 : decode cX1_mirror 19 = .ok (.aload_n 0, 1) := by decide +kernel
theorem dX1_mirror_20 : decode cX1_mirror 20 = .ok (.getfield 13, 3) := by decide +kernel
theorem dX1_mirror_23 : decode cX1_mirror 23 = .ok (.iload_n 1, 1) := by decide +kernel
theorem dX1_mirror_24 : decode cX1_mirror 24 = .ok (.iconst 1, 1) := by decide +kernel
theorem dX1_mirror_25 : decode cX1_mirror 25 = .ok (.isub, 1) := by decide +kernel
theorem dX1_mirror_26 : decode cX1_mirror 26 = .ok (.iload_n 3, 1) := by decide +kernel
theorem dX1_mirror_27 : decode cX1_mirror 27 = .ok (.isub, 1) := by decide +kernel
theorem dX1_mirror_28 : decode cX1_mirror 28 = .ok (.laload, 1) := by decide +kernel
theorem dX1_mirror_29 : decode cX1_mirror 29 = .ok (.aload_n 0, 1) := by decide +kernel
theorem dX1_mirror_30 : decode cX1_mirror 30 = .ok (.getfield 7, 3) := by decide +kernel
theorem dX1_mirror_33 : decode cX1_mirror 33 = .ok (.invokestatic 78, 3) := by decide +kernel
theorem dX1_mirror_36 : decode cX1_mirror 36 = .ok (.lastore, 1) := by decide +kernel
theorem dX1_mirror_37 : decode cX1_mirror 37 = .ok (.iinc 3 1, 3) := by decide +kernel
theorem dX1_mirror_40 : decode cX1_mirror 40 = .ok (.goto (-28), 3) := by decide +kernel
theorem dX1_mirror_43 : decode cX1_mirror 43 = .ok (.aload_n 0, 1) := by decide +kernel
theorem dX1_mirror_44 : decode cX1_mirror 44 = .ok (.getfield 7, 3) := by decide +kernel
theorem dX1_mirror_47 : decode cX1_mirror 47 = .ok (.aload_n 2, 1) := by decide +kernel
theorem dX1_mirror_48 : decode cX1_mirror 48 = .ok (.invokestatic 110, 3) := by decide +kernel
theorem dX1_mirror_51 : decode cX1_mirror 51 = .ok (.areturn, 1) := by decide +kernel
theorem dX1_laidOver_0 : decode cX1_laidOver 0 = .ok (.aload_n 0, 1) := by decide +kernel
theorem dX1_laidOver_1 : decode cX1_laidOver 1 = .ok (.getfield 13, 3) := by decide +kernel
theorem dX1_laidOver_4 : decode cX1_laidOver 4 = .ok (.arraylength, 1) := by decide +kernel
theorem dX1_laidOver_5 : decode cX1_laidOver 5 = .ok (.newarray .long, 2) := by decide +kernel
theorem dX1_laidOver_7 : decode cX1_laidOver 7 = .ok (.astore_n 2, 1) := by decide +kernel
theorem dX1_laidOver_8 : decode cX1_laidOver 8 = .ok (.iconst 0, 1) := by decide +kernel
theorem dX1_laidOver_9 : decode cX1_laidOver 9 = .ok (.istore_n 3, 1) := by decide +kernel
theorem dX1_laidOver_10 : decode cX1_laidOver 10 = .ok (.iload_n 3, 1) := by decide +kernel
theorem dX1_laidOver_11 : decode cX1_laidOver 11 = .ok (.aload_n 0, 1) := by decide +kernel
theorem dX1_laidOver_12 : decode cX1_laidOver 12 = .ok (.getfield 13, 3) := by decide +kernel
theorem dX1_laidOver_15 : decode cX1_laidOver 15 = .ok (.arraylength, 1) := by decide +kernel
theorem dX1_laidOver_16 : decode cX1_laidOver 16 = .ok (.if_icmp .ge 95, 3) := by decide +kernel
theorem dX1_laidOver_19 : decode cX1_laidOver 19 = .ok (.iconst 0, 1) := by decide +kernel
theorem dX1_laidOver_20 : decode cX1_laidOver 20 = .ok (.istore 4, 2) := by decide +kernel
theorem dX1_laidOver_22 : decode cX1_laidOver 22 = .ok (.iload 4, 2) := by decide +kernel
theorem dX1_laidOver_24 : decode cX1_laidOver 24 = .ok (.aload_n 0, 1) := by decide +kernel
theorem dX1_laidOver_25 : decode cX1_laidOver 25 = .ok (.getfield 7, 3) := by decide +kernel
theorem dX1_laidOver_28 : decode cX1_laidOver 28 = .ok (.if_icmp .ge 77, 3) := by decide +kernel
theorem dX1_laidOver_31 : decode cX1_laidOver 31 = .ok (.iconst 0, 1) := by decide +kernel
theorem dX1_laidOver_32 : decode cX1_laidOver 32 = .ok (.istore 5, 2) := by decide +kernel
theorem dX1_laidOver_34 : decode cX1_laidOver 34 = .ok (.iload 5, 2) := by decide +kernel
theorem dX1_laidOver_36 : decode cX1_laidOver 36 = .ok (.aload_n 1, 1) := by decide +kernel
theorem dX1_laidOver_37 : decode cX1_laidOver 37 = .ok (.getfield 7, 3) := by decide +kernel
theorem dX1_laidOver_40 : decode cX1_laidOver 40 = .ok (.if_icmp .ge 59, 3) := by decide +kernel
theorem dX1_laidOver_43 : decode cX1_laidOver 43 = .ok (.aload_n 0, 1) := by decide +kernel
theorem dX1_laidOver_44 : decode cX1_laidOver 44 = .ok (.getfield 13, 3) := by decide +kernel
theorem dX1_laidOver_47 : decode cX1_laidOver 47 = .ok (.iload_n 3, 1) := by decide +kernel
theorem dX1_laidOver_48 : decode cX1_laidOver 48 = .ok (.laload, 1) := by decide +kernel
theorem dX1_laidOver_49 : decode cX1_laidOver 49 = .ok (.iload 4, 2) := by decide +kernel
theorem dX1_laidOver_51 : decode cX1_laidOver 51 = .ok (.invokestatic 75, 3) := by decide +kernel
theorem dX1_laidOver_54 : decode cX1_laidOver 54 = .ok (.aload_n 1, 1) := by decide +kernel
theorem dX1_laidOver_55 : decode cX1_laidOver 55 = .ok (.getfield 7, 3) := by decide +kernel
theorem dX1_laidOver_58 : decode cX1_laidOver 58 = .ok (.imul, 1) := by decide +kernel
theorem dX1_laidOver_59 : decode cX1_laidOver 59 = .ok (.aload_n 1, 1) := by decide +kernel
theorem dX1_laidOver_60 : decode cX1_laidOver 60 = .ok (.iload_n 3, 1) := by decide +kernel
theorem dX1_laidOver_61 : decode cX1_laidOver 61 = .ok (.invokevirtual 72, 3) := by decide +kernel
theorem dX1_laidOver_64 : decode cX1_laidOver 64 = .ok (.iload 5, 2) := by decide +kernel
theorem dX1_laidOver_66 : decode cX1_laidOver 66 = .ok (.invokestatic 75, 3) := by decide +kernel
theorem dX1_laidOver_69 : decode cX1_laidOver 69 = .ok (.iadd, 1) := by decide +kernel
theorem dX1_laidOver_70 : decode cX1_laidOver 70 = .ok (.istore 6, 2) := by decide +kernel
theorem dX1_laidOver_72 : decode cX1_laidOver 72 = .ok (.aload_n 2, 1) := by decide +kernel
theorem dX1_laidOver_73 : decode cX1_laidOver 73 = .ok (.iload_n 3, 1) := by decide +kernel
theorem dX1_laidOver_74 : decode cX1_laidOver 74 = .ok (.aload_n 2, 1) := by decide +kernel
theorem dX1_laidOver_75 : decode cX1_laidOver 75 = .ok (.iload_n 3, 1) := by decide +kernel
theorem dX1_laidOver_76 : decode cX1_laidOver 76 = .ok (.laload, 1) := by decide +kernel
theorem dX1_laidOver_77 : decode cX1_laidOver 77 = .ok (.iload 4, 2) := by decide +kernel
theorem dX1_laidOver_79 : decode cX1_laidOver 79 = .ok (.aload_n 1, 1) := by decide +kernel
theorem dX1_laidOver_80 : decode cX1_laidOver 80 = .ok (.getfield 7, 3) := by decide +kernel
theorem dX1_laidOver_83 : decode cX1_laidOver 83 = .ok (.imul, 1) := by decide +kernel
theorem dX1_laidOver_84 : decode cX1_laidOver 84 = .ok (.iload 5, 2) := by decide +kernel
theorem dX1_laidOver_86 : decode cX1_laidOver 86 = .ok (.iadd, 1) := by decide +kernel
theorem dX1_laidOver_87 : decode cX1_laidOver 87 = .ok (.iload 6, 2) := by decide +kernel
theorem dX1_laidOver_89 : decode cX1_laidOver 89 = .ok (.invokestatic 121, 3) := by decide +kernel
theorem dX1_laidOver_92 : decode cX1_laidOver 92 = .ok (.lastore, 1) := by decide +kernel
theorem dX1_laidOver_93 : decode cX1_laidOver 93 = .ok (.iinc 5 1, 3) := by decide +kernel
theorem dX1_laidOver_96 : decode cX1_laidOver 96 = .ok (.goto (-62), 3) := by decide +kernel
theorem dX1_laidOver_99 : decode cX1_laidOver 99 = .ok (.iinc 4 1, 3) := by decide +kernel
theorem dX1_laidOver_102 : decode cX1_laidOver 102 = .ok (.goto (-80), 3) := by decide +kernel
theorem dX1_laidOver_105 : decode cX1_laidOver 105 = .ok (.iinc 3 1, 3) := by decide +kernel
theorem dX1_laidOver_108 : decode cX1_laidOver 108 = .ok (.goto (-98), 3) := by decide +kernel
theorem dX1_laidOver_111 : decode cX1_laidOver 111 = .ok (.aload_n 0, 1) := by decide +kernel
theorem dX1_laidOver_112 : decode cX1_laidOver 112 = .ok (.getfield 7, 3) := by decide +kernel
theorem dX1_laidOver_115 : decode cX1_laidOver 115 = .ok (.aload_n 1, 1) := by decide +kernel
theorem dX1_laidOver_116 : decode cX1_laidOver 116 = .ok (.getfield 7, 3) := by decide +kernel
theorem dX1_laidOver_119 : decode cX1_laidOver 119 = .ok (.imul, 1) := by decide +kernel
theorem dX1_laidOver_120 : decode cX1_laidOver 120 = .ok (.aload_n 2, 1) := by decide +kernel
theorem dX1_laidOver_121 : decode cX1_laidOver 121 = .ok (.invokestatic 110, 3) := by decide +kernel
theorem dX1_laidOver_124 : decode cX1_laidOver 124 = .ok (.areturn, 1) := by decide +kernel
theorem dX2_init_0 : decode cX2_init 0 = .ok (.aload_n 0, 1) := by decide +kernel
theorem dX2_init_1 : decode cX2_init 1 = .ok (.invokespecial 3, 3) := by decide +kernel
theorem dX2_init_4 : decode cX2_init 4 = .ok (.aload_n 0, 1) := by decide +kernel
theorem dX2_init_5 : decode cX2_init 5 = .ok (.bipush 66, 2) := by decide +kernel
theorem dX2_init_7 : decode cX2_init 7 = .ok (.newarray .long, 2) := by decide +kernel
theorem dX2_init_9 : decode cX2_init 9 = .ok (.putfield 11, 3) := by decide +kernel
theorem dX2_init_12 : decode cX2_init 12 = .ok (.aload_n 0, 1) := by decide +kernel
theorem dX2_init_13 : decode cX2_init 13 = .ok (.sipush 144, 3) := by decide +kernel
theorem dX2_init_16 : decode cX2_init 16 = .ok (.newarray .long, 2) := by decide +kernel
theorem dX2_init_18 : decode cX2_init 18 = .ok (.putfield 15, 3) := by decide +kernel
theorem dX2_init_21 : decode cX2_init 21 = .ok (.return_, 1) := by decide +kernel
theorem dX2_orders_0 : decode cX2_orders 0 = .ok (.aload_n 1, 1) := by decide +kernel
theorem dX2_orders_1 : decode cX2_orders 1 = .ok (.getfield 18, 3) := by decide +kernel
theorem dX2_orders_4 : decode cX2_orders 4 = .ok (.istore_n 2, 1) := by decide +kernel
theorem dX2_orders_5 : decode cX2_orders 5 = .ok (.aload_n 0, 1) := by decide +kernel
theorem dX2_orders_6 : decode cX2_orders 6 = .ok (.iconst 0, 1) := by decide +kernel
theorem dX2_orders_7 : decode cX2_orders 7 = .ok (.putfield 24, 3) := by decide +kernel
theorem dX2_orders_10 : decode cX2_orders 10 = .ok (.aload_n 0, 1) := by decide +kernel
theorem dX2_orders_11 : decode cX2_orders 11 = .ok (.getfield 15, 3) := by decide +kernel
theorem dX2_orders_14 : decode cX2_orders 14 = .ok (.lconst 0, 1) := by decide +kernel
theorem dX2_orders_15 : decode cX2_orders 15 = .ok (.invokestatic 27, 3) := by decide +kernel
theorem dX2_orders_18 : decode cX2_orders 18 = .ok (.iconst 0, 1) := by decide +kernel
theorem dX2_orders_19 : decode cX2_orders 19 = .ok (.istore_n 3, 1) := by decide +kernel
theorem dX2_orders_20 : decode cX2_orders 20 = .ok (.iload_n 3, 1) := by decide +kernel
theorem dX2_orders_21 : decode cX2_orders 21 = .ok (.aload_n 1, 1) := by decide +kernel
theorem dX2_orders_22 : decode cX2_orders 22 = .ok (.getfield 33, 3) := by decide +kernel
theorem dX2_orders_25 : decode cX2_orders 25 = .ok (.arraylength, 1) := by decide +kernel
theorem dX2_orders_26 : decode cX2_orders 26 = .ok (.if_icmp .ge 20, 3) := by decide +kernel
theorem dX2_orders_29 : decode cX2_orders 29 = .ok (.aload_n 0, 1) := by decide +kernel
theorem dX2_orders_30 : decode cX2_orders 30 = .ok (.aload_n 1, 1) := by decide +kernel
theorem dX2_orders_31 : decode cX2_orders 31 = .ok (.getfield 33, 3) := by decide +kernel
theorem dX2_orders_34 : decode cX2_orders 34 = .ok (.iload_n 3, 1) := by decide +kernel
theorem dX2_orders_35 : decode cX2_orders 35 = .ok (.laload, 1) := by decide +kernel
theorem dX2_orders_36 : decode cX2_orders 36 = .ok (.iload_n 2, 1) := by decide +kernel
theorem dX2_orders_37 : decode cX2_orders 37 = .ok (.invokevirtual 36, 3) := by decide +kernel
theorem dX2_orders_40 : decode cX2_orders 40 = .ok (.iinc 3 1, 3) := by decide +kernel
theorem dX2_orders_43 : decode cX2_orders 43 = .ok (.goto (-23), 3) := by decide +kernel
theorem dX2_orders_46 : decode cX2_orders 46 = .ok (.iconst 0, 1) := by decide +kernel
theorem dX2_orders_47 : decode cX2_orders 47 = .ok (.istore_n 3, 1) := by decide +kernel
theorem dX2_orders_48 : decode cX2_orders 48 = .ok (.iload_n 3, 1) := by decide +kernel
theorem dX2_orders_49 : decode cX2_orders 49 = .ok (.aload_n 0, 1) := by decide +kernel
theorem dX2_orders_50 : decode cX2_orders 50 = .ok (.getfield 24, 3) := by decide +kernel
theorem dX2_orders_53 : decode cX2_orders 53 = .ok (.if_icmp .ge 74, 3) := by decide +kernel
theorem dX2_orders_56 : decode cX2_orders 56 = .ok (.iload_n 3, 1) := by decide +kernel
theorem dX2_orders_57 : decode cX2_orders 57 = .ok (.bipush 66, 2) := by decide +kernel
theorem dX2_orders_59 : decode cX2_orders 59 = .ok (.if_icmp .ge 68, 3) := by decide +kernel
theorem dX2_orders_62 : decode cX2_orders 62 = .ok (.iconst 0, 1) := by decide +kernel
theorem dX2_orders_63 : decode cX2_orders 63 = .ok (.istore 4, 2) := by decide +kernel
theorem dX2_orders_65 : decode cX2_orders 65 = .ok (.iload 4, 2) := by decide +kernel
theorem dX2_orders_67 : decode cX2_orders 67 = .ok (.iload_n 3, 1) := by decide +kernel
theorem dX2_orders_68 : decode cX2_orders 68 = .ok (.if_icmp .gt 53, 3) := by decide +kernel
theorem dX2_orders_71 : decode cX2_orders 71 = .ok (.aload_n 0, 1) := by decide +kernel
theorem dX2_orders_72 : decode cX2_orders 72 = .ok (.aload_n 0, 1) := by decide +kernel
theorem dX2_orders_73 : decode cX2_orders 73 = .ok (.getfield 11, 3) := by decide +kernel
theorem dX2_orders_76 : decode cX2_orders 76 = .ok (.iload_n 3, 1) := by decide +kernel
theorem dX2_orders_77 : decode cX2_orders 77 = .ok (.laload, 1) := by decide +kernel
theorem dX2_orders_78 : decode cX2_orders 78 = .ok (.aload_n 0, 1) := by decide +kernel
theorem dX2_orders_79 : decode cX2_orders 79 = .ok (.getfield 11, 3) := by decide +kernel
theorem dX2_orders_82 : decode cX2_orders 82 = .ok (.iload 4, 2) := by decide +kernel
theorem dX2_orders_84 : decode cX2_orders 84 = .ok (.laload, 1) := by decide +kernel
theorem dX2_orders_85 : decode cX2_orders 85 = .ok (.iload_n 2, 1) := by decide +kernel
theorem dX2_orders_86 : decode cX2_orders 86 = .ok (.invokestatic 40, 3) := by decide +kernel
theorem dX2_orders_89 : decode cX2_orders 89 = .ok (.iload_n 2, 1) := by decide +kernel
theorem dX2_orders_90 : decode cX2_orders 90 = .ok (.invokevirtual 36, 3) := by decide +kernel
theorem dX2_orders_93 : decode cX2_orders 93 = .ok (.aload_n 0, 1) := by decide +kernel
theorem dX2_orders_94 : decode cX2_orders 94 = .ok (.aload_n 0, 1) := by decide +kernel
theorem dX2_orders_95 : decode cX2_orders 95 = .ok (.getfield 11, 3) := by decide +kernel
theorem dX2_orders_98 : decode cX2_orders 98 = .ok (.iload 4, 2) := by decide +kernel
theorem dX2_orders_100 : decode cX2_orders 100 = .ok (.laload, 1) := by decide +kernel
theorem dX2_orders_101 : decode cX2_orders 101 = .ok (.aload_n 0, 1) := by decide +kernel
theorem dX2_orders_102 : decode cX2_orders 102 = .ok (.getfield 11, 3) := by decide +kernel
theorem dX2_orders_105 : decode cX2_orders 105 = .ok (.iload_n 3, 1) := by decide +kernel
theorem dX2_orders_106 : decode cX2_orders 106 = .ok (.laload, 1) := by decide +kernel
theorem dX2_orders_107 : decode cX2_orders 107 = .ok (.iload_n 2, 1) := by decide +kernel
theorem dX2_orders_108 : decode cX2_orders 108 = .ok (.invokestatic 40, 3) := by decide +kernel
theorem dX2_orders_111 : decode cX2_orders 111 = .ok (.iload_n 2, 1) := by decide +kernel
theorem dX2_orders_112 : decode cX2_orders 112 = .ok (.invokevirtual 36, 3) := by decide +kernel
theorem dX2_orders_115 : decode cX2_orders 115 = .ok (.iinc 4 1, 3) := by decide +kernel
theorem dX2_orders_118 : decode cX2_orders 118 = .ok (.goto (-53), 3) := by decide +kernel
theorem dX2_orders_121 : decode cX2_orders 121 = .ok (.iinc 3 1, 3) := by decide +kernel
theorem dX2_orders_124 : decode cX2_orders 124 = .ok (.goto (-76), 3) := by decide +kernel
theorem dX2_orders_127 : decode cX2_orders 127 = .ok (.aload_n 0, 1) := by decide +kernel
theorem dX2_orders_128 : decode cX2_orders 128 = .ok (.iload_n 2, 1) := by decide +kernel
theorem dX2_orders_129 : decode cX2_orders 129 = .ok (.invokevirtual 46, 3) := by decide +kernel
theorem dX2_orders_132 : decode cX2_orders 132 = .ok (.ireturn, 1) := by decide +kernel
theorem dX2_sift_0 : decode cX2_sift 0 = .ok (.lload_n 1, 1) := by decide +kernel
theorem dX2_sift_1 : decode cX2_sift 1 = .ok (.lstore 4, 2) := by decide +kernel
theorem dX2_sift_3 : decode cX2_sift 3 = .ok (.iconst 0, 1) := by decide +kernel
theorem dX2_sift_4 : decode cX2_sift 4 = .ok (.istore 6, 2) := by decide +kernel
theorem dX2_sift_6 : decode cX2_sift 6 = .ok (.iload 6, 2) := by decide +kernel
theorem dX2_sift_8 : decode cX2_sift 8 = .ok (.iload_n 3, 1) := by decide +kernel
theorem dX2_sift_9 : decode cX2_sift 9 = .ok (.if_icmp .ge 135, 3) := by decide +kernel
theorem dX2_sift_12 : decode cX2_sift 12 = .ok (.lload 4, 2) := by decide +kernel
theorem dX2_sift_14 : decode cX2_sift 14 = .ok (.iload 6, 2) := by decide +kernel
theorem dX2_sift_16 : decode cX2_sift 16 = .ok (.invokestatic 50, 3) := by decide +kernel
theorem dX2_sift_19 : decode cX2_sift 19 = .ok (.istore 7, 2) := by decide +kernel
theorem dX2_sift_21 : decode cX2_sift 21 = .ok (.iload 7, 2) := by decide +kernel
theorem dX2_sift_23 : decode cX2_sift 23 = .ok (.iload 6, 2) := by decide +kernel
theorem dX2_sift_25 : decode cX2_sift 25 = .ok (.if_icmp .ne 6, 3) := by decide +kernel
theorem dX2_sift_28 : decode cX2_sift 28 = .ok (.goto 110, 3) := by decide +kernel
theorem dX2_sift_31 : decode cX2_sift 31 = .ok (.iload 6, 2) := by decide +kernel
theorem dX2_sift_33 : decode cX2_sift 33 = .ok (.bipush 12, 2) := by decide +kernel
theorem dX2_sift_35 : decode cX2_sift 35 = .ok (.imul, 1) := by decide +kernel
theorem dX2_sift_36 : decode cX2_sift 36 = .ok (.iload 7, 2) := by decide +kernel
theorem dX2_sift_38 : decode cX2_sift 38 = .ok (.iadd, 1) := by decide +kernel
theorem dX2_sift_39 : decode cX2_sift 39 = .ok (.istore 8, 2) := by decide +kernel
theorem dX2_sift_41 : decode cX2_sift 41 = .ok (.iload 8, 2) := by decide +kernel
theorem dX2_sift_43 : decode cX2_sift 43 = .ok (.aload_n 0, 1) := by decide +kernel
theorem dX2_sift_44 : decode cX2_sift 44 = .ok (.getfield 15, 3) := by decide +kernel
theorem dX2_sift_47 : decode cX2_sift 47 = .ok (.arraylength, 1) := by decide +kernel
theorem dX2_sift_48 : decode cX2_sift 48 = .ok (.if_icmp .ge 27, 3) := by decide +kernel
theorem dX2_sift_51 : decode cX2_sift 51 = .ok (.aload_n 0, 1) := by decide +kernel
theorem dX2_sift_52 : decode cX2_sift 52 = .ok (.getfield 24, 3) := by decide +kernel
theorem dX2_sift_55 : decode cX2_sift 55 = .ok (.aload_n 0, 1) := by decide +kernel
theorem dX2_sift_56 : decode cX2_sift 56 = .ok (.getfield 11, 3) := by decide +kernel
theorem dX2_sift_59 : decode cX2_sift 59 = .ok (.arraylength, 1) := by decide +kernel
theorem dX2_sift_60 : decode cX2_sift 60 = .ok (.if_icmp .lt 16, 3) := by decide +kernel
theorem dX2_sift_63 : decode cX2_sift 63 = .ok (.aload_n 0, 1) := by decide +kernel
theorem dX2_sift_64 : decode cX2_sift 64 = .ok (.getfield 15, 3) := by decide +kernel
theorem dX2_sift_67 : decode cX2_sift 67 = .ok (.iload 8, 2) := by decide +kernel
theorem dX2_sift_69 : decode cX2_sift 69 = .ok (.laload, 1) := by decide +kernel
theorem dX2_sift_70 : decode cX2_sift 70 = .ok (.lconst 0, 1) := by decide +kernel
theorem dX2_sift_71 : decode cX2_sift 71 = .ok (.lcmp, 1) := by decide +kernel
theorem dX2_sift_72 : decode cX2_sift 72 = .ok (.ifCond .ne 4, 3) := by decide +kernel
theorem dX2_sift_75 : decode cX2_sift 75 = .ok (.return_, 1) := by decide +kernel
theorem dX2_sift_76 : decode cX2_sift 76 = .ok (.aload_n 0, 1) := by decide +kernel
theorem dX2_sift_77 : decode cX2_sift 77 = .ok (.getfield 15, 3) := by decide +kernel
theorem dX2_sift_80 : decode cX2_sift 80 = .ok (.iload 8, 2) := by decide +kernel
theorem dX2_sift_82 : decode cX2_sift 82 = .ok (.laload, 1) := by decide +kernel
theorem dX2_sift_83 : decode cX2_sift 83 = .ok (.lconst 0, 1) := by decide +kernel
theorem dX2_sift_84 : decode cX2_sift 84 = .ok (.lcmp, 1) := by decide +kernel
theorem dX2_sift_85 : decode cX2_sift 85 = .ok (.ifCond .ne 38, 3) := by decide +kernel
theorem dX2_sift_88 : decode cX2_sift 88 = .ok (.aload_n 0, 1) := by decide +kernel
theorem dX2_sift_89 : decode cX2_sift 89 = .ok (.getfield 15, 3) := by decide +kernel
theorem dX2_sift_92 : decode cX2_sift 92 = .ok (.iload 8, 2) := by decide +kernel
theorem dX2_sift_94 : decode cX2_sift 94 = .ok (.lload 4, 2) := by decide +kernel
theorem dX2_sift_96 : decode cX2_sift 96 = .ok (.iload_n 3, 1) := by decide +kernel
theorem dX2_sift_97 : decode cX2_sift 97 = .ok (.invokestatic 54, 3) := by decide +kernel
theorem dX2_sift_100 : decode cX2_sift 100 = .ok (.lastore, 1) := by decide +kernel
theorem dX2_sift_101 : decode cX2_sift 101 = .ok (.aload_n 0, 1) := by decide +kernel
theorem dX2_sift_102 : decode cX2_sift 102 = .ok (.getfield 11, 3) := by decide +kernel
theorem dX2_sift_105 : decode cX2_sift 105 = .ok (.aload_n 0, 1) := by decide +kernel
theorem dX2_sift_106 : decode cX2_sift 106 = .ok (.getfield 24, 3) := by decide +kernel
theorem dX2_sift_109 : decode cX2_sift 109 = .ok (.lload 4, 2) := by decide +kernel
theorem dX2_sift_111 : decode cX2_sift 111 = .ok (.lastore, 1) := by decide +kernel
theorem dX2_sift_112 : decode cX2_sift 112 = .ok (.aload_n 0, 1) := by decide +kernel
theorem dX2_sift_113 : decode cX2_sift 113 = .ok (.dup, 1) := by decide +kernel
theorem dX2_sift_114 : decode cX2_sift 114 = .ok (.getfield 24, 3) := by decide +kernel
theorem dX2_sift_117 : decode cX2_sift 117 = .ok (.iconst 1, 1) := by decide +kernel
theorem dX2_sift_118 : decode cX2_sift 118 = .ok (.iadd, 1) := by decide +kernel
theorem dX2_sift_119 : decode cX2_sift 119 = .ok (.putfield 24, 3) := by decide +kernel
theorem dX2_sift_122 : decode cX2_sift 122 = .ok (.return_, 1) := by decide +kernel
theorem dX2_sift_123 : decode cX2_sift 123 = .ok (.lload 4, 2) := by decide +kernel
theorem dX2_sift_125 : decode cX2_sift 125 = .ok (.aload_n 0, 1) := by decide +kernel
theorem dX2_sift_126 : decode cX2_sift 126 = .ok (.getfield 15, 3) := by decide +kernel
theorem dX2_sift_129 : decode cX2_sift 129 = .ok (.iload 8, 2) := by decide +kernel
theorem dX2_sift_131 : decode cX2_sift 131 = .ok (.laload, 1) := by decide +kernel
theorem dX2_sift_132 : decode cX2_sift 132 = .ok (.iload_n 3, 1) := by decide +kernel
theorem dX2_sift_133 : decode cX2_sift 133 = .ok (.invokestatic 40, 3) := by decide +kernel
theorem dX2_sift_136 : decode cX2_sift 136 = .ok (.lstore 4, 2) := by decide +kernel
theorem dX2_sift_138 : decode cX2_sift 138 = .ok (.iinc 6 1, 3) := by decide +kernel
theorem dX2_sift_141 : decode cX2_sift 141 = .ok (.goto (-135), 3) := by decide +kernel
theorem dX2_sift_144 : decode cX2_sift 144 = .ok (.return_, 1) := by decide +kernel
theorem dX2_product_0 : decode cX2_product 0 = .ok (.iconst 1, 1) := by decide +kernel
theorem dX2_product_1 : decode cX2_product 1 = .ok (.istore_n 2, 1) := by decide +kernel
theorem dX2_product_2 : decode cX2_product 2 = .ok (.iconst 0, 1) := by decide +kernel
theorem dX2_product_3 : decode cX2_product 3 = .ok (.istore_n 3, 1) := by decide +kernel
theorem dX2_product_4 : decode cX2_product 4 = .ok (.iload_n 3, 1) := by decide +kernel
theorem dX2_product_5 : decode cX2_product 5 = .ok (.iload_n 1, 1) := by decide +kernel
theorem dX2_product_6 : decode cX2_product 6 = .ok (.if_icmp .ge 54, 3) := by decide +kernel
theorem dX2_product_9 : decode cX2_product 9 = .ok (.iconst 1, 1) := by decide +kernel
theorem dX2_product_10 : decode cX2_product 10 = .ok (.istore 4, 2) := by decide +kernel
theorem dX2_product_12 : decode cX2_product 12 = .ok (.iload_n 3, 1) := by decide +kernel
theorem dX2_product_13 : decode cX2_product 13 = .ok (.iconst 1, 1) := by decide +kernel
theorem dX2_product_14 : decode cX2_product 14 = .ok (.iadd, 1) := by decide +kernel
theorem dX2_product_15 : decode cX2_product 15 = .ok (.istore 5, 2) := by decide +kernel
theorem dX2_product_17 : decode cX2_product 17 = .ok (.iload 5, 2) := by decide +kernel
theorem dX2_product_19 : decode cX2_product 19 = .ok (.iload_n 1, 1) := by decide +kernel
theorem dX2_product_20 : decode cX2_product 20 = .ok (.if_icmp .ge 29, 3) := by decide +kernel
theorem dX2_product_23 : decode cX2_product 23 = .ok (.aload_n 0, 1) := by decide +kernel
theorem dX2_product_24 : decode cX2_product 24 = .ok (.getfield 15, 3) := by decide +kernel
theorem dX2_product_27 : decode cX2_product 27 = .ok (.iload_n 3, 1) := by decide +kernel
theorem dX2_product_28 : decode cX2_product 28 = .ok (.bipush 12, 2) := by decide +kernel
theorem dX2_product_30 : decode cX2_product 30 = .ok (.imul, 1) := by decide +kernel
theorem dX2_product_31 : decode cX2_product 31 = .ok (.iload 5, 2) := by decide +kernel
theorem dX2_product_33 : decode cX2_product 33 = .ok (.iadd, 1) := by decide +kernel
theorem dX2_product_34 : decode cX2_product 34 = .ok (.laload, 1) := by decide +kernel
theorem dX2_product_35 : decode cX2_product 35 = .ok (.lconst 0, 1) := by decide +kernel
theorem dX2_product_36 : decode cX2_product 36 = .ok (.lcmp, 1) := by decide +kernel
theorem dX2_product_37 : decode cX2_product 37 = .ok (.ifCond .eq 6, 3) := by decide +kernel
theorem dX2_product_40 : decode cX2_product 40 = .ok (.iinc 4 1, 3) := by decide +kernel
theorem dX2_product_43 : decode cX2_product 43 = .ok (.iinc 5 1, 3) := by decide +kernel
theorem dX2_product_46 : decode cX2_product 46 = .ok (.goto (-29), 3) := by decide +kernel
theorem dX2_product_49 : decode cX2_product 49 = .ok (.iload_n 2, 1) := by decide +kernel
theorem dX2_product_50 : decode cX2_product 50 = .ok (.iload 4, 2) := by decide +kernel
theorem dX2_product_52 : decode cX2_product 52 = .ok (.imul, 1) := by decide +kernel
theorem dX2_product_53 : decode cX2_product 53 = .ok (.istore_n 2, 1) := by decide +kernel
theorem dX2_product_54 : decode cX2_product 54 = .ok (.iinc 3 1, 3) := by decide +kernel
theorem dX2_product_57 : decode cX2_product 57 = .ok (.goto (-53), 3) := by decide +kernel
theorem dX2_product_60 : decode cX2_product 60 = .ok (.iload_n 2, 1) := by decide +kernel
theorem dX2_product_61 : decode cX2_product 61 = .ok (.ireturn, 1) := by decide +kernel
theorem dX3_init_0 : decode cX3_init 0 = .ok (.aload_n 0, 1) := by decide +kernel
theorem dX3_init_1 : decode cX3_init 1 = .ok (.invokespecial 3, 3) := by decide +kernel
theorem dX3_init_4 : decode cX3_init 4 = .ok (.aload_n 0, 1) := by decide +kernel
theorem dX3_init_5 : decode cX3_init 5 = .ok (.bipush 8, 2) := by decide +kernel
theorem dX3_init_7 : decode cX3_init 7 = .ok (.newarray .long, 2) := by decide +kernel
theorem dX3_init_9 : decode cX3_init 9 = .ok (.putfield 9, 3) := by decide +kernel
theorem dX3_init_12 : decode cX3_init 12 = .ok (.return_, 1) := by decide +kernel
theorem dX3_find_0 : decode cX3_find 0 = .ok (.aload_n 1, 1) := by decide +kernel
theorem dX3_find_1 : decode cX3_find 1 = .ok (.arraylength, 1) := by decide +kernel
theorem dX3_find_2 : decode cX3_find 2 = .ok (.iconst 1, 1) := by decide +kernel
theorem dX3_find_3 : decode cX3_find 3 = .ok (.if_icmp .lt 13, 3) := by decide +kernel
theorem dX3_find_6 : decode cX3_find 6 = .ok (.aload_n 1, 1) := by decide +kernel
theorem dX3_find_7 : decode cX3_find 7 = .ok (.arraylength, 1) := by decide +kernel
theorem dX3_find_8 : decode cX3_find 8 = .ok (.aload_n 0, 1) := by decide +kernel
theorem dX3_find_9 : decode cX3_find 9 = .ok (.getfield 9, 3) := by decide +kernel
theorem dX3_find_12 : decode cX3_find 12 = .ok (.arraylength, 1) := by decide +kernel
theorem dX3_find_13 : decode cX3_find 13 = .ok (.if_icmp .le 4, 3) := by decide +kernel
theorem dX3_find_16 : decode cX3_find 16 = .ok (.return_, 1) := by decide +kernel
theorem dX3_find_17 : decode cX3_find 17 = .ok (.iload_n 2, 1) := by decide +kernel
theorem dX3_find_18 : decode cX3_find 18 = .ok (.invokestatic 15, 3) := by decide +kernel
theorem dX3_find_21 : decode cX3_find 21 = .ok (.lstore_n 3, 1) := by decide +kernel
theorem dX3_find_22 : decode cX3_find 22 = .ok (.lconst 0, 1) := by decide +kernel
theorem dX3_find_23 : decode cX3_find 23 = .ok (.lstore 5, 2) := by decide +kernel
theorem dX3_find_25 : decode cX3_find 25 = .ok (.iconst 0, 1) := by decide +kernel
theorem dX3_find_26 : decode cX3_find 26 = .ok (.istore 7, 2) := by decide +kernel
theorem dX3_find_28 : decode cX3_find 28 = .ok (.iload 7, 2) := by decide +kernel
theorem dX3_find_30 : decode cX3_find 30 = .ok (.iload_n 2, 1) := by decide +kernel
theorem dX3_find_31 : decode cX3_find 31 = .ok (.if_icmp .ge 88, 3) := by decide +kernel
theorem dX3_find_34 : decode cX3_find 34 = .ok (.lload_n 3, 1) := by decide +kernel
theorem dX3_find_35 : decode cX3_find 35 = .ok (.iload 7, 2) := by decide +kernel
theorem dX3_find_37 : decode cX3_find 37 = .ok (.invokestatic 21, 3) := by decide +kernel
theorem dX3_find_40 : decode cX3_find 40 = .ok (.iload 7, 2) := by decide +kernel
theorem dX3_find_42 : decode cX3_find 42 = .ok (.if_icmp .ne 71, 3) := by decide +kernel
theorem dX3_find_45 : decode cX3_find 45 = .ok (.aload_n 0, 1) := by decide +kernel
theorem dX3_find_46 : decode cX3_find 46 = .ok (.iload 7, 2) := by decide +kernel
theorem dX3_find_48 : decode cX3_find 48 = .ok (.aload_n 1, 1) := by decide +kernel
theorem dX3_find_49 : decode cX3_find 49 = .ok (.iload_n 2, 1) := by decide +kernel
theorem dX3_find_50 : decode cX3_find 50 = .ok (.invokevirtual 25, 3) := by decide +kernel
theorem dX3_find_53 : decode cX3_find 53 = .ok (.ifCond .ne 6, 3) := by decide +kernel
theorem dX3_find_56 : decode cX3_find 56 = .ok (.goto 57, 3) := by decide +kernel
theorem dX3_find_59 : decode cX3_find 59 = .ok (.iload 7, 2) := by decide +kernel
theorem dX3_find_61 : decode cX3_find 61 = .ok (.ifCond .ne 7, 3) := by decide +kernel
theorem dX3_find_64 : decode cX3_find 64 = .ok (.iconst (-1), 1) := by decide +kernel
theorem dX3_find_65 : decode cX3_find 65 = .ok (.goto 9, 3) := by decide +kernel
theorem dX3_find_68 : decode cX3_find 68 = .ok (.aload_n 0, 1) := by decide +kernel
theorem dX3_find_69 : decode cX3_find 69 = .ok (.aload_n 1, 1) := by decide +kernel
theorem dX3_find_70 : decode cX3_find 70 = .ok (.iload_n 2, 1) := by decide +kernel
theorem dX3_find_71 : decode cX3_find 71 = .ok (.invokevirtual 29, 3) := by decide +kernel
theorem dX3_find_74 : decode cX3_find 74 = .ok (.istore 8, 2) := by decide +kernel
theorem dX3_find_76 : decode cX3_find 76 = .ok (.iload 8, 2) := by decide +kernel
theorem dX3_find_78 : decode cX3_find 78 = .ok (.ifCond .ge 18, 3) := by decide +kernel
theorem dX3_find_81 : decode cX3_find 81 = .ok (.aload_n 0, 1) := by decide +kernel
theorem dX3_find_82 : decode cX3_find 82 = .ok (.aload_n 1, 1) := by decide +kernel
theorem dX3_find_83 : decode cX3_find 83 = .ok (.iload_n 2, 1) := by decide +kernel
theorem dX3_find_84 : decode cX3_find 84 = .ok (.invokevirtual 33, 3) := by decide +kernel
theorem dX3_find_87 : decode cX3_find 87 = .ok (.aload_n 0, 1) := by decide +kernel
theorem dX3_find_88 : decode cX3_find 88 = .ok (.getfield 37, 3) := by decide +kernel
theorem dX3_find_91 : decode cX3_find 91 = .ok (.lstore 5, 2) := by decide +kernel
theorem dX3_find_93 : decode cX3_find 93 = .ok (.goto 20, 3) := by decide +kernel
theorem dX3_find_96 : decode cX3_find 96 = .ok (.iload 8, 2) := by decide +kernel
theorem dX3_find_98 : decode cX3_find 98 = .ok (.ifCond .ne 15, 3) := by decide +kernel
theorem dX3_find_101 : decode cX3_find 101 = .ok (.lload_n 3, 1) := by decide +kernel
theorem dX3_find_102 : decode cX3_find 102 = .ok (.lload 5, 2) := by decide +kernel
theorem dX3_find_104 : decode cX3_find 104 = .ok (.aload_n 0, 1) := by decide +kernel
theorem dX3_find_105 : decode cX3_find 105 = .ok (.getfield 37, 3) := by decide +kernel
theorem dX3_find_108 : decode cX3_find 108 = .ok (.iload_n 2, 1) := by decide +kernel
theorem dX3_find_109 : decode cX3_find 109 = .ok (.invokestatic 41, 3) := by decide +kernel
theorem dX3_find_112 : decode cX3_find 112 = .ok (.lstore_n 3, 1) := by decide +kernel
theorem dX3_find_113 : decode cX3_find 113 = .ok (.iinc 7 1, 3) := by decide +kernel
theorem dX3_find_116 : decode cX3_find 116 = .ok (.goto (-88), 3) := by decide +kernel
theorem dX3_find_119 : decode cX3_find 119 = .ok (.aload_n 0, 1) := by decide +kernel
theorem dX3_find_120 : decode cX3_find 120 = .ok (.lload_n 3, 1) := by decide +kernel
theorem dX3_find_121 : decode cX3_find 121 = .ok (.iload_n 2, 1) := by decide +kernel
theorem dX3_find_122 : decode cX3_find 122 = .ok (.invokestatic 45, 3) := by decide +kernel
theorem dX3_find_125 : decode cX3_find 125 = .ok (.putfield 48, 3) := by decide +kernel
theorem dX3_find_128 : decode cX3_find 128 = .ok (.return_, 1) := by decide +kernel
theorem dX3_numberFrom_0 : decode cX3_numberFrom 0 = .ok (.aload_n 0, 1) := by decide +kernel
theorem dX3_numberFrom_1 : decode cX3_numberFrom 1 = .ok (.lconst 0, 1) := by decide +kernel
theorem dX3_numberFrom_2 : decode cX3_numberFrom 2 = .ok (.putfield 52, 3) := by decide +kernel
theorem dX3_numberFrom_5 : decode cX3_numberFrom 5 = .ok (.aload_n 0, 1) := by decide +kernel
theorem dX3_numberFrom_6 : decode cX3_numberFrom 6 = .ok (.lconst 0, 1) := by decide +kernel
theorem dX3_numberFrom_7 : decode cX3_numberFrom 7 = .ok (.iconst 0, 1) := by decide +kernel
theorem dX3_numberFrom_8 : decode cX3_numberFrom 8 = .ok (.iload_n 1, 1) := by decide +kernel
theorem dX3_numberFrom_9 : decode cX3_numberFrom 9 = .ok (.invokestatic 55, 3) := by decide +kernel
theorem dX3_numberFrom_12 : decode cX3_numberFrom 12 = .ok (.putfield 37, 3) := by decide +kernel
theorem dX3_numberFrom_15 : decode cX3_numberFrom 15 = .ok (.iconst 1, 1) := by decide +kernel
theorem dX3_numberFrom_16 : decode cX3_numberFrom 16 = .ok (.iload_n 1, 1) := by decide +kernel
theorem dX3_numberFrom_17 : decode cX3_numberFrom 17 = .ok (.ishl, 1) := by decide +kernel
theorem dX3_numberFrom_18 : decode cX3_numberFrom 18 = .ok (.istore 4, 2) := by decide +kernel
theorem dX3_numberFrom_20 : decode cX3_numberFrom 20 = .ok (.iconst 1, 1) := by decide +kernel
theorem dX3_numberFrom_21 : decode cX3_numberFrom 21 = .ok (.istore 5, 2) := by decide +kernel
theorem dX3_numberFrom_23 : decode cX3_numberFrom 23 = .ok (.iload_n 1, 1) := by decide +kernel
theorem dX3_numberFrom_24 : decode cX3_numberFrom 24 = .ok (.ifCond .le 7, 3) := by decide +kernel
theorem dX3_numberFrom_27 : decode cX3_numberFrom 27 = .ok (.iconst 1, 1) := by decide +kernel
theorem dX3_numberFrom_28 : decode cX3_numberFrom 28 = .ok (.goto 4, 3) := by decide +kernel
theorem dX3_numberFrom_31 : decode cX3_numberFrom 31 = .ok (.iconst 0, 1) := by decide +kernel
theorem dX3_numberFrom_32 : decode cX3_numberFrom 32 = .ok (.istore 6, 2) := by decide +kernel
theorem dX3_numberFrom_34 : decode cX3_numberFrom 34 = .ok (.iconst 0, 1) := by decide +kernel
theorem dX3_numberFrom_35 : decode cX3_numberFrom 35 = .ok (.istore 7, 2) := by decide +kernel
theorem dX3_numberFrom_37 : decode cX3_numberFrom 37 = .ok (.iload 7, 2) := by decide +kernel
theorem dX3_numberFrom_39 : decode cX3_numberFrom 39 = .ok (.iload 5, 2) := by decide +kernel
theorem dX3_numberFrom_41 : decode cX3_numberFrom 41 = .ok (.if_icmp .ge 157, 3) := by decide +kernel
theorem dX3_numberFrom_44 : decode cX3_numberFrom 44 = .ok (.iload 5, 2) := by decide +kernel
theorem dX3_numberFrom_46 : decode cX3_numberFrom 46 = .ok (.iload_n 3, 1) := by decide +kernel
theorem dX3_numberFrom_47 : decode cX3_numberFrom 47 = .ok (.if_icmp .ge 151, 3) := by decide +kernel
theorem dX3_numberFrom_50 : decode cX3_numberFrom 50 = .ok (.aload_n 0, 1) := by decide +kernel
theorem dX3_numberFrom_51 : decode cX3_numberFrom 51 = .ok (.getfield 37, 3) := by decide +kernel
theorem dX3_numberFrom_54 : decode cX3_numberFrom 54 = .ok (.iload 7, 2) := by decide +kernel
theorem dX3_numberFrom_56 : decode cX3_numberFrom 56 = .ok (.invokestatic 21, 3) := by decide +kernel
theorem dX3_numberFrom_59 : decode cX3_numberFrom 59 = .ok (.istore 8, 2) := by decide +kernel
theorem dX3_numberFrom_61 : decode cX3_numberFrom 61 = .ok (.iconst 0, 1) := by decide +kernel
theorem dX3_numberFrom_62 : decode cX3_numberFrom 62 = .ok (.istore 9, 2) := by decide +kernel
theorem dX3_numberFrom_64 : decode cX3_numberFrom 64 = .ok (.iload 9, 2) := by decide +kernel
theorem dX3_numberFrom_66 : decode cX3_numberFrom 66 = .ok (.aload_n 2, 1) := by decide +kernel
theorem dX3_numberFrom_67 : decode cX3_numberFrom 67 = .ok (.arraylength, 1) := by decide +kernel
theorem dX3_numberFrom_68 : decode cX3_numberFrom 68 = .ok (.if_icmp .ge 124, 3) := by decide +kernel
theorem dX3_numberFrom_71 : decode cX3_numberFrom 71 = .ok (.aload_n 2, 1) := by decide +kernel
theorem dX3_numberFrom_72 : decode cX3_numberFrom 72 = .ok (.iload 9, 2) := by decide +kernel
theorem dX3_numberFrom_74 : decode cX3_numberFrom 74 = .ok (.laload, 1) := by decide +kernel
theorem dX3_numberFrom_75 : decode cX3_numberFrom 75 = .ok (.iload 8, 2) := by decide +kernel
theorem dX3_numberFrom_77 : decode cX3_numberFrom 77 = .ok (.invokestatic 21, 3) := by decide +kernel
theorem dX3_numberFrom_80 : decode cX3_numberFrom 80 = .ok (.istore 10, 2) := by decide +kernel
theorem dX3_numberFrom_82 : decode cX3_numberFrom 82 = .ok (.iload 4, 2) := by decide +kernel
theorem dX3_numberFrom_84 : decode cX3_numberFrom 84 = .ok (.iload 10, 2) := by decide +kernel
theorem dX3_numberFrom_86 : decode cX3_numberFrom 86 = .ok (.ishr, 1) := by decide +kernel
theorem dX3_numberFrom_87 : decode cX3_numberFrom 87 = .ok (.iconst 1, 1) := by decide +kernel
theorem dX3_numberFrom_88 : decode cX3_numberFrom 88 = .ok (.iand, 1) := by decide +kernel
theorem dX3_numberFrom_89 : decode cX3_numberFrom 89 = .ok (.ifCond .ne 45, 3) := by decide +kernel
theorem dX3_numberFrom_92 : decode cX3_numberFrom 92 = .ok (.iload 4, 2) := by decide +kernel
theorem dX3_numberFrom_94 : decode cX3_numberFrom 94 = .ok (.iconst 1, 1) := by decide +kernel
theorem dX3_numberFrom_95 : decode cX3_numberFrom 95 = .ok (.iload 10, 2) := by decide +kernel
theorem dX3_numberFrom_97 : decode cX3_numberFrom 97 = .ok (.ishl, 1) := by decide +kernel
theorem dX3_numberFrom_98 : decode cX3_numberFrom 98 = .ok (.ior, 1) := by decide +kernel
theorem dX3_numberFrom_99 : decode cX3_numberFrom 99 = .ok (.istore 4, 2) := by decide +kernel
theorem dX3_numberFrom_101 : decode cX3_numberFrom 101 = .ok (.aload_n 0, 1) := by decide +kernel
theorem dX3_numberFrom_102 : decode cX3_numberFrom 102 = .ok (.aload_n 0, 1) := by decide +kernel
theorem dX3_numberFrom_103 : decode cX3_numberFrom 103 = .ok (.getfield 52, 3) := by decide +kernel
theorem dX3_numberFrom_106 : decode cX3_numberFrom 106 = .ok (.iload 10, 2) := by decide +kernel
theorem dX3_numberFrom_108 : decode cX3_numberFrom 108 = .ok (.iload 5, 2) := by decide +kernel
theorem dX3_numberFrom_110 : decode cX3_numberFrom 110 = .ok (.invokestatic 55, 3) := by decide +kernel
theorem dX3_numberFrom_113 : decode cX3_numberFrom 113 = .ok (.putfield 52, 3) := by decide +kernel
theorem dX3_numberFrom_116 : decode cX3_numberFrom 116 = .ok (.aload_n 0, 1) := by decide +kernel
theorem dX3_numberFrom_117 : decode cX3_numberFrom 117 = .ok (.aload_n 0, 1) := by decide +kernel
theorem dX3_numberFrom_118 : decode cX3_numberFrom 118 = .ok (.getfield 37, 3) := by decide +kernel
theorem dX3_numberFrom_121 : decode cX3_numberFrom 121 = .ok (.iload 5, 2) := by decide +kernel
theorem dX3_numberFrom_123 : decode cX3_numberFrom 123 = .ok (.iload 10, 2) := by decide +kernel
theorem dX3_numberFrom_125 : decode cX3_numberFrom 125 = .ok (.invokestatic 55, 3) := by decide +kernel
theorem dX3_numberFrom_128 : decode cX3_numberFrom 128 = .ok (.putfield 37, 3) := by decide +kernel
theorem dX3_numberFrom_131 : decode cX3_numberFrom 131 = .ok (.iinc 5 1, 3) := by decide +kernel
theorem dX3_numberFrom_134 : decode cX3_numberFrom 134 = .ok (.iload 6, 2) := by decide +kernel
theorem dX3_numberFrom_136 : decode cX3_numberFrom 136 = .ok (.ifCond .eq 50, 3) := by decide +kernel
theorem dX3_numberFrom_139 : decode cX3_numberFrom 139 = .ok (.iload 9, 2) := by decide +kernel
theorem dX3_numberFrom_141 : decode cX3_numberFrom 141 = .ok (.ifCond .ne 45, 3) := by decide +kernel
theorem dX3_numberFrom_144 : decode cX3_numberFrom 144 = .ok (.aload_n 0, 1) := by decide +kernel
theorem dX3_numberFrom_145 : decode cX3_numberFrom 145 = .ok (.getfield 52, 3) := by decide +kernel
theorem dX3_numberFrom_148 : decode cX3_numberFrom 148 = .ok (.iload 10, 2) := by decide +kernel
theorem dX3_numberFrom_150 : decode cX3_numberFrom 150 = .ok (.invokestatic 21, 3) := by decide +kernel
theorem dX3_numberFrom_153 : decode cX3_numberFrom 153 = .ok (.aload_n 0, 1) := by decide +kernel
theorem dX3_numberFrom_154 : decode cX3_numberFrom 154 = .ok (.getfield 9, 3) := by decide +kernel
theorem dX3_numberFrom_157 : decode cX3_numberFrom 157 = .ok (.iconst 0, 1) := by decide +kernel
theorem dX3_numberFrom_158 : decode cX3_numberFrom 158 = .ok (.laload, 1) := by decide +kernel
theorem dX3_numberFrom_159 : decode cX3_numberFrom 159 = .ok (.iload 7, 2) := by decide +kernel
theorem dX3_numberFrom_161 : decode cX3_numberFrom 161 = .ok (.invokestatic 21, 3) := by decide +kernel
theorem dX3_numberFrom_164 : decode cX3_numberFrom 164 = .ok (.isub, 1) := by decide +kernel
theorem dX3_numberFrom_165 : decode cX3_numberFrom 165 = .ok (.istore 11, 2) := by decide +kernel
theorem dX3_numberFrom_167 : decode cX3_numberFrom 167 = .ok (.iload 11, 2) := by decide +kernel
theorem dX3_numberFrom_169 : decode cX3_numberFrom 169 = .ok (.ifCond .le 5, 3) := by decide +kernel
theorem dX3_numberFrom_172 : decode cX3_numberFrom 172 = .ok (.iconst 0, 1) := by decide +kernel
theorem dX3_numberFrom_173 : decode cX3_numberFrom 173 = .ok (.ireturn, 1) := by decide +kernel
theorem dX3_numberFrom_174 : decode cX3_numberFrom 174 = .ok (.iload 11, 2) := by decide +kernel
theorem dX3_numberFrom_176 : decode cX3_numberFrom 176 = .ok (.ifCond .ne 7, 3) := by decide +kernel
theorem dX3_numberFrom_179 : decode cX3_numberFrom 179 = .ok (.iconst 1, 1) := by decide +kernel
theorem dX3_numberFrom_180 : decode cX3_numberFrom 180 = .ok (.goto 4, 3) := by decide +kernel
theorem dX3_numberFrom_183 : decode cX3_numberFrom 183 = .ok (.iconst 0, 1) := by decide +kernel
theorem dX3_numberFrom_184 : decode cX3_numberFrom 184 = .ok (.istore 6, 2) := by decide +kernel
theorem dX3_numberFrom_186 : decode cX3_numberFrom 186 = .ok (.iinc 9 1, 3) := by decide +kernel
theorem dX3_numberFrom_189 : decode cX3_numberFrom 189 = .ok (.goto (-125), 3) := by decide +kernel
theorem dX3_numberFrom_192 : decode cX3_numberFrom 192 = .ok (.iinc 7 1, 3) := by decide +kernel
theorem dX3_numberFrom_195 : decode cX3_numberFrom 195 = .ok (.goto (-158), 3) := by decide +kernel
theorem dX3_numberFrom_198 : decode cX3_numberFrom 198 = .ok (.iconst 1, 1) := by decide +kernel
theorem dX3_numberFrom_199 : decode cX3_numberFrom 199 = .ok (.ireturn, 1) := by decide +kernel
theorem dX3_renamed_0 : decode cX3_renamed 0 = .ok (.lconst 0, 1) := by decide +kernel
theorem dX3_renamed_1 : decode cX3_renamed 1 = .ok (.lstore 4, 2) := by decide +kernel
theorem dX3_renamed_3 : decode cX3_renamed 3 = .ok (.iconst 0, 1) := by decide +kernel
theorem dX3_renamed_4 : decode cX3_renamed 4 = .ok (.istore 6, 2) := by decide +kernel
theorem dX3_renamed_6 : decode cX3_renamed 6 = .ok (.iload 6, 2) := by decide +kernel
theorem dX3_renamed_8 : decode cX3_renamed 8 = .ok (.iload_n 3, 1) := by decide +kernel
theorem dX3_renamed_9 : decode cX3_renamed 9 = .ok (.if_icmp .ge 42, 3) := by decide +kernel
theorem dX3_renamed_12 : decode cX3_renamed 12 = .ok (.lload_n 1, 1) := by decide +kernel
theorem dX3_renamed_13 : decode cX3_renamed 13 = .ok (.aload_n 0, 1) := by decide +kernel
theorem dX3_renamed_14 : decode cX3_renamed 14 = .ok (.getfield 37, 3) := by decide +kernel
theorem dX3_renamed_17 : decode cX3_renamed 17 = .ok (.iload 6, 2) := by decide +kernel
theorem dX3_renamed_19 : decode cX3_renamed 19 = .ok (.invokestatic 21, 3) := by decide +kernel
theorem dX3_renamed_22 : decode cX3_renamed 22 = .ok (.invokestatic 21, 3) := by decide +kernel
theorem dX3_renamed_25 : decode cX3_renamed 25 = .ok (.istore 7, 2) := by decide +kernel
theorem dX3_renamed_27 : decode cX3_renamed 27 = .ok (.lload 4, 2) := by decide +kernel
theorem dX3_renamed_29 : decode cX3_renamed 29 = .ok (.iload 6, 2) := by decide +kernel
theorem dX3_renamed_31 : decode cX3_renamed 31 = .ok (.aload_n 0, 1) := by decide +kernel
theorem dX3_renamed_32 : decode cX3_renamed 32 = .ok (.getfield 52, 3) := by decide +kernel
theorem dX3_renamed_35 : decode cX3_renamed 35 = .ok (.iload 7, 2) := by decide +kernel
theorem dX3_renamed_37 : decode cX3_renamed 37 = .ok (.invokestatic 21, 3) := by decide +kernel
theorem dX3_renamed_40 : decode cX3_renamed 40 = .ok (.invokestatic 55, 3) := by decide +kernel
theorem dX3_renamed_43 : decode cX3_renamed 43 = .ok (.lstore 4, 2) := by decide +kernel
theorem dX3_renamed_45 : decode cX3_renamed 45 = .ok (.iinc 6 1, 3) := by decide +kernel
theorem dX3_renamed_48 : decode cX3_renamed 48 = .ok (.goto (-42), 3) := by decide +kernel
theorem dX3_renamed_51 : decode cX3_renamed 51 = .ok (.lload 4, 2) := by decide +kernel
theorem dX3_renamed_53 : decode cX3_renamed 53 = .ok (.lreturn, 1) := by decide +kernel
theorem dX3_againstLeast_0 : decode cX3_againstLeast 0 = .ok (.iconst 0, 1) := by decide +kernel
theorem dX3_againstLeast_1 : decode cX3_againstLeast 1 = .ok (.istore_n 3, 1) := by decide +kernel
theorem dX3_againstLeast_2 : decode cX3_againstLeast 2 = .ok (.iload_n 3, 1) := by decide +kernel
theorem dX3_againstLeast_3 : decode cX3_againstLeast 3 = .ok (.aload_n 1, 1) := by decide +kernel
theorem dX3_againstLeast_4 : decode cX3_againstLeast 4 = .ok (.arraylength, 1) := by decide +kernel
theorem dX3_againstLeast_5 : decode cX3_againstLeast 5 = .ok (.if_icmp .ge 36, 3) := by decide +kernel
theorem dX3_againstLeast_8 : decode cX3_againstLeast 8 = .ok (.aload_n 0, 1) := by decide +kernel
theorem dX3_againstLeast_9 : decode cX3_againstLeast 9 = .ok (.aload_n 1, 1) := by decide +kernel
theorem dX3_againstLeast_10 : decode cX3_againstLeast 10 = .ok (.iload_n 3, 1) := by decide +kernel
theorem dX3_againstLeast_11 : decode cX3_againstLeast 11 = .ok (.laload, 1) := by decide +kernel
theorem dX3_againstLeast_12 : decode cX3_againstLeast 12 = .ok (.iload_n 2, 1) := by decide +kernel
theorem dX3_againstLeast_13 : decode cX3_againstLeast 13 = .ok (.invokevirtual 59, 3) := by decide +kernel
theorem dX3_againstLeast_16 : decode cX3_againstLeast 16 = .ok (.aload_n 0, 1) := by decide +kernel
theorem dX3_againstLeast_17 : decode cX3_againstLeast 17 = .ok (.getfield 9, 3) := by decide +kernel
theorem dX3_againstLeast_20 : decode cX3_againstLeast 20 = .ok (.iload_n 3, 1) := by decide +kernel
theorem dX3_againstLeast_21 : decode cX3_againstLeast 21 = .ok (.laload, 1) := by decide +kernel
theorem dX3_againstLeast_22 : decode cX3_againstLeast 22 = .ok (.invokestatic 63, 3) := by decide +kernel
theorem dX3_againstLeast_25 : decode cX3_againstLeast 25 = .ok (.istore 4, 2) := by decide +kernel
theorem dX3_againstLeast_27 : decode cX3_againstLeast 27 = .ok (.iload 4, 2) := by decide +kernel
theorem dX3_againstLeast_29 : decode cX3_againstLeast 29 = .ok (.ifCond .eq 6, 3) := by decide +kernel
theorem dX3_againstLeast_32 : decode cX3_againstLeast 32 = .ok (.iload 4, 2) := by decide +kernel
theorem dX3_againstLeast_34 : decode cX3_againstLeast 34 = .ok (.ireturn, 1) := by decide +kernel
theorem dX3_againstLeast_35 : decode cX3_againstLeast 35 = .ok (.iinc 3 1, 3) := by decide +kernel
theorem dX3_againstLeast_38 : decode cX3_againstLeast 38 = .ok (.goto (-36), 3) := by decide +kernel
theorem dX3_againstLeast_41 : decode cX3_againstLeast 41 = .ok (.iconst 0, 1) := by decide +kernel
theorem dX3_againstLeast_42 : decode cX3_againstLeast 42 = .ok (.ireturn, 1) := by decide +kernel
theorem dX3_keepAsLeast_0 : decode cX3_keepAsLeast 0 = .ok (.iconst 0, 1) := by decide +kernel
theorem dX3_keepAsLeast_1 : decode cX3_keepAsLeast 1 = .ok (.istore_n 3, 1) := by decide +kernel
theorem dX3_keepAsLeast_2 : decode cX3_keepAsLeast 2 = .ok (.iload_n 3, 1) := by decide +kernel
theorem dX3_keepAsLeast_3 : decode cX3_keepAsLeast 3 = .ok (.aload_n 1, 1) := by decide +kernel
theorem dX3_keepAsLeast_4 : decode cX3_keepAsLeast 4 = .ok (.arraylength, 1) := by decide +kernel
theorem dX3_keepAsLeast_5 : decode cX3_keepAsLeast 5 = .ok (.if_icmp .ge 23, 3) := by decide +kernel
theorem dX3_keepAsLeast_8 : decode cX3_keepAsLeast 8 = .ok (.aload_n 0, 1) := by decide +kernel
theorem dX3_keepAsLeast_9 : decode cX3_keepAsLeast 9 = .ok (.getfield 9, 3) := by decide +kernel
theorem dX3_keepAsLeast_12 : decode cX3_keepAsLeast 12 = .ok (.iload_n 3, 1) := by decide +kernel
theorem dX3_keepAsLeast_13 : decode cX3_keepAsLeast 13 = .ok (.aload_n 0, 1) := by decide +kernel
theorem dX3_keepAsLeast_14 : decode cX3_keepAsLeast 14 = .ok (.aload_n 1, 1) := by decide +kernel
theorem dX3_keepAsLeast_15 : decode cX3_keepAsLeast 15 = .ok (.iload_n 3, 1) := by decide +kernel
theorem dX3_keepAsLeast_16 : decode cX3_keepAsLeast 16 = .ok (.laload, 1) := by decide +kernel
theorem dX3_keepAsLeast_17 : decode cX3_keepAsLeast 17 = .ok (.iload_n 2, 1) := by decide +kernel
theorem dX3_keepAsLeast_18 : decode cX3_keepAsLeast 18 = .ok (.invokevirtual 59, 3) := by decide +kernel
theorem dX3_keepAsLeast_21 : decode cX3_keepAsLeast 21 = .ok (.lastore, 1) := by decide +kernel
theorem dX3_keepAsLeast_22 : decode cX3_keepAsLeast 22 = .ok (.iinc 3 1, 3) := by decide +kernel
theorem dX3_keepAsLeast_25 : decode cX3_keepAsLeast 25 = .ok (.goto (-23), 3) := by decide +kernel
theorem dX3_keepAsLeast_28 : decode cX3_keepAsLeast 28 = .ok (.return_, 1) := by decide +kernel
theorem dX4_init_0 : decode cX4_init 0 = .ok (.aload_n 0, 1) := by decide +kernel
theorem dX4_init_1 : decode cX4_init 1 = .ok (.iload_n 1, 1) := by decide +kernel
theorem dX4_init_2 : decode cX4_init 2 = .ok (.aload_n 2, 1) := by decide +kernel
theorem dX4_init_3 : decode cX4_init 3 = .ok (.iload_n 3, 1) := by decide +kernel
theorem dX4_init_4 : decode cX4_init 4 = .ok (.invokespecial 1, 3) := by decide +kernel
theorem dX4_init_7 : decode cX4_init 7 = .ok (.return_, 1) := by decide +kernel
theorem dX4_kindNumber_0 : decode cX4_kindNumber 0 = .ok (.iconst 4, 1) := by decide +kernel
theorem dX4_kindNumber_1 : decode cX4_kindNumber 1 = .ok (.ireturn, 1) := by decide +kernel
theorem dX4_sizeAsked_0 : decode cX4_sizeAsked 0 = .ok (.aload_n 1, 1) := by decide +kernel
theorem dX4_sizeAsked_1 : decode cX4_sizeAsked 1 = .ok (.bipush 14, 2) := by decide +kernel
theorem dX4_sizeAsked_3 : decode cX4_sizeAsked 3 = .ok (.invokevirtual 7, 3) := by decide +kernel
theorem dX4_sizeAsked_6 : decode cX4_sizeAsked 6 = .ok (.aload_n 0, 1) := by decide +kernel
theorem dX4_sizeAsked_7 : decode cX4_sizeAsked 7 = .ok (.aload_n 1, 1) := by decide +kernel
theorem dX4_sizeAsked_8 : decode cX4_sizeAsked 8 = .ok (.invokespecial 13, 3) := by decide +kernel
theorem dX4_sizeAsked_11 : decode cX4_sizeAsked 11 = .ok (.istore_n 2, 1) := by decide +kernel
theorem dX4_sizeAsked_12 : decode cX4_sizeAsked 12 = .ok (.iload_n 2, 1) := by decide +kernel
theorem dX4_sizeAsked_13 : decode cX4_sizeAsked 13 = .ok (.aload_n 0, 1) := by decide +kernel
theorem dX4_sizeAsked_14 : decode cX4_sizeAsked 14 = .ok (.aload_n 1, 1) := by decide +kernel
theorem dX4_sizeAsked_15 : decode cX4_sizeAsked 15 = .ok (.invokevirtual 17, 3) := by decide +kernel
theorem dX4_sizeAsked_18 : decode cX4_sizeAsked 18 = .ok (.iadd, 1) := by decide +kernel
theorem dX4_sizeAsked_19 : decode cX4_sizeAsked 19 = .ok (.ireturn, 1) := by decide +kernel
theorem dX4_markAsked_0 : decode cX4_markAsked 0 = .ok (.aload_n 1, 1) := by decide +kernel
theorem dX4_markAsked_1 : decode cX4_markAsked 1 = .ok (.bipush 22, 2) := by decide +kernel
theorem dX4_markAsked_3 : decode cX4_markAsked 3 = .ok (.invokevirtual 7, 3) := by decide +kernel
theorem dX4_markAsked_6 : decode cX4_markAsked 6 = .ok (.aload_n 0, 1) := by decide +kernel
theorem dX4_markAsked_7 : decode cX4_markAsked 7 = .ok (.aload_n 1, 1) := by decide +kernel
theorem dX4_markAsked_8 : decode cX4_markAsked 8 = .ok (.invokespecial 22, 3) := by decide +kernel
theorem dX4_markAsked_11 : decode cX4_markAsked 11 = .ok (.aload_n 0, 1) := by decide +kernel
theorem dX4_markAsked_12 : decode cX4_markAsked 12 = .ok (.iconst 2, 1) := by decide +kernel
theorem dX4_markAsked_13 : decode cX4_markAsked 13 = .ok (.invokevirtual 23, 3) := by decide +kernel
theorem dX4_markAsked_16 : decode cX4_markAsked 16 = .ok (.iadd, 1) := by decide +kernel
theorem dX4_markAsked_17 : decode cX4_markAsked 17 = .ok (.ireturn, 1) := by decide +kernel
theorem dX5_at_0 : decode cX5_at 0 = .ok (.lload_n 0, 1) := by decide +kernel
theorem dX5_at_1 : decode cX5_at 1 = .ok (.bipush 44, 2) := by decide +kernel
theorem dX5_at_3 : decode cX5_at 3 = .ok (.iconst 4, 1) := by decide +kernel
theorem dX5_at_4 : decode cX5_at 4 = .ok (.iload_n 2, 1) := by decide +kernel
theorem dX5_at_5 : decode cX5_at 5 = .ok (.imul, 1) := by decide +kernel
theorem dX5_at_6 : decode cX5_at 6 = .ok (.isub, 1) := by decide +kernel
theorem dX5_at_7 : decode cX5_at 7 = .ok (.lushr, 1) := by decide +kernel
theorem dX5_at_8 : decode cX5_at 8 = .ok (.l2i, 1) := by decide +kernel
theorem dX5_at_9 : decode cX5_at 9 = .ok (.bipush 15, 2) := by decide +kernel
theorem dX5_at_11 : decode cX5_at 11 = .ok (.iand, 1) := by decide +kernel
theorem dX5_at_12 : decode cX5_at 12 = .ok (.ireturn, 1) := by decide +kernel
theorem dX5_with_0 : decode cX5_with 0 = .ok (.lload_n 0, 1) := by decide +kernel
theorem dX5_with_1 : decode cX5_with 1 = .ok (.iload_n 3, 1) := by decide +kernel
theorem dX5_with_2 : decode cX5_with 2 = .ok (.i2l, 1) := by decide +kernel
theorem dX5_with_3 : decode cX5_with 3 = .ok (.bipush 44, 2) := by decide +kernel
theorem dX5_with_5 : decode cX5_with 5 = .ok (.iconst 4, 1) := by decide +kernel
theorem dX5_with_6 : decode cX5_with 6 = .ok (.iload_n 2, 1) := by decide +kernel
theorem dX5_with_7 : decode cX5_with 7 = .ok (.imul, 1) := by decide +kernel
theorem dX5_with_8 : decode cX5_with 8 = .ok (.isub, 1) := by decide +kernel
theorem dX5_with_9 : decode cX5_with 9 = .ok (.lshl, 1) := by decide +kernel
theorem dX5_with_10 : decode cX5_with 10 = .ok (.lor, 1) := by decide +kernel
theorem dX5_with_11 : decode cX5_with 11 = .ok (.lreturn, 1) := by decide +kernel
theorem dX5_still_0 : decode cX5_still 0 = .ok (.lconst 0, 1) := by decide +kernel
theorem dX5_still_1 : decode cX5_still 1 = .ok (.lstore_n 1, 1) := by decide +kernel
theorem dX5_still_2 : decode cX5_still 2 = .ok (.iconst 0, 1) := by decide +kernel
theorem dX5_still_3 : decode cX5_still 3 = .ok (.istore_n 3, 1) := by decide +kernel
theorem dX5_still_4 : decode cX5_still 4 = .ok (.iload_n 3, 1) := by decide +kernel
theorem dX5_still_5 : decode cX5_still 5 = .ok (.iload_n 0, 1) := by decide +kernel
theorem dX5_still_6 : decode cX5_still 6 = .ok (.if_icmp .ge 16, 3) := by decide +kernel
theorem dX5_still_9 : decode cX5_still 9 = .ok (.lload_n 1, 1) := by decide +kernel
theorem dX5_still_10 : decode cX5_still 10 = .ok (.iload_n 3, 1) := by decide +kernel
theorem dX5_still_11 : decode cX5_still 11 = .ok (.iload_n 3, 1) := by decide +kernel
theorem dX5_still_12 : decode cX5_still 12 = .ok (.invokestatic 9, 3) := by decide +kernel
theorem dX5_still_15 : decode cX5_still 15 = .ok (.lstore_n 1, 1) := by decide +kernel
theorem dX5_still_16 : decode cX5_still 16 = .ok (.iinc 3 1, 3) := by decide +kernel
theorem dX5_still_19 : decode cX5_still 19 = .ok (.goto (-15), 3) := by decide +kernel
theorem dX5_still_22 : decode cX5_still 22 = .ok (.lload_n 1, 1) := by decide +kernel
theorem dX5_still_23 : decode cX5_still 23 = .ok (.lreturn, 1) := by decide +kernel
theorem dX5_behind_0 : decode cX5_behind 0 = .ok (.lconst 0, 1) := by decide +kernel
theorem dX5_behind_1 : decode cX5_behind 1 = .ok (.lstore 5, 2) := by decide +kernel
theorem dX5_behind_3 : decode cX5_behind 3 = .ok (.iconst 0, 1) := by decide +kernel
theorem dX5_behind_4 : decode cX5_behind 4 = .ok (.istore 7, 2) := by decide +kernel
theorem dX5_behind_6 : decode cX5_behind 6 = .ok (.iload 7, 2) := by decide +kernel
theorem dX5_behind_8 : decode cX5_behind 8 = .ok (.iload 4, 2) := by decide +kernel
theorem dX5_behind_10 : decode cX5_behind 10 = .ok (.if_icmp .ge 28, 3) := by decide +kernel
theorem dX5_behind_13 : decode cX5_behind 13 = .ok (.lload 5, 2) := by decide +kernel
theorem dX5_behind_15 : decode cX5_behind 15 = .ok (.iload 7, 2) := by decide +kernel
theorem dX5_behind_17 : decode cX5_behind 17 = .ok (.lload_n 2, 1) := by decide +kernel
theorem dX5_behind_18 : decode cX5_behind 18 = .ok (.lload_n 0, 1) := by decide +kernel
theorem dX5_behind_19 : decode cX5_behind 19 = .ok (.iload 7, 2) := by decide +kernel
theorem dX5_behind_21 : decode cX5_behind 21 = .ok (.invokestatic 13, 3) := by decide +kernel
theorem dX5_behind_24 : decode cX5_behind 24 = .ok (.invokestatic 13, 3) := by decide +kernel
theorem dX5_behind_27 : decode cX5_behind 27 = .ok (.invokestatic 9, 3) := by decide +kernel
theorem dX5_behind_30 : decode cX5_behind 30 = .ok (.lstore 5, 2) := by decide +kernel
theorem dX5_behind_32 : decode cX5_behind 32 = .ok (.iinc 7 1, 3) := by decide +kernel
theorem dX5_behind_35 : decode cX5_behind 35 = .ok (.goto (-29), 3) := by decide +kernel
theorem dX5_behind_38 : decode cX5_behind 38 = .ok (.lload 5, 2) := by decide +kernel
theorem dX5_behind_40 : decode cX5_behind 40 = .ok (.lreturn, 1) := by decide +kernel
theorem dX5_inverse_0 : decode cX5_inverse 0 = .ok (.lconst 0, 1) := by decide +kernel
theorem dX5_inverse_1 : decode cX5_inverse 1 = .ok (.lstore_n 3, 1) := by decide +kernel
theorem dX5_inverse_2 : decode cX5_inverse 2 = .ok (.iconst 0, 1) := by decide +kernel
theorem dX5_inverse_3 : decode cX5_inverse 3 = .ok (.istore 5, 2) := by decide +kernel
theorem dX5_inverse_5 : decode cX5_inverse 5 = .ok (.iload 5, 2) := by decide +kernel
theorem dX5_inverse_7 : decode cX5_inverse 7 = .ok (.iload_n 2, 1) := by decide +kernel
theorem dX5_inverse_8 : decode cX5_inverse 8 = .ok (.if_icmp .ge 22, 3) := by decide +kernel
theorem dX5_inverse_11 : decode cX5_inverse 11 = .ok (.lload_n 3, 1) := by decide +kernel
theorem dX5_inverse_12 : decode cX5_inverse 12 = .ok (.lload_n 0, 1) := by decide +kernel
theorem dX5_inverse_13 : decode cX5_inverse 13 = .ok (.iload 5, 2) := by decide +kernel
theorem dX5_inverse_15 : decode cX5_inverse 15 = .ok (.invokestatic 13, 3) := by decide +kernel
theorem dX5_inverse_18 : decode cX5_inverse 18 = .ok (.iload 5, 2) := by decide +kernel
theorem dX5_inverse_20 : decode cX5_inverse 20 = .ok (.invokestatic 9, 3) := by decide +kernel
theorem dX5_inverse_23 : decode cX5_inverse 23 = .ok (.lstore_n 3, 1) := by decide +kernel
theorem dX5_inverse_24 : decode cX5_inverse 24 = .ok (.iinc 5 1, 3) := by decide +kernel
theorem dX5_inverse_27 : decode cX5_inverse 27 = .ok (.goto (-22), 3) := by decide +kernel
theorem dX5_inverse_30 : decode cX5_inverse 30 = .ok (.lload_n 3, 1) := by decide +kernel
theorem dX5_inverse_31 : decode cX5_inverse 31 = .ok (.lreturn, 1) := by decide +kernel
theorem dX5_merged_0 : decode cX5_merged 0 = .ok (.iload_n 2, 1) := by decide +kernel
theorem dX5_merged_1 : decode cX5_merged 1 = .ok (.iload_n 3, 1) := by decide +kernel
theorem dX5_merged_2 : decode cX5_merged 2 = .ok (.if_icmp .ne 5, 3) := by decide +kernel
theorem dX5_merged_5 : decode cX5_merged 5 = .ok (.lload_n 0, 1) := by decide +kernel
theorem dX5_merged_6 : decode cX5_merged 6 = .ok (.lreturn, 1) := by decide +kernel
theorem dX5_merged_7 : decode cX5_merged 7 = .ok (.iload_n 2, 1) := by decide +kernel
theorem dX5_merged_8 : decode cX5_merged 8 = .ok (.iload_n 3, 1) := by decide +kernel
theorem dX5_merged_9 : decode cX5_merged 9 = .ok (.invokestatic 17, 3) := by decide +kernel
theorem dX5_merged_12 : decode cX5_merged 12 = .ok (.istore 5, 2) := by decide +kernel
theorem dX5_merged_14 : decode cX5_merged 14 = .ok (.iload_n 2, 1) := by decide +kernel
theorem dX5_merged_15 : decode cX5_merged 15 = .ok (.iload_n 3, 1) := by decide +kernel
theorem dX5_merged_16 : decode cX5_merged 16 = .ok (.invokestatic 23, 3) := by decide +kernel
theorem dX5_merged_19 : decode cX5_merged 19 = .ok (.istore 6, 2) := by decide +kernel
theorem dX5_merged_21 : decode cX5_merged 21 = .ok (.lconst 0, 1) := by decide +kernel
theorem dX5_merged_22 : decode cX5_merged 22 = .ok (.lstore 7, 2) := by decide +kernel
theorem dX5_merged_24 : decode cX5_merged 24 = .ok (.iconst 0, 1) := by decide +kernel
theorem dX5_merged_25 : decode cX5_merged 25 = .ok (.istore 9, 2) := by decide +kernel
theorem dX5_merged_27 : decode cX5_merged 27 = .ok (.iload 9, 2) := by decide +kernel
theorem dX5_merged_29 : decode cX5_merged 29 = .ok (.iload 4, 2) := by decide +kernel
theorem dX5_merged_31 : decode cX5_merged 31 = .ok (.if_icmp .ge 40, 3) := by decide +kernel
theorem dX5_merged_34 : decode cX5_merged 34 = .ok (.lload_n 0, 1) := by decide +kernel
theorem dX5_merged_35 : decode cX5_merged 35 = .ok (.iload 9, 2) := by decide +kernel
theorem dX5_merged_37 : decode cX5_merged 37 = .ok (.invokestatic 13, 3) := by decide +kernel
theorem dX5_merged_40 : decode cX5_merged 40 = .ok (.istore 10, 2) := by decide +kernel
theorem dX5_merged_42 : decode cX5_merged 42 = .ok (.lload 7, 2) := by decide +kernel
theorem dX5_merged_44 : decode cX5_merged 44 = .ok (.iload 9, 2) := by decide +kernel
theorem dX5_merged_46 : decode cX5_merged 46 = .ok (.iload 10, 2) := by decide +kernel
theorem dX5_merged_48 : decode cX5_merged 48 = .ok (.iload 6, 2) := by decide +kernel
theorem dX5_merged_50 : decode cX5_merged 50 = .ok (.if_icmp .ne 8, 3) := by decide +kernel
theorem dX5_merged_53 : decode cX5_merged 53 = .ok (.iload 5, 2) := by decide +kernel
theorem dX5_merged_55 : decode cX5_merged 55 = .ok (.goto 5, 3) := by decide +kernel
theorem dX5_merged_58 : decode cX5_merged 58 = .ok (.iload 10, 2) := by decide +kernel
theorem dX5_merged_60 : decode cX5_merged 60 = .ok (.invokestatic 9, 3) := by decide +kernel
theorem dX5_merged_63 : decode cX5_merged 63 = .ok (.lstore 7, 2) := by decide +kernel
theorem dX5_merged_65 : decode cX5_merged 65 = .ok (.iinc 9 1, 3) := by decide +kernel
theorem dX5_merged_68 : decode cX5_merged 68 = .ok (.goto (-41), 3) := by decide +kernel
theorem dX5_merged_71 : decode cX5_merged 71 = .ok (.lload 7, 2) := by decide +kernel
theorem dX5_merged_73 : decode cX5_merged 73 = .ok (.lreturn, 1) := by decide +kernel
theorem dX5_mergedAlong_0 : decode cX5_mergedAlong 0 = .ok (.lload_n 0, 1) := by decide +kernel
theorem dX5_mergedAlong_1 : decode cX5_mergedAlong 1 = .ok (.lstore 7, 2) := by decide +kernel
theorem dX5_mergedAlong_3 : decode cX5_mergedAlong 3 = .ok (.iconst 0, 1) := by decide +kernel
theorem dX5_mergedAlong_4 : decode cX5_mergedAlong 4 = .ok (.istore 9, 2) := by decide +kernel
theorem dX5_mergedAlong_6 : decode cX5_mergedAlong 6 = .ok (.iload 9, 2) := by decide +kernel
theorem dX5_mergedAlong_8 : decode cX5_mergedAlong 8 = .ok (.iload 6, 2) := by decide +kernel
theorem dX5_mergedAlong_10 : decode cX5_mergedAlong 10 = .ok (.if_icmp .ge 41, 3) := by decide +kernel
theorem dX5_mergedAlong_13 : decode cX5_mergedAlong 13 = .ok (.lload 7, 2) := by decide +kernel
theorem dX5_mergedAlong_15 : decode cX5_mergedAlong 15 = .ok (.lload 7, 2) := by decide +kernel
theorem dX5_mergedAlong_17 : decode cX5_mergedAlong 17 = .ok (.lload_n 2, 1) := by decide +kernel
theorem dX5_mergedAlong_18 : decode cX5_mergedAlong 18 = .ok (.iload 9, 2) := by decide +kernel
theorem dX5_mergedAlong_20 : decode cX5_mergedAlong 20 = .ok (.invokestatic 13, 3) := by decide +kernel
theorem dX5_mergedAlong_23 : decode cX5_mergedAlong 23 = .ok (.invokestatic 13, 3) := by decide +kernel
theorem dX5_mergedAlong_26 : decode cX5_mergedAlong 26 = .ok (.lload 7, 2) := by decide +kernel
theorem dX5_mergedAlong_28 : decode cX5_mergedAlong 28 = .ok (.lload 4, 2) := by decide +kernel
theorem dX5_mergedAlong_30 : decode cX5_mergedAlong 30 = .ok (.iload 9, 2) := by decide +kernel
theorem dX5_mergedAlong_32 : decode cX5_mergedAlong 32 = .ok (.invokestatic 13, 3) := by decide +kernel
theorem dX5_mergedAlong_35 : decode cX5_mergedAlong 35 = .ok (.invokestatic 13, 3) := by decide +kernel
theorem dX5_mergedAlong_38 : decode cX5_mergedAlong 38 = .ok (.iload 6, 2) := by decide +kernel
theorem dX5_mergedAlong_40 : decode cX5_mergedAlong 40 = .ok (.invokestatic 26, 3) := by decide +kernel
theorem dX5_mergedAlong_43 : decode cX5_mergedAlong 43 = .ok (.lstore 7, 2) := by decide +kernel
theorem dX5_mergedAlong_45 : decode cX5_mergedAlong 45 = .ok (.iinc 9 1, 3) := by decide +kernel
theorem dX5_mergedAlong_48 : decode cX5_mergedAlong 48 = .ok (.goto (-42), 3) := by decide +kernel
theorem dX5_mergedAlong_51 : decode cX5_mergedAlong 51 = .ok (.lload 7, 2) := by decide +kernel
theorem dX5_mergedAlong_53 : decode cX5_mergedAlong 53 = .ok (.lreturn, 1) := by decide +kernel
theorem dX5_ledTogether_0 : decode cX5_ledTogether 0 = .ok (.iload_n 1, 1) := by decide +kernel
theorem dX5_ledTogether_1 : decode cX5_ledTogether 1 = .ok (.invokestatic 30, 3) := by decide +kernel
theorem dX5_ledTogether_4 : decode cX5_ledTogether 4 = .ok (.lstore_n 2, 1) := by decide +kernel
theorem dX5_ledTogether_5 : decode cX5_ledTogether 5 = .ok (.iconst 0, 1) := by decide +kernel
theorem dX5_ledTogether_6 : decode cX5_ledTogether 6 = .ok (.istore 4, 2) := by decide +kernel
theorem dX5_ledTogether_8 : decode cX5_ledTogether 8 = .ok (.iload 4, 2) := by decide +kernel
theorem dX5_ledTogether_10 : decode cX5_ledTogether 10 = .ok (.aload_n 0, 1) := by decide +kernel
theorem dX5_ledTogether_11 : decode cX5_ledTogether 11 = .ok (.arraylength, 1) := by decide +kernel
theorem dX5_ledTogether_12 : decode cX5_ledTogether 12 = .ok (.if_icmp .ge 23, 3) := by decide +kernel
theorem dX5_ledTogether_15 : decode cX5_ledTogether 15 = .ok (.lload_n 2, 1) := by decide +kernel
theorem dX5_ledTogether_16 : decode cX5_ledTogether 16 = .ok (.iload_n 1, 1) := by decide +kernel
theorem dX5_ledTogether_17 : decode cX5_ledTogether 17 = .ok (.invokestatic 30, 3) := by decide +kernel
theorem dX5_ledTogether_20 : decode cX5_ledTogether 20 = .ok (.aload_n 0, 1) := by decide +kernel
theorem dX5_ledTogether_21 : decode cX5_ledTogether 21 = .ok (.iload 4, 2) := by decide +kernel
theorem dX5_ledTogether_23 : decode cX5_ledTogether 23 = .ok (.laload, 1) := by decide +kernel
theorem dX5_ledTogether_24 : decode cX5_ledTogether 24 = .ok (.iload_n 1, 1) := by decide +kernel
theorem dX5_ledTogether_25 : decode cX5_ledTogether 25 = .ok (.invokestatic 34, 3) := by decide +kernel
theorem dX5_ledTogether_28 : decode cX5_ledTogether 28 = .ok (.lstore_n 2, 1) := by decide +kernel
theorem dX5_ledTogether_29 : decode cX5_ledTogether 29 = .ok (.iinc 4 1, 3) := by decide +kernel
theorem dX5_ledTogether_32 : decode cX5_ledTogether 32 = .ok (.goto (-24), 3) := by decide +kernel
theorem dX5_ledTogether_35 : decode cX5_ledTogether 35 = .ok (.lload_n 2, 1) := by decide +kernel
theorem dX5_ledTogether_36 : decode cX5_ledTogether 36 = .ok (.lreturn, 1) := by decide +kernel
theorem dX5_leaders_0 : decode cX5_leaders 0 = .ok (.iconst 0, 1) := by decide +kernel
theorem dX5_leaders_1 : decode cX5_leaders 1 = .ok (.istore_n 3, 1) := by decide +kernel
theorem dX5_leaders_2 : decode cX5_leaders 2 = .ok (.iconst 0, 1) := by decide +kernel
theorem dX5_leaders_3 : decode cX5_leaders 3 = .ok (.istore 4, 2) := by decide +kernel
theorem dX5_leaders_5 : decode cX5_leaders 5 = .ok (.iload 4, 2) := by decide +kernel
theorem dX5_leaders_7 : decode cX5_leaders 7 = .ok (.iload_n 2, 1) := by decide +kernel
theorem dX5_leaders_8 : decode cX5_leaders 8 = .ok (.if_icmp .ge 27, 3) := by decide +kernel
theorem dX5_leaders_11 : decode cX5_leaders 11 = .ok (.lload_n 0, 1) := by decide +kernel
theorem dX5_leaders_12 : decode cX5_leaders 12 = .ok (.iload 4, 2) := by decide +kernel
theorem dX5_leaders_14 : decode cX5_leaders 14 = .ok (.invokestatic 13, 3) := by decide +kernel
theorem dX5_leaders_17 : decode cX5_leaders 17 = .ok (.iload 4, 2) := by decide +kernel
theorem dX5_leaders_19 : decode cX5_leaders 19 = .ok (.if_icmp .ne 10, 3) := by decide +kernel
theorem dX5_leaders_22 : decode cX5_leaders 22 = .ok (.iload_n 3, 1) := by decide +kernel
theorem dX5_leaders_23 : decode cX5_leaders 23 = .ok (.iconst 1, 1) := by decide +kernel
theorem dX5_leaders_24 : decode cX5_leaders 24 = .ok (.iload 4, 2) := by decide +kernel
theorem dX5_leaders_26 : decode cX5_leaders 26 = .ok (.ishl, 1) := by decide +kernel
theorem dX5_leaders_27 : decode cX5_leaders 27 = .ok (.ior, 1) := by decide +kernel
theorem dX5_leaders_28 : decode cX5_leaders 28 = .ok (.istore_n 3, 1) := by decide +kernel
theorem dX5_leaders_29 : decode cX5_leaders 29 = .ok (.iinc 4 1, 3) := by decide +kernel
theorem dX5_leaders_32 : decode cX5_leaders 32 = .ok (.goto (-27), 3) := by decide +kernel
theorem dX5_leaders_35 : decode cX5_leaders 35 = .ok (.iload_n 3, 1) := by decide +kernel
theorem dX5_leaders_36 : decode cX5_leaders 36 = .ok (.ireturn, 1) := by decide +kernel
theorem dX5_groups_0 : decode cX5_groups 0 = .ok (.lload_n 0, 1) := by decide +kernel
theorem dX5_groups_1 : decode cX5_groups 1 = .ok (.iload_n 2, 1) := by decide +kernel
theorem dX5_groups_2 : decode cX5_groups 2 = .ok (.invokestatic 38, 3) := by decide +kernel
theorem dX5_groups_5 : decode cX5_groups 5 = .ok (.invokestatic 41, 3) := by decide +kernel
theorem dX5_groups_8 : decode cX5_groups 8 = .ok (.ireturn, 1) := by decide +kernel
theorem dX5_withFirst_0 : decode cX5_withFirst 0 = .ok (.iconst 0, 1) := by decide +kernel
theorem dX5_withFirst_1 : decode cX5_withFirst 1 = .ok (.istore_n 3, 1) := by decide +kernel
theorem dX5_withFirst_2 : decode cX5_withFirst 2 = .ok (.iconst 0, 1) := by decide +kernel
theorem dX5_withFirst_3 : decode cX5_withFirst 3 = .ok (.istore 4, 2) := by decide +kernel
theorem dX5_withFirst_5 : decode cX5_withFirst 5 = .ok (.iload 4, 2) := by decide +kernel
theorem dX5_withFirst_7 : decode cX5_withFirst 7 = .ok (.iload_n 2, 1) := by decide +kernel
theorem dX5_withFirst_8 : decode cX5_withFirst 8 = .ok (.if_icmp .ge 21, 3) := by decide +kernel
theorem dX5_withFirst_11 : decode cX5_withFirst 11 = .ok (.lload_n 0, 1) := by decide +kernel
theorem dX5_withFirst_12 : decode cX5_withFirst 12 = .ok (.iload 4, 2) := by decide +kernel
theorem dX5_withFirst_14 : decode cX5_withFirst 14 = .ok (.invokestatic 13, 3) := by decide +kernel
theorem dX5_withFirst_17 : decode cX5_withFirst 17 = .ok (.ifCond .ne 6, 3) := by decide +kernel
theorem dX5_withFirst_20 : decode cX5_withFirst 20 = .ok (.iinc 3 1, 3) := by decide +kernel
theorem dX5_withFirst_23 : decode cX5_withFirst 23 = .ok (.iinc 4 1, 3) := by decide +kernel
theorem dX5_withFirst_26 : decode cX5_withFirst 26 = .ok (.goto (-21), 3) := by decide +kernel
theorem dX5_withFirst_29 : decode cX5_withFirst 29 = .ok (.iload_n 3, 1) := by decide +kernel
theorem dX5_withFirst_30 : decode cX5_withFirst 30 = .ok (.ireturn, 1) := by decide +kernel
theorem dX5_leadForward_0 : decode cX5_leadForward 0 = .ok (.iload_n 1, 1) := by decide +kernel
theorem dX5_leadForward_1 : decode cX5_leadForward 1 = .ok (.ifCond .lt 11, 3) := by decide +kernel
theorem dX5_leadForward_4 : decode cX5_leadForward 4 = .ok (.iload_n 1, 1) := by decide +kernel
theorem dX5_leadForward_5 : decode cX5_leadForward 5 = .ok (.aload_n 0, 1) := by decide +kernel
theorem dX5_leadForward_6 : decode cX5_leadForward 6 = .ok (.arraylength, 1) := by decide +kernel
theorem dX5_leadForward_7 : decode cX5_leadForward 7 = .ok (.iconst 1, 1) := by decide +kernel
theorem dX5_leadForward_8 : decode cX5_leadForward 8 = .ok (.isub, 1) := by decide +kernel
theorem dX5_leadForward_9 : decode cX5_leadForward 9 = .ok (.if_icmp .lt 4, 3) := by decide +kernel
theorem dX5_leadForward_12 : decode cX5_leadForward 12 = .ok (.return_, 1) := by decide +kernel
theorem dX5_leadForward_13 : decode cX5_leadForward 13 = .ok (.aload_n 0, 1) := by decide +kernel
theorem dX5_leadForward_14 : decode cX5_leadForward 14 = .ok (.iload_n 1, 1) := by decide +kernel
theorem dX5_leadForward_15 : decode cX5_leadForward 15 = .ok (.laload, 1) := by decide +kernel
theorem dX5_leadForward_16 : decode cX5_leadForward 16 = .ok (.lstore_n 3, 1) := by decide +kernel
theorem dX5_leadForward_17 : decode cX5_leadForward 17 = .ok (.aload_n 0, 1) := by decide +kernel
theorem dX5_leadForward_18 : decode cX5_leadForward 18 = .ok (.iload_n 1, 1) := by decide +kernel
theorem dX5_leadForward_19 : decode cX5_leadForward 19 = .ok (.iconst 1, 1) := by decide +kernel
theorem dX5_leadForward_20 : decode cX5_leadForward 20 = .ok (.iadd, 1) := by decide +kernel
theorem dX5_leadForward_21 : decode cX5_leadForward 21 = .ok (.laload, 1) := by decide +kernel
theorem dX5_leadForward_22 : decode cX5_leadForward 22 = .ok (.lstore 5, 2) := by decide +kernel
theorem dX5_leadForward_24 : decode cX5_leadForward 24 = .ok (.aload_n 0, 1) := by decide +kernel
theorem dX5_leadForward_25 : decode cX5_leadForward 25 = .ok (.iload_n 1, 1) := by decide +kernel
theorem dX5_leadForward_26 : decode cX5_leadForward 26 = .ok (.lload 5, 2) := by decide +kernel
theorem dX5_leadForward_28 : decode cX5_leadForward 28 = .ok (.lastore, 1) := by decide +kernel
theorem dX5_leadForward_29 : decode cX5_leadForward 29 = .ok (.aload_n 0, 1) := by decide +kernel
theorem dX5_leadForward_30 : decode cX5_leadForward 30 = .ok (.iload_n 1, 1) := by decide +kernel
theorem dX5_leadForward_31 : decode cX5_leadForward 31 = .ok (.iconst 1, 1) := by decide +kernel
theorem dX5_leadForward_32 : decode cX5_leadForward 32 = .ok (.iadd, 1) := by decide +kernel
theorem dX5_leadForward_33 : decode cX5_leadForward 33 = .ok (.lload 5, 2) := by decide +kernel
theorem dX5_leadForward_35 : decode cX5_leadForward 35 = .ok (.iload_n 2, 1) := by decide +kernel
theorem dX5_leadForward_36 : decode cX5_leadForward 36 = .ok (.invokestatic 47, 3) := by decide +kernel
theorem dX5_leadForward_39 : decode cX5_leadForward 39 = .ok (.lload_n 3, 1) := by decide +kernel
theorem dX5_leadForward_40 : decode cX5_leadForward 40 = .ok (.iload_n 2, 1) := by decide +kernel
theorem dX5_leadForward_41 : decode cX5_leadForward 41 = .ok (.invokestatic 51, 3) := by decide +kernel
theorem dX5_leadForward_44 : decode cX5_leadForward 44 = .ok (.lload 5, 2) := by decide +kernel
theorem dX5_leadForward_46 : decode cX5_leadForward 46 = .ok (.iload_n 2, 1) := by decide +kernel
theorem dX5_leadForward_47 : decode cX5_leadForward 47 = .ok (.invokestatic 51, 3) := by decide +kernel
theorem dX5_leadForward_50 : decode cX5_leadForward 50 = .ok (.lastore, 1) := by decide +kernel
theorem dX5_leadForward_51 : decode cX5_leadForward 51 = .ok (.return_, 1) := by decide +kernel
theorem dX5_leadBack_0 : decode cX5_leadBack 0 = .ok (.iload_n 1, 1) := by decide +kernel
theorem dX5_leadBack_1 : decode cX5_leadBack 1 = .ok (.ifCond .lt 11, 3) := by decide +kernel
theorem dX5_leadBack_4 : decode cX5_leadBack 4 = .ok (.iload_n 1, 1) := by decide +kernel
theorem dX5_leadBack_5 : decode cX5_leadBack 5 = .ok (.aload_n 0, 1) := by decide +kernel
theorem dX5_leadBack_6 : decode cX5_leadBack 6 = .ok (.arraylength, 1) := by decide +kernel
theorem dX5_leadBack_7 : decode cX5_leadBack 7 = .ok (.iconst 1, 1) := by decide +kernel
theorem dX5_leadBack_8 : decode cX5_leadBack 8 = .ok (.isub, 1) := by decide +kernel
theorem dX5_leadBack_9 : decode cX5_leadBack 9 = .ok (.if_icmp .lt 4, 3) := by decide +kernel
theorem dX5_leadBack_12 : decode cX5_leadBack 12 = .ok (.return_, 1) := by decide +kernel
theorem dX5_leadBack_13 : decode cX5_leadBack 13 = .ok (.aload_n 0, 1) := by decide +kernel
theorem dX5_leadBack_14 : decode cX5_leadBack 14 = .ok (.iload_n 1, 1) := by decide +kernel
theorem dX5_leadBack_15 : decode cX5_leadBack 15 = .ok (.laload, 1) := by decide +kernel
theorem dX5_leadBack_16 : decode cX5_leadBack 16 = .ok (.lstore_n 3, 1) := by decide +kernel
theorem dX5_leadBack_17 : decode cX5_leadBack 17 = .ok (.aload_n 0, 1) := by decide +kernel
theorem dX5_leadBack_18 : decode cX5_leadBack 18 = .ok (.iload_n 1, 1) := by decide +kernel
theorem dX5_leadBack_19 : decode cX5_leadBack 19 = .ok (.iconst 1, 1) := by decide +kernel
theorem dX5_leadBack_20 : decode cX5_leadBack 20 = .ok (.iadd, 1) := by decide +kernel
theorem dX5_leadBack_21 : decode cX5_leadBack 21 = .ok (.laload, 1) := by decide +kernel
theorem dX5_leadBack_22 : decode cX5_leadBack 22 = .ok (.lstore 5, 2) := by decide +kernel
theorem dX5_leadBack_24 : decode cX5_leadBack 24 = .ok (.aload_n 0, 1) := by decide +kernel
theorem dX5_leadBack_25 : decode cX5_leadBack 25 = .ok (.iload_n 1, 1) := by decide +kernel
theorem dX5_leadBack_26 : decode cX5_leadBack 26 = .ok (.iconst 1, 1) := by decide +kernel
theorem dX5_leadBack_27 : decode cX5_leadBack 27 = .ok (.iadd, 1) := by decide +kernel
theorem dX5_leadBack_28 : decode cX5_leadBack 28 = .ok (.lload_n 3, 1) := by decide +kernel
theorem dX5_leadBack_29 : decode cX5_leadBack 29 = .ok (.lastore, 1) := by decide +kernel
theorem dX5_leadBack_30 : decode cX5_leadBack 30 = .ok (.aload_n 0, 1) := by decide +kernel
theorem dX5_leadBack_31 : decode cX5_leadBack 31 = .ok (.iload_n 1, 1) := by decide +kernel
theorem dX5_leadBack_32 : decode cX5_leadBack 32 = .ok (.lload_n 3, 1) := by decide +kernel
theorem dX5_leadBack_33 : decode cX5_leadBack 33 = .ok (.lload 5, 2) := by decide +kernel
theorem dX5_leadBack_35 : decode cX5_leadBack 35 = .ok (.iload_n 2, 1) := by decide +kernel
theorem dX5_leadBack_36 : decode cX5_leadBack 36 = .ok (.invokestatic 51, 3) := by decide +kernel
theorem dX5_leadBack_39 : decode cX5_leadBack 39 = .ok (.lload_n 3, 1) := by decide +kernel
theorem dX5_leadBack_40 : decode cX5_leadBack 40 = .ok (.iload_n 2, 1) := by decide +kernel
theorem dX5_leadBack_41 : decode cX5_leadBack 41 = .ok (.invokestatic 47, 3) := by decide +kernel
theorem dX5_leadBack_44 : decode cX5_leadBack 44 = .ok (.iload_n 2, 1) := by decide +kernel
theorem dX5_leadBack_45 : decode cX5_leadBack 45 = .ok (.invokestatic 51, 3) := by decide +kernel
theorem dX5_leadBack_48 : decode cX5_leadBack 48 = .ok (.lastore, 1) := by decide +kernel
theorem dX5_leadBack_49 : decode cX5_leadBack 49 = .ok (.return_, 1) := by decide +kernel
theorem dX6_init_0 : decode cX6_init 0 = .ok (.aload_n 0, 1) := by decide +kernel
theorem dX6_init_1 : decode cX6_init 1 = .ok (.invokespecial 3, 3) := by decide +kernel
theorem dX6_init_4 : decode cX6_init 4 = .ok (.aload_n 0, 1) := by decide +kernel
theorem dX6_init_5 : decode cX6_init 5 = .ok (.new 9, 3) := by decide +kernel
theorem dX6_init_8 : decode cX6_init 8 = .ok (.dup, 1) := by decide +kernel
theorem dX6_init_9 : decode cX6_init 9 = .ok (.invokespecial 11, 3) := by decide +kernel
theorem dX6_init_12 : decode cX6_init 12 = .ok (.putfield 12, 3) := by decide +kernel
theorem dX6_init_15 : decode cX6_init 15 = .ok (.aload_n 0, 1) := by decide +kernel
theorem dX6_init_16 : decode cX6_init 16 = .ok (.sipush 2400, 3) := by decide +kernel
theorem dX6_init_19 : decode cX6_init 19 = .ok (.newarray .long, 2) := by decide +kernel
theorem dX6_init_21 : decode cX6_init 21 = .ok (.putfield 18, 3) := by decide +kernel
theorem dX6_init_24 : decode cX6_init 24 = .ok (.return_, 1) := by decide +kernel
theorem dX6_walk_0 : decode cX6_walk 0 = .ok (.aload_n 1, 1) := by decide +kernel
theorem dX6_walk_1 : decode cX6_walk 1 = .ok (.getfield 22, 3) := by decide +kernel
theorem dX6_walk_4 : decode cX6_walk 4 = .ok (.arraylength, 1) := by decide +kernel
theorem dX6_walk_5 : decode cX6_walk 5 = .ok (.istore_n 2, 1) := by decide +kernel
theorem dX6_walk_6 : decode cX6_walk 6 = .ok (.iload_n 2, 1) := by decide +kernel
theorem dX6_walk_7 : decode cX6_walk 7 = .ok (.newarray .long, 2) := by decide +kernel
theorem dX6_walk_9 : decode cX6_walk 9 = .ok (.astore_n 3, 1) := by decide +kernel
theorem dX6_walk_10 : decode cX6_walk 10 = .ok (.aload_n 0, 1) := by decide +kernel
theorem dX6_walk_11 : decode cX6_walk 11 = .ok (.iconst 0, 1) := by decide +kernel
theorem dX6_walk_12 : decode cX6_walk 12 = .ok (.putfield 27, 3) := by decide +kernel
theorem dX6_walk_15 : decode cX6_walk 15 = .ok (.aload_n 0, 1) := by decide +kernel
theorem dX6_walk_16 : decode cX6_walk 16 = .ok (.getfield 12, 3) := by decide +kernel
theorem dX6_walk_19 : decode cX6_walk 19 = .ok (.aload_n 1, 1) := by decide +kernel
theorem dX6_walk_20 : decode cX6_walk 20 = .ok (.getfield 22, 3) := by decide +kernel
theorem dX6_walk_23 : decode cX6_walk 23 = .ok (.aload_n 1, 1) := by decide +kernel
theorem dX6_walk_24 : decode cX6_walk 24 = .ok (.getfield 31, 3) := by decide +kernel
theorem dX6_walk_27 : decode cX6_walk 27 = .ok (.invokevirtual 34, 3) := by decide +kernel
theorem dX6_walk_30 : decode cX6_walk 30 = .ok (.aload_n 0, 1) := by decide +kernel
theorem dX6_walk_31 : decode cX6_walk 31 = .ok (.iload_n 2, 1) := by decide +kernel
theorem dX6_walk_32 : decode cX6_walk 32 = .ok (.invokevirtual 38, 3) := by decide +kernel
theorem dX6_walk_35 : decode cX6_walk 35 = .ok (.iconst 0, 1) := by decide +kernel
theorem dX6_walk_36 : decode cX6_walk 36 = .ok (.istore 4, 2) := by decide +kernel
theorem dX6_walk_38 : decode cX6_walk 38 = .ok (.iload 4, 2) := by decide +kernel
theorem dX6_walk_40 : decode cX6_walk 40 = .ok (.aload_n 0, 1) := by decide +kernel
theorem dX6_walk_41 : decode cX6_walk 41 = .ok (.getfield 27, 3) := by decide +kernel
theorem dX6_walk_44 : decode cX6_walk 44 = .ok (.if_icmp .ge 99, 3) := by decide +kernel
theorem dX6_walk_47 : decode cX6_walk 47 = .ok (.iload 4, 2) := by decide +kernel
theorem dX6_walk_49 : decode cX6_walk 49 = .ok (.sipush 300, 3) := by decide +kernel
theorem dX6_walk_52 : decode cX6_walk 52 = .ok (.if_icmp .ge 91, 3) := by decide +kernel
theorem dX6_walk_55 : decode cX6_walk 55 = .ok (.iconst 0, 1) := by decide +kernel
theorem dX6_walk_56 : decode cX6_walk 56 = .ok (.istore 5, 2) := by decide +kernel
theorem dX6_walk_58 : decode cX6_walk 58 = .ok (.iload 5, 2) := by decide +kernel
theorem dX6_walk_60 : decode cX6_walk 60 = .ok (.iload_n 2, 1) := by decide +kernel
theorem dX6_walk_61 : decode cX6_walk 61 = .ok (.iconst 1, 1) := by decide +kernel
theorem dX6_walk_62 : decode cX6_walk 62 = .ok (.isub, 1) := by decide +kernel
theorem dX6_walk_63 : decode cX6_walk 63 = .ok (.if_icmp .ge 74, 3) := by decide +kernel
theorem dX6_walk_66 : decode cX6_walk 66 = .ok (.aload_n 0, 1) := by decide +kernel
theorem dX6_walk_67 : decode cX6_walk 67 = .ok (.getfield 18, 3) := by decide +kernel
theorem dX6_walk_70 : decode cX6_walk 70 = .ok (.iload 4, 2) := by decide +kernel
theorem dX6_walk_72 : decode cX6_walk 72 = .ok (.bipush 8, 2) := by decide +kernel
theorem dX6_walk_74 : decode cX6_walk 74 = .ok (.imul, 1) := by decide +kernel
theorem dX6_walk_75 : decode cX6_walk 75 = .ok (.aload_n 3, 1) := by decide +kernel
theorem dX6_walk_76 : decode cX6_walk 76 = .ok (.iconst 0, 1) := by decide +kernel
theorem dX6_walk_77 : decode cX6_walk 77 = .ok (.iload_n 2, 1) := by decide +kernel
theorem dX6_walk_78 : decode cX6_walk 78 = .ok (.invokestatic 42, 3) := by decide +kernel
theorem dX6_walk_81 : decode cX6_walk 81 = .ok (.aload_n 3, 1) := by decide +kernel
theorem dX6_walk_82 : decode cX6_walk 82 = .ok (.iload 5, 2) := by decide +kernel
theorem dX6_walk_84 : decode cX6_walk 84 = .ok (.aload_n 1, 1) := by decide +kernel
theorem dX6_walk_85 : decode cX6_walk 85 = .ok (.getfield 31, 3) := by decide +kernel
theorem dX6_walk_88 : decode cX6_walk 88 = .ok (.invokestatic 48, 3) := by decide +kernel
theorem dX6_walk_91 : decode cX6_walk 91 = .ok (.aload_n 0, 1) := by decide +kernel
theorem dX6_walk_92 : decode cX6_walk 92 = .ok (.getfield 12, 3) := by decide +kernel
theorem dX6_walk_95 : decode cX6_walk 95 = .ok (.aload_n 3, 1) := by decide +kernel
theorem dX6_walk_96 : decode cX6_walk 96 = .ok (.aload_n 1, 1) := by decide +kernel
theorem dX6_walk_97 : decode cX6_walk 97 = .ok (.getfield 31, 3) := by decide +kernel
theorem dX6_walk_100 : decode cX6_walk 100 = .ok (.invokevirtual 34, 3) := by decide +kernel
theorem dX6_walk_103 : decode cX6_walk 103 = .ok (.aload_n 0, 1) := by decide +kernel
theorem dX6_walk_104 : decode cX6_walk 104 = .ok (.iload_n 2, 1) := by decide +kernel
theorem dX6_walk_105 : decode cX6_walk 105 = .ok (.invokevirtual 54, 3) := by decide +kernel
theorem dX6_walk_108 : decode cX6_walk 108 = .ok (.ifCond .eq 6, 3) := by decide +kernel
theorem dX6_walk_111 : decode cX6_walk 111 = .ok (.goto 20, 3) := by decide +kernel
theorem dX6_walk_114 : decode cX6_walk 114 = .ok (.aload_n 0, 1) := by decide +kernel
theorem dX6_walk_115 : decode cX6_walk 115 = .ok (.getfield 27, 3) := by decide +kernel
theorem dX6_walk_118 : decode cX6_walk 118 = .ok (.sipush 300, 3) := by decide +kernel
theorem dX6_walk_121 : decode cX6_walk 121 = .ok (.if_icmp .lt 5, 3) := by decide +kernel
theorem dX6_walk_124 : decode cX6_walk 124 = .ok (.iconst (-1), 1) := by decide +kernel
theorem dX6_walk_125 : decode cX6_walk 125 = .ok (.ireturn, 1) := by decide +kernel
theorem dX6_walk_126 : decode cX6_walk 126 = .ok (.aload_n 0, 1) := by decide +kernel
theorem dX6_walk_127 : decode cX6_walk 127 = .ok (.iload_n 2, 1) := by decide +kernel
theorem dX6_walk_128 : decode cX6_walk 128 = .ok (.invokevirtual 38, 3) := by decide +kernel
theorem dX6_walk_131 : decode cX6_walk 131 = .ok (.iinc 5 1, 3) := by decide +kernel
theorem dX6_walk_134 : decode cX6_walk 134 = .ok (.goto (-76), 3) := by decide +kernel
theorem dX6_walk_137 : decode cX6_walk 137 = .ok (.iinc 4 1, 3) := by decide +kernel
theorem dX6_walk_140 : decode cX6_walk 140 = .ok (.goto (-102), 3) := by decide +kernel
theorem dX6_walk_143 : decode cX6_walk 143 = .ok (.aload_n 0, 1) := by decide +kernel
theorem dX6_walk_144 : decode cX6_walk 144 = .ok (.getfield 27, 3) := by decide +kernel
theorem dX6_walk_147 : decode cX6_walk 147 = .ok (.ireturn, 1) := by decide +kernel
theorem dX6_keep_0 : decode cX6_keep 0 = .ok (.aload_n 0, 1) := by decide +kernel
theorem dX6_keep_1 : decode cX6_keep 1 = .ok (.getfield 27, 3) := by decide +kernel
theorem dX6_keep_4 : decode cX6_keep 4 = .ok (.sipush 300, 3) := by decide +kernel
theorem dX6_keep_7 : decode cX6_keep 7 = .ok (.if_icmp .ge 42, 3) := by decide +kernel
theorem dX6_keep_10 : decode cX6_keep 10 = .ok (.iload_n 1, 1) := by decide +kernel
theorem dX6_keep_11 : decode cX6_keep 11 = .ok (.bipush 8, 2) := by decide +kernel
theorem dX6_keep_13 : decode cX6_keep 13 = .ok (.if_icmp .gt 36, 3) := by decide +kernel
theorem dX6_keep_16 : decode cX6_keep 16 = .ok (.aload_n 0, 1) := by decide +kernel
theorem dX6_keep_17 : decode cX6_keep 17 = .ok (.getfield 12, 3) := by decide +kernel
theorem dX6_keep_20 : decode cX6_keep 20 = .ok (.getfield 58, 3) := by decide +kernel
theorem dX6_keep_23 : decode cX6_keep 23 = .ok (.iconst 0, 1) := by decide +kernel
theorem dX6_keep_24 : decode cX6_keep 24 = .ok (.aload_n 0, 1) := by decide +kernel
theorem dX6_keep_25 : decode cX6_keep 25 = .ok (.getfield 18, 3) := by decide +kernel
theorem dX6_keep_28 : decode cX6_keep 28 = .ok (.aload_n 0, 1) := by decide +kernel
theorem dX6_keep_29 : decode cX6_keep 29 = .ok (.getfield 27, 3) := by decide +kernel
theorem dX6_keep_32 : decode cX6_keep 32 = .ok (.bipush 8, 2) := by decide +kernel
theorem dX6_keep_34 : decode cX6_keep 34 = .ok (.imul, 1) := by decide +kernel
theorem dX6_keep_35 : decode cX6_keep 35 = .ok (.iload_n 1, 1) := by decide +kernel
theorem dX6_keep_36 : decode cX6_keep 36 = .ok (.invokestatic 42, 3) := by decide +kernel
theorem dX6_keep_39 : decode cX6_keep 39 = .ok (.aload_n 0, 1) := by decide +kernel
theorem dX6_keep_40 : decode cX6_keep 40 = .ok (.dup, 1) := by decide +kernel
theorem dX6_keep_41 : decode cX6_keep 41 = .ok (.getfield 27, 3) := by decide +kernel
theorem dX6_keep_44 : decode cX6_keep 44 = .ok (.iconst 1, 1) := by decide +kernel
theorem dX6_keep_45 : decode cX6_keep 45 = .ok (.iadd, 1) := by decide +kernel
theorem dX6_keep_46 : decode cX6_keep 46 = .ok (.putfield 27, 3) := by decide +kernel
theorem dX6_keep_49 : decode cX6_keep 49 = .ok (.return_, 1) := by decide +kernel
theorem dX6_known_0 : decode cX6_known 0 = .ok (.iconst 0, 1) := by decide +kernel
theorem dX6_known_1 : decode cX6_known 1 = .ok (.istore_n 2, 1) := by decide +kernel
theorem dX6_known_2 : decode cX6_known 2 = .ok (.iload_n 2, 1) := by decide +kernel
theorem dX6_known_3 : decode cX6_known 3 = .ok (.aload_n 0, 1) := by decide +kernel
theorem dX6_known_4 : decode cX6_known 4 = .ok (.getfield 27, 3) := by decide +kernel
theorem dX6_known_7 : decode cX6_known 7 = .ok (.if_icmp .ge 23, 3) := by decide +kernel
theorem dX6_known_10 : decode cX6_known 10 = .ok (.aload_n 0, 1) := by decide +kernel
theorem dX6_known_11 : decode cX6_known 11 = .ok (.iload_n 2, 1) := by decide +kernel
theorem dX6_known_12 : decode cX6_known 12 = .ok (.bipush 8, 2) := by decide +kernel
theorem dX6_known_14 : decode cX6_known 14 = .ok (.imul, 1) := by decide +kernel
theorem dX6_known_15 : decode cX6_known 15 = .ok (.iload_n 1, 1) := by decide +kernel
theorem dX6_known_16 : decode cX6_known 16 = .ok (.invokevirtual 61, 3) := by decide +kernel
theorem dX6_known_19 : decode cX6_known 19 = .ok (.ifCond .eq 5, 3) := by decide +kernel
theorem dX6_known_22 : decode cX6_known 22 = .ok (.iconst 1, 1) := by decide +kernel
theorem dX6_known_23 : decode cX6_known 23 = .ok (.ireturn, 1) := by decide +kernel
theorem dX6_known_24 : decode cX6_known 24 = .ok (.iinc 2 1, 3) := by decide +kernel
theorem dX6_known_27 : decode cX6_known 27 = .ok (.goto (-25), 3) := by decide +kernel
theorem dX6_known_30 : decode cX6_known 30 = .ok (.iconst 0, 1) := by decide +kernel
theorem dX6_known_31 : decode cX6_known 31 = .ok (.ireturn, 1) := by decide +kernel
theorem dX6_isLeastAt_0 : decode cX6_isLeastAt 0 = .ok (.iconst 0, 1) := by decide +kernel
theorem dX6_isLeastAt_1 : decode cX6_isLeastAt 1 = .ok (.istore_n 3, 1) := by decide +kernel
theorem dX6_isLeastAt_2 : decode cX6_isLeastAt 2 = .ok (.iload_n 3, 1) := by decide +kernel
theorem dX6_isLeastAt_3 : decode cX6_isLeastAt 3 = .ok (.iload_n 2, 1) := by decide +kernel
theorem dX6_isLeastAt_4 : decode cX6_isLeastAt 4 = .ok (.if_icmp .ge 32, 3) := by decide +kernel
theorem dX6_isLeastAt_7 : decode cX6_isLeastAt 7 = .ok (.aload_n 0, 1) := by decide +kernel
theorem dX6_isLeastAt_8 : decode cX6_isLeastAt 8 = .ok (.getfield 18, 3) := by decide +kernel
theorem dX6_isLeastAt_11 : decode cX6_isLeastAt 11 = .ok (.iload_n 1, 1) := by decide +kernel
theorem dX6_isLeastAt_12 : decode cX6_isLeastAt 12 = .ok (.iload_n 3, 1) := by decide +kernel
theorem dX6_isLeastAt_13 : decode cX6_isLeastAt 13 = .ok (.iadd, 1) := by decide +kernel
theorem dX6_isLeastAt_14 : decode cX6_isLeastAt 14 = .ok (.laload, 1) := by decide +kernel
theorem dX6_isLeastAt_15 : decode cX6_isLeastAt 15 = .ok (.aload_n 0, 1) := by decide +kernel
theorem dX6_isLeastAt_16 : decode cX6_isLeastAt 16 = .ok (.getfield 12, 3) := by decide +kernel
theorem dX6_isLeastAt_19 : decode cX6_isLeastAt 19 = .ok (.getfield 58, 3) := by decide +kernel
theorem dX6_isLeastAt_22 : decode cX6_isLeastAt 22 = .ok (.iload_n 3, 1) := by decide +kernel
theorem dX6_isLeastAt_23 : decode cX6_isLeastAt 23 = .ok (.laload, 1) := by decide +kernel
theorem dX6_isLeastAt_24 : decode cX6_isLeastAt 24 = .ok (.lcmp, 1) := by decide +kernel
theorem dX6_isLeastAt_25 : decode cX6_isLeastAt 25 = .ok (.ifCond .eq 5, 3) := by decide +kernel
theorem dX6_isLeastAt_28 : decode cX6_isLeastAt 28 = .ok (.iconst 0, 1) := by decide +kernel
theorem dX6_isLeastAt_29 : decode cX6_isLeastAt 29 = .ok (.ireturn, 1) := by decide +kernel
theorem dX6_isLeastAt_30 : decode cX6_isLeastAt 30 = .ok (.iinc 3 1, 3) := by decide +kernel
theorem dX6_isLeastAt_33 : decode cX6_isLeastAt 33 = .ok (.goto (-31), 3) := by decide +kernel
theorem dX6_isLeastAt_36 : decode cX6_isLeastAt 36 = .ok (.iconst 1, 1) := by decide +kernel
theorem dX6_isLeastAt_37 : decode cX6_isLeastAt 37 = .ok (.ireturn, 1) := by decide +kernel
theorem dX7_init_0 : decode cX7_init 0 = .ok (.aload_n 0, 1) := by decide +kernel
theorem dX7_init_1 : decode cX7_init 1 = .ok (.invokespecial 1, 3) := by decide +kernel
theorem dX7_init_4 : decode cX7_init 4 = .ok (.aload_n 0, 1) := by decide +kernel
end
section
theorem dX7_init_5 : decode cX7_init 5 = .ok (.iload_n 1, 1) := by decide +kernel
theorem dX7_init_6 : decode cX7_init 6 = .ok (.newarray .int, 2) := by decide +kernel
theorem dX7_init_8 : decode cX7_init 8 = .ok (.putfield 7, 3) := by decide +kernel
theorem dX7_init_11 : decode cX7_init 11 = .ok (.aload_n 0, 1) := by decide +kernel
theorem dX7_init_12 : decode cX7_init 12 = .ok (.iconst (-1), 1) := by decide +kernel
theorem dX7_init_13 : decode cX7_init 13 = .ok (.putfield 13, 3) := by decide +kernel
theorem dX7_init_16 : decode cX7_init 16 = .ok (.return_, 1) := by decide +kernel
theorem dX7_missing_0 : decode cX7_missing 0 = .ok (.aload_n 0, 1) := by decide +kernel
theorem dX7_missing_1 : decode cX7_missing 1 = .ok (.getfield 13, 3) := by decide +kernel
theorem dX7_missing_4 : decode cX7_missing 4 = .ok (.iconst (-1), 1) := by decide +kernel
theorem dX7_missing_5 : decode cX7_missing 5 = .ok (.if_icmp .ne 7, 3) := by decide +kernel
theorem dX7_missing_8 : decode cX7_missing 8 = .ok (.iconst 1, 1) := by decide +kernel
theorem dX7_missing_9 : decode cX7_missing 9 = .ok (.goto 4, 3) := by decide +kernel
theorem dX7_missing_12 : decode cX7_missing 12 = .ok (.iconst 0, 1) := by decide +kernel
theorem dX7_missing_13 : decode cX7_missing 13 = .ok (.ireturn, 1) := by decide +kernel
theorem dX7_begin_0 : decode cX7_begin 0 = .ok (.iload_n 2, 1) := by decide +kernel
theorem dX7_begin_1 : decode cX7_begin 1 = .ok (.ifCond .lt 12, 3) := by decide +kernel
theorem dX7_begin_4 : decode cX7_begin 4 = .ok (.iload_n 2, 1) := by decide +kernel
theorem dX7_begin_5 : decode cX7_begin 5 = .ok (.aload_n 0, 1) := by decide +kernel
theorem dX7_begin_6 : decode cX7_begin 6 = .ok (.getfield 7, 3) := by decide +kernel
theorem dX7_begin_9 : decode cX7_begin 9 = .ok (.arraylength, 1) := by decide +kernel
theorem dX7_begin_10 : decode cX7_begin 10 = .ok (.if_icmp .le 4, 3) := by decide +kernel
theorem dX7_begin_13 : decode cX7_begin 13 = .ok (.return_, 1) := by decide +kernel
theorem dX7_begin_14 : decode cX7_begin 14 = .ok (.aload_n 0, 1) := by decide +kernel
theorem dX7_begin_15 : decode cX7_begin 15 = .ok (.iload_n 1, 1) := by decide +kernel
theorem dX7_begin_16 : decode cX7_begin 16 = .ok (.putfield 13, 3) := by decide +kernel
theorem dX7_begin_19 : decode cX7_begin 19 = .ok (.aload_n 0, 1) := by decide +kernel
theorem dX7_begin_20 : decode cX7_begin 20 = .ok (.iload_n 2, 1) := by decide +kernel
theorem dX7_begin_21 : decode cX7_begin 21 = .ok (.putfield 17, 3) := by decide +kernel
theorem dX7_begin_24 : decode cX7_begin 24 = .ok (.aload_n 0, 1) := by decide +kernel
theorem dX7_begin_25 : decode cX7_begin 25 = .ok (.getfield 7, 3) := by decide +kernel
theorem dX7_begin_28 : decode cX7_begin 28 = .ok (.iconst 0, 1) := by decide +kernel
theorem dX7_begin_29 : decode cX7_begin 29 = .ok (.invokestatic 20, 3) := by decide +kernel
theorem dX7_begin_32 : decode cX7_begin 32 = .ok (.return_, 1) := by decide +kernel
theorem dX7_end_0 : decode cX7_end 0 = .ok (.aload_n 0, 1) := by decide +kernel
theorem dX7_end_1 : decode cX7_end 1 = .ok (.iconst (-1), 1) := by decide +kernel
theorem dX7_end_2 : decode cX7_end 2 = .ok (.putfield 13, 3) := by decide +kernel
theorem dX7_end_5 : decode cX7_end 5 = .ok (.aload_n 0, 1) := by decide +kernel
theorem dX7_end_6 : decode cX7_end 6 = .ok (.iconst 0, 1) := by decide +kernel
theorem dX7_end_7 : decode cX7_end 7 = .ok (.putfield 17, 3) := by decide +kernel
theorem dX7_end_10 : decode cX7_end 10 = .ok (.return_, 1) := by decide +kernel
theorem dX7_holds_0 : decode cX7_holds 0 = .ok (.iload_n 1, 1) := by decide +kernel
theorem dX7_holds_1 : decode cX7_holds 1 = .ok (.ifCond .lt 21, 3) := by decide +kernel
theorem dX7_holds_4 : decode cX7_holds 4 = .ok (.iload_n 2, 1) := by decide +kernel
theorem dX7_holds_5 : decode cX7_holds 5 = .ok (.ifCond .lt 17, 3) := by decide +kernel
theorem dX7_holds_8 : decode cX7_holds 8 = .ok (.iload_n 1, 1) := by decide +kernel
theorem dX7_holds_9 : decode cX7_holds 9 = .ok (.aload_n 0, 1) := by decide +kernel
theorem dX7_holds_10 : decode cX7_holds 10 = .ok (.getfield 17, 3) := by decide +kernel
theorem dX7_holds_13 : decode cX7_holds 13 = .ok (.iload_n 2, 1) := by decide +kernel
theorem dX7_holds_14 : decode cX7_holds 14 = .ok (.isub, 1) := by decide +kernel
theorem dX7_holds_15 : decode cX7_holds 15 = .ok (.if_icmp .gt 7, 3) := by decide +kernel
theorem dX7_holds_18 : decode cX7_holds 18 = .ok (.iconst 1, 1) := by decide +kernel
theorem dX7_holds_19 : decode cX7_holds 19 = .ok (.goto 4, 3) := by decide +kernel
theorem dX7_holds_22 : decode cX7_holds 22 = .ok (.iconst 0, 1) := by decide +kernel
theorem dX7_holds_23 : decode cX7_holds 23 = .ok (.ireturn, 1) := by decide +kernel
theorem dX7_item_0 : decode cX7_item 0 = .ok (.aload_n 0, 1) := by decide +kernel
theorem dX7_item_1 : decode cX7_item 1 = .ok (.iload_n 1, 1) := by decide +kernel
theorem dX7_item_2 : decode cX7_item 2 = .ok (.iconst 1, 1) := by decide +kernel
theorem dX7_item_3 : decode cX7_item 3 = .ok (.invokevirtual 26, 3) := by decide +kernel
theorem dX7_item_6 : decode cX7_item 6 = .ok (.ifCond .eq 12, 3) := by decide +kernel
theorem dX7_item_9 : decode cX7_item 9 = .ok (.aload_n 0, 1) := by decide +kernel
theorem dX7_item_10 : decode cX7_item 10 = .ok (.getfield 7, 3) := by decide +kernel
theorem dX7_item_13 : decode cX7_item 13 = .ok (.iload_n 1, 1) := by decide +kernel
theorem dX7_item_14 : decode cX7_item 14 = .ok (.iaload, 1) := by decide +kernel
theorem dX7_item_15 : decode cX7_item 15 = .ok (.goto 4, 3) := by decide +kernel
theorem dX7_item_18 : decode cX7_item 18 = .ok (.iconst 0, 1) := by decide +kernel
theorem dX7_item_19 : decode cX7_item 19 = .ok (.ireturn, 1) := by decide +kernel
theorem dX7_put_0 : decode cX7_put 0 = .ok (.aload_n 0, 1) := by decide +kernel
theorem dX7_put_1 : decode cX7_put 1 = .ok (.iload_n 1, 1) := by decide +kernel
theorem dX7_put_2 : decode cX7_put 2 = .ok (.iconst 1, 1) := by decide +kernel
theorem dX7_put_3 : decode cX7_put 3 = .ok (.invokevirtual 26, 3) := by decide +kernel
theorem dX7_put_6 : decode cX7_put 6 = .ok (.ifCond .ne 5, 3) := by decide +kernel
theorem dX7_put_9 : decode cX7_put 9 = .ok (.iconst 0, 1) := by decide +kernel
theorem dX7_put_10 : decode cX7_put 10 = .ok (.ireturn, 1) := by decide +kernel
theorem dX7_put_11 : decode cX7_put 11 = .ok (.aload_n 0, 1) := by decide +kernel
theorem dX7_put_12 : decode cX7_put 12 = .ok (.getfield 7, 3) := by decide +kernel
theorem dX7_put_15 : decode cX7_put 15 = .ok (.iload_n 1, 1) := by decide +kernel
theorem dX7_put_16 : decode cX7_put 16 = .ok (.aload_n 0, 1) := by decide +kernel
theorem dX7_put_17 : decode cX7_put 17 = .ok (.getfield 13, 3) := by decide +kernel
theorem dX7_put_20 : decode cX7_put 20 = .ok (.ifCond .ne 8, 3) := by decide +kernel
theorem dX7_put_23 : decode cX7_put 23 = .ok (.iload_n 2, 1) := by decide +kernel
theorem dX7_put_24 : decode cX7_put 24 = .ok (.i2b, 1) := by decide +kernel
theorem dX7_put_25 : decode cX7_put 25 = .ok (.goto 17, 3) := by decide +kernel
theorem dX7_put_28 : decode cX7_put 28 = .ok (.aload_n 0, 1) := by decide +kernel
theorem dX7_put_29 : decode cX7_put 29 = .ok (.getfield 13, 3) := by decide +kernel
theorem dX7_put_32 : decode cX7_put 32 = .ok (.iconst 1, 1) := by decide +kernel
theorem dX7_put_33 : decode cX7_put 33 = .ok (.if_icmp .ne 8, 3) := by decide +kernel
theorem dX7_put_36 : decode cX7_put 36 = .ok (.iload_n 2, 1) := by decide +kernel
theorem dX7_put_37 : decode cX7_put 37 = .ok (.i2s, 1) := by decide +kernel
theorem dX7_put_38 : decode cX7_put 38 = .ok (.goto 4, 3) := by decide +kernel
theorem dX7_put_41 : decode cX7_put 41 = .ok (.iload_n 2, 1) := by decide +kernel
theorem dX7_put_42 : decode cX7_put 42 = .ok (.iastore, 1) := by decide +kernel
theorem dX7_put_43 : decode cX7_put 43 = .ok (.aload_n 0, 1) := by decide +kernel
theorem dX7_put_44 : decode cX7_put 44 = .ok (.getfield 7, 3) := by decide +kernel
theorem dX7_put_47 : decode cX7_put 47 = .ok (.iload_n 1, 1) := by decide +kernel
theorem dX7_put_48 : decode cX7_put 48 = .ok (.iaload, 1) := by decide +kernel
theorem dX7_put_49 : decode cX7_put 49 = .ok (.ireturn, 1) := by decide +kernel
theorem dX7_add_0 : decode cX7_add 0 = .ok (.aload_n 0, 1) := by decide +kernel
theorem dX7_add_1 : decode cX7_add 1 = .ok (.getfield 17, 3) := by decide +kernel
theorem dX7_add_4 : decode cX7_add 4 = .ok (.aload_n 0, 1) := by decide +kernel
theorem dX7_add_5 : decode cX7_add 5 = .ok (.getfield 7, 3) := by decide +kernel
theorem dX7_add_8 : decode cX7_add 8 = .ok (.arraylength, 1) := by decide +kernel
theorem dX7_add_9 : decode cX7_add 9 = .ok (.if_icmp .ge 23, 3) := by decide +kernel
theorem dX7_add_12 : decode cX7_add 12 = .ok (.aload_n 0, 1) := by decide +kernel
theorem dX7_add_13 : decode cX7_add 13 = .ok (.getfield 7, 3) := by decide +kernel
theorem dX7_add_16 : decode cX7_add 16 = .ok (.aload_n 0, 1) := by decide +kernel
theorem dX7_add_17 : decode cX7_add 17 = .ok (.getfield 17, 3) := by decide +kernel
theorem dX7_add_20 : decode cX7_add 20 = .ok (.iload_n 1, 1) := by decide +kernel
theorem dX7_add_21 : decode cX7_add 21 = .ok (.iastore, 1) := by decide +kernel
theorem dX7_add_22 : decode cX7_add 22 = .ok (.aload_n 0, 1) := by decide +kernel
theorem dX7_add_23 : decode cX7_add 23 = .ok (.dup, 1) := by decide +kernel
theorem dX7_add_24 : decode cX7_add 24 = .ok (.getfield 17, 3) := by decide +kernel
theorem dX7_add_27 : decode cX7_add 27 = .ok (.iconst 1, 1) := by decide +kernel
theorem dX7_add_28 : decode cX7_add 28 = .ok (.iadd, 1) := by decide +kernel
theorem dX7_add_29 : decode cX7_add 29 = .ok (.putfield 17, 3) := by decide +kernel
theorem dX7_add_32 : decode cX7_add 32 = .ok (.return_, 1) := by decide +kernel
theorem dX7_take_0 : decode cX7_take 0 = .ok (.aload_n 0, 1) := by decide +kernel
theorem dX7_take_1 : decode cX7_take 1 = .ok (.iload_n 1, 1) := by decide +kernel
theorem dX7_take_2 : decode cX7_take 2 = .ok (.iload 4, 2) := by decide +kernel
theorem dX7_take_4 : decode cX7_take 4 = .ok (.invokevirtual 26, 3) := by decide +kernel
theorem dX7_take_7 : decode cX7_take 7 = .ok (.ifCond .eq 28, 3) := by decide +kernel
theorem dX7_take_10 : decode cX7_take 10 = .ok (.aload_n 2, 1) := by decide +kernel
theorem dX7_take_11 : decode cX7_take 11 = .ok (.iload_n 3, 1) := by decide +kernel
theorem dX7_take_12 : decode cX7_take 12 = .ok (.iload 4, 2) := by decide +kernel
theorem dX7_take_14 : decode cX7_take 14 = .ok (.invokevirtual 26, 3) := by decide +kernel
theorem dX7_take_17 : decode cX7_take 17 = .ok (.ifCond .eq 18, 3) := by decide +kernel
theorem dX7_take_20 : decode cX7_take 20 = .ok (.aload_n 2, 1) := by decide +kernel
theorem dX7_take_21 : decode cX7_take 21 = .ok (.getfield 7, 3) := by decide +kernel
theorem dX7_take_24 : decode cX7_take 24 = .ok (.iload_n 3, 1) := by decide +kernel
theorem dX7_take_25 : decode cX7_take 25 = .ok (.aload_n 0, 1) := by decide +kernel
theorem dX7_take_26 : decode cX7_take 26 = .ok (.getfield 7, 3) := by decide +kernel
theorem dX7_take_29 : decode cX7_take 29 = .ok (.iload_n 1, 1) := by decide +kernel
theorem dX7_take_30 : decode cX7_take 30 = .ok (.iload 4, 2) := by decide +kernel
theorem dX7_take_32 : decode cX7_take 32 = .ok (.invokestatic 30, 3) := by decide +kernel
theorem dX7_take_35 : decode cX7_take 35 = .ok (.return_, 1) := by decide +kernel
theorem dX7_orderFrom_0 : decode cX7_orderFrom 0 = .ok (.lconst 0, 1) := by decide +kernel
theorem dX7_orderFrom_1 : decode cX7_orderFrom 1 = .ok (.lstore_n 3, 1) := by decide +kernel
theorem dX7_orderFrom_2 : decode cX7_orderFrom 2 = .ok (.iconst 0, 1) := by decide +kernel
theorem dX7_orderFrom_3 : decode cX7_orderFrom 3 = .ok (.istore 5, 2) := by decide +kernel
theorem dX7_orderFrom_5 : decode cX7_orderFrom 5 = .ok (.iconst 0, 1) := by decide +kernel
theorem dX7_orderFrom_6 : decode cX7_orderFrom 6 = .ok (.istore 6, 2) := by decide +kernel
theorem dX7_orderFrom_8 : decode cX7_orderFrom 8 = .ok (.iload 6, 2) := by decide +kernel
theorem dX7_orderFrom_10 : decode cX7_orderFrom 10 = .ok (.iload_n 2, 1) := by decide +kernel
theorem dX7_orderFrom_11 : decode cX7_orderFrom 11 = .ok (.if_icmp .ge 62, 3) := by decide +kernel
theorem dX7_orderFrom_14 : decode cX7_orderFrom 14 = .ok (.aload_n 0, 1) := by decide +kernel
theorem dX7_orderFrom_15 : decode cX7_orderFrom 15 = .ok (.iload_n 1, 1) := by decide +kernel
theorem dX7_orderFrom_16 : decode cX7_orderFrom 16 = .ok (.iload 6, 2) := by decide +kernel
theorem dX7_orderFrom_18 : decode cX7_orderFrom 18 = .ok (.iadd, 1) := by decide +kernel
theorem dX7_orderFrom_19 : decode cX7_orderFrom 19 = .ok (.invokevirtual 36, 3) := by decide +kernel
theorem dX7_orderFrom_22 : decode cX7_orderFrom 22 = .ok (.istore 7, 2) := by decide +kernel
theorem dX7_orderFrom_24 : decode cX7_orderFrom 24 = .ok (.iload 7, 2) := by decide +kernel
theorem dX7_orderFrom_26 : decode cX7_orderFrom 26 = .ok (.ifCond .lt 19, 3) := by decide +kernel
theorem dX7_orderFrom_29 : decode cX7_orderFrom 29 = .ok (.iload 7, 2) := by decide +kernel
theorem dX7_orderFrom_31 : decode cX7_orderFrom 31 = .ok (.iload_n 2, 1) := by decide +kernel
theorem dX7_orderFrom_32 : decode cX7_orderFrom 32 = .ok (.if_icmp .ge 13, 3) := by decide +kernel
theorem dX7_orderFrom_35 : decode cX7_orderFrom 35 = .ok (.iload 5, 2) := by decide +kernel
theorem dX7_orderFrom_37 : decode cX7_orderFrom 37 = .ok (.iload 7, 2) := by decide +kernel
theorem dX7_orderFrom_39 : decode cX7_orderFrom 39 = .ok (.ishr, 1) := by decide +kernel
theorem dX7_orderFrom_40 : decode cX7_orderFrom 40 = .ok (.iconst 1, 1) := by decide +kernel
theorem dX7_orderFrom_41 : decode cX7_orderFrom 41 = .ok (.iand, 1) := by decide +kernel
theorem dX7_orderFrom_42 : decode cX7_orderFrom 42 = .ok (.ifCond .eq 7, 3) := by decide +kernel
theorem dX7_orderFrom_45 : decode cX7_orderFrom 45 = .ok (.ldc2_w 42, 3) := by decide +kernel
theorem dX7_orderFrom_48 : decode cX7_orderFrom 48 = .ok (.lreturn, 1) := by decide +kernel
theorem dX7_orderFrom_49 : decode cX7_orderFrom 49 = .ok (.iload 5, 2) := by decide +kernel
theorem dX7_orderFrom_51 : decode cX7_orderFrom 51 = .ok (.iconst 1, 1) := by decide +kernel
theorem dX7_orderFrom_52 : decode cX7_orderFrom 52 = .ok (.iload 7, 2) := by decide +kernel
theorem dX7_orderFrom_54 : decode cX7_orderFrom 54 = .ok (.ishl, 1) := by decide +kernel
theorem dX7_orderFrom_55 : decode cX7_orderFrom 55 = .ok (.ior, 1) := by decide +kernel
theorem dX7_orderFrom_56 : decode cX7_orderFrom 56 = .ok (.istore 5, 2) := by decide +kernel
theorem dX7_orderFrom_58 : decode cX7_orderFrom 58 = .ok (.lload_n 3, 1) := by decide +kernel
theorem dX7_orderFrom_59 : decode cX7_orderFrom 59 = .ok (.iload 6, 2) := by decide +kernel
theorem dX7_orderFrom_61 : decode cX7_orderFrom 61 = .ok (.iload 7, 2) := by decide +kernel
theorem dX7_orderFrom_63 : decode cX7_orderFrom 63 = .ok (.invokestatic 44, 3) := by decide +kernel
theorem dX7_orderFrom_66 : decode cX7_orderFrom 66 = .ok (.lstore_n 3, 1) := by decide +kernel
theorem dX7_orderFrom_67 : decode cX7_orderFrom 67 = .ok (.iinc 6 1, 3) := by decide +kernel
theorem dX7_orderFrom_70 : decode cX7_orderFrom 70 = .ok (.goto (-62), 3) := by decide +kernel
theorem dX7_orderFrom_73 : decode cX7_orderFrom 73 = .ok (.lload_n 3, 1) := by decide +kernel
theorem dX7_orderFrom_74 : decode cX7_orderFrom 74 = .ok (.lreturn, 1) := by decide +kernel
theorem dX8_init_0 : decode cX8_init 0 = .ok (.aload_n 0, 1) := by decide +kernel
theorem dX8_init_1 : decode cX8_init 1 = .ok (.invokespecial 3, 3) := by decide +kernel
theorem dX8_init_4 : decode cX8_init 4 = .ok (.aload_n 0, 1) := by decide +kernel
theorem dX8_init_5 : decode cX8_init 5 = .ok (.bipush 42, 2) := by decide +kernel
theorem dX8_init_7 : decode cX8_init 7 = .ok (.newarray .long, 2) := by decide +kernel
theorem dX8_init_9 : decode cX8_init 9 = .ok (.putfield 11, 3) := by decide +kernel
theorem dX8_init_12 : decode cX8_init 12 = .ok (.aload_n 0, 1) := by decide +kernel
theorem dX8_init_13 : decode cX8_init 13 = .ok (.sipush 420, 3) := by decide +kernel
theorem dX8_init_16 : decode cX8_init 16 = .ok (.newarray .long, 2) := by decide +kernel
theorem dX8_init_18 : decode cX8_init 18 = .ok (.putfield 15, 3) := by decide +kernel
theorem dX8_init_21 : decode cX8_init 21 = .ok (.return_, 1) := by decide +kernel
theorem dX8_one_0 : decode cX8_one 0 = .ok (.lconst 1, 1) := by decide +kernel
theorem dX8_one_1 : decode cX8_one 1 = .ok (.iconst 4, 1) := by decide +kernel
theorem dX8_one_2 : decode cX8_one 2 = .ok (.iload_n 0, 1) := by decide +kernel
theorem dX8_one_3 : decode cX8_one 3 = .ok (.iconst 1, 1) := by decide +kernel
theorem dX8_one_4 : decode cX8_one 4 = .ok (.isub, 1) := by decide +kernel
theorem dX8_one_5 : decode cX8_one 5 = .ok (.imul, 1) := by decide +kernel
theorem dX8_one_6 : decode cX8_one 6 = .ok (.lshl, 1) := by decide +kernel
theorem dX8_one_7 : decode cX8_one 7 = .ok (.lreturn, 1) := by decide +kernel
theorem dX8_times_0 : decode cX8_times 0 = .ok (.lload_n 0, 1) := by decide +kernel
theorem dX8_times_1 : decode cX8_times 1 = .ok (.iconst 4, 1) := by decide +kernel
theorem dX8_times_2 : decode cX8_times 2 = .ok (.iload_n 2, 1) := by decide +kernel
theorem dX8_times_3 : decode cX8_times 3 = .ok (.iconst 1, 1) := by decide +kernel
theorem dX8_times_4 : decode cX8_times 4 = .ok (.isub, 1) := by decide +kernel
theorem dX8_times_5 : decode cX8_times 5 = .ok (.imul, 1) := by decide +kernel
theorem dX8_times_6 : decode cX8_times 6 = .ok (.lushr, 1) := by decide +kernel
theorem dX8_times_7 : decode cX8_times 7 = .ok (.l2i, 1) := by decide +kernel
theorem dX8_times_8 : decode cX8_times 8 = .ok (.bipush 15, 2) := by decide +kernel
theorem dX8_times_10 : decode cX8_times 10 = .ok (.iand, 1) := by decide +kernel
theorem dX8_times_11 : decode cX8_times 11 = .ok (.ireturn, 1) := by decide +kernel
theorem dX8_lengthsOf_0 : decode cX8_lengthsOf 0 = .ok (.lconst 0, 1) := by decide +kernel
theorem dX8_lengthsOf_1 : decode cX8_lengthsOf 1 = .ok (.lstore_n 3, 1) := by decide +kernel
theorem dX8_lengthsOf_2 : decode cX8_lengthsOf 2 = .ok (.iconst 0, 1) := by decide +kernel
theorem dX8_lengthsOf_3 : decode cX8_lengthsOf 3 = .ok (.istore 5, 2) := by decide +kernel
theorem dX8_lengthsOf_5 : decode cX8_lengthsOf 5 = .ok (.iconst 0, 1) := by decide +kernel
theorem dX8_lengthsOf_6 : decode cX8_lengthsOf 6 = .ok (.istore 6, 2) := by decide +kernel
theorem dX8_lengthsOf_8 : decode cX8_lengthsOf 8 = .ok (.iload 6, 2) := by decide +kernel
theorem dX8_lengthsOf_10 : decode cX8_lengthsOf 10 = .ok (.iload_n 2, 1) := by decide +kernel
theorem dX8_lengthsOf_11 : decode cX8_lengthsOf 11 = .ok (.if_icmp .ge 74, 3) := by decide +kernel
theorem dX8_lengthsOf_14 : decode cX8_lengthsOf 14 = .ok (.iconst 0, 1) := by decide +kernel
theorem dX8_lengthsOf_15 : decode cX8_lengthsOf 15 = .ok (.istore 7, 2) := by decide +kernel
theorem dX8_lengthsOf_17 : decode cX8_lengthsOf 17 = .ok (.iload 6, 2) := by decide +kernel
theorem dX8_lengthsOf_19 : decode cX8_lengthsOf 19 = .ok (.istore 8, 2) := by decide +kernel
theorem dX8_lengthsOf_21 : decode cX8_lengthsOf 21 = .ok (.iconst 0, 1) := by decide +kernel
theorem dX8_lengthsOf_22 : decode cX8_lengthsOf 22 = .ok (.istore 9, 2) := by decide +kernel
theorem dX8_lengthsOf_24 : decode cX8_lengthsOf 24 = .ok (.iload 9, 2) := by decide +kernel
theorem dX8_lengthsOf_26 : decode cX8_lengthsOf 26 = .ok (.iload_n 2, 1) := by decide +kernel
theorem dX8_lengthsOf_27 : decode cX8_lengthsOf 27 = .ok (.if_icmp .ge 39, 3) := by decide +kernel
theorem dX8_lengthsOf_30 : decode cX8_lengthsOf 30 = .ok (.iload 5, 2) := by decide +kernel
theorem dX8_lengthsOf_32 : decode cX8_lengthsOf 32 = .ok (.iload 8, 2) := by decide +kernel
theorem dX8_lengthsOf_34 : decode cX8_lengthsOf 34 = .ok (.ishr, 1) := by decide +kernel
theorem dX8_lengthsOf_35 : decode cX8_lengthsOf 35 = .ok (.iconst 1, 1) := by decide +kernel
theorem dX8_lengthsOf_36 : decode cX8_lengthsOf 36 = .ok (.iand, 1) := by decide +kernel
theorem dX8_lengthsOf_37 : decode cX8_lengthsOf 37 = .ok (.ifCond .ne 29, 3) := by decide +kernel
theorem dX8_lengthsOf_40 : decode cX8_lengthsOf 40 = .ok (.iload 5, 2) := by decide +kernel
theorem dX8_lengthsOf_42 : decode cX8_lengthsOf 42 = .ok (.iconst 1, 1) := by decide +kernel
theorem dX8_lengthsOf_43 : decode cX8_lengthsOf 43 = .ok (.iload 8, 2) := by decide +kernel
theorem dX8_lengthsOf_45 : decode cX8_lengthsOf 45 = .ok (.ishl, 1) := by decide +kernel
theorem dX8_lengthsOf_46 : decode cX8_lengthsOf 46 = .ok (.ior, 1) := by decide +kernel
theorem dX8_lengthsOf_47 : decode cX8_lengthsOf 47 = .ok (.istore 5, 2) := by decide +kernel
theorem dX8_lengthsOf_49 : decode cX8_lengthsOf 49 = .ok (.lload_n 0, 1) := by decide +kernel
theorem dX8_lengthsOf_50 : decode cX8_lengthsOf 50 = .ok (.iload 8, 2) := by decide +kernel
theorem dX8_lengthsOf_52 : decode cX8_lengthsOf 52 = .ok (.invokestatic 18, 3) := by decide +kernel
theorem dX8_lengthsOf_55 : decode cX8_lengthsOf 55 = .ok (.istore 8, 2) := by decide +kernel
theorem dX8_lengthsOf_57 : decode cX8_lengthsOf 57 = .ok (.iinc 7 1, 3) := by decide +kernel
theorem dX8_lengthsOf_60 : decode cX8_lengthsOf 60 = .ok (.iinc 9 1, 3) := by decide +kernel
theorem dX8_lengthsOf_63 : decode cX8_lengthsOf 63 = .ok (.goto (-39), 3) := by decide +kernel
theorem dX8_lengthsOf_66 : decode cX8_lengthsOf 66 = .ok (.iload 7, 2) := by decide +kernel
theorem dX8_lengthsOf_68 : decode cX8_lengthsOf 68 = .ok (.ifCond .le 11, 3) := by decide +kernel
theorem dX8_lengthsOf_71 : decode cX8_lengthsOf 71 = .ok (.lload_n 3, 1) := by decide +kernel
theorem dX8_lengthsOf_72 : decode cX8_lengthsOf 72 = .ok (.iload 7, 2) := by decide +kernel
theorem dX8_lengthsOf_74 : decode cX8_lengthsOf 74 = .ok (.invokestatic 24, 3) := by decide +kernel
theorem dX8_lengthsOf_77 : decode cX8_lengthsOf 77 = .ok (.ladd, 1) := by decide +kernel
theorem dX8_lengthsOf_78 : decode cX8_lengthsOf 78 = .ok (.lstore_n 3, 1) := by decide +kernel
theorem dX8_lengthsOf_79 : decode cX8_lengthsOf 79 = .ok (.iinc 6 1, 3) := by decide +kernel
theorem dX8_lengthsOf_82 : decode cX8_lengthsOf 82 = .ok (.goto (-74), 3) := by decide +kernel
theorem dX8_lengthsOf_85 : decode cX8_lengthsOf 85 = .ok (.lload_n 3, 1) := by decide +kernel
theorem dX8_lengthsOf_86 : decode cX8_lengthsOf 86 = .ok (.lreturn, 1) := by decide +kernel
theorem dX8_total_0 : decode cX8_total 0 = .ok (.iconst 0, 1) := by decide +kernel
theorem dX8_total_1 : decode cX8_total 1 = .ok (.istore_n 2, 1) := by decide +kernel
theorem dX8_total_2 : decode cX8_total 2 = .ok (.iconst 1, 1) := by decide +kernel
theorem dX8_total_3 : decode cX8_total 3 = .ok (.istore_n 3, 1) := by decide +kernel
theorem dX8_total_4 : decode cX8_total 4 = .ok (.iload_n 3, 1) := by decide +kernel
theorem dX8_total_5 : decode cX8_total 5 = .ok (.bipush 12, 2) := by decide +kernel
theorem dX8_total_7 : decode cX8_total 7 = .ok (.if_icmp .gt 17, 3) := by decide +kernel
theorem dX8_total_10 : decode cX8_total 10 = .ok (.iload_n 2, 1) := by decide +kernel
theorem dX8_total_11 : decode cX8_total 11 = .ok (.lload_n 0, 1) := by decide +kernel
theorem dX8_total_12 : decode cX8_total 12 = .ok (.iload_n 3, 1) := by decide +kernel
theorem dX8_total_13 : decode cX8_total 13 = .ok (.invokestatic 28, 3) := by decide +kernel
theorem dX8_total_16 : decode cX8_total 16 = .ok (.iadd, 1) := by decide +kernel
theorem dX8_total_17 : decode cX8_total 17 = .ok (.istore_n 2, 1) := by decide +kernel
theorem dX8_total_18 : decode cX8_total 18 = .ok (.iinc 3 1, 3) := by decide +kernel
theorem dX8_total_21 : decode cX8_total 21 = .ok (.goto (-17), 3) := by decide +kernel
theorem dX8_total_24 : decode cX8_total 24 = .ok (.iload_n 2, 1) := by decide +kernel
theorem dX8_total_25 : decode cX8_total 25 = .ok (.ireturn, 1) := by decide +kernel
theorem dX8_lengthAt_0 : decode cX8_lengthAt 0 = .ok (.iload_n 2, 1) := by decide +kernel
theorem dX8_lengthAt_1 : decode cX8_lengthAt 1 = .ok (.ifCond .ge 6, 3) := by decide +kernel
theorem dX8_lengthAt_4 : decode cX8_lengthAt 4 = .ok (.ldc 31, 2) := by decide +kernel
theorem dX8_lengthAt_6 : decode cX8_lengthAt 6 = .ok (.ireturn, 1) := by decide +kernel
theorem dX8_lengthAt_7 : decode cX8_lengthAt 7 = .ok (.iconst 0, 1) := by decide +kernel
theorem dX8_lengthAt_8 : decode cX8_lengthAt 8 = .ok (.istore_n 3, 1) := by decide +kernel
theorem dX8_lengthAt_9 : decode cX8_lengthAt 9 = .ok (.bipush 12, 2) := by decide +kernel
theorem dX8_lengthAt_11 : decode cX8_lengthAt 11 = .ok (.istore 4, 2) := by decide +kernel
theorem dX8_lengthAt_13 : decode cX8_lengthAt 13 = .ok (.iload 4, 2) := by decide +kernel
theorem dX8_lengthAt_15 : decode cX8_lengthAt 15 = .ok (.iconst 1, 1) := by decide +kernel
theorem dX8_lengthAt_16 : decode cX8_lengthAt 16 = .ok (.if_icmp .lt 26, 3) := by decide +kernel
theorem dX8_lengthAt_19 : decode cX8_lengthAt 19 = .ok (.iload_n 3, 1) := by decide +kernel
theorem dX8_lengthAt_20 : decode cX8_lengthAt 20 = .ok (.lload_n 0, 1) := by decide +kernel
theorem dX8_lengthAt_21 : decode cX8_lengthAt 21 = .ok (.iload 4, 2) := by decide +kernel
theorem dX8_lengthAt_23 : decode cX8_lengthAt 23 = .ok (.invokestatic 28, 3) := by decide +kernel
theorem dX8_lengthAt_26 : decode cX8_lengthAt 26 = .ok (.iadd, 1) := by decide +kernel
theorem dX8_lengthAt_27 : decode cX8_lengthAt 27 = .ok (.istore_n 3, 1) := by decide +kernel
theorem dX8_lengthAt_28 : decode cX8_lengthAt 28 = .ok (.iload_n 2, 1) := by decide +kernel
theorem dX8_lengthAt_29 : decode cX8_lengthAt 29 = .ok (.iload_n 3, 1) := by decide +kernel
theorem dX8_lengthAt_30 : decode cX8_lengthAt 30 = .ok (.if_icmp .ge 6, 3) := by decide +kernel
theorem dX8_lengthAt_33 : decode cX8_lengthAt 33 = .ok (.iload 4, 2) := by decide +kernel
theorem dX8_lengthAt_35 : decode cX8_lengthAt 35 = .ok (.ireturn, 1) := by decide +kernel
theorem dX8_lengthAt_36 : decode cX8_lengthAt 36 = .ok (.iinc 4 (-1), 3) := by decide +kernel
theorem dX8_lengthAt_39 : decode cX8_lengthAt 39 = .ok (.goto (-26), 3) := by decide +kernel
theorem dX8_lengthAt_42 : decode cX8_lengthAt 42 = .ok (.ldc 31, 2) := by decide +kernel
theorem dX8_lengthAt_44 : decode cX8_lengthAt 44 = .ok (.ireturn, 1) := by decide +kernel
theorem dX8_lacks_0 : decode cX8_lacks 0 = .ok (.iload_n 1, 1) := by decide +kernel
theorem dX8_lacks_1 : decode cX8_lacks 1 = .ok (.ifCond .lt 11, 3) := by decide +kernel
theorem dX8_lacks_4 : decode cX8_lacks 4 = .ok (.iload_n 1, 1) := by decide +kernel
theorem dX8_lacks_5 : decode cX8_lacks 5 = .ok (.aload_n 0, 1) := by decide +kernel
theorem dX8_lacks_6 : decode cX8_lacks 6 = .ok (.getfield 32, 3) := by decide +kernel
theorem dX8_lacks_9 : decode cX8_lacks 9 = .ok (.if_icmp .lt 7, 3) := by decide +kernel
theorem dX8_lacks_12 : decode cX8_lacks 12 = .ok (.iconst 1, 1) := by decide +kernel
theorem dX8_lacks_13 : decode cX8_lacks 13 = .ok (.goto 4, 3) := by decide +kernel
theorem dX8_lacks_16 : decode cX8_lacks 16 = .ok (.iconst 0, 1) := by decide +kernel
theorem dX8_lacks_17 : decode cX8_lacks 17 = .ok (.ireturn, 1) := by decide +kernel
theorem dX8_lengthsAt_0 : decode cX8_lengthsAt 0 = .ok (.aload_n 0, 1) := by decide +kernel
theorem dX8_lengthsAt_1 : decode cX8_lengthsAt 1 = .ok (.iload_n 1, 1) := by decide +kernel
theorem dX8_lengthsAt_2 : decode cX8_lengthsAt 2 = .ok (.invokevirtual 36, 3) := by decide +kernel
theorem dX8_lengthsAt_5 : decode cX8_lengthsAt 5 = .ok (.ifCond .eq 7, 3) := by decide +kernel
theorem dX8_lengthsAt_8 : decode cX8_lengthsAt 8 = .ok (.lconst 0, 1) := by decide +kernel
theorem dX8_lengthsAt_9 : decode cX8_lengthsAt 9 = .ok (.goto 9, 3) := by decide +kernel
theorem dX8_lengthsAt_12 : decode cX8_lengthsAt 12 = .ok (.aload_n 0, 1) := by decide +kernel
theorem dX8_lengthsAt_13 : decode cX8_lengthsAt 13 = .ok (.getfield 11, 3) := by decide +kernel
theorem dX8_lengthsAt_16 : decode cX8_lengthsAt 16 = .ok (.iload_n 1, 1) := by decide +kernel
theorem dX8_lengthsAt_17 : decode cX8_lengthsAt 17 = .ok (.laload, 1) := by decide +kernel
theorem dX8_lengthsAt_18 : decode cX8_lengthsAt 18 = .ok (.lreturn, 1) := by decide +kernel
theorem dX8_rowsOf_0 : decode cX8_rowsOf 0 = .ok (.aload_n 0, 1) := by decide +kernel
theorem dX8_rowsOf_1 : decode cX8_rowsOf 1 = .ok (.iload_n 2, 1) := by decide +kernel
theorem dX8_rowsOf_2 : decode cX8_rowsOf 2 = .ok (.invokevirtual 36, 3) := by decide +kernel
theorem dX8_rowsOf_5 : decode cX8_rowsOf 5 = .ok (.ifCond .ne 13, 3) := by decide +kernel
theorem dX8_rowsOf_8 : decode cX8_rowsOf 8 = .ok (.iload_n 1, 1) := by decide +kernel
theorem dX8_rowsOf_9 : decode cX8_rowsOf 9 = .ok (.ifCond .lt 9, 3) := by decide +kernel
theorem dX8_rowsOf_12 : decode cX8_rowsOf 12 = .ok (.iload_n 1, 1) := by decide +kernel
theorem dX8_rowsOf_13 : decode cX8_rowsOf 13 = .ok (.bipush 9, 2) := by decide +kernel
theorem dX8_rowsOf_15 : decode cX8_rowsOf 15 = .ok (.if_icmp .le 7, 3) := by decide +kernel
theorem dX8_rowsOf_18 : decode cX8_rowsOf 18 = .ok (.lconst 0, 1) := by decide +kernel
theorem dX8_rowsOf_19 : decode cX8_rowsOf 19 = .ok (.goto 14, 3) := by decide +kernel
theorem dX8_rowsOf_22 : decode cX8_rowsOf 22 = .ok (.aload_n 0, 1) := by decide +kernel
theorem dX8_rowsOf_23 : decode cX8_rowsOf 23 = .ok (.getfield 15, 3) := by decide +kernel
theorem dX8_rowsOf_26 : decode cX8_rowsOf 26 = .ok (.iload_n 1, 1) := by decide +kernel
theorem dX8_rowsOf_27 : decode cX8_rowsOf 27 = .ok (.bipush 42, 2) := by decide +kernel
theorem dX8_rowsOf_29 : decode cX8_rowsOf 29 = .ok (.imul, 1) := by decide +kernel
theorem dX8_rowsOf_30 : decode cX8_rowsOf 30 = .ok (.iload_n 2, 1) := by decide +kernel
theorem dX8_rowsOf_31 : decode cX8_rowsOf 31 = .ok (.iadd, 1) := by decide +kernel
theorem dX8_rowsOf_32 : decode cX8_rowsOf 32 = .ok (.laload, 1) := by decide +kernel
theorem dX8_rowsOf_33 : decode cX8_rowsOf 33 = .ok (.lreturn, 1) := by decide +kernel
theorem dX8_prepare_0 : decode cX8_prepare 0 = .ok (.iload_n 1, 1) := by decide +kernel
theorem dX8_prepare_1 : decode cX8_prepare 1 = .ok (.aload_n 0, 1) := by decide +kernel
theorem dX8_prepare_2 : decode cX8_prepare 2 = .ok (.getfield 40, 3) := by decide +kernel
theorem dX8_prepare_5 : decode cX8_prepare 5 = .ok (.if_icmp .eq 14, 3) := by decide +kernel
theorem dX8_prepare_8 : decode cX8_prepare 8 = .ok (.iload_n 1, 1) := by decide +kernel
theorem dX8_prepare_9 : decode cX8_prepare 9 = .ok (.iconst 1, 1) := by decide +kernel
theorem dX8_prepare_10 : decode cX8_prepare 10 = .ok (.if_icmp .lt 9, 3) := by decide +kernel
theorem dX8_prepare_13 : decode cX8_prepare 13 = .ok (.iload_n 1, 1) := by decide +kernel
theorem dX8_prepare_14 : decode cX8_prepare 14 = .ok (.bipush 10, 2) := by decide +kernel
theorem dX8_prepare_16 : decode cX8_prepare 16 = .ok (.if_icmp .le 4, 3) := by decide +kernel
theorem dX8_prepare_19 : decode cX8_prepare 19 = .ok (.return_, 1) := by decide +kernel
theorem dX8_prepare_20 : decode cX8_prepare 20 = .ok (.aload_n 0, 1) := by decide +kernel
theorem dX8_prepare_21 : decode cX8_prepare 21 = .ok (.iload_n 1, 1) := by decide +kernel
theorem dX8_prepare_22 : decode cX8_prepare 22 = .ok (.putfield 40, 3) := by decide +kernel
theorem dX8_prepare_25 : decode cX8_prepare 25 = .ok (.aload_n 0, 1) := by decide +kernel
theorem dX8_prepare_26 : decode cX8_prepare 26 = .ok (.iload_n 1, 1) := by decide +kernel
theorem dX8_prepare_27 : decode cX8_prepare 27 = .ok (.invokevirtual 43, 3) := by decide +kernel
theorem dX8_prepare_30 : decode cX8_prepare 30 = .ok (.aload_n 0, 1) := by decide +kernel
theorem dX8_prepare_31 : decode cX8_prepare 31 = .ok (.getfield 15, 3) := by decide +kernel
theorem dX8_prepare_34 : decode cX8_prepare 34 = .ok (.lconst 0, 1) := by decide +kernel
theorem dX8_prepare_35 : decode cX8_prepare 35 = .ok (.invokestatic 47, 3) := by decide +kernel
theorem dX8_prepare_38 : decode cX8_prepare 38 = .ok (.aload_n 0, 1) := by decide +kernel
theorem dX8_prepare_39 : decode cX8_prepare 39 = .ok (.getfield 32, 3) := by decide +kernel
theorem dX8_prepare_42 : decode cX8_prepare 42 = .ok (.ifCond .le 15, 3) := by decide +kernel
theorem dX8_prepare_45 : decode cX8_prepare 45 = .ok (.aload_n 0, 1) := by decide +kernel
theorem dX8_prepare_46 : decode cX8_prepare 46 = .ok (.getfield 15, 3) := by decide +kernel
theorem dX8_prepare_49 : decode cX8_prepare 49 = .ok (.aload_n 0, 1) := by decide +kernel
theorem dX8_prepare_50 : decode cX8_prepare 50 = .ok (.getfield 32, 3) := by decide +kernel
theorem dX8_prepare_53 : decode cX8_prepare 53 = .ok (.iconst 1, 1) := by decide +kernel
theorem dX8_prepare_54 : decode cX8_prepare 54 = .ok (.isub, 1) := by decide +kernel
theorem dX8_prepare_55 : decode cX8_prepare 55 = .ok (.lconst 1, 1) := by decide +kernel
theorem dX8_prepare_56 : decode cX8_prepare 56 = .ok (.lastore, 1) := by decide +kernel
theorem dX8_prepare_57 : decode cX8_prepare 57 = .ok (.iconst 1, 1) := by decide +kernel
theorem dX8_prepare_58 : decode cX8_prepare 58 = .ok (.istore_n 2, 1) := by decide +kernel
theorem dX8_prepare_59 : decode cX8_prepare 59 = .ok (.iload_n 2, 1) := by decide +kernel
theorem dX8_prepare_60 : decode cX8_prepare 60 = .ok (.bipush 9, 2) := by decide +kernel
theorem dX8_prepare_62 : decode cX8_prepare 62 = .ok (.if_icmp .gt 50, 3) := by decide +kernel
theorem dX8_prepare_65 : decode cX8_prepare 65 = .ok (.iconst 0, 1) := by decide +kernel
theorem dX8_prepare_66 : decode cX8_prepare 66 = .ok (.istore_n 3, 1) := by decide +kernel
theorem dX8_prepare_67 : decode cX8_prepare 67 = .ok (.iload_n 3, 1) := by decide +kernel
theorem dX8_prepare_68 : decode cX8_prepare 68 = .ok (.aload_n 0, 1) := by decide +kernel
theorem dX8_prepare_69 : decode cX8_prepare 69 = .ok (.getfield 32, 3) := by decide +kernel
theorem dX8_prepare_72 : decode cX8_prepare 72 = .ok (.if_icmp .ge 34, 3) := by decide +kernel
theorem dX8_prepare_75 : decode cX8_prepare 75 = .ok (.aload_n 0, 1) := by decide +kernel
theorem dX8_prepare_76 : decode cX8_prepare 76 = .ok (.getfield 15, 3) := by decide +kernel
theorem dX8_prepare_79 : decode cX8_prepare 79 = .ok (.iload_n 2, 1) := by decide +kernel
theorem dX8_prepare_80 : decode cX8_prepare 80 = .ok (.bipush 42, 2) := by decide +kernel
theorem dX8_prepare_82 : decode cX8_prepare 82 = .ok (.imul, 1) := by decide +kernel
theorem dX8_prepare_83 : decode cX8_prepare 83 = .ok (.iload_n 3, 1) := by decide +kernel
theorem dX8_prepare_84 : decode cX8_prepare 84 = .ok (.iadd, 1) := by decide +kernel
theorem dX8_prepare_85 : decode cX8_prepare 85 = .ok (.aload_n 0, 1) := by decide +kernel
theorem dX8_prepare_86 : decode cX8_prepare 86 = .ok (.aload_n 0, 1) := by decide +kernel
theorem dX8_prepare_87 : decode cX8_prepare 87 = .ok (.getfield 11, 3) := by decide +kernel
theorem dX8_prepare_90 : decode cX8_prepare 90 = .ok (.iload_n 3, 1) := by decide +kernel
theorem dX8_prepare_91 : decode cX8_prepare 91 = .ok (.laload, 1) := by decide +kernel
theorem dX8_prepare_92 : decode cX8_prepare 92 = .ok (.iload_n 2, 1) := by decide +kernel
theorem dX8_prepare_93 : decode cX8_prepare 93 = .ok (.iconst 1, 1) := by decide +kernel
theorem dX8_prepare_94 : decode cX8_prepare 94 = .ok (.isub, 1) := by decide +kernel
theorem dX8_prepare_95 : decode cX8_prepare 95 = .ok (.iload_n 1, 1) := by decide +kernel
theorem dX8_prepare_96 : decode cX8_prepare 96 = .ok (.invokevirtual 53, 3) := by decide +kernel
theorem dX8_prepare_99 : decode cX8_prepare 99 = .ok (.lastore, 1) := by decide +kernel
theorem dX8_prepare_100 : decode cX8_prepare 100 = .ok (.iinc 3 1, 3) := by decide +kernel
theorem dX8_prepare_103 : decode cX8_prepare 103 = .ok (.goto (-36), 3) := by decide +kernel
theorem dX8_prepare_106 : decode cX8_prepare 106 = .ok (.iinc 2 1, 3) := by decide +kernel
theorem dX8_prepare_109 : decode cX8_prepare 109 = .ok (.goto (-50), 3) := by decide +kernel
theorem dX8_prepare_112 : decode cX8_prepare 112 = .ok (.return_, 1) := by decide +kernel
theorem dX8_listAll_0 : decode cX8_listAll 0 = .ok (.iload_n 1, 1) := by decide +kernel
theorem dX8_listAll_1 : decode cX8_listAll 1 = .ok (.invokestatic 24, 3) := by decide +kernel
theorem dX8_listAll_4 : decode cX8_listAll 4 = .ok (.lstore_n 2, 1) := by decide +kernel
theorem dX8_listAll_5 : decode cX8_listAll 5 = .ok (.aload_n 0, 1) := by decide +kernel
theorem dX8_listAll_6 : decode cX8_listAll 6 = .ok (.iconst 0, 1) := by decide +kernel
theorem dX8_listAll_7 : decode cX8_listAll 7 = .ok (.putfield 32, 3) := by decide +kernel
theorem dX8_listAll_10 : decode cX8_listAll 10 = .ok (.iconst 0, 1) := by decide +kernel
theorem dX8_listAll_11 : decode cX8_listAll 11 = .ok (.istore 4, 2) := by decide +kernel
theorem dX8_listAll_13 : decode cX8_listAll 13 = .ok (.iload 4, 2) := by decide +kernel
theorem dX8_listAll_15 : decode cX8_listAll 15 = .ok (.bipush 42, 2) := by decide +kernel
theorem dX8_listAll_17 : decode cX8_listAll 17 = .ok (.if_icmp .ge 40, 3) := by decide +kernel
theorem dX8_listAll_20 : decode cX8_listAll 20 = .ok (.lload_n 2, 1) := by decide +kernel
theorem dX8_listAll_21 : decode cX8_listAll 21 = .ok (.lconst 0, 1) := by decide +kernel
theorem dX8_listAll_22 : decode cX8_listAll 22 = .ok (.lcmp, 1) := by decide +kernel
theorem dX8_listAll_23 : decode cX8_listAll 23 = .ok (.ifCond .eq 34, 3) := by decide +kernel
theorem dX8_listAll_26 : decode cX8_listAll 26 = .ok (.aload_n 0, 1) := by decide +kernel
theorem dX8_listAll_27 : decode cX8_listAll 27 = .ok (.getfield 11, 3) := by decide +kernel
theorem dX8_listAll_30 : decode cX8_listAll 30 = .ok (.iload 4, 2) := by decide +kernel
theorem dX8_listAll_32 : decode cX8_listAll 32 = .ok (.lload_n 2, 1) := by decide +kernel
theorem dX8_listAll_33 : decode cX8_listAll 33 = .ok (.lastore, 1) := by decide +kernel
theorem dX8_listAll_34 : decode cX8_listAll 34 = .ok (.aload_n 0, 1) := by decide +kernel
theorem dX8_listAll_35 : decode cX8_listAll 35 = .ok (.dup, 1) := by decide +kernel
theorem dX8_listAll_36 : decode cX8_listAll 36 = .ok (.getfield 32, 3) := by decide +kernel
theorem dX8_listAll_39 : decode cX8_listAll 39 = .ok (.iconst 1, 1) := by decide +kernel
theorem dX8_listAll_40 : decode cX8_listAll 40 = .ok (.iadd, 1) := by decide +kernel
theorem dX8_listAll_41 : decode cX8_listAll 41 = .ok (.putfield 32, 3) := by decide +kernel
theorem dX8_listAll_44 : decode cX8_listAll 44 = .ok (.aload_n 0, 1) := by decide +kernel
theorem dX8_listAll_45 : decode cX8_listAll 45 = .ok (.lload_n 2, 1) := by decide +kernel
theorem dX8_listAll_46 : decode cX8_listAll 46 = .ok (.iload_n 1, 1) := by decide +kernel
theorem dX8_listAll_47 : decode cX8_listAll 47 = .ok (.invokevirtual 57, 3) := by decide +kernel
theorem dX8_listAll_50 : decode cX8_listAll 50 = .ok (.lstore_n 2, 1) := by decide +kernel
theorem dX8_listAll_51 : decode cX8_listAll 51 = .ok (.iinc 4 1, 3) := by decide +kernel
theorem dX8_listAll_54 : decode cX8_listAll 54 = .ok (.goto (-41), 3) := by decide +kernel
theorem dX8_listAll_57 : decode cX8_listAll 57 = .ok (.return_, 1) := by decide +kernel
theorem dX8_nextBelow_0 : decode cX8_nextBelow 0 = .ok (.lload_n 1, 1) := by decide +kernel
theorem dX8_nextBelow_1 : decode cX8_nextBelow 1 = .ok (.iconst 1, 1) := by decide +kernel
theorem dX8_nextBelow_2 : decode cX8_nextBelow 2 = .ok (.invokestatic 28, 3) := by decide +kernel
theorem dX8_nextBelow_5 : decode cX8_nextBelow 5 = .ok (.istore 4, 2) := by decide +kernel
theorem dX8_nextBelow_7 : decode cX8_nextBelow 7 = .ok (.iconst 2, 1) := by decide +kernel
theorem dX8_nextBelow_8 : decode cX8_nextBelow 8 = .ok (.istore 5, 2) := by decide +kernel
theorem dX8_nextBelow_10 : decode cX8_nextBelow 10 = .ok (.iload 5, 2) := by decide +kernel
theorem dX8_nextBelow_12 : decode cX8_nextBelow 12 = .ok (.iload_n 3, 1) := by decide +kernel
theorem dX8_nextBelow_13 : decode cX8_nextBelow 13 = .ok (.if_icmp .gt 92, 3) := by decide +kernel
theorem dX8_nextBelow_16 : decode cX8_nextBelow 16 = .ok (.lload_n 1, 1) := by decide +kernel
theorem dX8_nextBelow_17 : decode cX8_nextBelow 17 = .ok (.iload 5, 2) := by decide +kernel
theorem dX8_nextBelow_19 : decode cX8_nextBelow 19 = .ok (.invokestatic 28, 3) := by decide +kernel
theorem dX8_nextBelow_22 : decode cX8_nextBelow 22 = .ok (.ifCond .le 77, 3) := by decide +kernel
theorem dX8_nextBelow_25 : decode cX8_nextBelow 25 = .ok (.iload 5, 2) := by decide +kernel
theorem dX8_nextBelow_27 : decode cX8_nextBelow 27 = .ok (.iload 4, 2) := by decide +kernel
theorem dX8_nextBelow_29 : decode cX8_nextBelow 29 = .ok (.iadd, 1) := by decide +kernel
theorem dX8_nextBelow_30 : decode cX8_nextBelow 30 = .ok (.istore 6, 2) := by decide +kernel
theorem dX8_nextBelow_32 : decode cX8_nextBelow 32 = .ok (.iload 6, 2) := by decide +kernel
theorem dX8_nextBelow_34 : decode cX8_nextBelow 34 = .ok (.iload 5, 2) := by decide +kernel
theorem dX8_nextBelow_36 : decode cX8_nextBelow 36 = .ok (.iconst 1, 1) := by decide +kernel
theorem dX8_nextBelow_37 : decode cX8_nextBelow 37 = .ok (.isub, 1) := by decide +kernel
theorem dX8_nextBelow_38 : decode cX8_nextBelow 38 = .ok (.irem, 1) := by decide +kernel
theorem dX8_nextBelow_39 : decode cX8_nextBelow 39 = .ok (.istore 7, 2) := by decide +kernel
theorem dX8_nextBelow_41 : decode cX8_nextBelow 41 = .ok (.lload_n 1, 1) := by decide +kernel
theorem dX8_nextBelow_42 : decode cX8_nextBelow 42 = .ok (.iload 5, 2) := by decide +kernel
theorem dX8_nextBelow_44 : decode cX8_nextBelow 44 = .ok (.invokestatic 24, 3) := by decide +kernel
theorem dX8_nextBelow_47 : decode cX8_nextBelow 47 = .ok (.lsub, 1) := by decide +kernel
theorem dX8_nextBelow_48 : decode cX8_nextBelow 48 = .ok (.iload 4, 2) := by decide +kernel
theorem dX8_nextBelow_50 : decode cX8_nextBelow 50 = .ok (.i2l, 1) := by decide +kernel
theorem dX8_nextBelow_51 : decode cX8_nextBelow 51 = .ok (.iconst 1, 1) := by decide +kernel
theorem dX8_nextBelow_52 : decode cX8_nextBelow 52 = .ok (.invokestatic 24, 3) := by decide +kernel
theorem dX8_nextBelow_55 : decode cX8_nextBelow 55 = .ok (.lmul, 1) := by decide +kernel
theorem dX8_nextBelow_56 : decode cX8_nextBelow 56 = .ok (.lsub, 1) := by decide +kernel
theorem dX8_nextBelow_57 : decode cX8_nextBelow 57 = .ok (.lstore 8, 2) := by decide +kernel
theorem dX8_nextBelow_59 : decode cX8_nextBelow 59 = .ok (.lload 8, 2) := by decide +kernel
theorem dX8_nextBelow_61 : decode cX8_nextBelow 61 = .ok (.iload 6, 2) := by decide +kernel
theorem dX8_nextBelow_63 : decode cX8_nextBelow 63 = .ok (.iload 5, 2) := by decide +kernel
theorem dX8_nextBelow_65 : decode cX8_nextBelow 65 = .ok (.iconst 1, 1) := by decide +kernel
theorem dX8_nextBelow_66 : decode cX8_nextBelow 66 = .ok (.isub, 1) := by decide +kernel
theorem dX8_nextBelow_67 : decode cX8_nextBelow 67 = .ok (.idiv, 1) := by decide +kernel
theorem dX8_nextBelow_68 : decode cX8_nextBelow 68 = .ok (.i2l, 1) := by decide +kernel
theorem dX8_nextBelow_69 : decode cX8_nextBelow 69 = .ok (.iload 5, 2) := by decide +kernel
theorem dX8_nextBelow_71 : decode cX8_nextBelow 71 = .ok (.iconst 1, 1) := by decide +kernel
theorem dX8_nextBelow_72 : decode cX8_nextBelow 72 = .ok (.isub, 1) := by decide +kernel
theorem dX8_nextBelow_73 : decode cX8_nextBelow 73 = .ok (.invokestatic 24, 3) := by decide +kernel
theorem dX8_nextBelow_76 : decode cX8_nextBelow 76 = .ok (.lmul, 1) := by decide +kernel
theorem dX8_nextBelow_77 : decode cX8_nextBelow 77 = .ok (.ladd, 1) := by decide +kernel
theorem dX8_nextBelow_78 : decode cX8_nextBelow 78 = .ok (.lstore 8, 2) := by decide +kernel
theorem dX8_nextBelow_80 : decode cX8_nextBelow 80 = .ok (.iload 7, 2) := by decide +kernel
theorem dX8_nextBelow_82 : decode cX8_nextBelow 82 = .ok (.ifCond .le 14, 3) := by decide +kernel
theorem dX8_nextBelow_85 : decode cX8_nextBelow 85 = .ok (.lload 8, 2) := by decide +kernel
theorem dX8_nextBelow_87 : decode cX8_nextBelow 87 = .ok (.iload 7, 2) := by decide +kernel
theorem dX8_nextBelow_89 : decode cX8_nextBelow 89 = .ok (.invokestatic 24, 3) := by decide +kernel
theorem dX8_nextBelow_92 : decode cX8_nextBelow 92 = .ok (.ladd, 1) := by decide +kernel
theorem dX8_nextBelow_93 : decode cX8_nextBelow 93 = .ok (.goto 5, 3) := by decide +kernel
theorem dX8_nextBelow_96 : decode cX8_nextBelow 96 = .ok (.lload 8, 2) := by decide +kernel
theorem dX8_nextBelow_98 : decode cX8_nextBelow 98 = .ok (.lreturn, 1) := by decide +kernel
theorem dX8_nextBelow_99 : decode cX8_nextBelow 99 = .ok (.iinc 5 1, 3) := by decide +kernel
theorem dX8_nextBelow_102 : decode cX8_nextBelow 102 = .ok (.goto (-92), 3) := by decide +kernel
theorem dX8_nextBelow_105 : decode cX8_nextBelow 105 = .ok (.lconst 0, 1) := by decide +kernel
theorem dX8_nextBelow_106 : decode cX8_nextBelow 106 = .ok (.lreturn, 1) := by decide +kernel
theorem dX8_cutAndJoined_0 : decode cX8_cutAndJoined 0 = .ok (.lconst 0, 1) := by decide +kernel
theorem dX8_cutAndJoined_1 : decode cX8_cutAndJoined 1 = .ok (.lstore 5, 2) := by decide +kernel
theorem dX8_cutAndJoined_3 : decode cX8_cutAndJoined 3 = .ok (.iconst 1, 1) := by decide +kernel
theorem dX8_cutAndJoined_4 : decode cX8_cutAndJoined 4 = .ok (.istore 7, 2) := by decide +kernel
theorem dX8_cutAndJoined_6 : decode cX8_cutAndJoined 6 = .ok (.iload 7, 2) := by decide +kernel
theorem dX8_cutAndJoined_8 : decode cX8_cutAndJoined 8 = .ok (.iload 4, 2) := by decide +kernel
theorem dX8_cutAndJoined_10 : decode cX8_cutAndJoined 10 = .ok (.if_icmp .gt 144, 3) := by decide +kernel
theorem dX8_cutAndJoined_13 : decode cX8_cutAndJoined 13 = .ok (.lload_n 1, 1) := by decide +kernel
theorem dX8_cutAndJoined_14 : decode cX8_cutAndJoined 14 = .ok (.iload 7, 2) := by decide +kernel
theorem dX8_cutAndJoined_16 : decode cX8_cutAndJoined 16 = .ok (.invokestatic 28, 3) := by decide +kernel
theorem dX8_cutAndJoined_19 : decode cX8_cutAndJoined 19 = .ok (.istore 8, 2) := by decide +kernel
theorem dX8_cutAndJoined_21 : decode cX8_cutAndJoined 21 = .ok (.iload 8, 2) := by decide +kernel
theorem dX8_cutAndJoined_23 : decode cX8_cutAndJoined 23 = .ok (.ifCond .ne 6, 3) := by decide +kernel
theorem dX8_cutAndJoined_26 : decode cX8_cutAndJoined 26 = .ok (.goto 122, 3) := by decide +kernel
theorem dX8_cutAndJoined_29 : decode cX8_cutAndJoined 29 = .ok (.lload 5, 2) := by decide +kernel
theorem dX8_cutAndJoined_31 : decode cX8_cutAndJoined 31 = .ok (.iload 8, 2) := by decide +kernel
theorem dX8_cutAndJoined_33 : decode cX8_cutAndJoined 33 = .ok (.i2l, 1) := by decide +kernel
theorem dX8_cutAndJoined_34 : decode cX8_cutAndJoined 34 = .ok (.aload_n 0, 1) := by decide +kernel
theorem dX8_cutAndJoined_35 : decode cX8_cutAndJoined 35 = .ok (.lload_n 1, 1) := by decide +kernel
theorem dX8_cutAndJoined_36 : decode cX8_cutAndJoined 36 = .ok (.iload 7, 2) := by decide +kernel
theorem dX8_cutAndJoined_38 : decode cX8_cutAndJoined 38 = .ok (.iload_n 3, 1) := by decide +kernel
theorem dX8_cutAndJoined_39 : decode cX8_cutAndJoined 39 = .ok (.invokevirtual 61, 3) := by decide +kernel
theorem dX8_cutAndJoined_42 : decode cX8_cutAndJoined 42 = .ok (.lmul, 1) := by decide +kernel
theorem dX8_cutAndJoined_43 : decode cX8_cutAndJoined 43 = .ok (.ladd, 1) := by decide +kernel
theorem dX8_cutAndJoined_44 : decode cX8_cutAndJoined 44 = .ok (.lstore 5, 2) := by decide +kernel
theorem dX8_cutAndJoined_46 : decode cX8_cutAndJoined 46 = .ok (.iload 7, 2) := by decide +kernel
theorem dX8_cutAndJoined_48 : decode cX8_cutAndJoined 48 = .ok (.istore 9, 2) := by decide +kernel
theorem dX8_cutAndJoined_50 : decode cX8_cutAndJoined 50 = .ok (.iload 9, 2) := by decide +kernel
theorem dX8_cutAndJoined_52 : decode cX8_cutAndJoined 52 = .ok (.iload 4, 2) := by decide +kernel
theorem dX8_cutAndJoined_54 : decode cX8_cutAndJoined 54 = .ok (.if_icmp .gt 94, 3) := by decide +kernel
theorem dX8_cutAndJoined_57 : decode cX8_cutAndJoined 57 = .ok (.iload 7, 2) := by decide +kernel
theorem dX8_cutAndJoined_59 : decode cX8_cutAndJoined 59 = .ok (.iload 9, 2) := by decide +kernel
theorem dX8_cutAndJoined_61 : decode cX8_cutAndJoined 61 = .ok (.if_icmp .ne 15, 3) := by decide +kernel
theorem dX8_cutAndJoined_64 : decode cX8_cutAndJoined 64 = .ok (.iload 8, 2) := by decide +kernel
theorem dX8_cutAndJoined_66 : decode cX8_cutAndJoined 66 = .ok (.iload 8, 2) := by decide +kernel
theorem dX8_cutAndJoined_68 : decode cX8_cutAndJoined 68 = .ok (.iconst 1, 1) := by decide +kernel
theorem dX8_cutAndJoined_69 : decode cX8_cutAndJoined 69 = .ok (.isub, 1) := by decide +kernel
theorem dX8_cutAndJoined_70 : decode cX8_cutAndJoined 70 = .ok (.imul, 1) := by decide +kernel
theorem dX8_cutAndJoined_71 : decode cX8_cutAndJoined 71 = .ok (.iconst 2, 1) := by decide +kernel
theorem dX8_cutAndJoined_72 : decode cX8_cutAndJoined 72 = .ok (.idiv, 1) := by decide +kernel
theorem dX8_cutAndJoined_73 : decode cX8_cutAndJoined 73 = .ok (.goto 12, 3) := by decide +kernel
theorem dX8_cutAndJoined_76 : decode cX8_cutAndJoined 76 = .ok (.iload 8, 2) := by decide +kernel
theorem dX8_cutAndJoined_78 : decode cX8_cutAndJoined 78 = .ok (.lload_n 1, 1) := by decide +kernel
theorem dX8_cutAndJoined_79 : decode cX8_cutAndJoined 79 = .ok (.iload 9, 2) := by decide +kernel
theorem dX8_cutAndJoined_81 : decode cX8_cutAndJoined 81 = .ok (.invokestatic 28, 3) := by decide +kernel
theorem dX8_cutAndJoined_84 : decode cX8_cutAndJoined 84 = .ok (.imul, 1) := by decide +kernel
theorem dX8_cutAndJoined_85 : decode cX8_cutAndJoined 85 = .ok (.istore 10, 2) := by decide +kernel
theorem dX8_cutAndJoined_87 : decode cX8_cutAndJoined 87 = .ok (.iload 10, 2) := by decide +kernel
theorem dX8_cutAndJoined_89 : decode cX8_cutAndJoined 89 = .ok (.ifCond .le 53, 3) := by decide +kernel
theorem dX8_cutAndJoined_92 : decode cX8_cutAndJoined 92 = .ok (.lload_n 1, 1) := by decide +kernel
theorem dX8_cutAndJoined_93 : decode cX8_cutAndJoined 93 = .ok (.iload 7, 2) := by decide +kernel
theorem dX8_cutAndJoined_95 : decode cX8_cutAndJoined 95 = .ok (.invokestatic 24, 3) := by decide +kernel
theorem dX8_cutAndJoined_98 : decode cX8_cutAndJoined 98 = .ok (.lsub, 1) := by decide +kernel
theorem dX8_cutAndJoined_99 : decode cX8_cutAndJoined 99 = .ok (.iload 9, 2) := by decide +kernel
theorem dX8_cutAndJoined_101 : decode cX8_cutAndJoined 101 = .ok (.invokestatic 24, 3) := by decide +kernel
theorem dX8_cutAndJoined_104 : decode cX8_cutAndJoined 104 = .ok (.lsub, 1) := by decide +kernel
theorem dX8_cutAndJoined_105 : decode cX8_cutAndJoined 105 = .ok (.iload 7, 2) := by decide +kernel
theorem dX8_cutAndJoined_107 : decode cX8_cutAndJoined 107 = .ok (.iload 9, 2) := by decide +kernel
theorem dX8_cutAndJoined_109 : decode cX8_cutAndJoined 109 = .ok (.iadd, 1) := by decide +kernel
theorem dX8_cutAndJoined_110 : decode cX8_cutAndJoined 110 = .ok (.invokestatic 24, 3) := by decide +kernel
theorem dX8_cutAndJoined_113 : decode cX8_cutAndJoined 113 = .ok (.ladd, 1) := by decide +kernel
theorem dX8_cutAndJoined_114 : decode cX8_cutAndJoined 114 = .ok (.lstore 11, 2) := by decide +kernel
theorem dX8_cutAndJoined_116 : decode cX8_cutAndJoined 116 = .ok (.lload 5, 2) := by decide +kernel
theorem dX8_cutAndJoined_118 : decode cX8_cutAndJoined 118 = .ok (.iload 10, 2) := by decide +kernel
theorem dX8_cutAndJoined_120 : decode cX8_cutAndJoined 120 = .ok (.iload 7, 2) := by decide +kernel
theorem dX8_cutAndJoined_122 : decode cX8_cutAndJoined 122 = .ok (.imul, 1) := by decide +kernel
theorem dX8_cutAndJoined_123 : decode cX8_cutAndJoined 123 = .ok (.iload 9, 2) := by decide +kernel
theorem dX8_cutAndJoined_125 : decode cX8_cutAndJoined 125 = .ok (.imul, 1) := by decide +kernel
theorem dX8_cutAndJoined_126 : decode cX8_cutAndJoined 126 = .ok (.i2l, 1) := by decide +kernel
theorem dX8_cutAndJoined_127 : decode cX8_cutAndJoined 127 = .ok (.aload_n 0, 1) := by decide +kernel
theorem dX8_cutAndJoined_128 : decode cX8_cutAndJoined 128 = .ok (.iload_n 3, 1) := by decide +kernel
theorem dX8_cutAndJoined_129 : decode cX8_cutAndJoined 129 = .ok (.aload_n 0, 1) := by decide +kernel
theorem dX8_cutAndJoined_130 : decode cX8_cutAndJoined 130 = .ok (.lload 11, 2) := by decide +kernel
theorem dX8_cutAndJoined_132 : decode cX8_cutAndJoined 132 = .ok (.invokevirtual 64, 3) := by decide +kernel
theorem dX8_cutAndJoined_135 : decode cX8_cutAndJoined 135 = .ok (.invokevirtual 68, 3) := by decide +kernel
theorem dX8_cutAndJoined_138 : decode cX8_cutAndJoined 138 = .ok (.lmul, 1) := by decide +kernel
theorem dX8_cutAndJoined_139 : decode cX8_cutAndJoined 139 = .ok (.ladd, 1) := by decide +kernel
theorem dX8_cutAndJoined_140 : decode cX8_cutAndJoined 140 = .ok (.lstore 5, 2) := by decide +kernel
theorem dX8_cutAndJoined_142 : decode cX8_cutAndJoined 142 = .ok (.iinc 9 1, 3) := by decide +kernel
theorem dX8_cutAndJoined_145 : decode cX8_cutAndJoined 145 = .ok (.goto (-95), 3) := by decide +kernel
theorem dX8_cutAndJoined_148 : decode cX8_cutAndJoined 148 = .ok (.iinc 7 1, 3) := by decide +kernel
theorem dX8_cutAndJoined_151 : decode cX8_cutAndJoined 151 = .ok (.goto (-145), 3) := by decide +kernel
theorem dX8_cutAndJoined_154 : decode cX8_cutAndJoined 154 = .ok (.lload 5, 2) := by decide +kernel
theorem dX8_cutAndJoined_156 : decode cX8_cutAndJoined 156 = .ok (.lreturn, 1) := by decide +kernel
theorem dX8_cut_0 : decode cX8_cut 0 = .ok (.lconst 0, 1) := by decide +kernel
theorem dX8_cut_1 : decode cX8_cut 1 = .ok (.lstore 5, 2) := by decide +kernel
theorem dX8_cut_3 : decode cX8_cut 3 = .ok (.iconst 1, 1) := by decide +kernel
theorem dX8_cut_4 : decode cX8_cut 4 = .ok (.istore 7, 2) := by decide +kernel
theorem dX8_cut_6 : decode cX8_cut 6 = .ok (.iconst 2, 1) := by decide +kernel
theorem dX8_cut_7 : decode cX8_cut 7 = .ok (.iload 7, 2) := by decide +kernel
theorem dX8_cut_9 : decode cX8_cut 9 = .ok (.imul, 1) := by decide +kernel
theorem dX8_cut_10 : decode cX8_cut 10 = .ok (.iload_n 3, 1) := by decide +kernel
theorem dX8_cut_11 : decode cX8_cut 11 = .ok (.if_icmp .gt 68, 3) := by decide +kernel
theorem dX8_cut_14 : decode cX8_cut 14 = .ok (.iconst 2, 1) := by decide +kernel
theorem dX8_cut_15 : decode cX8_cut 15 = .ok (.iload 7, 2) := by decide +kernel
theorem dX8_cut_17 : decode cX8_cut 17 = .ok (.imul, 1) := by decide +kernel
theorem dX8_cut_18 : decode cX8_cut 18 = .ok (.iload_n 3, 1) := by decide +kernel
theorem dX8_cut_19 : decode cX8_cut 19 = .ok (.if_icmp .ne 8, 3) := by decide +kernel
theorem dX8_cut_22 : decode cX8_cut 22 = .ok (.iload 7, 2) := by decide +kernel
theorem dX8_cut_24 : decode cX8_cut 24 = .ok (.goto 4, 3) := by decide +kernel
theorem dX8_cut_27 : decode cX8_cut 27 = .ok (.iload_n 3, 1) := by decide +kernel
theorem dX8_cut_28 : decode cX8_cut 28 = .ok (.istore 8, 2) := by decide +kernel
theorem dX8_cut_30 : decode cX8_cut 30 = .ok (.lload_n 1, 1) := by decide +kernel
theorem dX8_cut_31 : decode cX8_cut 31 = .ok (.iload_n 3, 1) := by decide +kernel
theorem dX8_cut_32 : decode cX8_cut 32 = .ok (.invokestatic 24, 3) := by decide +kernel
theorem dX8_cut_35 : decode cX8_cut 35 = .ok (.lsub, 1) := by decide +kernel
theorem dX8_cut_36 : decode cX8_cut 36 = .ok (.iload 7, 2) := by decide +kernel
theorem dX8_cut_38 : decode cX8_cut 38 = .ok (.invokestatic 24, 3) := by decide +kernel
theorem dX8_cut_41 : decode cX8_cut 41 = .ok (.ladd, 1) := by decide +kernel
theorem dX8_cut_42 : decode cX8_cut 42 = .ok (.iload_n 3, 1) := by decide +kernel
theorem dX8_cut_43 : decode cX8_cut 43 = .ok (.iload 7, 2) := by decide +kernel
theorem dX8_cut_45 : decode cX8_cut 45 = .ok (.isub, 1) := by decide +kernel
theorem dX8_cut_46 : decode cX8_cut 46 = .ok (.invokestatic 24, 3) := by decide +kernel
theorem dX8_cut_49 : decode cX8_cut 49 = .ok (.ladd, 1) := by decide +kernel
theorem dX8_cut_50 : decode cX8_cut 50 = .ok (.lstore 9, 2) := by decide +kernel
theorem dX8_cut_52 : decode cX8_cut 52 = .ok (.lload 5, 2) := by decide +kernel
theorem dX8_cut_54 : decode cX8_cut 54 = .ok (.iload 8, 2) := by decide +kernel
theorem dX8_cut_56 : decode cX8_cut 56 = .ok (.i2l, 1) := by decide +kernel
theorem dX8_cut_57 : decode cX8_cut 57 = .ok (.aload_n 0, 1) := by decide +kernel
theorem dX8_cut_58 : decode cX8_cut 58 = .ok (.iload 4, 2) := by decide +kernel
theorem dX8_cut_60 : decode cX8_cut 60 = .ok (.aload_n 0, 1) := by decide +kernel
theorem dX8_cut_61 : decode cX8_cut 61 = .ok (.lload 9, 2) := by decide +kernel
theorem dX8_cut_63 : decode cX8_cut 63 = .ok (.invokevirtual 64, 3) := by decide +kernel
theorem dX8_cut_66 : decode cX8_cut 66 = .ok (.invokevirtual 68, 3) := by decide +kernel
theorem dX8_cut_69 : decode cX8_cut 69 = .ok (.lmul, 1) := by decide +kernel
theorem dX8_cut_70 : decode cX8_cut 70 = .ok (.ladd, 1) := by decide +kernel
theorem dX8_cut_71 : decode cX8_cut 71 = .ok (.lstore 5, 2) := by decide +kernel
theorem dX8_cut_73 : decode cX8_cut 73 = .ok (.iinc 7 1, 3) := by decide +kernel
theorem dX8_cut_76 : decode cX8_cut 76 = .ok (.goto (-70), 3) := by decide +kernel
theorem dX8_cut_79 : decode cX8_cut 79 = .ok (.lload 5, 2) := by decide +kernel
theorem dX8_cut_81 : decode cX8_cut 81 = .ok (.lreturn, 1) := by decide +kernel
theorem dX8_indexOf_0 : decode cX8_indexOf 0 = .ok (.iconst 0, 1) := by decide +kernel
theorem dX8_indexOf_1 : decode cX8_indexOf 1 = .ok (.istore_n 3, 1) := by decide +kernel
theorem dX8_indexOf_2 : decode cX8_indexOf 2 = .ok (.iload_n 3, 1) := by decide +kernel
theorem dX8_indexOf_3 : decode cX8_indexOf 3 = .ok (.aload_n 0, 1) := by decide +kernel
theorem dX8_indexOf_4 : decode cX8_indexOf 4 = .ok (.getfield 32, 3) := by decide +kernel
theorem dX8_indexOf_7 : decode cX8_indexOf 7 = .ok (.if_icmp .ge 22, 3) := by decide +kernel
theorem dX8_indexOf_10 : decode cX8_indexOf 10 = .ok (.aload_n 0, 1) := by decide +kernel
theorem dX8_indexOf_11 : decode cX8_indexOf 11 = .ok (.getfield 11, 3) := by decide +kernel
theorem dX8_indexOf_14 : decode cX8_indexOf 14 = .ok (.iload_n 3, 1) := by decide +kernel
theorem dX8_indexOf_15 : decode cX8_indexOf 15 = .ok (.laload, 1) := by decide +kernel
theorem dX8_indexOf_16 : decode cX8_indexOf 16 = .ok (.lload_n 1, 1) := by decide +kernel
theorem dX8_indexOf_17 : decode cX8_indexOf 17 = .ok (.lcmp, 1) := by decide +kernel
theorem dX8_indexOf_18 : decode cX8_indexOf 18 = .ok (.ifCond .ne 5, 3) := by decide +kernel
theorem dX8_indexOf_21 : decode cX8_indexOf 21 = .ok (.iload_n 3, 1) := by decide +kernel
theorem dX8_indexOf_22 : decode cX8_indexOf 22 = .ok (.ireturn, 1) := by decide +kernel
theorem dX8_indexOf_23 : decode cX8_indexOf 23 = .ok (.iinc 3 1, 3) := by decide +kernel
theorem dX8_indexOf_26 : decode cX8_indexOf 26 = .ok (.goto (-24), 3) := by decide +kernel
theorem dX8_indexOf_29 : decode cX8_indexOf 29 = .ok (.ldc 31, 2) := by decide +kernel
theorem dX8_indexOf_31 : decode cX8_indexOf 31 = .ok (.ireturn, 1) := by decide +kernel
theorem dX9_init_0 : decode cX9_init 0 = .ok (.aload_n 0, 1) := by decide +kernel
theorem dX9_init_1 : decode cX9_init 1 = .ok (.iload_n 1, 1) := by decide +kernel
theorem dX9_init_2 : decode cX9_init 2 = .ok (.aload_n 2, 1) := by decide +kernel
theorem dX9_init_3 : decode cX9_init 3 = .ok (.iload_n 3, 1) := by decide +kernel
theorem dX9_init_4 : decode cX9_init 4 = .ok (.invokespecial 1, 3) := by decide +kernel
theorem dX9_init_7 : decode cX9_init 7 = .ok (.return_, 1) := by decide +kernel
theorem dX9_kindNumber_0 : decode cX9_kindNumber 0 = .ok (.iconst 1, 1) := by decide +kernel
theorem dX9_kindNumber_1 : decode cX9_kindNumber 1 = .ok (.ireturn, 1) := by decide +kernel
theorem dX9_sizeAsked_0 : decode cX9_sizeAsked 0 = .ok (.aload_n 1, 1) := by decide +kernel
theorem dX9_sizeAsked_1 : decode cX9_sizeAsked 1 = .ok (.bipush 11, 2) := by decide +kernel
theorem dX9_sizeAsked_3 : decode cX9_sizeAsked 3 = .ok (.invokevirtual 7, 3) := by decide +kernel
theorem dX9_sizeAsked_6 : decode cX9_sizeAsked 6 = .ok (.aload_n 0, 1) := by decide +kernel
theorem dX9_sizeAsked_7 : decode cX9_sizeAsked 7 = .ok (.aload_n 1, 1) := by decide +kernel
theorem dX9_sizeAsked_8 : decode cX9_sizeAsked 8 = .ok (.invokespecial 13, 3) := by decide +kernel
theorem dX9_sizeAsked_11 : decode cX9_sizeAsked 11 = .ok (.aload_n 0, 1) := by decide +kernel
theorem dX9_sizeAsked_12 : decode cX9_sizeAsked 12 = .ok (.getfield 17, 3) := by decide +kernel
theorem dX9_sizeAsked_15 : decode cX9_sizeAsked 15 = .ok (.arraylength, 1) := by decide +kernel
theorem dX9_sizeAsked_16 : decode cX9_sizeAsked 16 = .ok (.iadd, 1) := by decide +kernel
theorem dX9_sizeAsked_17 : decode cX9_sizeAsked 17 = .ok (.ireturn, 1) := by decide +kernel
theorem dX10_init_0 : decode cX10_init 0 = .ok (.aload_n 0, 1) := by decide +kernel
theorem dX10_init_1 : decode cX10_init 1 = .ok (.iload_n 1, 1) := by decide +kernel
theorem dX10_init_2 : decode cX10_init 2 = .ok (.aload_n 2, 1) := by decide +kernel
theorem dX10_init_3 : decode cX10_init 3 = .ok (.iload_n 3, 1) := by decide +kernel
theorem dX10_init_4 : decode cX10_init 4 = .ok (.invokespecial 1, 3) := by decide +kernel
theorem dX10_init_7 : decode cX10_init 7 = .ok (.return_, 1) := by decide +kernel
theorem dX10_kindNumber_0 : decode cX10_kindNumber 0 = .ok (.iconst 2, 1) := by decide +kernel
theorem dX10_kindNumber_1 : decode cX10_kindNumber 1 = .ok (.ireturn, 1) := by decide +kernel
theorem dX10_sizeAsked_0 : decode cX10_sizeAsked 0 = .ok (.aload_n 1, 1) := by decide +kernel
theorem dX10_sizeAsked_1 : decode cX10_sizeAsked 1 = .ok (.bipush 12, 2) := by decide +kernel
theorem dX10_sizeAsked_3 : decode cX10_sizeAsked 3 = .ok (.invokevirtual 7, 3) := by decide +kernel
theorem dX10_sizeAsked_6 : decode cX10_sizeAsked 6 = .ok (.aload_n 0, 1) := by decide +kernel
theorem dX10_sizeAsked_7 : decode cX10_sizeAsked 7 = .ok (.aload_n 1, 1) := by decide +kernel
theorem dX10_sizeAsked_8 : decode cX10_sizeAsked 8 = .ok (.invokespecial 13, 3) := by decide +kernel
theorem dX10_sizeAsked_11 : decode cX10_sizeAsked 11 = .ok (.aload_n 0, 1) := by decide +kernel
theorem dX10_sizeAsked_12 : decode cX10_sizeAsked 12 = .ok (.iconst 0, 1) := by decide +kernel
theorem dX10_sizeAsked_13 : decode cX10_sizeAsked 13 = .ok (.invokevirtual 17, 3) := by decide +kernel
theorem dX10_sizeAsked_16 : decode cX10_sizeAsked 16 = .ok (.iadd, 1) := by decide +kernel
theorem dX10_sizeAsked_17 : decode cX10_sizeAsked 17 = .ok (.ireturn, 1) := by decide +kernel
theorem dX10_markAsked_0 : decode cX10_markAsked 0 = .ok (.aload_n 1, 1) := by decide +kernel
theorem dX10_markAsked_1 : decode cX10_markAsked 1 = .ok (.bipush 21, 2) := by decide +kernel
theorem dX10_markAsked_3 : decode cX10_markAsked 3 = .ok (.invokevirtual 7, 3) := by decide +kernel
theorem dX10_markAsked_6 : decode cX10_markAsked 6 = .ok (.aload_n 0, 1) := by decide +kernel
theorem dX10_markAsked_7 : decode cX10_markAsked 7 = .ok (.aload_n 1, 1) := by decide +kernel
theorem dX10_markAsked_8 : decode cX10_markAsked 8 = .ok (.invokespecial 23, 3) := by decide +kernel
theorem dX10_markAsked_11 : decode cX10_markAsked 11 = .ok (.bipush 100, 2) := by decide +kernel
theorem dX10_markAsked_13 : decode cX10_markAsked 13 = .ok (.iadd, 1) := by decide +kernel
theorem dX10_markAsked_14 : decode cX10_markAsked 14 = .ok (.ireturn, 1) := by decide +kernel
theorem dX11_init_0 : decode cX11_init 0 = .ok (.aload_n 0, 1) := by decide +kernel
theorem dX11_init_1 : decode cX11_init 1 = .ok (.invokespecial 1, 3) := by decide +kernel
theorem dX11_init_4 : decode cX11_init 4 = .ok (.aload_n 0, 1) := by decide +kernel
theorem dX11_init_5 : decode cX11_init 5 = .ok (.bipush 8, 2) := by decide +kernel
theorem dX11_init_7 : decode cX11_init 7 = .ok (.anewarray 9, 3) := by decide +kernel
theorem dX11_init_10 : decode cX11_init 10 = .ok (.putfield 11, 3) := by decide +kernel
theorem dX11_init_13 : decode cX11_init 13 = .ok (.iconst 0, 1) := by decide +kernel
theorem dX11_init_14 : decode cX11_init 14 = .ok (.istore_n 1, 1) := by decide +kernel
theorem dX11_init_15 : decode cX11_init 15 = .ok (.iload_n 1, 1) := by decide +kernel
theorem dX11_init_16 : decode cX11_init 16 = .ok (.bipush 8, 2) := by decide +kernel
theorem dX11_init_18 : decode cX11_init 18 = .ok (.if_icmp .ge 24, 3) := by decide +kernel
theorem dX11_init_21 : decode cX11_init 21 = .ok (.aload_n 0, 1) := by decide +kernel
theorem dX11_init_22 : decode cX11_init 22 = .ok (.getfield 11, 3) := by decide +kernel
theorem dX11_init_25 : decode cX11_init 25 = .ok (.iload_n 1, 1) := by decide +kernel
theorem dX11_init_26 : decode cX11_init 26 = .ok (.new 9, 3) := by decide +kernel
theorem dX11_init_29 : decode cX11_init 29 = .ok (.dup, 1) := by decide +kernel
theorem dX11_init_30 : decode cX11_init 30 = .ok (.bipush 96, 2) := by decide +kernel
theorem dX11_init_32 : decode cX11_init 32 = .ok (.invokespecial 15, 3) := by decide +kernel
theorem dX11_init_35 : decode cX11_init 35 = .ok (.aastore, 1) := by decide +kernel
theorem dX11_init_36 : decode cX11_init 36 = .ok (.iinc 1 1, 3) := by decide +kernel
theorem dX11_init_39 : decode cX11_init 39 = .ok (.goto (-24), 3) := by decide +kernel
theorem dX11_init_42 : decode cX11_init 42 = .ok (.aload_n 0, 1) := by decide +kernel
theorem dX11_init_43 : decode cX11_init 43 = .ok (.bipush 10, 2) := by decide +kernel
theorem dX11_init_45 : decode cX11_init 45 = .ok (.anewarray 18, 3) := by decide +kernel
theorem dX11_init_48 : decode cX11_init 48 = .ok (.putfield 20, 3) := by decide +kernel
theorem dX11_init_51 : decode cX11_init 51 = .ok (.aload_n 0, 1) := by decide +kernel
theorem dX11_init_52 : decode cX11_init 52 = .ok (.new 9, 3) := by decide +kernel
theorem dX11_init_55 : decode cX11_init 55 = .ok (.dup, 1) := by decide +kernel
theorem dX11_init_56 : decode cX11_init 56 = .ok (.bipush 16, 2) := by decide +kernel
theorem dX11_init_58 : decode cX11_init 58 = .ok (.invokespecial 15, 3) := by decide +kernel
theorem dX11_init_61 : decode cX11_init 61 = .ok (.putfield 24, 3) := by decide +kernel
theorem dX11_init_64 : decode cX11_init 64 = .ok (.aload_n 0, 1) := by decide +kernel
theorem dX11_init_65 : decode cX11_init 65 = .ok (.getfield 24, 3) := by decide +kernel
theorem dX11_init_68 : decode cX11_init 68 = .ok (.iconst 2, 1) := by decide +kernel
theorem dX11_init_69 : decode cX11_init 69 = .ok (.iconst 0, 1) := by decide +kernel
theorem dX11_init_70 : decode cX11_init 70 = .ok (.invokevirtual 28, 3) := by decide +kernel
theorem dX11_init_73 : decode cX11_init 73 = .ok (.aload_n 0, 1) := by decide +kernel
theorem dX11_init_74 : decode cX11_init 74 = .ok (.new 32, 3) := by decide +kernel
theorem dX11_init_77 : decode cX11_init 77 = .ok (.dup, 1) := by decide +kernel
theorem dX11_init_78 : decode cX11_init 78 = .ok (.invokespecial 34, 3) := by decide +kernel
theorem dX11_init_81 : decode cX11_init 81 = .ok (.putfield 35, 3) := by decide +kernel
theorem dX11_init_84 : decode cX11_init 84 = .ok (.aload_n 0, 1) := by decide +kernel
theorem dX11_init_85 : decode cX11_init 85 = .ok (.new 39, 3) := by decide +kernel
theorem dX11_init_88 : decode cX11_init 88 = .ok (.dup, 1) := by decide +kernel
theorem dX11_init_89 : decode cX11_init 89 = .ok (.invokespecial 41, 3) := by decide +kernel
theorem dX11_init_92 : decode cX11_init 92 = .ok (.putfield 42, 3) := by decide +kernel
theorem dX11_init_95 : decode cX11_init 95 = .ok (.aload_n 0, 1) := by decide +kernel
theorem dX11_init_96 : decode cX11_init 96 = .ok (.new 46, 3) := by decide +kernel
theorem dX11_init_99 : decode cX11_init 99 = .ok (.dup, 1) := by decide +kernel
theorem dX11_init_100 : decode cX11_init 100 = .ok (.invokespecial 48, 3) := by decide +kernel
theorem dX11_init_103 : decode cX11_init 103 = .ok (.putfield 49, 3) := by decide +kernel
theorem dX11_init_106 : decode cX11_init 106 = .ok (.aload_n 0, 1) := by decide +kernel
theorem dX11_init_107 : decode cX11_init 107 = .ok (.new 53, 3) := by decide +kernel
theorem dX11_init_110 : decode cX11_init 110 = .ok (.dup, 1) := by decide +kernel
theorem dX11_init_111 : decode cX11_init 111 = .ok (.invokespecial 55, 3) := by decide +kernel
theorem dX11_init_114 : decode cX11_init 114 = .ok (.putfield 56, 3) := by decide +kernel
theorem dX11_init_117 : decode cX11_init 117 = .ok (.return_, 1) := by decide +kernel
theorem dX11_row_0 : decode cX11_row 0 = .ok (.iload_n 1, 1) := by decide +kernel
theorem dX11_row_1 : decode cX11_row 1 = .ok (.invokestatic 60, 3) := by decide +kernel
theorem dX11_row_4 : decode cX11_row 4 = .ok (.ifCond .ne 18, 3) := by decide +kernel
theorem dX11_row_7 : decode cX11_row 7 = .ok (.iload_n 2, 1) := by decide +kernel
theorem dX11_row_8 : decode cX11_row 8 = .ok (.ifCond .lt 14, 3) := by decide +kernel
theorem dX11_row_11 : decode cX11_row 11 = .ok (.iload_n 2, 1) := by decide +kernel
theorem dX11_row_12 : decode cX11_row 12 = .ok (.iconst 2, 1) := by decide +kernel
theorem dX11_row_13 : decode cX11_row 13 = .ok (.if_icmp .gt 9, 3) := by decide +kernel
theorem dX11_row_16 : decode cX11_row 16 = .ok (.iload_n 3, 1) := by decide +kernel
theorem dX11_row_17 : decode cX11_row 17 = .ok (.bipush 96, 2) := by decide +kernel
theorem dX11_row_19 : decode cX11_row 19 = .ok (.if_icmp .le 6, 3) := by decide +kernel
theorem dX11_row_22 : decode cX11_row 22 = .ok (.ldc 64, 2) := by decide +kernel
theorem dX11_row_24 : decode cX11_row 24 = .ok (.ireturn, 1) := by decide +kernel
theorem dX11_row_25 : decode cX11_row 25 = .ok (.iload_n 3, 1) := by decide +kernel
theorem dX11_row_26 : decode cX11_row 26 = .ok (.ifCond .ge 9, 3) := by decide +kernel
theorem dX11_row_29 : decode cX11_row 29 = .ok (.aload_n 0, 1) := by decide +kernel
theorem dX11_row_30 : decode cX11_row 30 = .ok (.iconst 4, 1) := by decide +kernel
theorem dX11_row_31 : decode cX11_row 31 = .ok (.invokevirtual 65, 3) := by decide +kernel
theorem dX11_row_34 : decode cX11_row 34 = .ok (.ireturn, 1) := by decide +kernel
theorem dX11_row_35 : decode cX11_row 35 = .ok (.aload_n 0, 1) := by decide +kernel
theorem dX11_row_36 : decode cX11_row 36 = .ok (.getfield 11, 3) := by decide +kernel
theorem dX11_row_39 : decode cX11_row 39 = .ok (.iload_n 1, 1) := by decide +kernel
theorem dX11_row_40 : decode cX11_row 40 = .ok (.aaload, 1) := by decide +kernel
theorem dX11_row_41 : decode cX11_row 41 = .ok (.iload_n 2, 1) := by decide +kernel
theorem dX11_row_42 : decode cX11_row 42 = .ok (.iload_n 3, 1) := by decide +kernel
theorem dX11_row_43 : decode cX11_row 43 = .ok (.invokevirtual 28, 3) := by decide +kernel
theorem dX11_row_46 : decode cX11_row 46 = .ok (.aload_n 0, 1) := by decide +kernel
theorem dX11_row_47 : decode cX11_row 47 = .ok (.iload_n 3, 1) := by decide +kernel
theorem dX11_row_48 : decode cX11_row 48 = .ok (.invokevirtual 69, 3) := by decide +kernel
theorem dX11_row_51 : decode cX11_row 51 = .ok (.ireturn, 1) := by decide +kernel
theorem dX11_set_0 : decode cX11_set 0 = .ok (.iload_n 1, 1) := by decide +kernel
theorem dX11_set_1 : decode cX11_set 1 = .ok (.invokestatic 60, 3) := by decide +kernel
theorem dX11_set_4 : decode cX11_set 4 = .ok (.ifCond .eq 6, 3) := by decide +kernel
theorem dX11_set_7 : decode cX11_set 7 = .ok (.ldc 64, 2) := by decide +kernel
theorem dX11_set_9 : decode cX11_set 9 = .ok (.ireturn, 1) := by decide +kernel
theorem dX11_set_10 : decode cX11_set 10 = .ok (.aload_n 0, 1) := by decide +kernel
theorem dX11_set_11 : decode cX11_set 11 = .ok (.getfield 11, 3) := by decide +kernel
theorem dX11_set_14 : decode cX11_set 14 = .ok (.iload_n 1, 1) := by decide +kernel
theorem dX11_set_15 : decode cX11_set 15 = .ok (.aaload, 1) := by decide +kernel
theorem dX11_set_16 : decode cX11_set 16 = .ok (.astore 4, 2) := by decide +kernel
theorem dX11_set_18 : decode cX11_set 18 = .ok (.aload 4, 2) := by decide +kernel
theorem dX11_set_20 : decode cX11_set 20 = .ok (.invokevirtual 72, 3) := by decide +kernel
theorem dX11_set_23 : decode cX11_set 23 = .ok (.ifCond .eq 9, 3) := by decide +kernel
theorem dX11_set_26 : decode cX11_set 26 = .ok (.aload_n 0, 1) := by decide +kernel
theorem dX11_set_27 : decode cX11_set 27 = .ok (.iconst 1, 1) := by decide +kernel
theorem dX11_set_28 : decode cX11_set 28 = .ok (.invokevirtual 65, 3) := by decide +kernel
theorem dX11_set_31 : decode cX11_set 31 = .ok (.ireturn, 1) := by decide +kernel
theorem dX11_set_32 : decode cX11_set 32 = .ok (.aload 4, 2) := by decide +kernel
theorem dX11_set_34 : decode cX11_set 34 = .ok (.iload_n 2, 1) := by decide +kernel
theorem dX11_set_35 : decode cX11_set 35 = .ok (.iconst 1, 1) := by decide +kernel
theorem dX11_set_36 : decode cX11_set 36 = .ok (.invokevirtual 76, 3) := by decide +kernel
theorem dX11_set_39 : decode cX11_set 39 = .ok (.ifCond .ne 9, 3) := by decide +kernel
theorem dX11_set_42 : decode cX11_set 42 = .ok (.aload_n 0, 1) := by decide +kernel
theorem dX11_set_43 : decode cX11_set 43 = .ok (.iconst 2, 1) := by decide +kernel
theorem dX11_set_44 : decode cX11_set 44 = .ok (.invokevirtual 65, 3) := by decide +kernel
theorem dX11_set_47 : decode cX11_set 47 = .ok (.ireturn, 1) := by decide +kernel
theorem dX11_set_48 : decode cX11_set 48 = .ok (.aload_n 0, 1) := by decide +kernel
theorem dX11_set_49 : decode cX11_set 49 = .ok (.aload 4, 2) := by decide +kernel
theorem dX11_set_51 : decode cX11_set 51 = .ok (.iload_n 2, 1) := by decide +kernel
theorem dX11_set_52 : decode cX11_set 52 = .ok (.iload_n 3, 1) := by decide +kernel
theorem dX11_set_53 : decode cX11_set 53 = .ok (.invokevirtual 80, 3) := by decide +kernel
theorem dX11_set_56 : decode cX11_set 56 = .ok (.invokevirtual 69, 3) := by decide +kernel
theorem dX11_set_59 : decode cX11_set 59 = .ok (.ireturn, 1) := by decide +kernel
theorem dX11_copy_0 : decode cX11_copy 0 = .ok (.iload_n 1, 1) := by decide +kernel
theorem dX11_copy_1 : decode cX11_copy 1 = .ok (.invokestatic 60, 3) := by decide +kernel
theorem dX11_copy_4 : decode cX11_copy 4 = .ok (.ifCond .ne 10, 3) := by decide +kernel
theorem dX11_copy_7 : decode cX11_copy 7 = .ok (.iload_n 3, 1) := by decide +kernel
theorem dX11_copy_8 : decode cX11_copy 8 = .ok (.invokestatic 60, 3) := by decide +kernel
theorem dX11_copy_11 : decode cX11_copy 11 = .ok (.ifCond .eq 6, 3) := by decide +kernel
theorem dX11_copy_14 : decode cX11_copy 14 = .ok (.ldc 64, 2) := by decide +kernel
theorem dX11_copy_16 : decode cX11_copy 16 = .ok (.ireturn, 1) := by decide +kernel
theorem dX11_copy_17 : decode cX11_copy 17 = .ok (.aload_n 0, 1) := by decide +kernel
theorem dX11_copy_18 : decode cX11_copy 18 = .ok (.getfield 11, 3) := by decide +kernel
theorem dX11_copy_21 : decode cX11_copy 21 = .ok (.iload_n 1, 1) := by decide +kernel
theorem dX11_copy_22 : decode cX11_copy 22 = .ok (.aaload, 1) := by decide +kernel
theorem dX11_copy_23 : decode cX11_copy 23 = .ok (.astore 6, 2) := by decide +kernel
theorem dX11_copy_25 : decode cX11_copy 25 = .ok (.aload_n 0, 1) := by decide +kernel
theorem dX11_copy_26 : decode cX11_copy 26 = .ok (.getfield 11, 3) := by decide +kernel
theorem dX11_copy_29 : decode cX11_copy 29 = .ok (.iload_n 3, 1) := by decide +kernel
theorem dX11_copy_30 : decode cX11_copy 30 = .ok (.aaload, 1) := by decide +kernel
theorem dX11_copy_31 : decode cX11_copy 31 = .ok (.astore 7, 2) := by decide +kernel
theorem dX11_copy_33 : decode cX11_copy 33 = .ok (.aload 6, 2) := by decide +kernel
theorem dX11_copy_35 : decode cX11_copy 35 = .ok (.invokevirtual 72, 3) := by decide +kernel
theorem dX11_copy_38 : decode cX11_copy 38 = .ok (.ifCond .ne 11, 3) := by decide +kernel
theorem dX11_copy_41 : decode cX11_copy 41 = .ok (.aload 7, 2) := by decide +kernel
theorem dX11_copy_43 : decode cX11_copy 43 = .ok (.invokevirtual 72, 3) := by decide +kernel
theorem dX11_copy_46 : decode cX11_copy 46 = .ok (.ifCond .eq 9, 3) := by decide +kernel
theorem dX11_copy_49 : decode cX11_copy 49 = .ok (.aload_n 0, 1) := by decide +kernel
theorem dX11_copy_50 : decode cX11_copy 50 = .ok (.iconst 1, 1) := by decide +kernel
theorem dX11_copy_51 : decode cX11_copy 51 = .ok (.invokevirtual 65, 3) := by decide +kernel
theorem dX11_copy_54 : decode cX11_copy 54 = .ok (.ireturn, 1) := by decide +kernel
theorem dX11_copy_55 : decode cX11_copy 55 = .ok (.aload 6, 2) := by decide +kernel
theorem dX11_copy_57 : decode cX11_copy 57 = .ok (.getfield 84, 3) := by decide +kernel
theorem dX11_copy_60 : decode cX11_copy 60 = .ok (.aload 7, 2) := by decide +kernel
theorem dX11_copy_62 : decode cX11_copy 62 = .ok (.getfield 84, 3) := by decide +kernel
theorem dX11_copy_65 : decode cX11_copy 65 = .ok (.if_icmp .eq 9, 3) := by decide +kernel
theorem dX11_copy_68 : decode cX11_copy 68 = .ok (.aload_n 0, 1) := by decide +kernel
theorem dX11_copy_69 : decode cX11_copy 69 = .ok (.iconst 5, 1) := by decide +kernel
theorem dX11_copy_70 : decode cX11_copy 70 = .ok (.invokevirtual 65, 3) := by decide +kernel
theorem dX11_copy_73 : decode cX11_copy 73 = .ok (.ireturn, 1) := by decide +kernel
theorem dX11_copy_74 : decode cX11_copy 74 = .ok (.aload 6, 2) := by decide +kernel
theorem dX11_copy_76 : decode cX11_copy 76 = .ok (.iload_n 2, 1) := by decide +kernel
theorem dX11_copy_77 : decode cX11_copy 77 = .ok (.iload 5, 2) := by decide +kernel
theorem dX11_copy_79 : decode cX11_copy 79 = .ok (.invokevirtual 76, 3) := by decide +kernel
theorem dX11_copy_82 : decode cX11_copy 82 = .ok (.ifCond .eq 15, 3) := by decide +kernel
theorem dX11_copy_85 : decode cX11_copy 85 = .ok (.aload 7, 2) := by decide +kernel
theorem dX11_copy_87 : decode cX11_copy 87 = .ok (.iload 4, 2) := by decide +kernel
theorem dX11_copy_89 : decode cX11_copy 89 = .ok (.iload 5, 2) := by decide +kernel
theorem dX11_copy_91 : decode cX11_copy 91 = .ok (.invokevirtual 76, 3) := by decide +kernel
theorem dX11_copy_94 : decode cX11_copy 94 = .ok (.ifCond .ne 9, 3) := by decide +kernel
theorem dX11_copy_97 : decode cX11_copy 97 = .ok (.aload_n 0, 1) := by decide +kernel
theorem dX11_copy_98 : decode cX11_copy 98 = .ok (.iconst 2, 1) := by decide +kernel
theorem dX11_copy_99 : decode cX11_copy 99 = .ok (.invokevirtual 65, 3) := by decide +kernel
theorem dX11_copy_102 : decode cX11_copy 102 = .ok (.ireturn, 1) := by decide +kernel
theorem dX11_copy_103 : decode cX11_copy 103 = .ok (.aload 7, 2) := by decide +kernel
theorem dX11_copy_105 : decode cX11_copy 105 = .ok (.iload 4, 2) := by decide +kernel
theorem dX11_copy_107 : decode cX11_copy 107 = .ok (.aload 6, 2) := by decide +kernel
theorem dX11_copy_109 : decode cX11_copy 109 = .ok (.iload_n 2, 1) := by decide +kernel
theorem dX11_copy_110 : decode cX11_copy 110 = .ok (.iload 5, 2) := by decide +kernel
theorem dX11_copy_112 : decode cX11_copy 112 = .ok (.invokevirtual 88, 3) := by decide +kernel
theorem dX11_copy_115 : decode cX11_copy 115 = .ok (.aload_n 0, 1) := by decide +kernel
theorem dX11_copy_116 : decode cX11_copy 116 = .ok (.iload 5, 2) := by decide +kernel
theorem dX11_copy_118 : decode cX11_copy 118 = .ok (.invokevirtual 69, 3) := by decide +kernel
theorem dX11_copy_121 : decode cX11_copy 121 = .ok (.ireturn, 1) := by decide +kernel
theorem dX11_drop_0 : decode cX11_drop 0 = .ok (.iload_n 1, 1) := by decide +kernel
theorem dX11_drop_1 : decode cX11_drop 1 = .ok (.invokestatic 60, 3) := by decide +kernel
theorem dX11_drop_4 : decode cX11_drop 4 = .ok (.ifCond .eq 6, 3) := by decide +kernel
theorem dX11_drop_7 : decode cX11_drop 7 = .ok (.ldc 64, 2) := by decide +kernel
theorem dX11_drop_9 : decode cX11_drop 9 = .ok (.ireturn, 1) := by decide +kernel
theorem dX11_drop_10 : decode cX11_drop 10 = .ok (.aload_n 0, 1) := by decide +kernel
theorem dX11_drop_11 : decode cX11_drop 11 = .ok (.getfield 11, 3) := by decide +kernel
theorem dX11_drop_14 : decode cX11_drop 14 = .ok (.iload_n 1, 1) := by decide +kernel
theorem dX11_drop_15 : decode cX11_drop 15 = .ok (.aaload, 1) := by decide +kernel
theorem dX11_drop_16 : decode cX11_drop 16 = .ok (.astore_n 2, 1) := by decide +kernel
theorem dX11_drop_17 : decode cX11_drop 17 = .ok (.aload_n 2, 1) := by decide +kernel
theorem dX11_drop_18 : decode cX11_drop 18 = .ok (.invokevirtual 72, 3) := by decide +kernel
theorem dX11_drop_21 : decode cX11_drop 21 = .ok (.ifCond .eq 9, 3) := by decide +kernel
theorem dX11_drop_24 : decode cX11_drop 24 = .ok (.aload_n 0, 1) := by decide +kernel
theorem dX11_drop_25 : decode cX11_drop 25 = .ok (.iconst 1, 1) := by decide +kernel
theorem dX11_drop_26 : decode cX11_drop 26 = .ok (.invokevirtual 65, 3) := by decide +kernel
theorem dX11_drop_29 : decode cX11_drop 29 = .ok (.ireturn, 1) := by decide +kernel
theorem dX11_drop_30 : decode cX11_drop 30 = .ok (.aload_n 2, 1) := by decide +kernel
theorem dX11_drop_31 : decode cX11_drop 31 = .ok (.getfield 92, 3) := by decide +kernel
theorem dX11_drop_34 : decode cX11_drop 34 = .ok (.istore_n 3, 1) := by decide +kernel
theorem dX11_drop_35 : decode cX11_drop 35 = .ok (.aload_n 2, 1) := by decide +kernel
theorem dX11_drop_36 : decode cX11_drop 36 = .ok (.invokevirtual 95, 3) := by decide +kernel
theorem dX11_drop_39 : decode cX11_drop 39 = .ok (.aload_n 0, 1) := by decide +kernel
theorem dX11_drop_40 : decode cX11_drop 40 = .ok (.iload_n 3, 1) := by decide +kernel
theorem dX11_drop_41 : decode cX11_drop 41 = .ok (.invokevirtual 69, 3) := by decide +kernel
theorem dX11_drop_44 : decode cX11_drop 44 = .ok (.ireturn, 1) := by decide +kernel
theorem dX11_cover_0 : decode cX11_cover 0 = .ok (.iload_n 1, 1) := by decide +kernel
theorem dX11_cover_1 : decode cX11_cover 1 = .ok (.invokestatic 98, 3) := by decide +kernel
theorem dX11_cover_4 : decode cX11_cover 4 = .ok (.ifCond .ne 36, 3) := by decide +kernel
theorem dX11_cover_7 : decode cX11_cover 7 = .ok (.iload_n 2, 1) := by decide +kernel
theorem dX11_cover_8 : decode cX11_cover 8 = .ok (.invokestatic 60, 3) := by decide +kernel
theorem dX11_cover_11 : decode cX11_cover 11 = .ok (.ifCond .ne 29, 3) := by decide +kernel
theorem dX11_cover_14 : decode cX11_cover 14 = .ok (.iload 4, 2) := by decide +kernel
theorem dX11_cover_16 : decode cX11_cover 16 = .ok (.iconst 1, 1) := by decide +kernel
theorem dX11_cover_17 : decode cX11_cover 17 = .ok (.if_icmp .lt 23, 3) := by decide +kernel
theorem dX11_cover_20 : decode cX11_cover 20 = .ok (.iload 4, 2) := by decide +kernel
theorem dX11_cover_22 : decode cX11_cover 22 = .ok (.bipush 12, 2) := by decide +kernel
theorem dX11_cover_24 : decode cX11_cover 24 = .ok (.if_icmp .gt 16, 3) := by decide +kernel
theorem dX11_cover_27 : decode cX11_cover 27 = .ok (.iload 5, 2) := by decide +kernel
theorem dX11_cover_29 : decode cX11_cover 29 = .ok (.iconst 1, 1) := by decide +kernel
theorem dX11_cover_30 : decode cX11_cover 30 = .ok (.if_icmp .lt 10, 3) := by decide +kernel
theorem dX11_cover_33 : decode cX11_cover 33 = .ok (.iload 5, 2) := by decide +kernel
theorem dX11_cover_35 : decode cX11_cover 35 = .ok (.bipush 8, 2) := by decide +kernel
theorem dX11_cover_37 : decode cX11_cover 37 = .ok (.if_icmp .le 6, 3) := by decide +kernel
theorem dX11_cover_40 : decode cX11_cover 40 = .ok (.ldc 64, 2) := by decide +kernel
theorem dX11_cover_42 : decode cX11_cover 42 = .ok (.ireturn, 1) := by decide +kernel
theorem dX11_cover_43 : decode cX11_cover 43 = .ok (.aload_n 0, 1) := by decide +kernel
theorem dX11_cover_44 : decode cX11_cover 44 = .ok (.getfield 11, 3) := by decide +kernel
theorem dX11_cover_47 : decode cX11_cover 47 = .ok (.iload_n 2, 1) := by decide +kernel
theorem dX11_cover_48 : decode cX11_cover 48 = .ok (.aaload, 1) := by decide +kernel
theorem dX11_cover_49 : decode cX11_cover 49 = .ok (.astore 6, 2) := by decide +kernel
theorem dX11_cover_51 : decode cX11_cover 51 = .ok (.aload 6, 2) := by decide +kernel
theorem dX11_cover_53 : decode cX11_cover 53 = .ok (.invokevirtual 72, 3) := by decide +kernel
theorem dX11_cover_56 : decode cX11_cover 56 = .ok (.ifCond .eq 9, 3) := by decide +kernel
theorem dX11_cover_59 : decode cX11_cover 59 = .ok (.aload_n 0, 1) := by decide +kernel
theorem dX11_cover_60 : decode cX11_cover 60 = .ok (.iconst 1, 1) := by decide +kernel
theorem dX11_cover_61 : decode cX11_cover 61 = .ok (.invokevirtual 65, 3) := by decide +kernel
theorem dX11_cover_64 : decode cX11_cover 64 = .ok (.ireturn, 1) := by decide +kernel
theorem dX11_cover_65 : decode cX11_cover 65 = .ok (.aload 6, 2) := by decide +kernel
theorem dX11_cover_67 : decode cX11_cover 67 = .ok (.iload_n 3, 1) := by decide +kernel
theorem dX11_cover_68 : decode cX11_cover 68 = .ok (.iload 4, 2) := by decide +kernel
theorem dX11_cover_70 : decode cX11_cover 70 = .ok (.iload 5, 2) := by decide +kernel
theorem dX11_cover_72 : decode cX11_cover 72 = .ok (.iconst 1, 1) := by decide +kernel
theorem dX11_cover_73 : decode cX11_cover 73 = .ok (.isub, 1) := by decide +kernel
theorem dX11_cover_74 : decode cX11_cover 74 = .ok (.imul, 1) := by decide +kernel
theorem dX11_cover_75 : decode cX11_cover 75 = .ok (.invokevirtual 76, 3) := by decide +kernel
theorem dX11_cover_78 : decode cX11_cover 78 = .ok (.ifCond .ne 9, 3) := by decide +kernel
theorem dX11_cover_81 : decode cX11_cover 81 = .ok (.aload_n 0, 1) := by decide +kernel
theorem dX11_cover_82 : decode cX11_cover 82 = .ok (.iconst 2, 1) := by decide +kernel
theorem dX11_cover_83 : decode cX11_cover 83 = .ok (.invokevirtual 65, 3) := by decide +kernel
theorem dX11_cover_86 : decode cX11_cover 86 = .ok (.ireturn, 1) := by decide +kernel
theorem dX11_cover_87 : decode cX11_cover 87 = .ok (.iload 5, 2) := by decide +kernel
theorem dX11_cover_89 : decode cX11_cover 89 = .ok (.newarray .long, 2) := by decide +kernel
theorem dX11_cover_91 : decode cX11_cover 91 = .ok (.astore 7, 2) := by decide +kernel
theorem dX11_cover_93 : decode cX11_cover 93 = .ok (.iload 4, 2) := by decide +kernel
theorem dX11_cover_95 : decode cX11_cover 95 = .ok (.invokestatic 101, 3) := by decide +kernel
theorem dX11_cover_98 : decode cX11_cover 98 = .ok (.lstore 8, 2) := by decide +kernel
theorem dX11_cover_100 : decode cX11_cover 100 = .ok (.iconst 0, 1) := by decide +kernel
theorem dX11_cover_101 : decode cX11_cover 101 = .ok (.istore 10, 2) := by decide +kernel
theorem dX11_cover_103 : decode cX11_cover 103 = .ok (.iload 10, 2) := by decide +kernel
theorem dX11_cover_105 : decode cX11_cover 105 = .ok (.iload 5, 2) := by decide +kernel
theorem dX11_cover_107 : decode cX11_cover 107 = .ok (.iconst 1, 1) := by decide +kernel
theorem dX11_cover_108 : decode cX11_cover 108 = .ok (.isub, 1) := by decide +kernel
theorem dX11_cover_109 : decode cX11_cover 109 = .ok (.if_icmp .ge 57, 3) := by decide +kernel
theorem dX11_cover_112 : decode cX11_cover 112 = .ok (.aload 7, 2) := by decide +kernel
theorem dX11_cover_114 : decode cX11_cover 114 = .ok (.iload 10, 2) := by decide +kernel
theorem dX11_cover_116 : decode cX11_cover 116 = .ok (.aload 6, 2) := by decide +kernel
theorem dX11_cover_118 : decode cX11_cover 118 = .ok (.iload_n 3, 1) := by decide +kernel
theorem dX11_cover_119 : decode cX11_cover 119 = .ok (.iload 10, 2) := by decide +kernel
theorem dX11_cover_121 : decode cX11_cover 121 = .ok (.iload 4, 2) := by decide +kernel
theorem dX11_cover_123 : decode cX11_cover 123 = .ok (.imul, 1) := by decide +kernel
theorem dX11_cover_124 : decode cX11_cover 124 = .ok (.iadd, 1) := by decide +kernel
theorem dX11_cover_125 : decode cX11_cover 125 = .ok (.iload 4, 2) := by decide +kernel
theorem dX11_cover_127 : decode cX11_cover 127 = .ok (.invokevirtual 107, 3) := by decide +kernel
theorem dX11_cover_130 : decode cX11_cover 130 = .ok (.lastore, 1) := by decide +kernel
theorem dX11_cover_131 : decode cX11_cover 131 = .ok (.aload 7, 2) := by decide +kernel
theorem dX11_cover_133 : decode cX11_cover 133 = .ok (.iload 10, 2) := by decide +kernel
theorem dX11_cover_135 : decode cX11_cover 135 = .ok (.laload, 1) := by decide +kernel
theorem dX11_cover_136 : decode cX11_cover 136 = .ok (.ldc2_w 111, 3) := by decide +kernel
theorem dX11_cover_139 : decode cX11_cover 139 = .ok (.lcmp, 1) := by decide +kernel
theorem dX11_cover_140 : decode cX11_cover 140 = .ok (.ifCond .ne 6, 3) := by decide +kernel
theorem dX11_cover_143 : decode cX11_cover 143 = .ok (.ldc 64, 2) := by decide +kernel
theorem dX11_cover_145 : decode cX11_cover 145 = .ok (.ireturn, 1) := by decide +kernel
theorem dX11_cover_146 : decode cX11_cover 146 = .ok (.lload 8, 2) := by decide +kernel
theorem dX11_cover_148 : decode cX11_cover 148 = .ok (.aload 7, 2) := by decide +kernel
theorem dX11_cover_150 : decode cX11_cover 150 = .ok (.iload 10, 2) := by decide +kernel
theorem dX11_cover_152 : decode cX11_cover 152 = .ok (.laload, 1) := by decide +kernel
theorem dX11_cover_153 : decode cX11_cover 153 = .ok (.iload 4, 2) := by decide +kernel
theorem dX11_cover_155 : decode cX11_cover 155 = .ok (.invokestatic 113, 3) := by decide +kernel
theorem dX11_cover_158 : decode cX11_cover 158 = .ok (.lstore 8, 2) := by decide +kernel
theorem dX11_cover_160 : decode cX11_cover 160 = .ok (.iinc 10 1, 3) := by decide +kernel
theorem dX11_cover_163 : decode cX11_cover 163 = .ok (.goto (-60), 3) := by decide +kernel
theorem dX11_cover_166 : decode cX11_cover 166 = .ok (.aload 7, 2) := by decide +kernel
theorem dX11_cover_168 : decode cX11_cover 168 = .ok (.iload 5, 2) := by decide +kernel
theorem dX11_cover_170 : decode cX11_cover 170 = .ok (.iconst 1, 1) := by decide +kernel
theorem dX11_cover_171 : decode cX11_cover 171 = .ok (.isub, 1) := by decide +kernel
theorem dX11_cover_172 : decode cX11_cover 172 = .ok (.lload 8, 2) := by decide +kernel
theorem dX11_cover_174 : decode cX11_cover 174 = .ok (.iload 4, 2) := by decide +kernel
theorem dX11_cover_176 : decode cX11_cover 176 = .ok (.invokestatic 117, 3) := by decide +kernel
theorem dX11_cover_179 : decode cX11_cover 179 = .ok (.lastore, 1) := by decide +kernel
theorem dX11_cover_180 : decode cX11_cover 180 = .ok (.aload_n 0, 1) := by decide +kernel
theorem dX11_cover_181 : decode cX11_cover 181 = .ok (.iload_n 1, 1) := by decide +kernel
theorem dX11_cover_182 : decode cX11_cover 182 = .ok (.iload 4, 2) := by decide +kernel
theorem dX11_cover_184 : decode cX11_cover 184 = .ok (.aload 7, 2) := by decide +kernel
theorem dX11_cover_186 : decode cX11_cover 186 = .ok (.invokestatic 121, 3) := by decide +kernel
theorem dX11_cover_189 : decode cX11_cover 189 = .ok (.invokevirtual 125, 3) := by decide +kernel
theorem dX11_cover_192 : decode cX11_cover 192 = .ok (.ireturn, 1) := by decide +kernel
theorem dX11_part_0 : decode cX11_part 0 = .ok (.iload_n 1, 1) := by decide +kernel
theorem dX11_part_1 : decode cX11_part 1 = .ok (.invokestatic 98, 3) := by decide +kernel
theorem dX11_part_4 : decode cX11_part 4 = .ok (.ifCond .ne 10, 3) := by decide +kernel
theorem dX11_part_7 : decode cX11_part 7 = .ok (.iload_n 2, 1) := by decide +kernel
theorem dX11_part_8 : decode cX11_part 8 = .ok (.invokestatic 98, 3) := by decide +kernel
theorem dX11_part_11 : decode cX11_part 11 = .ok (.ifCond .eq 6, 3) := by decide +kernel
theorem dX11_part_14 : decode cX11_part 14 = .ok (.ldc 64, 2) := by decide +kernel
theorem dX11_part_16 : decode cX11_part 16 = .ok (.ireturn, 1) := by decide +kernel
theorem dX11_part_17 : decode cX11_part 17 = .ok (.aload_n 0, 1) := by decide +kernel
theorem dX11_part_18 : decode cX11_part 18 = .ok (.getfield 20, 3) := by decide +kernel
theorem dX11_part_21 : decode cX11_part 21 = .ok (.iload_n 2, 1) := by decide +kernel
theorem dX11_part_22 : decode cX11_part 22 = .ok (.aaload, 1) := by decide +kernel
theorem dX11_part_23 : decode cX11_part 23 = .ok (.astore 4, 2) := by decide +kernel
theorem dX11_part_25 : decode cX11_part 25 = .ok (.aload 4, 2) := by decide +kernel
theorem dX11_part_27 : decode cX11_part 27 = .ok (.ifnonnull 9, 3) := by decide +kernel
theorem dX11_part_30 : decode cX11_part 30 = .ok (.aload_n 0, 1) := by decide +kernel
theorem dX11_part_31 : decode cX11_part 31 = .ok (.iconst 1, 1) := by decide +kernel
theorem dX11_part_32 : decode cX11_part 32 = .ok (.invokevirtual 65, 3) := by decide +kernel
theorem dX11_part_35 : decode cX11_part 35 = .ok (.ireturn, 1) := by decide +kernel
theorem dX11_part_36 : decode cX11_part 36 = .ok (.iload_n 3, 1) := by decide +kernel
theorem dX11_part_37 : decode cX11_part 37 = .ok (.ifCond .lt 12, 3) := by decide +kernel
theorem dX11_part_40 : decode cX11_part 40 = .ok (.iload_n 3, 1) := by decide +kernel
theorem dX11_part_41 : decode cX11_part 41 = .ok (.aload 4, 2) := by decide +kernel
theorem dX11_part_43 : decode cX11_part 43 = .ok (.getfield 129, 3) := by decide +kernel
theorem dX11_part_46 : decode cX11_part 46 = .ok (.if_icmp .lt 6, 3) := by decide +kernel
theorem dX11_part_49 : decode cX11_part 49 = .ok (.ldc 64, 2) := by decide +kernel
theorem dX11_part_51 : decode cX11_part 51 = .ok (.ireturn, 1) := by decide +kernel
theorem dX11_part_52 : decode cX11_part 52 = .ok (.aload_n 0, 1) := by decide +kernel
theorem dX11_part_53 : decode cX11_part 53 = .ok (.iload_n 1, 1) := by decide +kernel
theorem dX11_part_54 : decode cX11_part 54 = .ok (.aload 4, 2) := by decide +kernel
theorem dX11_part_56 : decode cX11_part 56 = .ok (.iload_n 3, 1) := by decide +kernel
theorem dX11_part_57 : decode cX11_part 57 = .ok (.invokevirtual 132, 3) := by decide +kernel
theorem dX11_part_60 : decode cX11_part 60 = .ok (.invokevirtual 125, 3) := by decide +kernel
theorem dX11_part_63 : decode cX11_part 63 = .ok (.ireturn, 1) := by decide +kernel
theorem dX11_name_0 : decode cX11_name 0 = .ok (.iload_n 1, 1) := by decide +kernel
theorem dX11_name_1 : decode cX11_name 1 = .ok (.invokestatic 98, 3) := by decide +kernel
theorem dX11_name_4 : decode cX11_name 4 = .ok (.ifCond .ne 10, 3) := by decide +kernel
theorem dX11_name_7 : decode cX11_name 7 = .ok (.iload_n 2, 1) := by decide +kernel
theorem dX11_name_8 : decode cX11_name 8 = .ok (.invokestatic 98, 3) := by decide +kernel
theorem dX11_name_11 : decode cX11_name 11 = .ok (.ifCond .eq 6, 3) := by decide +kernel
theorem dX11_name_14 : decode cX11_name 14 = .ok (.ldc 64, 2) := by decide +kernel
theorem dX11_name_16 : decode cX11_name 16 = .ok (.ireturn, 1) := by decide +kernel
theorem dX11_name_17 : decode cX11_name 17 = .ok (.aload_n 0, 1) := by decide +kernel
theorem dX11_name_18 : decode cX11_name 18 = .ok (.getfield 20, 3) := by decide +kernel
theorem dX11_name_21 : decode cX11_name 21 = .ok (.iload_n 2, 1) := by decide +kernel
theorem dX11_name_22 : decode cX11_name 22 = .ok (.aaload, 1) := by decide +kernel
theorem dX11_name_23 : decode cX11_name 23 = .ok (.astore_n 3, 1) := by decide +kernel
theorem dX11_name_24 : decode cX11_name 24 = .ok (.aload_n 3, 1) := by decide +kernel
theorem dX11_name_25 : decode cX11_name 25 = .ok (.ifnonnull 9, 3) := by decide +kernel
theorem dX11_name_28 : decode cX11_name 28 = .ok (.aload_n 0, 1) := by decide +kernel
theorem dX11_name_29 : decode cX11_name 29 = .ok (.iconst 1, 1) := by decide +kernel
theorem dX11_name_30 : decode cX11_name 30 = .ok (.invokevirtual 65, 3) := by decide +kernel
theorem dX11_name_33 : decode cX11_name 33 = .ok (.ireturn, 1) := by decide +kernel
theorem dX11_name_34 : decode cX11_name 34 = .ok (.aload_n 3, 1) := by decide +kernel
theorem dX11_name_35 : decode cX11_name 35 = .ok (.invokevirtual 136, 3) := by decide +kernel
theorem dX11_name_38 : decode cX11_name 38 = .ok (.ifCond .ne 9, 3) := by decide +kernel
theorem dX11_name_41 : decode cX11_name 41 = .ok (.aload_n 0, 1) := by decide +kernel
theorem dX11_name_42 : decode cX11_name 42 = .ok (.iconst 3, 1) := by decide +kernel
theorem dX11_name_43 : decode cX11_name 43 = .ok (.invokevirtual 65, 3) := by decide +kernel
theorem dX11_name_46 : decode cX11_name 46 = .ok (.ireturn, 1) := by decide +kernel
theorem dX11_name_47 : decode cX11_name 47 = .ok (.aload_n 0, 1) := by decide +kernel
theorem dX11_name_48 : decode cX11_name 48 = .ok (.getfield 35, 3) := by decide +kernel
theorem dX11_name_51 : decode cX11_name 51 = .ok (.aload_n 3, 1) := by decide +kernel
theorem dX11_name_52 : decode cX11_name 52 = .ok (.getfield 139, 3) := by decide +kernel
theorem dX11_name_55 : decode cX11_name 55 = .ok (.aload_n 3, 1) := by decide +kernel
theorem dX11_name_56 : decode cX11_name 56 = .ok (.getfield 143, 3) := by decide +kernel
theorem dX11_name_59 : decode cX11_name 59 = .ok (.invokevirtual 146, 3) := by decide +kernel
theorem dX11_name_62 : decode cX11_name 62 = .ok (.aload_n 0, 1) := by decide +kernel
theorem dX11_name_63 : decode cX11_name 63 = .ok (.iload_n 1, 1) := by decide +kernel
theorem dX11_name_64 : decode cX11_name 64 = .ok (.aload_n 3, 1) := by decide +kernel
theorem dX11_name_65 : decode cX11_name 65 = .ok (.getfield 143, 3) := by decide +kernel
theorem dX11_name_68 : decode cX11_name 68 = .ok (.aload_n 0, 1) := by decide +kernel
theorem dX11_name_69 : decode cX11_name 69 = .ok (.getfield 35, 3) := by decide +kernel
theorem dX11_name_72 : decode cX11_name 72 = .ok (.getfield 150, 3) := by decide +kernel
theorem dX11_name_75 : decode cX11_name 75 = .ok (.aload_n 3, 1) := by decide +kernel
theorem dX11_name_76 : decode cX11_name 76 = .ok (.getfield 139, 3) := by decide +kernel
theorem dX11_name_79 : decode cX11_name 79 = .ok (.arraylength, 1) := by decide +kernel
theorem dX11_name_80 : decode cX11_name 80 = .ok (.invokestatic 153, 3) := by decide +kernel
theorem dX11_name_83 : decode cX11_name 83 = .ok (.invokestatic 121, 3) := by decide +kernel
theorem dX11_name_86 : decode cX11_name 86 = .ok (.invokevirtual 125, 3) := by decide +kernel
theorem dX11_name_89 : decode cX11_name 89 = .ok (.ireturn, 1) := by decide +kernel
theorem dX11_between_0 : decode cX11_between 0 = .ok (.iload_n 1, 1) := by decide +kernel
theorem dX11_between_1 : decode cX11_between 1 = .ok (.invokestatic 98, 3) := by decide +kernel
theorem dX11_between_4 : decode cX11_between 4 = .ok (.ifCond .ne 10, 3) := by decide +kernel
theorem dX11_between_7 : decode cX11_between 7 = .ok (.iload_n 2, 1) := by decide +kernel
theorem dX11_between_8 : decode cX11_between 8 = .ok (.invokestatic 98, 3) := by decide +kernel
theorem dX11_between_11 : decode cX11_between 11 = .ok (.ifCond .eq 6, 3) := by decide +kernel
theorem dX11_between_14 : decode cX11_between 14 = .ok (.ldc 64, 2) := by decide +kernel
theorem dX11_between_16 : decode cX11_between 16 = .ok (.ireturn, 1) := by decide +kernel
theorem dX11_between_17 : decode cX11_between 17 = .ok (.aload_n 0, 1) := by decide +kernel
theorem dX11_between_18 : decode cX11_between 18 = .ok (.getfield 20, 3) := by decide +kernel
theorem dX11_between_21 : decode cX11_between 21 = .ok (.iload_n 2, 1) := by decide +kernel
theorem dX11_between_22 : decode cX11_between 22 = .ok (.aaload, 1) := by decide +kernel
theorem dX11_between_23 : decode cX11_between 23 = .ok (.astore 5, 2) := by decide +kernel
theorem dX11_between_25 : decode cX11_between 25 = .ok (.aload 5, 2) := by decide +kernel
theorem dX11_between_27 : decode cX11_between 27 = .ok (.ifnonnull 9, 3) := by decide +kernel
theorem dX11_between_30 : decode cX11_between 30 = .ok (.aload_n 0, 1) := by decide +kernel
theorem dX11_between_31 : decode cX11_between 31 = .ok (.iconst 1, 1) := by decide +kernel
theorem dX11_between_32 : decode cX11_between 32 = .ok (.invokevirtual 65, 3) := by decide +kernel
theorem dX11_between_35 : decode cX11_between 35 = .ok (.ireturn, 1) := by decide +kernel
theorem dX11_between_36 : decode cX11_between 36 = .ok (.aload 5, 2) := by decide +kernel
theorem dX11_between_38 : decode cX11_between 38 = .ok (.invokevirtual 136, 3) := by decide +kernel
theorem dX11_between_41 : decode cX11_between 41 = .ok (.ifCond .ne 9, 3) := by decide +kernel
theorem dX11_between_44 : decode cX11_between 44 = .ok (.aload_n 0, 1) := by decide +kernel
theorem dX11_between_45 : decode cX11_between 45 = .ok (.iconst 3, 1) := by decide +kernel
theorem dX11_between_46 : decode cX11_between 46 = .ok (.invokevirtual 65, 3) := by decide +kernel
theorem dX11_between_49 : decode cX11_between 49 = .ok (.ireturn, 1) := by decide +kernel
theorem dX11_between_50 : decode cX11_between 50 = .ok (.aload 5, 2) := by decide +kernel
theorem dX11_between_52 : decode cX11_between 52 = .ok (.iload_n 3, 1) := by decide +kernel
theorem dX11_between_53 : decode cX11_between 53 = .ok (.invokevirtual 159, 3) := by decide +kernel
theorem dX11_between_56 : decode cX11_between 56 = .ok (.ifCond .ne 13, 3) := by decide +kernel
theorem dX11_between_59 : decode cX11_between 59 = .ok (.aload 5, 2) := by decide +kernel
theorem dX11_between_61 : decode cX11_between 61 = .ok (.iload 4, 2) := by decide +kernel
theorem dX11_between_63 : decode cX11_between 63 = .ok (.invokevirtual 159, 3) := by decide +kernel
theorem dX11_between_66 : decode cX11_between 66 = .ok (.ifCond .eq 6, 3) := by decide +kernel
theorem dX11_between_69 : decode cX11_between 69 = .ok (.ldc 64, 2) := by decide +kernel
theorem dX11_between_71 : decode cX11_between 71 = .ok (.ireturn, 1) := by decide +kernel
theorem dX11_between_72 : decode cX11_between 72 = .ok (.aload_n 0, 1) := by decide +kernel
theorem dX11_between_73 : decode cX11_between 73 = .ok (.iload_n 1, 1) := by decide +kernel
theorem dX11_between_74 : decode cX11_between 74 = .ok (.aload 5, 2) := by decide +kernel
theorem dX11_between_76 : decode cX11_between 76 = .ok (.iload_n 3, 1) := by decide +kernel
theorem dX11_between_77 : decode cX11_between 77 = .ok (.iload 4, 2) := by decide +kernel
theorem dX11_between_79 : decode cX11_between 79 = .ok (.invokevirtual 162, 3) := by decide +kernel
theorem dX11_between_82 : decode cX11_between 82 = .ok (.invokevirtual 125, 3) := by decide +kernel
theorem dX11_between_85 : decode cX11_between 85 = .ok (.ireturn, 1) := by decide +kernel
theorem dX11_braid_0 : decode cX11_braid 0 = .ok (.iload_n 1, 1) := by decide +kernel
theorem dX11_braid_1 : decode cX11_braid 1 = .ok (.invokestatic 98, 3) := by decide +kernel
theorem dX11_braid_4 : decode cX11_braid 4 = .ok (.ifCond .ne 21, 3) := by decide +kernel
theorem dX11_braid_7 : decode cX11_braid 7 = .ok (.iload_n 2, 1) := by decide +kernel
theorem dX11_braid_8 : decode cX11_braid 8 = .ok (.invokestatic 98, 3) := by decide +kernel
theorem dX11_braid_11 : decode cX11_braid 11 = .ok (.ifCond .ne 14, 3) := by decide +kernel
theorem dX11_braid_14 : decode cX11_braid 14 = .ok (.iload 4, 2) := by decide +kernel
theorem dX11_braid_16 : decode cX11_braid 16 = .ok (.ifCond .lt 9, 3) := by decide +kernel
theorem dX11_braid_19 : decode cX11_braid 19 = .ok (.iload 4, 2) := by decide +kernel
theorem dX11_braid_21 : decode cX11_braid 21 = .ok (.iconst 1, 1) := by decide +kernel
theorem dX11_braid_22 : decode cX11_braid 22 = .ok (.if_icmp .le 6, 3) := by decide +kernel
theorem dX11_braid_25 : decode cX11_braid 25 = .ok (.ldc 64, 2) := by decide +kernel
theorem dX11_braid_27 : decode cX11_braid 27 = .ok (.ireturn, 1) := by decide +kernel
theorem dX11_braid_28 : decode cX11_braid 28 = .ok (.aload_n 0, 1) := by decide +kernel
theorem dX11_braid_29 : decode cX11_braid 29 = .ok (.getfield 20, 3) := by decide +kernel
theorem dX11_braid_32 : decode cX11_braid 32 = .ok (.iload_n 2, 1) := by decide +kernel
theorem dX11_braid_33 : decode cX11_braid 33 = .ok (.aaload, 1) := by decide +kernel
theorem dX11_braid_34 : decode cX11_braid 34 = .ok (.astore 5, 2) := by decide +kernel
theorem dX11_braid_36 : decode cX11_braid 36 = .ok (.aload 5, 2) := by decide +kernel
theorem dX11_braid_38 : decode cX11_braid 38 = .ok (.ifnonnull 9, 3) := by decide +kernel
theorem dX11_braid_41 : decode cX11_braid 41 = .ok (.aload_n 0, 1) := by decide +kernel
theorem dX11_braid_42 : decode cX11_braid 42 = .ok (.iconst 1, 1) := by decide +kernel
theorem dX11_braid_43 : decode cX11_braid 43 = .ok (.invokevirtual 65, 3) := by decide +kernel
theorem dX11_braid_46 : decode cX11_braid 46 = .ok (.ireturn, 1) := by decide +kernel
theorem dX11_braid_47 : decode cX11_braid 47 = .ok (.iload_n 3, 1) := by decide +kernel
theorem dX11_braid_48 : decode cX11_braid 48 = .ok (.ifCond .lt 15, 3) := by decide +kernel
theorem dX11_braid_51 : decode cX11_braid 51 = .ok (.iload_n 3, 1) := by decide +kernel
theorem dX11_braid_52 : decode cX11_braid 52 = .ok (.aload 5, 2) := by decide +kernel
theorem dX11_braid_54 : decode cX11_braid 54 = .ok (.getfield 139, 3) := by decide +kernel
theorem dX11_braid_57 : decode cX11_braid 57 = .ok (.arraylength, 1) := by decide +kernel
theorem dX11_braid_58 : decode cX11_braid 58 = .ok (.iconst 1, 1) := by decide +kernel
theorem dX11_braid_59 : decode cX11_braid 59 = .ok (.isub, 1) := by decide +kernel
theorem dX11_braid_60 : decode cX11_braid 60 = .ok (.if_icmp .lt 6, 3) := by decide +kernel
theorem dX11_braid_63 : decode cX11_braid 63 = .ok (.ldc 64, 2) := by decide +kernel
theorem dX11_braid_65 : decode cX11_braid 65 = .ok (.ireturn, 1) := by decide +kernel
theorem dX11_braid_66 : decode cX11_braid 66 = .ok (.aload_n 0, 1) := by decide +kernel
theorem dX11_braid_67 : decode cX11_braid 67 = .ok (.iload_n 1, 1) := by decide +kernel
theorem dX11_braid_68 : decode cX11_braid 68 = .ok (.aload 5, 2) := by decide +kernel
theorem dX11_braid_70 : decode cX11_braid 70 = .ok (.iload_n 3, 1) := by decide +kernel
theorem dX11_braid_71 : decode cX11_braid 71 = .ok (.iload 4, 2) := by decide +kernel
theorem dX11_braid_73 : decode cX11_braid 73 = .ok (.ifCond .ne 7, 3) := by decide +kernel
theorem dX11_braid_76 : decode cX11_braid 76 = .ok (.iconst 1, 1) := by decide +kernel
theorem dX11_braid_77 : decode cX11_braid 77 = .ok (.goto 4, 3) := by decide +kernel
theorem dX11_braid_80 : decode cX11_braid 80 = .ok (.iconst 0, 1) := by decide +kernel
theorem dX11_braid_81 : decode cX11_braid 81 = .ok (.invokevirtual 166, 3) := by decide +kernel
theorem dX11_braid_84 : decode cX11_braid 84 = .ok (.invokevirtual 125, 3) := by decide +kernel
theorem dX11_braid_87 : decode cX11_braid 87 = .ok (.ireturn, 1) := by decide +kernel
theorem dX11_turn_0 : decode cX11_turn 0 = .ok (.iload_n 1, 1) := by decide +kernel
theorem dX11_turn_1 : decode cX11_turn 1 = .ok (.invokestatic 98, 3) := by decide +kernel
theorem dX11_turn_4 : decode cX11_turn 4 = .ok (.ifCond .ne 19, 3) := by decide +kernel
theorem dX11_turn_7 : decode cX11_turn 7 = .ok (.iload_n 2, 1) := by decide +kernel
theorem dX11_turn_8 : decode cX11_turn 8 = .ok (.invokestatic 98, 3) := by decide +kernel
theorem dX11_turn_11 : decode cX11_turn 11 = .ok (.ifCond .ne 12, 3) := by decide +kernel
theorem dX11_turn_14 : decode cX11_turn 14 = .ok (.iload_n 3, 1) := by decide +kernel
theorem dX11_turn_15 : decode cX11_turn 15 = .ok (.ifCond .lt 8, 3) := by decide +kernel
theorem dX11_turn_18 : decode cX11_turn 18 = .ok (.iload_n 3, 1) := by decide +kernel
theorem dX11_turn_19 : decode cX11_turn 19 = .ok (.iconst 1, 1) := by decide +kernel
theorem dX11_turn_20 : decode cX11_turn 20 = .ok (.if_icmp .le 6, 3) := by decide +kernel
theorem dX11_turn_23 : decode cX11_turn 23 = .ok (.ldc 64, 2) := by decide +kernel
theorem dX11_turn_25 : decode cX11_turn 25 = .ok (.ireturn, 1) := by decide +kernel
theorem dX11_turn_26 : decode cX11_turn 26 = .ok (.aload_n 0, 1) := by decide +kernel
theorem dX11_turn_27 : decode cX11_turn 27 = .ok (.getfield 20, 3) := by decide +kernel
theorem dX11_turn_30 : decode cX11_turn 30 = .ok (.iload_n 2, 1) := by decide +kernel
theorem dX11_turn_31 : decode cX11_turn 31 = .ok (.aaload, 1) := by decide +kernel
theorem dX11_turn_32 : decode cX11_turn 32 = .ok (.astore 4, 2) := by decide +kernel
theorem dX11_turn_34 : decode cX11_turn 34 = .ok (.aload 4, 2) := by decide +kernel
theorem dX11_turn_36 : decode cX11_turn 36 = .ok (.ifnonnull 9, 3) := by decide +kernel
theorem dX11_turn_39 : decode cX11_turn 39 = .ok (.aload_n 0, 1) := by decide +kernel
theorem dX11_turn_40 : decode cX11_turn 40 = .ok (.iconst 1, 1) := by decide +kernel
theorem dX11_turn_41 : decode cX11_turn 41 = .ok (.invokevirtual 65, 3) := by decide +kernel
theorem dX11_turn_44 : decode cX11_turn 44 = .ok (.ireturn, 1) := by decide +kernel
theorem dX11_turn_45 : decode cX11_turn 45 = .ok (.iload_n 3, 1) := by decide +kernel
theorem dX11_turn_46 : decode cX11_turn 46 = .ok (.ifCond .ne 14, 3) := by decide +kernel
theorem dX11_turn_49 : decode cX11_turn 49 = .ok (.aload_n 0, 1) := by decide +kernel
theorem dX11_turn_50 : decode cX11_turn 50 = .ok (.iload_n 1, 1) := by decide +kernel
theorem dX11_turn_51 : decode cX11_turn 51 = .ok (.aload 4, 2) := by decide +kernel
theorem dX11_turn_53 : decode cX11_turn 53 = .ok (.invokevirtual 170, 3) := by decide +kernel
theorem dX11_turn_56 : decode cX11_turn 56 = .ok (.invokevirtual 125, 3) := by decide +kernel
theorem dX11_turn_59 : decode cX11_turn 59 = .ok (.ireturn, 1) := by decide +kernel
theorem dX11_turn_60 : decode cX11_turn 60 = .ok (.aload 4, 2) := by decide +kernel
theorem dX11_turn_62 : decode cX11_turn 62 = .ok (.instanceof 174, 3) := by decide +kernel
theorem dX11_turn_65 : decode cX11_turn 65 = .ok (.ifCond .ne 9, 3) := by decide +kernel
theorem dX11_turn_68 : decode cX11_turn 68 = .ok (.aload_n 0, 1) := by decide +kernel
theorem dX11_turn_69 : decode cX11_turn 69 = .ok (.iconst 3, 1) := by decide +kernel
theorem dX11_turn_70 : decode cX11_turn 70 = .ok (.invokevirtual 65, 3) := by decide +kernel
theorem dX11_turn_73 : decode cX11_turn 73 = .ok (.ireturn, 1) := by decide +kernel
theorem dX11_turn_74 : decode cX11_turn 74 = .ok (.aload_n 0, 1) := by decide +kernel
theorem dX11_turn_75 : decode cX11_turn 75 = .ok (.iload_n 1, 1) := by decide +kernel
theorem dX11_turn_76 : decode cX11_turn 76 = .ok (.aload 4, 2) := by decide +kernel
theorem dX11_turn_78 : decode cX11_turn 78 = .ok (.iconst 0, 1) := by decide +kernel
theorem dX11_turn_79 : decode cX11_turn 79 = .ok (.iconst 1, 1) := by decide +kernel
theorem dX11_turn_80 : decode cX11_turn 80 = .ok (.invokevirtual 166, 3) := by decide +kernel
theorem dX11_turn_83 : decode cX11_turn 83 = .ok (.invokevirtual 125, 3) := by decide +kernel
theorem dX11_turn_86 : decode cX11_turn 86 = .ok (.ireturn, 1) := by decide +kernel
theorem dX11_over_0 : decode cX11_over 0 = .ok (.iload_n 1, 1) := by decide +kernel
theorem dX11_over_1 : decode cX11_over 1 = .ok (.invokestatic 98, 3) := by decide +kernel
theorem dX11_over_4 : decode cX11_over 4 = .ok (.ifCond .ne 17, 3) := by decide +kernel
theorem dX11_over_7 : decode cX11_over 7 = .ok (.iload_n 2, 1) := by decide +kernel
theorem dX11_over_8 : decode cX11_over 8 = .ok (.invokestatic 98, 3) := by decide +kernel
theorem dX11_over_11 : decode cX11_over 11 = .ok (.ifCond .ne 10, 3) := by decide +kernel
theorem dX11_over_14 : decode cX11_over 14 = .ok (.iload_n 3, 1) := by decide +kernel
theorem dX11_over_15 : decode cX11_over 15 = .ok (.invokestatic 98, 3) := by decide +kernel
theorem dX11_over_18 : decode cX11_over 18 = .ok (.ifCond .eq 6, 3) := by decide +kernel
theorem dX11_over_21 : decode cX11_over 21 = .ok (.ldc 64, 2) := by decide +kernel
theorem dX11_over_23 : decode cX11_over 23 = .ok (.ireturn, 1) := by decide +kernel
theorem dX11_over_24 : decode cX11_over 24 = .ok (.aload_n 0, 1) := by decide +kernel
theorem dX11_over_25 : decode cX11_over 25 = .ok (.getfield 20, 3) := by decide +kernel
theorem dX11_over_28 : decode cX11_over 28 = .ok (.iload_n 2, 1) := by decide +kernel
theorem dX11_over_29 : decode cX11_over 29 = .ok (.aaload, 1) := by decide +kernel
theorem dX11_over_30 : decode cX11_over 30 = .ok (.astore 4, 2) := by decide +kernel
theorem dX11_over_32 : decode cX11_over 32 = .ok (.aload_n 0, 1) := by decide +kernel
theorem dX11_over_33 : decode cX11_over 33 = .ok (.getfield 20, 3) := by decide +kernel
theorem dX11_over_36 : decode cX11_over 36 = .ok (.iload_n 3, 1) := by decide +kernel
theorem dX11_over_37 : decode cX11_over 37 = .ok (.aaload, 1) := by decide +kernel
theorem dX11_over_38 : decode cX11_over 38 = .ok (.astore 5, 2) := by decide +kernel
theorem dX11_over_40 : decode cX11_over 40 = .ok (.aload 4, 2) := by decide +kernel
theorem dX11_over_42 : decode cX11_over 42 = .ok (.ifnull 8, 3) := by decide +kernel
theorem dX11_over_45 : decode cX11_over 45 = .ok (.aload 5, 2) := by decide +kernel
theorem dX11_over_47 : decode cX11_over 47 = .ok (.ifnonnull 9, 3) := by decide +kernel
theorem dX11_over_50 : decode cX11_over 50 = .ok (.aload_n 0, 1) := by decide +kernel
theorem dX11_over_51 : decode cX11_over 51 = .ok (.iconst 1, 1) := by decide +kernel
theorem dX11_over_52 : decode cX11_over 52 = .ok (.invokevirtual 65, 3) := by decide +kernel
theorem dX11_over_55 : decode cX11_over 55 = .ok (.ireturn, 1) := by decide +kernel
theorem dX11_over_56 : decode cX11_over 56 = .ok (.aload 4, 2) := by decide +kernel
theorem dX11_over_58 : decode cX11_over 58 = .ok (.getfield 139, 3) := by decide +kernel
theorem dX11_over_61 : decode cX11_over 61 = .ok (.arraylength, 1) := by decide +kernel
theorem dX11_over_62 : decode cX11_over 62 = .ok (.aload 5, 2) := by decide +kernel
theorem dX11_over_64 : decode cX11_over 64 = .ok (.getfield 139, 3) := by decide +kernel
theorem dX11_over_67 : decode cX11_over 67 = .ok (.arraylength, 1) := by decide +kernel
theorem dX11_over_68 : decode cX11_over 68 = .ok (.if_icmp .eq 6, 3) := by decide +kernel
theorem dX11_over_71 : decode cX11_over 71 = .ok (.ldc 64, 2) := by decide +kernel
theorem dX11_over_73 : decode cX11_over 73 = .ok (.ireturn, 1) := by decide +kernel
theorem dX11_over_74 : decode cX11_over 74 = .ok (.aload 4, 2) := by decide +kernel
theorem dX11_over_76 : decode cX11_over 76 = .ok (.getfield 143, 3) := by decide +kernel
theorem dX11_over_79 : decode cX11_over 79 = .ok (.aload 5, 2) := by decide +kernel
theorem dX11_over_81 : decode cX11_over 81 = .ok (.getfield 143, 3) := by decide +kernel
theorem dX11_over_84 : decode cX11_over 84 = .ok (.imul, 1) := by decide +kernel
theorem dX11_over_85 : decode cX11_over 85 = .ok (.bipush 12, 2) := by decide +kernel
theorem dX11_over_87 : decode cX11_over 87 = .ok (.if_icmp .le 6, 3) := by decide +kernel
theorem dX11_over_90 : decode cX11_over 90 = .ok (.ldc 176, 2) := by decide +kernel
theorem dX11_over_92 : decode cX11_over 92 = .ok (.ireturn, 1) := by decide +kernel
theorem dX11_over_93 : decode cX11_over 93 = .ok (.aload_n 0, 1) := by decide +kernel
theorem dX11_over_94 : decode cX11_over 94 = .ok (.iload_n 1, 1) := by decide +kernel
theorem dX11_over_95 : decode cX11_over 95 = .ok (.aload 4, 2) := by decide +kernel
theorem dX11_over_97 : decode cX11_over 97 = .ok (.aload 5, 2) := by decide +kernel
theorem dX11_over_99 : decode cX11_over 99 = .ok (.invokevirtual 177, 3) := by decide +kernel
theorem dX11_over_102 : decode cX11_over 102 = .ok (.invokevirtual 125, 3) := by decide +kernel
theorem dX11_over_105 : decode cX11_over 105 = .ok (.ireturn, 1) := by decide +kernel
theorem dX11_clear_0 : decode cX11_clear 0 = .ok (.iload_n 1, 1) := by decide +kernel
theorem dX11_clear_1 : decode cX11_clear 1 = .ok (.invokestatic 98, 3) := by decide +kernel
theorem dX11_clear_4 : decode cX11_clear 4 = .ok (.ifCond .eq 6, 3) := by decide +kernel
theorem dX11_clear_7 : decode cX11_clear 7 = .ok (.ldc 64, 2) := by decide +kernel
theorem dX11_clear_9 : decode cX11_clear 9 = .ok (.ireturn, 1) := by decide +kernel
theorem dX11_clear_10 : decode cX11_clear 10 = .ok (.aload_n 0, 1) := by decide +kernel
theorem dX11_clear_11 : decode cX11_clear 11 = .ok (.getfield 20, 3) := by decide +kernel
theorem dX11_clear_14 : decode cX11_clear 14 = .ok (.iload_n 1, 1) := by decide +kernel
theorem dX11_clear_15 : decode cX11_clear 15 = .ok (.aaload, 1) := by decide +kernel
theorem dX11_clear_16 : decode cX11_clear 16 = .ok (.ifnonnull 7, 3) := by decide +kernel
theorem dX11_clear_19 : decode cX11_clear 19 = .ok (.iconst 0, 1) := by decide +kernel
theorem dX11_clear_20 : decode cX11_clear 20 = .ok (.goto 4, 3) := by decide +kernel
theorem dX11_clear_23 : decode cX11_clear 23 = .ok (.iconst 1, 1) := by decide +kernel
theorem dX11_clear_24 : decode cX11_clear 24 = .ok (.istore_n 2, 1) := by decide +kernel
theorem dX11_clear_25 : decode cX11_clear 25 = .ok (.aload_n 0, 1) := by decide +kernel
theorem dX11_clear_26 : decode cX11_clear 26 = .ok (.getfield 20, 3) := by decide +kernel
theorem dX11_clear_29 : decode cX11_clear 29 = .ok (.iload_n 1, 1) := by decide +kernel
theorem dX11_clear_30 : decode cX11_clear 30 = .ok (.aconst_null, 1) := by decide +kernel
theorem dX11_clear_31 : decode cX11_clear 31 = .ok (.aastore, 1) := by decide +kernel
theorem dX11_clear_32 : decode cX11_clear 32 = .ok (.iload_n 2, 1) := by decide +kernel
theorem dX11_clear_33 : decode cX11_clear 33 = .ok (.ireturn, 1) := by decide +kernel
theorem dX11_told_0 : decode cX11_told 0 = .ok (.iload_n 1, 1) := by decide +kernel
theorem dX11_told_1 : decode cX11_told 1 = .ok (.invokestatic 98, 3) := by decide +kernel
theorem dX11_told_4 : decode cX11_told 4 = .ok (.ifCond .ne 12, 3) := by decide +kernel
theorem dX11_told_7 : decode cX11_told 7 = .ok (.iload_n 2, 1) := by decide +kernel
theorem dX11_told_8 : decode cX11_told 8 = .ok (.ifCond .lt 8, 3) := by decide +kernel
theorem dX11_told_11 : decode cX11_told 11 = .ok (.iload_n 2, 1) := by decide +kernel
theorem dX11_told_12 : decode cX11_told 12 = .ok (.iconst 5, 1) := by decide +kernel
theorem dX11_told_13 : decode cX11_told 13 = .ok (.if_icmp .le 6, 3) := by decide +kernel
theorem dX11_told_16 : decode cX11_told 16 = .ok (.ldc 64, 2) := by decide +kernel
theorem dX11_told_18 : decode cX11_told 18 = .ok (.ireturn, 1) := by decide +kernel
theorem dX11_told_19 : decode cX11_told 19 = .ok (.aload_n 0, 1) := by decide +kernel
theorem dX11_told_20 : decode cX11_told 20 = .ok (.getfield 20, 3) := by decide +kernel
theorem dX11_told_23 : decode cX11_told 23 = .ok (.iload_n 1, 1) := by decide +kernel
theorem dX11_told_24 : decode cX11_told 24 = .ok (.aaload, 1) := by decide +kernel
theorem dX11_told_25 : decode cX11_told 25 = .ok (.astore_n 3, 1) := by decide +kernel
theorem dX11_told_26 : decode cX11_told 26 = .ok (.aload_n 3, 1) := by decide +kernel
theorem dX11_told_27 : decode cX11_told 27 = .ok (.ifnonnull 9, 3) := by decide +kernel
theorem dX11_told_30 : decode cX11_told 30 = .ok (.aload_n 0, 1) := by decide +kernel
theorem dX11_told_31 : decode cX11_told 31 = .ok (.iconst 1, 1) := by decide +kernel
theorem dX11_told_32 : decode cX11_told 32 = .ok (.invokevirtual 65, 3) := by decide +kernel
theorem dX11_told_35 : decode cX11_told 35 = .ok (.ireturn, 1) := by decide +kernel
theorem dX11_told_36 : decode cX11_told 36 = .ok (.iload_n 2, 1) := by decide +kernel
theorem dX11_told_37 : decode cX11_told 37 = .ok (.iconst 3, 1) := by decide +kernel
theorem dX11_told_38 : decode cX11_told 38 = .ok (.if_icmp .eq 8, 3) := by decide +kernel
theorem dX11_told_41 : decode cX11_told 41 = .ok (.iload_n 2, 1) := by decide +kernel
theorem dX11_told_42 : decode cX11_told 42 = .ok (.iconst 4, 1) := by decide +kernel
theorem dX11_told_43 : decode cX11_told 43 = .ok (.if_icmp .ne 16, 3) := by decide +kernel
theorem dX11_told_46 : decode cX11_told 46 = .ok (.aload_n 3, 1) := by decide +kernel
theorem dX11_told_47 : decode cX11_told 47 = .ok (.invokevirtual 136, 3) := by decide +kernel
theorem dX11_told_50 : decode cX11_told 50 = .ok (.ifCond .ne 9, 3) := by decide +kernel
theorem dX11_told_53 : decode cX11_told 53 = .ok (.aload_n 0, 1) := by decide +kernel
theorem dX11_told_54 : decode cX11_told 54 = .ok (.iconst 3, 1) := by decide +kernel
theorem dX11_told_55 : decode cX11_told 55 = .ok (.invokevirtual 65, 3) := by decide +kernel
theorem dX11_told_58 : decode cX11_told 58 = .ok (.ireturn, 1) := by decide +kernel
theorem dX11_told_59 : decode cX11_told 59 = .ok (.aload_n 0, 1) := by decide +kernel
theorem dX11_told_60 : decode cX11_told 60 = .ok (.aload_n 0, 1) := by decide +kernel
theorem dX11_told_61 : decode cX11_told 61 = .ok (.aload_n 3, 1) := by decide +kernel
theorem dX11_told_62 : decode cX11_told 62 = .ok (.iload_n 2, 1) := by decide +kernel
theorem dX11_told_63 : decode cX11_told 63 = .ok (.invokevirtual 181, 3) := by decide +kernel
theorem dX11_told_66 : decode cX11_told 66 = .ok (.invokevirtual 69, 3) := by decide +kernel
theorem dX11_told_69 : decode cX11_told 69 = .ok (.ireturn, 1) := by decide +kernel
theorem dX11_leads_0 : decode cX11_leads 0 = .ok (.iload_n 1, 1) := by decide +kernel
theorem dX11_leads_1 : decode cX11_leads 1 = .ok (.invokestatic 98, 3) := by decide +kernel
theorem dX11_leads_4 : decode cX11_leads 4 = .ok (.ifCond .eq 6, 3) := by decide +kernel
theorem dX11_leads_7 : decode cX11_leads 7 = .ok (.ldc 64, 2) := by decide +kernel
theorem dX11_leads_9 : decode cX11_leads 9 = .ok (.ireturn, 1) := by decide +kernel
theorem dX11_leads_10 : decode cX11_leads 10 = .ok (.aload_n 0, 1) := by decide +kernel
theorem dX11_leads_11 : decode cX11_leads 11 = .ok (.getfield 20, 3) := by decide +kernel
theorem dX11_leads_14 : decode cX11_leads 14 = .ok (.iload_n 1, 1) := by decide +kernel
theorem dX11_leads_15 : decode cX11_leads 15 = .ok (.aaload, 1) := by decide +kernel
theorem dX11_leads_16 : decode cX11_leads 16 = .ok (.astore 4, 2) := by decide +kernel
theorem dX11_leads_18 : decode cX11_leads 18 = .ok (.aload 4, 2) := by decide +kernel
theorem dX11_leads_20 : decode cX11_leads 20 = .ok (.ifnonnull 9, 3) := by decide +kernel
theorem dX11_leads_23 : decode cX11_leads 23 = .ok (.aload_n 0, 1) := by decide +kernel
theorem dX11_leads_24 : decode cX11_leads 24 = .ok (.iconst 1, 1) := by decide +kernel
theorem dX11_leads_25 : decode cX11_leads 25 = .ok (.invokevirtual 65, 3) := by decide +kernel
theorem dX11_leads_28 : decode cX11_leads 28 = .ok (.ireturn, 1) := by decide +kernel
theorem dX11_leads_29 : decode cX11_leads 29 = .ok (.aload 4, 2) := by decide +kernel
theorem dX11_leads_31 : decode cX11_leads 31 = .ok (.iload_n 2, 1) := by decide +kernel
theorem dX11_leads_32 : decode cX11_leads 32 = .ok (.invokevirtual 185, 3) := by decide +kernel
theorem dX11_leads_35 : decode cX11_leads 35 = .ok (.ifCond .ne 12, 3) := by decide +kernel
theorem dX11_leads_38 : decode cX11_leads 38 = .ok (.aload 4, 2) := by decide +kernel
theorem dX11_leads_40 : decode cX11_leads 40 = .ok (.iload_n 3, 1) := by decide +kernel
theorem dX11_leads_41 : decode cX11_leads 41 = .ok (.invokevirtual 159, 3) := by decide +kernel
theorem dX11_leads_44 : decode cX11_leads 44 = .ok (.ifCond .eq 6, 3) := by decide +kernel
theorem dX11_leads_47 : decode cX11_leads 47 = .ok (.ldc 64, 2) := by decide +kernel
theorem dX11_leads_49 : decode cX11_leads 49 = .ok (.ireturn, 1) := by decide +kernel
theorem dX11_leads_50 : decode cX11_leads 50 = .ok (.aload_n 0, 1) := by decide +kernel
theorem dX11_leads_51 : decode cX11_leads 51 = .ok (.aload 4, 2) := by decide +kernel
theorem dX11_leads_53 : decode cX11_leads 53 = .ok (.iload_n 2, 1) := by decide +kernel
theorem dX11_leads_54 : decode cX11_leads 54 = .ok (.invokevirtual 188, 3) := by decide +kernel
theorem dX11_leads_57 : decode cX11_leads 57 = .ok (.iload_n 3, 1) := by decide +kernel
theorem dX11_leads_58 : decode cX11_leads 58 = .ok (.invokestatic 191, 3) := by decide +kernel
theorem dX11_leads_61 : decode cX11_leads 61 = .ok (.invokevirtual 69, 3) := by decide +kernel
theorem dX11_leads_64 : decode cX11_leads 64 = .ok (.ireturn, 1) := by decide +kernel
theorem dX11_shape_0 : decode cX11_shape 0 = .ok (.iload_n 1, 1) := by decide +kernel
theorem dX11_shape_1 : decode cX11_shape 1 = .ok (.invokestatic 98, 3) := by decide +kernel
theorem dX11_shape_4 : decode cX11_shape 4 = .ok (.ifCond .eq 6, 3) := by decide +kernel
theorem dX11_shape_7 : decode cX11_shape 7 = .ok (.ldc 64, 2) := by decide +kernel
theorem dX11_shape_9 : decode cX11_shape 9 = .ok (.ireturn, 1) := by decide +kernel
theorem dX11_shape_10 : decode cX11_shape 10 = .ok (.aload_n 0, 1) := by decide +kernel
theorem dX11_shape_11 : decode cX11_shape 11 = .ok (.getfield 20, 3) := by decide +kernel
theorem dX11_shape_14 : decode cX11_shape 14 = .ok (.iload_n 1, 1) := by decide +kernel
theorem dX11_shape_15 : decode cX11_shape 15 = .ok (.aaload, 1) := by decide +kernel
theorem dX11_shape_16 : decode cX11_shape 16 = .ok (.astore 4, 2) := by decide +kernel
theorem dX11_shape_18 : decode cX11_shape 18 = .ok (.aload 4, 2) := by decide +kernel
theorem dX11_shape_20 : decode cX11_shape 20 = .ok (.ifnonnull 9, 3) := by decide +kernel
theorem dX11_shape_23 : decode cX11_shape 23 = .ok (.aload_n 0, 1) := by decide +kernel
theorem dX11_shape_24 : decode cX11_shape 24 = .ok (.iconst 1, 1) := by decide +kernel
theorem dX11_shape_25 : decode cX11_shape 25 = .ok (.invokevirtual 65, 3) := by decide +kernel
theorem dX11_shape_28 : decode cX11_shape 28 = .ok (.ireturn, 1) := by decide +kernel
theorem dX11_shape_29 : decode cX11_shape 29 = .ok (.aload 4, 2) := by decide +kernel
theorem dX11_shape_31 : decode cX11_shape 31 = .ok (.iload_n 2, 1) := by decide +kernel
theorem dX11_shape_32 : decode cX11_shape 32 = .ok (.invokevirtual 185, 3) := by decide +kernel
theorem dX11_shape_35 : decode cX11_shape 35 = .ok (.ifCond .eq 6, 3) := by decide +kernel
theorem dX11_shape_38 : decode cX11_shape 38 = .ok (.ldc 64, 2) := by decide +kernel
theorem dX11_shape_40 : decode cX11_shape 40 = .ok (.ireturn, 1) := by decide +kernel
theorem dX11_shape_41 : decode cX11_shape 41 = .ok (.aload_n 0, 1) := by decide +kernel
theorem dX11_shape_42 : decode cX11_shape 42 = .ok (.aload 4, 2) := by decide +kernel
theorem dX11_shape_44 : decode cX11_shape 44 = .ok (.iload_n 2, 1) := by decide +kernel
theorem dX11_shape_45 : decode cX11_shape 45 = .ok (.invokevirtual 188, 3) := by decide +kernel
theorem dX11_shape_48 : decode cX11_shape 48 = .ok (.aload 4, 2) := by decide +kernel
theorem dX11_shape_50 : decode cX11_shape 50 = .ok (.getfield 143, 3) := by decide +kernel
theorem dX11_shape_53 : decode cX11_shape 53 = .ok (.invokestatic 195, 3) := by decide +kernel
theorem dX11_shape_56 : decode cX11_shape 56 = .ok (.iload_n 3, 1) := by decide +kernel
theorem dX11_shape_57 : decode cX11_shape 57 = .ok (.invokestatic 198, 3) := by decide +kernel
theorem dX11_shape_60 : decode cX11_shape 60 = .ok (.invokevirtual 69, 3) := by decide +kernel
theorem dX11_shape_63 : decode cX11_shape 63 = .ok (.ireturn, 1) := by decide +kernel
theorem dX11_block_0 : decode cX11_block 0 = .ok (.iload_n 1, 1) := by decide +kernel
theorem dX11_block_1 : decode cX11_block 1 = .ok (.invokestatic 98, 3) := by decide +kernel
theorem dX11_block_4 : decode cX11_block 4 = .ok (.ifCond .eq 6, 3) := by decide +kernel
theorem dX11_block_7 : decode cX11_block 7 = .ok (.ldc 64, 2) := by decide +kernel
theorem dX11_block_9 : decode cX11_block 9 = .ok (.ireturn, 1) := by decide +kernel
theorem dX11_block_10 : decode cX11_block 10 = .ok (.aload_n 0, 1) := by decide +kernel
theorem dX11_block_11 : decode cX11_block 11 = .ok (.getfield 20, 3) := by decide +kernel
theorem dX11_block_14 : decode cX11_block 14 = .ok (.iload_n 1, 1) := by decide +kernel
theorem dX11_block_15 : decode cX11_block 15 = .ok (.aaload, 1) := by decide +kernel
theorem dX11_block_16 : decode cX11_block 16 = .ok (.astore 5, 2) := by decide +kernel
theorem dX11_block_18 : decode cX11_block 18 = .ok (.aload 5, 2) := by decide +kernel
theorem dX11_block_20 : decode cX11_block 20 = .ok (.ifnonnull 9, 3) := by decide +kernel
theorem dX11_block_23 : decode cX11_block 23 = .ok (.aload_n 0, 1) := by decide +kernel
theorem dX11_block_24 : decode cX11_block 24 = .ok (.iconst 1, 1) := by decide +kernel
theorem dX11_block_25 : decode cX11_block 25 = .ok (.invokevirtual 65, 3) := by decide +kernel
theorem dX11_block_28 : decode cX11_block 28 = .ok (.ireturn, 1) := by decide +kernel
theorem dX11_block_29 : decode cX11_block 29 = .ok (.aload 5, 2) := by decide +kernel
theorem dX11_block_31 : decode cX11_block 31 = .ok (.invokevirtual 136, 3) := by decide +kernel
theorem dX11_block_34 : decode cX11_block 34 = .ok (.ifCond .ne 9, 3) := by decide +kernel
theorem dX11_block_37 : decode cX11_block 37 = .ok (.aload_n 0, 1) := by decide +kernel
theorem dX11_block_38 : decode cX11_block 38 = .ok (.iconst 3, 1) := by decide +kernel
theorem dX11_block_39 : decode cX11_block 39 = .ok (.invokevirtual 65, 3) := by decide +kernel
theorem dX11_block_42 : decode cX11_block 42 = .ok (.ireturn, 1) := by decide +kernel
theorem dX11_block_43 : decode cX11_block 43 = .ok (.aload 5, 2) := by decide +kernel
theorem dX11_block_45 : decode cX11_block 45 = .ok (.iload_n 2, 1) := by decide +kernel
theorem dX11_block_46 : decode cX11_block 46 = .ok (.invokevirtual 159, 3) := by decide +kernel
theorem dX11_block_49 : decode cX11_block 49 = .ok (.ifCond .ne 28, 3) := by decide +kernel
theorem dX11_block_52 : decode cX11_block 52 = .ok (.aload 5, 2) := by decide +kernel
theorem dX11_block_54 : decode cX11_block 54 = .ok (.iload_n 3, 1) := by decide +kernel
theorem dX11_block_55 : decode cX11_block 55 = .ok (.invokevirtual 159, 3) := by decide +kernel
theorem dX11_block_58 : decode cX11_block 58 = .ok (.ifCond .ne 19, 3) := by decide +kernel
theorem dX11_block_61 : decode cX11_block 61 = .ok (.iload 4, 2) := by decide +kernel
theorem dX11_block_63 : decode cX11_block 63 = .ok (.iconst (-1), 1) := by decide +kernel
theorem dX11_block_64 : decode cX11_block 64 = .ok (.if_icmp .eq 16, 3) := by decide +kernel
theorem dX11_block_67 : decode cX11_block 67 = .ok (.aload 5, 2) := by decide +kernel
theorem dX11_block_69 : decode cX11_block 69 = .ok (.iload 4, 2) := by decide +kernel
theorem dX11_block_71 : decode cX11_block 71 = .ok (.invokevirtual 159, 3) := by decide +kernel
theorem dX11_block_74 : decode cX11_block 74 = .ok (.ifCond .eq 6, 3) := by decide +kernel
theorem dX11_block_77 : decode cX11_block 77 = .ok (.ldc 64, 2) := by decide +kernel
theorem dX11_block_79 : decode cX11_block 79 = .ok (.ireturn, 1) := by decide +kernel
theorem dX11_block_80 : decode cX11_block 80 = .ok (.aload 5, 2) := by decide +kernel
theorem dX11_block_82 : decode cX11_block 82 = .ok (.iload_n 2, 1) := by decide +kernel
theorem dX11_block_83 : decode cX11_block 83 = .ok (.iload_n 3, 1) := by decide +kernel
theorem dX11_block_84 : decode cX11_block 84 = .ok (.invokevirtual 201, 3) := by decide +kernel
theorem dX11_block_87 : decode cX11_block 87 = .ok (.lstore 6, 2) := by decide +kernel
theorem dX11_block_89 : decode cX11_block 89 = .ok (.iload 4, 2) := by decide +kernel
theorem dX11_block_91 : decode cX11_block 91 = .ok (.iconst (-1), 1) := by decide +kernel
theorem dX11_block_92 : decode cX11_block 92 = .ok (.if_icmp .ne 18, 3) := by decide +kernel
theorem dX11_block_95 : decode cX11_block 95 = .ok (.aload_n 0, 1) := by decide +kernel
theorem dX11_block_96 : decode cX11_block 96 = .ok (.lload 6, 2) := by decide +kernel
theorem dX11_block_98 : decode cX11_block 98 = .ok (.aload 5, 2) := by decide +kernel
theorem dX11_block_100 : decode cX11_block 100 = .ok (.getfield 143, 3) := by decide +kernel
theorem dX11_block_103 : decode cX11_block 103 = .ok (.invokestatic 204, 3) := by decide +kernel
theorem dX11_block_106 : decode cX11_block 106 = .ok (.invokevirtual 69, 3) := by decide +kernel
theorem dX11_block_109 : decode cX11_block 109 = .ok (.ireturn, 1) := by decide +kernel
theorem dX11_block_110 : decode cX11_block 110 = .ok (.aload_n 0, 1) := by decide +kernel
theorem dX11_block_111 : decode cX11_block 111 = .ok (.lload 6, 2) := by decide +kernel
theorem dX11_block_113 : decode cX11_block 113 = .ok (.lload 6, 2) := by decide +kernel
theorem dX11_block_115 : decode cX11_block 115 = .ok (.iload 4, 2) := by decide +kernel
theorem dX11_block_117 : decode cX11_block 117 = .ok (.invokestatic 191, 3) := by decide +kernel
theorem dX11_block_120 : decode cX11_block 120 = .ok (.invokestatic 204, 3) := by decide +kernel
theorem dX11_block_123 : decode cX11_block 123 = .ok (.invokevirtual 69, 3) := by decide +kernel
theorem dX11_block_126 : decode cX11_block 126 = .ok (.ireturn, 1) := by decide +kernel
theorem dX11_same_0 : decode cX11_same 0 = .ok (.iload_n 1, 1) := by decide +kernel
theorem dX11_same_1 : decode cX11_same 1 = .ok (.invokestatic 98, 3) := by decide +kernel
theorem dX11_same_4 : decode cX11_same 4 = .ok (.ifCond .ne 10, 3) := by decide +kernel
theorem dX11_same_7 : decode cX11_same 7 = .ok (.iload_n 2, 1) := by decide +kernel
theorem dX11_same_8 : decode cX11_same 8 = .ok (.invokestatic 98, 3) := by decide +kernel
theorem dX11_same_11 : decode cX11_same 11 = .ok (.ifCond .eq 6, 3) := by decide +kernel
theorem dX11_same_14 : decode cX11_same 14 = .ok (.ldc 64, 2) := by decide +kernel
theorem dX11_same_16 : decode cX11_same 16 = .ok (.ireturn, 1) := by decide +kernel
theorem dX11_same_17 : decode cX11_same 17 = .ok (.aload_n 0, 1) := by decide +kernel
theorem dX11_same_18 : decode cX11_same 18 = .ok (.getfield 20, 3) := by decide +kernel
theorem dX11_same_21 : decode cX11_same 21 = .ok (.iload_n 1, 1) := by decide +kernel
theorem dX11_same_22 : decode cX11_same 22 = .ok (.aaload, 1) := by decide +kernel
theorem dX11_same_23 : decode cX11_same 23 = .ok (.astore_n 3, 1) := by decide +kernel
theorem dX11_same_24 : decode cX11_same 24 = .ok (.aload_n 0, 1) := by decide +kernel
theorem dX11_same_25 : decode cX11_same 25 = .ok (.getfield 20, 3) := by decide +kernel
theorem dX11_same_28 : decode cX11_same 28 = .ok (.iload_n 2, 1) := by decide +kernel
theorem dX11_same_29 : decode cX11_same 29 = .ok (.aaload, 1) := by decide +kernel
theorem dX11_same_30 : decode cX11_same 30 = .ok (.astore 4, 2) := by decide +kernel
theorem dX11_same_32 : decode cX11_same 32 = .ok (.aload_n 3, 1) := by decide +kernel
theorem dX11_same_33 : decode cX11_same 33 = .ok (.ifnonnull 9, 3) := by decide +kernel
theorem dX11_same_36 : decode cX11_same 36 = .ok (.aload_n 0, 1) := by decide +kernel
theorem dX11_same_37 : decode cX11_same 37 = .ok (.iconst 1, 1) := by decide +kernel
theorem dX11_same_38 : decode cX11_same 38 = .ok (.invokevirtual 65, 3) := by decide +kernel
theorem dX11_same_41 : decode cX11_same 41 = .ok (.ireturn, 1) := by decide +kernel
theorem dX11_same_42 : decode cX11_same 42 = .ok (.aload_n 3, 1) := by decide +kernel
theorem dX11_same_43 : decode cX11_same 43 = .ok (.invokevirtual 136, 3) := by decide +kernel
theorem dX11_same_46 : decode cX11_same 46 = .ok (.ifCond .ne 9, 3) := by decide +kernel
theorem dX11_same_49 : decode cX11_same 49 = .ok (.aload_n 0, 1) := by decide +kernel
theorem dX11_same_50 : decode cX11_same 50 = .ok (.iconst 3, 1) := by decide +kernel
end
section
theorem dX11_same_51 : decode cX11_same 51 = .ok (.invokevirtual 65, 3) := by decide +kernel
theorem dX11_same_54 : decode cX11_same 54 = .ok (.ireturn, 1) := by decide +kernel
theorem dX11_same_55 : decode cX11_same 55 = .ok (.aload 4, 2) := by decide +kernel
theorem dX11_same_57 : decode cX11_same 57 = .ok (.ifnonnull 9, 3) := by decide +kernel
theorem dX11_same_60 : decode cX11_same 60 = .ok (.aload_n 0, 1) := by decide +kernel
theorem dX11_same_61 : decode cX11_same 61 = .ok (.iconst 1, 1) := by decide +kernel
theorem dX11_same_62 : decode cX11_same 62 = .ok (.invokevirtual 65, 3) := by decide +kernel
theorem dX11_same_65 : decode cX11_same 65 = .ok (.ireturn, 1) := by decide +kernel
theorem dX11_same_66 : decode cX11_same 66 = .ok (.aload 4, 2) := by decide +kernel
theorem dX11_same_68 : decode cX11_same 68 = .ok (.invokevirtual 136, 3) := by decide +kernel
theorem dX11_same_71 : decode cX11_same 71 = .ok (.ifCond .ne 9, 3) := by decide +kernel
theorem dX11_same_74 : decode cX11_same 74 = .ok (.aload_n 0, 1) := by decide +kernel
theorem dX11_same_75 : decode cX11_same 75 = .ok (.iconst 3, 1) := by decide +kernel
theorem dX11_same_76 : decode cX11_same 76 = .ok (.invokevirtual 65, 3) := by decide +kernel
theorem dX11_same_79 : decode cX11_same 79 = .ok (.ireturn, 1) := by decide +kernel
theorem dX11_same_80 : decode cX11_same 80 = .ok (.aload_n 0, 1) := by decide +kernel
theorem dX11_same_81 : decode cX11_same 81 = .ok (.aload_n 0, 1) := by decide +kernel
theorem dX11_same_82 : decode cX11_same 82 = .ok (.aload_n 3, 1) := by decide +kernel
theorem dX11_same_83 : decode cX11_same 83 = .ok (.aload 4, 2) := by decide +kernel
theorem dX11_same_85 : decode cX11_same 85 = .ok (.invokevirtual 207, 3) := by decide +kernel
theorem dX11_same_88 : decode cX11_same 88 = .ok (.ifCond .eq 7, 3) := by decide +kernel
theorem dX11_same_91 : decode cX11_same 91 = .ok (.iconst 1, 1) := by decide +kernel
theorem dX11_same_92 : decode cX11_same 92 = .ok (.goto 4, 3) := by decide +kernel
theorem dX11_same_95 : decode cX11_same 95 = .ok (.iconst 0, 1) := by decide +kernel
theorem dX11_same_96 : decode cX11_same 96 = .ok (.invokevirtual 69, 3) := by decide +kernel
theorem dX11_same_99 : decode cX11_same 99 = .ok (.ireturn, 1) := by decide +kernel
theorem dX11_ring_0 : decode cX11_ring 0 = .ok (.iload_n 1, 1) := by decide +kernel
theorem dX11_ring_1 : decode cX11_ring 1 = .ok (.invokestatic 98, 3) := by decide +kernel
theorem dX11_ring_4 : decode cX11_ring 4 = .ok (.ifCond .eq 6, 3) := by decide +kernel
theorem dX11_ring_7 : decode cX11_ring 7 = .ok (.ldc 64, 2) := by decide +kernel
theorem dX11_ring_9 : decode cX11_ring 9 = .ok (.ireturn, 1) := by decide +kernel
theorem dX11_ring_10 : decode cX11_ring 10 = .ok (.aload_n 0, 1) := by decide +kernel
theorem dX11_ring_11 : decode cX11_ring 11 = .ok (.getfield 20, 3) := by decide +kernel
theorem dX11_ring_14 : decode cX11_ring 14 = .ok (.iload_n 1, 1) := by decide +kernel
theorem dX11_ring_15 : decode cX11_ring 15 = .ok (.aaload, 1) := by decide +kernel
theorem dX11_ring_16 : decode cX11_ring 16 = .ok (.astore_n 2, 1) := by decide +kernel
theorem dX11_ring_17 : decode cX11_ring 17 = .ok (.aload_n 2, 1) := by decide +kernel
theorem dX11_ring_18 : decode cX11_ring 18 = .ok (.ifnonnull 9, 3) := by decide +kernel
theorem dX11_ring_21 : decode cX11_ring 21 = .ok (.aload_n 0, 1) := by decide +kernel
theorem dX11_ring_22 : decode cX11_ring 22 = .ok (.iconst 1, 1) := by decide +kernel
theorem dX11_ring_23 : decode cX11_ring 23 = .ok (.invokevirtual 65, 3) := by decide +kernel
theorem dX11_ring_26 : decode cX11_ring 26 = .ok (.ireturn, 1) := by decide +kernel
theorem dX11_ring_27 : decode cX11_ring 27 = .ok (.aload_n 2, 1) := by decide +kernel
theorem dX11_ring_28 : decode cX11_ring 28 = .ok (.invokevirtual 136, 3) := by decide +kernel
theorem dX11_ring_31 : decode cX11_ring 31 = .ok (.ifCond .ne 9, 3) := by decide +kernel
theorem dX11_ring_34 : decode cX11_ring 34 = .ok (.aload_n 0, 1) := by decide +kernel
theorem dX11_ring_35 : decode cX11_ring 35 = .ok (.iconst 3, 1) := by decide +kernel
theorem dX11_ring_36 : decode cX11_ring 36 = .ok (.invokevirtual 65, 3) := by decide +kernel
theorem dX11_ring_39 : decode cX11_ring 39 = .ok (.ireturn, 1) := by decide +kernel
theorem dX11_ring_40 : decode cX11_ring 40 = .ok (.aload_n 0, 1) := by decide +kernel
theorem dX11_ring_41 : decode cX11_ring 41 = .ok (.getfield 42, 3) := by decide +kernel
theorem dX11_ring_44 : decode cX11_ring 44 = .ok (.aload_n 2, 1) := by decide +kernel
theorem dX11_ring_45 : decode cX11_ring 45 = .ok (.invokevirtual 211, 3) := by decide +kernel
theorem dX11_ring_48 : decode cX11_ring 48 = .ok (.istore_n 3, 1) := by decide +kernel
theorem dX11_ring_49 : decode cX11_ring 49 = .ok (.iload_n 3, 1) := by decide +kernel
theorem dX11_ring_50 : decode cX11_ring 50 = .ok (.iconst (-1), 1) := by decide +kernel
theorem dX11_ring_51 : decode cX11_ring 51 = .ok (.if_icmp .ne 8, 3) := by decide +kernel
theorem dX11_ring_54 : decode cX11_ring 54 = .ok (.ldc 176, 2) := by decide +kernel
theorem dX11_ring_56 : decode cX11_ring 56 = .ok (.goto 8, 3) := by decide +kernel
theorem dX11_ring_59 : decode cX11_ring 59 = .ok (.aload_n 0, 1) := by decide +kernel
theorem dX11_ring_60 : decode cX11_ring 60 = .ok (.iload_n 3, 1) := by decide +kernel
theorem dX11_ring_61 : decode cX11_ring 61 = .ok (.invokevirtual 69, 3) := by decide +kernel
theorem dX11_ring_64 : decode cX11_ring 64 = .ok (.ireturn, 1) := by decide +kernel
theorem dX11_lift_0 : decode cX11_lift 0 = .ok (.iload_n 1, 1) := by decide +kernel
theorem dX11_lift_1 : decode cX11_lift 1 = .ok (.invokestatic 98, 3) := by decide +kernel
theorem dX11_lift_4 : decode cX11_lift 4 = .ok (.ifCond .ne 22, 3) := by decide +kernel
theorem dX11_lift_7 : decode cX11_lift 7 = .ok (.iload_n 2, 1) := by decide +kernel
theorem dX11_lift_8 : decode cX11_lift 8 = .ok (.invokestatic 60, 3) := by decide +kernel
theorem dX11_lift_11 : decode cX11_lift 11 = .ok (.ifCond .ne 15, 3) := by decide +kernel
theorem dX11_lift_14 : decode cX11_lift 14 = .ok (.iload 4, 2) := by decide +kernel
theorem dX11_lift_16 : decode cX11_lift 16 = .ok (.ifCond .lt 10, 3) := by decide +kernel
theorem dX11_lift_19 : decode cX11_lift 19 = .ok (.iload 4, 2) := by decide +kernel
theorem dX11_lift_21 : decode cX11_lift 21 = .ok (.bipush 96, 2) := by decide +kernel
theorem dX11_lift_23 : decode cX11_lift 23 = .ok (.if_icmp .le 6, 3) := by decide +kernel
theorem dX11_lift_26 : decode cX11_lift 26 = .ok (.ldc 64, 2) := by decide +kernel
theorem dX11_lift_28 : decode cX11_lift 28 = .ok (.ireturn, 1) := by decide +kernel
theorem dX11_lift_29 : decode cX11_lift 29 = .ok (.aload_n 0, 1) := by decide +kernel
theorem dX11_lift_30 : decode cX11_lift 30 = .ok (.getfield 20, 3) := by decide +kernel
theorem dX11_lift_33 : decode cX11_lift 33 = .ok (.iload_n 1, 1) := by decide +kernel
theorem dX11_lift_34 : decode cX11_lift 34 = .ok (.aaload, 1) := by decide +kernel
theorem dX11_lift_35 : decode cX11_lift 35 = .ok (.astore 6, 2) := by decide +kernel
theorem dX11_lift_37 : decode cX11_lift 37 = .ok (.aload_n 0, 1) := by decide +kernel
theorem dX11_lift_38 : decode cX11_lift 38 = .ok (.getfield 11, 3) := by decide +kernel
theorem dX11_lift_41 : decode cX11_lift 41 = .ok (.iload_n 2, 1) := by decide +kernel
theorem dX11_lift_42 : decode cX11_lift 42 = .ok (.aaload, 1) := by decide +kernel
theorem dX11_lift_43 : decode cX11_lift 43 = .ok (.astore 7, 2) := by decide +kernel
theorem dX11_lift_45 : decode cX11_lift 45 = .ok (.aload 6, 2) := by decide +kernel
theorem dX11_lift_47 : decode cX11_lift 47 = .ok (.ifnull 11, 3) := by decide +kernel
theorem dX11_lift_50 : decode cX11_lift 50 = .ok (.aload 7, 2) := by decide +kernel
theorem dX11_lift_52 : decode cX11_lift 52 = .ok (.invokevirtual 72, 3) := by decide +kernel
theorem dX11_lift_55 : decode cX11_lift 55 = .ok (.ifCond .eq 9, 3) := by decide +kernel
theorem dX11_lift_58 : decode cX11_lift 58 = .ok (.aload_n 0, 1) := by decide +kernel
theorem dX11_lift_59 : decode cX11_lift 59 = .ok (.iconst 1, 1) := by decide +kernel
theorem dX11_lift_60 : decode cX11_lift 60 = .ok (.invokevirtual 65, 3) := by decide +kernel
theorem dX11_lift_63 : decode cX11_lift 63 = .ok (.ireturn, 1) := by decide +kernel
theorem dX11_lift_64 : decode cX11_lift 64 = .ok (.aload 7, 2) := by decide +kernel
theorem dX11_lift_66 : decode cX11_lift 66 = .ok (.iload_n 3, 1) := by decide +kernel
theorem dX11_lift_67 : decode cX11_lift 67 = .ok (.iload 4, 2) := by decide +kernel
theorem dX11_lift_69 : decode cX11_lift 69 = .ok (.invokevirtual 76, 3) := by decide +kernel
theorem dX11_lift_72 : decode cX11_lift 72 = .ok (.ifCond .ne 9, 3) := by decide +kernel
theorem dX11_lift_75 : decode cX11_lift 75 = .ok (.aload_n 0, 1) := by decide +kernel
theorem dX11_lift_76 : decode cX11_lift 76 = .ok (.iconst 2, 1) := by decide +kernel
theorem dX11_lift_77 : decode cX11_lift 77 = .ok (.invokevirtual 65, 3) := by decide +kernel
theorem dX11_lift_80 : decode cX11_lift 80 = .ok (.ireturn, 1) := by decide +kernel
theorem dX11_lift_81 : decode cX11_lift 81 = .ok (.aload 6, 2) := by decide +kernel
theorem dX11_lift_83 : decode cX11_lift 83 = .ok (.iload 5, 2) := by decide +kernel
theorem dX11_lift_85 : decode cX11_lift 85 = .ok (.invokevirtual 159, 3) := by decide +kernel
theorem dX11_lift_88 : decode cX11_lift 88 = .ok (.ifCond .eq 6, 3) := by decide +kernel
theorem dX11_lift_91 : decode cX11_lift 91 = .ok (.ldc 64, 2) := by decide +kernel
theorem dX11_lift_93 : decode cX11_lift 93 = .ok (.ireturn, 1) := by decide +kernel
theorem dX11_lift_94 : decode cX11_lift 94 = .ok (.iload 5, 2) := by decide +kernel
theorem dX11_lift_96 : decode cX11_lift 96 = .ok (.istore 8, 2) := by decide +kernel
theorem dX11_lift_98 : decode cX11_lift 98 = .ok (.iconst 0, 1) := by decide +kernel
theorem dX11_lift_99 : decode cX11_lift 99 = .ok (.istore 9, 2) := by decide +kernel
theorem dX11_lift_101 : decode cX11_lift 101 = .ok (.iload 9, 2) := by decide +kernel
theorem dX11_lift_103 : decode cX11_lift 103 = .ok (.iload 4, 2) := by decide +kernel
theorem dX11_lift_105 : decode cX11_lift 105 = .ok (.if_icmp .ge 44, 3) := by decide +kernel
theorem dX11_lift_108 : decode cX11_lift 108 = .ok (.aload 7, 2) := by decide +kernel
theorem dX11_lift_110 : decode cX11_lift 110 = .ok (.iload_n 3, 1) := by decide +kernel
theorem dX11_lift_111 : decode cX11_lift 111 = .ok (.iload 9, 2) := by decide +kernel
theorem dX11_lift_113 : decode cX11_lift 113 = .ok (.iadd, 1) := by decide +kernel
theorem dX11_lift_114 : decode cX11_lift 114 = .ok (.invokevirtual 215, 3) := by decide +kernel
theorem dX11_lift_117 : decode cX11_lift 117 = .ok (.istore 10, 2) := by decide +kernel
theorem dX11_lift_119 : decode cX11_lift 119 = .ok (.aload 6, 2) := by decide +kernel
theorem dX11_lift_121 : decode cX11_lift 121 = .ok (.iload 10, 2) := by decide +kernel
theorem dX11_lift_123 : decode cX11_lift 123 = .ok (.invokevirtual 218, 3) := by decide +kernel
theorem dX11_lift_126 : decode cX11_lift 126 = .ok (.ifCond .eq 6, 3) := by decide +kernel
theorem dX11_lift_129 : decode cX11_lift 129 = .ok (.ldc 64, 2) := by decide +kernel
theorem dX11_lift_131 : decode cX11_lift 131 = .ok (.ireturn, 1) := by decide +kernel
theorem dX11_lift_132 : decode cX11_lift 132 = .ok (.aload 6, 2) := by decide +kernel
theorem dX11_lift_134 : decode cX11_lift 134 = .ok (.iload 10, 2) := by decide +kernel
theorem dX11_lift_136 : decode cX11_lift 136 = .ok (.iload 8, 2) := by decide +kernel
theorem dX11_lift_138 : decode cX11_lift 138 = .ok (.invokevirtual 221, 3) := by decide +kernel
theorem dX11_lift_141 : decode cX11_lift 141 = .ok (.istore 8, 2) := by decide +kernel
theorem dX11_lift_143 : decode cX11_lift 143 = .ok (.iinc 9 1, 3) := by decide +kernel
theorem dX11_lift_146 : decode cX11_lift 146 = .ok (.goto (-45), 3) := by decide +kernel
theorem dX11_lift_149 : decode cX11_lift 149 = .ok (.aload_n 0, 1) := by decide +kernel
theorem dX11_lift_150 : decode cX11_lift 150 = .ok (.iload 8, 2) := by decide +kernel
theorem dX11_lift_152 : decode cX11_lift 152 = .ok (.invokevirtual 69, 3) := by decide +kernel
theorem dX11_lift_155 : decode cX11_lift 155 = .ok (.ireturn, 1) := by decide +kernel
theorem dX11_kind_0 : decode cX11_kind 0 = .ok (.iload_n 1, 1) := by decide +kernel
theorem dX11_kind_1 : decode cX11_kind 1 = .ok (.invokestatic 98, 3) := by decide +kernel
theorem dX11_kind_4 : decode cX11_kind 4 = .ok (.ifCond .eq 6, 3) := by decide +kernel
theorem dX11_kind_7 : decode cX11_kind 7 = .ok (.ldc 64, 2) := by decide +kernel
theorem dX11_kind_9 : decode cX11_kind 9 = .ok (.ireturn, 1) := by decide +kernel
theorem dX11_kind_10 : decode cX11_kind 10 = .ok (.aload_n 0, 1) := by decide +kernel
theorem dX11_kind_11 : decode cX11_kind 11 = .ok (.getfield 20, 3) := by decide +kernel
theorem dX11_kind_14 : decode cX11_kind 14 = .ok (.iload_n 1, 1) := by decide +kernel
theorem dX11_kind_15 : decode cX11_kind 15 = .ok (.aaload, 1) := by decide +kernel
theorem dX11_kind_16 : decode cX11_kind 16 = .ok (.astore_n 2, 1) := by decide +kernel
theorem dX11_kind_17 : decode cX11_kind 17 = .ok (.aload_n 2, 1) := by decide +kernel
theorem dX11_kind_18 : decode cX11_kind 18 = .ok (.ifnonnull 11, 3) := by decide +kernel
theorem dX11_kind_21 : decode cX11_kind 21 = .ok (.aload_n 0, 1) := by decide +kernel
theorem dX11_kind_22 : decode cX11_kind 22 = .ok (.iconst 1, 1) := by decide +kernel
theorem dX11_kind_23 : decode cX11_kind 23 = .ok (.invokevirtual 65, 3) := by decide +kernel
theorem dX11_kind_26 : decode cX11_kind 26 = .ok (.goto 11, 3) := by decide +kernel
theorem dX11_kind_29 : decode cX11_kind 29 = .ok (.aload_n 0, 1) := by decide +kernel
theorem dX11_kind_30 : decode cX11_kind 30 = .ok (.aload_n 2, 1) := by decide +kernel
theorem dX11_kind_31 : decode cX11_kind 31 = .ok (.invokevirtual 224, 3) := by decide +kernel
theorem dX11_kind_34 : decode cX11_kind 34 = .ok (.invokevirtual 69, 3) := by decide +kernel
theorem dX11_kind_37 : decode cX11_kind 37 = .ok (.ireturn, 1) := by decide +kernel
theorem dX11_is_0 : decode cX11_is 0 = .ok (.iload_n 1, 1) := by decide +kernel
theorem dX11_is_1 : decode cX11_is 1 = .ok (.invokestatic 98, 3) := by decide +kernel
theorem dX11_is_4 : decode cX11_is 4 = .ok (.ifCond .ne 12, 3) := by decide +kernel
theorem dX11_is_7 : decode cX11_is 7 = .ok (.iload_n 2, 1) := by decide +kernel
theorem dX11_is_8 : decode cX11_is 8 = .ok (.ifCond .lt 8, 3) := by decide +kernel
theorem dX11_is_11 : decode cX11_is 11 = .ok (.iload_n 2, 1) := by decide +kernel
theorem dX11_is_12 : decode cX11_is 12 = .ok (.iconst 5, 1) := by decide +kernel
theorem dX11_is_13 : decode cX11_is 13 = .ok (.if_icmp .lt 6, 3) := by decide +kernel
theorem dX11_is_16 : decode cX11_is 16 = .ok (.ldc 64, 2) := by decide +kernel
theorem dX11_is_18 : decode cX11_is 18 = .ok (.ireturn, 1) := by decide +kernel
theorem dX11_is_19 : decode cX11_is 19 = .ok (.aload_n 0, 1) := by decide +kernel
theorem dX11_is_20 : decode cX11_is 20 = .ok (.getfield 20, 3) := by decide +kernel
theorem dX11_is_23 : decode cX11_is 23 = .ok (.iload_n 1, 1) := by decide +kernel
theorem dX11_is_24 : decode cX11_is 24 = .ok (.aaload, 1) := by decide +kernel
theorem dX11_is_25 : decode cX11_is 25 = .ok (.iload_n 2, 1) := by decide +kernel
theorem dX11_is_26 : decode cX11_is 26 = .ok (.invokestatic 228, 3) := by decide +kernel
theorem dX11_is_29 : decode cX11_is 29 = .ok (.ifCond .eq 7, 3) := by decide +kernel
theorem dX11_is_32 : decode cX11_is 32 = .ok (.iconst 1, 1) := by decide +kernel
theorem dX11_is_33 : decode cX11_is 33 = .ok (.goto 4, 3) := by decide +kernel
theorem dX11_is_36 : decode cX11_is 36 = .ok (.iconst 0, 1) := by decide +kernel
theorem dX11_is_37 : decode cX11_is 37 = .ok (.ireturn, 1) := by decide +kernel
theorem dX11_as_0 : decode cX11_as 0 = .ok (.iload_n 1, 1) := by decide +kernel
theorem dX11_as_1 : decode cX11_as 1 = .ok (.invokestatic 98, 3) := by decide +kernel
theorem dX11_as_4 : decode cX11_as 4 = .ok (.ifCond .ne 12, 3) := by decide +kernel
theorem dX11_as_7 : decode cX11_as 7 = .ok (.iload_n 2, 1) := by decide +kernel
theorem dX11_as_8 : decode cX11_as 8 = .ok (.ifCond .lt 8, 3) := by decide +kernel
theorem dX11_as_11 : decode cX11_as 11 = .ok (.iload_n 2, 1) := by decide +kernel
theorem dX11_as_12 : decode cX11_as 12 = .ok (.iconst 5, 1) := by decide +kernel
theorem dX11_as_13 : decode cX11_as 13 = .ok (.if_icmp .lt 6, 3) := by decide +kernel
theorem dX11_as_16 : decode cX11_as 16 = .ok (.ldc 64, 2) := by decide +kernel
theorem dX11_as_18 : decode cX11_as 18 = .ok (.ireturn, 1) := by decide +kernel
theorem dX11_as_19 : decode cX11_as 19 = .ok (.aload_n 0, 1) := by decide +kernel
theorem dX11_as_20 : decode cX11_as 20 = .ok (.getfield 20, 3) := by decide +kernel
theorem dX11_as_23 : decode cX11_as 23 = .ok (.iload_n 1, 1) := by decide +kernel
theorem dX11_as_24 : decode cX11_as 24 = .ok (.aaload, 1) := by decide +kernel
theorem dX11_as_25 : decode cX11_as 25 = .ok (.astore_n 3, 1) := by decide +kernel
theorem dX11_as_26 : decode cX11_as 26 = .ok (.aload_n 3, 1) := by decide +kernel
theorem dX11_as_27 : decode cX11_as 27 = .ok (.ifnonnull 9, 3) := by decide +kernel
theorem dX11_as_30 : decode cX11_as 30 = .ok (.aload_n 0, 1) := by decide +kernel
theorem dX11_as_31 : decode cX11_as 31 = .ok (.iconst 1, 1) := by decide +kernel
theorem dX11_as_32 : decode cX11_as 32 = .ok (.invokevirtual 65, 3) := by decide +kernel
theorem dX11_as_35 : decode cX11_as 35 = .ok (.ireturn, 1) := by decide +kernel
theorem dX11_as_36 : decode cX11_as 36 = .ok (.aload_n 3, 1) := by decide +kernel
theorem dX11_as_37 : decode cX11_as 37 = .ok (.iload_n 2, 1) := by decide +kernel
theorem dX11_as_38 : decode cX11_as 38 = .ok (.invokestatic 228, 3) := by decide +kernel
theorem dX11_as_41 : decode cX11_as 41 = .ok (.ifCond .eq 14, 3) := by decide +kernel
theorem dX11_as_44 : decode cX11_as 44 = .ok (.aload_n 0, 1) := by decide +kernel
theorem dX11_as_45 : decode cX11_as 45 = .ok (.aload_n 3, 1) := by decide +kernel
theorem dX11_as_46 : decode cX11_as 46 = .ok (.getfield 143, 3) := by decide +kernel
theorem dX11_as_49 : decode cX11_as 49 = .ok (.invokevirtual 69, 3) := by decide +kernel
theorem dX11_as_52 : decode cX11_as 52 = .ok (.goto 8, 3) := by decide +kernel
theorem dX11_as_55 : decode cX11_as 55 = .ok (.aload_n 0, 1) := by decide +kernel
theorem dX11_as_56 : decode cX11_as 56 = .ok (.iconst 3, 1) := by decide +kernel
theorem dX11_as_57 : decode cX11_as 57 = .ok (.invokevirtual 65, 3) := by decide +kernel
theorem dX11_as_60 : decode cX11_as 60 = .ok (.ireturn, 1) := by decide +kernel
theorem dX11_ask_0 : decode cX11_ask 0 = .ok (.iload_n 1, 1) := by decide +kernel
theorem dX11_ask_1 : decode cX11_ask 1 = .ok (.invokestatic 98, 3) := by decide +kernel
theorem dX11_ask_4 : decode cX11_ask 4 = .ok (.ifCond .ne 12, 3) := by decide +kernel
theorem dX11_ask_7 : decode cX11_ask 7 = .ok (.iload_n 2, 1) := by decide +kernel
theorem dX11_ask_8 : decode cX11_ask 8 = .ok (.ifCond .lt 8, 3) := by decide +kernel
theorem dX11_ask_11 : decode cX11_ask 11 = .ok (.iload_n 2, 1) := by decide +kernel
theorem dX11_ask_12 : decode cX11_ask 12 = .ok (.iconst 1, 1) := by decide +kernel
theorem dX11_ask_13 : decode cX11_ask 13 = .ok (.if_icmp .le 6, 3) := by decide +kernel
theorem dX11_ask_16 : decode cX11_ask 16 = .ok (.ldc 64, 2) := by decide +kernel
theorem dX11_ask_18 : decode cX11_ask 18 = .ok (.ireturn, 1) := by decide +kernel
theorem dX11_ask_19 : decode cX11_ask 19 = .ok (.aload_n 0, 1) := by decide +kernel
theorem dX11_ask_20 : decode cX11_ask 20 = .ok (.getfield 24, 3) := by decide +kernel
theorem dX11_ask_23 : decode cX11_ask 23 = .ok (.iconst 2, 1) := by decide +kernel
theorem dX11_ask_24 : decode cX11_ask 24 = .ok (.iconst 0, 1) := by decide +kernel
theorem dX11_ask_25 : decode cX11_ask 25 = .ok (.invokevirtual 28, 3) := by decide +kernel
theorem dX11_ask_28 : decode cX11_ask 28 = .ok (.aload_n 0, 1) := by decide +kernel
theorem dX11_ask_29 : decode cX11_ask 29 = .ok (.getfield 20, 3) := by decide +kernel
theorem dX11_ask_32 : decode cX11_ask 32 = .ok (.iload_n 1, 1) := by decide +kernel
theorem dX11_ask_33 : decode cX11_ask 33 = .ok (.aaload, 1) := by decide +kernel
theorem dX11_ask_34 : decode cX11_ask 34 = .ok (.astore_n 3, 1) := by decide +kernel
theorem dX11_ask_35 : decode cX11_ask 35 = .ok (.aload_n 3, 1) := by decide +kernel
theorem dX11_ask_36 : decode cX11_ask 36 = .ok (.ifnonnull 9, 3) := by decide +kernel
theorem dX11_ask_39 : decode cX11_ask 39 = .ok (.aload_n 0, 1) := by decide +kernel
theorem dX11_ask_40 : decode cX11_ask 40 = .ok (.iconst 1, 1) := by decide +kernel
theorem dX11_ask_41 : decode cX11_ask 41 = .ok (.invokevirtual 65, 3) := by decide +kernel
theorem dX11_ask_44 : decode cX11_ask 44 = .ok (.ireturn, 1) := by decide +kernel
theorem dX11_ask_45 : decode cX11_ask 45 = .ok (.aload_n 0, 1) := by decide +kernel
theorem dX11_ask_46 : decode cX11_ask 46 = .ok (.iload_n 2, 1) := by decide +kernel
theorem dX11_ask_47 : decode cX11_ask 47 = .ok (.ifCond .ne 14, 3) := by decide +kernel
theorem dX11_ask_50 : decode cX11_ask 50 = .ok (.aload_n 3, 1) := by decide +kernel
theorem dX11_ask_51 : decode cX11_ask 51 = .ok (.aload_n 0, 1) := by decide +kernel
theorem dX11_ask_52 : decode cX11_ask 52 = .ok (.getfield 24, 3) := by decide +kernel
theorem dX11_ask_55 : decode cX11_ask 55 = .ok (.invokevirtual 232, 3) := by decide +kernel
theorem dX11_ask_58 : decode cX11_ask 58 = .ok (.goto 11, 3) := by decide +kernel
theorem dX11_ask_61 : decode cX11_ask 61 = .ok (.aload_n 3, 1) := by decide +kernel
theorem dX11_ask_62 : decode cX11_ask 62 = .ok (.aload_n 0, 1) := by decide +kernel
theorem dX11_ask_63 : decode cX11_ask 63 = .ok (.getfield 24, 3) := by decide +kernel
theorem dX11_ask_66 : decode cX11_ask 66 = .ok (.invokevirtual 236, 3) := by decide +kernel
theorem dX11_ask_69 : decode cX11_ask 69 = .ok (.invokevirtual 69, 3) := by decide +kernel
theorem dX11_ask_72 : decode cX11_ask 72 = .ok (.ireturn, 1) := by decide +kernel
theorem dX11_trace_0 : decode cX11_trace 0 = .ok (.aload_n 0, 1) := by decide +kernel
theorem dX11_trace_1 : decode cX11_trace 1 = .ok (.getfield 24, 3) := by decide +kernel
theorem dX11_trace_4 : decode cX11_trace 4 = .ok (.iload_n 1, 1) := by decide +kernel
theorem dX11_trace_5 : decode cX11_trace 5 = .ok (.iconst 1, 1) := by decide +kernel
theorem dX11_trace_6 : decode cX11_trace 6 = .ok (.invokevirtual 76, 3) := by decide +kernel
theorem dX11_trace_9 : decode cX11_trace 9 = .ok (.ifCond .eq 14, 3) := by decide +kernel
theorem dX11_trace_12 : decode cX11_trace 12 = .ok (.aload_n 0, 1) := by decide +kernel
theorem dX11_trace_13 : decode cX11_trace 13 = .ok (.getfield 24, 3) := by decide +kernel
theorem dX11_trace_16 : decode cX11_trace 16 = .ok (.iload_n 1, 1) := by decide +kernel
theorem dX11_trace_17 : decode cX11_trace 17 = .ok (.invokevirtual 215, 3) := by decide +kernel
theorem dX11_trace_20 : decode cX11_trace 20 = .ok (.goto 5, 3) := by decide +kernel
theorem dX11_trace_23 : decode cX11_trace 23 = .ok (.ldc 239, 2) := by decide +kernel
theorem dX11_trace_25 : decode cX11_trace 25 = .ok (.ireturn, 1) := by decide +kernel
theorem dX11_joins_0 : decode cX11_joins 0 = .ok (.iload_n 1, 1) := by decide +kernel
theorem dX11_joins_1 : decode cX11_joins 1 = .ok (.iconst 2, 1) := by decide +kernel
theorem dX11_joins_2 : decode cX11_joins 2 = .ok (.if_icmp .lt 19, 3) := by decide +kernel
theorem dX11_joins_5 : decode cX11_joins 5 = .ok (.iload_n 1, 1) := by decide +kernel
theorem dX11_joins_6 : decode cX11_joins 6 = .ok (.bipush 10, 2) := by decide +kernel
theorem dX11_joins_8 : decode cX11_joins 8 = .ok (.if_icmp .gt 13, 3) := by decide +kernel
theorem dX11_joins_11 : decode cX11_joins 11 = .ok (.iload_n 2, 1) := by decide +kernel
theorem dX11_joins_12 : decode cX11_joins 12 = .ok (.ifCond .lt 9, 3) := by decide +kernel
theorem dX11_joins_15 : decode cX11_joins 15 = .ok (.iload_n 2, 1) := by decide +kernel
theorem dX11_joins_16 : decode cX11_joins 16 = .ok (.bipush 9, 2) := by decide +kernel
theorem dX11_joins_18 : decode cX11_joins 18 = .ok (.if_icmp .le 7, 3) := by decide +kernel
theorem dX11_joins_21 : decode cX11_joins 21 = .ok (.ldc2_w 240, 3) := by decide +kernel
theorem dX11_joins_24 : decode cX11_joins 24 = .ok (.lreturn, 1) := by decide +kernel
theorem dX11_joins_25 : decode cX11_joins 25 = .ok (.aload_n 0, 1) := by decide +kernel
theorem dX11_joins_26 : decode cX11_joins 26 = .ok (.getfield 56, 3) := by decide +kernel
theorem dX11_joins_29 : decode cX11_joins 29 = .ok (.iload_n 1, 1) := by decide +kernel
theorem dX11_joins_30 : decode cX11_joins 30 = .ok (.invokevirtual 242, 3) := by decide +kernel
theorem dX11_joins_33 : decode cX11_joins 33 = .ok (.aload_n 0, 1) := by decide +kernel
theorem dX11_joins_34 : decode cX11_joins 34 = .ok (.getfield 56, 3) := by decide +kernel
theorem dX11_joins_37 : decode cX11_joins 37 = .ok (.iload_n 3, 1) := by decide +kernel
theorem dX11_joins_38 : decode cX11_joins 38 = .ok (.invokevirtual 245, 3) := by decide +kernel
theorem dX11_joins_41 : decode cX11_joins 41 = .ok (.ifCond .eq 9, 3) := by decide +kernel
theorem dX11_joins_44 : decode cX11_joins 44 = .ok (.ldc2_w 240, 3) := by decide +kernel
theorem dX11_joins_47 : decode cX11_joins 47 = .ok (.goto 12, 3) := by decide +kernel
theorem dX11_joins_50 : decode cX11_joins 50 = .ok (.aload_n 0, 1) := by decide +kernel
theorem dX11_joins_51 : decode cX11_joins 51 = .ok (.getfield 56, 3) := by decide +kernel
theorem dX11_joins_54 : decode cX11_joins 54 = .ok (.iload_n 2, 1) := by decide +kernel
theorem dX11_joins_55 : decode cX11_joins 55 = .ok (.iload_n 3, 1) := by decide +kernel
theorem dX11_joins_56 : decode cX11_joins 56 = .ok (.invokevirtual 248, 3) := by decide +kernel
theorem dX11_joins_59 : decode cX11_joins 59 = .ok (.lreturn, 1) := by decide +kernel
theorem dX11_shapes_0 : decode cX11_shapes 0 = .ok (.iload_n 1, 1) := by decide +kernel
theorem dX11_shapes_1 : decode cX11_shapes 1 = .ok (.iconst 1, 1) := by decide +kernel
theorem dX11_shapes_2 : decode cX11_shapes 2 = .ok (.if_icmp .lt 9, 3) := by decide +kernel
theorem dX11_shapes_5 : decode cX11_shapes 5 = .ok (.iload_n 1, 1) := by decide +kernel
theorem dX11_shapes_6 : decode cX11_shapes 6 = .ok (.bipush 10, 2) := by decide +kernel
theorem dX11_shapes_8 : decode cX11_shapes 8 = .ok (.if_icmp .le 6, 3) := by decide +kernel
theorem dX11_shapes_11 : decode cX11_shapes 11 = .ok (.ldc 64, 2) := by decide +kernel
theorem dX11_shapes_13 : decode cX11_shapes 13 = .ok (.ireturn, 1) := by decide +kernel
theorem dX11_shapes_14 : decode cX11_shapes 14 = .ok (.aload_n 0, 1) := by decide +kernel
theorem dX11_shapes_15 : decode cX11_shapes 15 = .ok (.getfield 56, 3) := by decide +kernel
theorem dX11_shapes_18 : decode cX11_shapes 18 = .ok (.iload_n 1, 1) := by decide +kernel
theorem dX11_shapes_19 : decode cX11_shapes 19 = .ok (.invokevirtual 242, 3) := by decide +kernel
theorem dX11_shapes_22 : decode cX11_shapes 22 = .ok (.iload_n 2, 1) := by decide +kernel
theorem dX11_shapes_23 : decode cX11_shapes 23 = .ok (.ldc 239, 2) := by decide +kernel
theorem dX11_shapes_25 : decode cX11_shapes 25 = .ok (.if_icmp .ne 11, 3) := by decide +kernel
theorem dX11_shapes_28 : decode cX11_shapes 28 = .ok (.aload_n 0, 1) := by decide +kernel
theorem dX11_shapes_29 : decode cX11_shapes 29 = .ok (.getfield 56, 3) := by decide +kernel
theorem dX11_shapes_32 : decode cX11_shapes 32 = .ok (.getfield 251, 3) := by decide +kernel
theorem dX11_shapes_35 : decode cX11_shapes 35 = .ok (.ireturn, 1) := by decide +kernel
theorem dX11_shapes_36 : decode cX11_shapes 36 = .ok (.aload_n 0, 1) := by decide +kernel
theorem dX11_shapes_37 : decode cX11_shapes 37 = .ok (.getfield 56, 3) := by decide +kernel
theorem dX11_shapes_40 : decode cX11_shapes 40 = .ok (.iload_n 2, 1) := by decide +kernel
theorem dX11_shapes_41 : decode cX11_shapes 41 = .ok (.invokevirtual 245, 3) := by decide +kernel
theorem dX11_shapes_44 : decode cX11_shapes 44 = .ok (.ifCond .eq 8, 3) := by decide +kernel
theorem dX11_shapes_47 : decode cX11_shapes 47 = .ok (.ldc 64, 2) := by decide +kernel
theorem dX11_shapes_49 : decode cX11_shapes 49 = .ok (.goto 15, 3) := by decide +kernel
theorem dX11_shapes_52 : decode cX11_shapes 52 = .ok (.aload_n 0, 1) := by decide +kernel
theorem dX11_shapes_53 : decode cX11_shapes 53 = .ok (.getfield 56, 3) := by decide +kernel
theorem dX11_shapes_56 : decode cX11_shapes 56 = .ok (.iload_n 2, 1) := by decide +kernel
theorem dX11_shapes_57 : decode cX11_shapes 57 = .ok (.invokevirtual 254, 3) := by decide +kernel
theorem dX11_shapes_60 : decode cX11_shapes 60 = .ok (.iload_n 3, 1) := by decide +kernel
theorem dX11_shapes_61 : decode cX11_shapes 61 = .ok (.invokestatic 198, 3) := by decide +kernel
theorem dX11_shapes_64 : decode cX11_shapes 64 = .ok (.ireturn, 1) := by decide +kernel
theorem dX11_count_0 : decode cX11_count 0 = .ok (.iload_n 1, 1) := by decide +kernel
theorem dX11_count_1 : decode cX11_count 1 = .ok (.ifCond .lt 9, 3) := by decide +kernel
theorem dX11_count_4 : decode cX11_count 4 = .ok (.iload_n 1, 1) := by decide +kernel
theorem dX11_count_5 : decode cX11_count 5 = .ok (.bipush 6, 2) := by decide +kernel
theorem dX11_count_7 : decode cX11_count 7 = .ok (.if_icmp .le 6, 3) := by decide +kernel
theorem dX11_count_10 : decode cX11_count 10 = .ok (.ldc 64, 2) := by decide +kernel
theorem dX11_count_12 : decode cX11_count 12 = .ok (.ireturn, 1) := by decide +kernel
theorem dX11_count_13 : decode cX11_count 13 = .ok (.iload_n 1, 1) := by decide +kernel
theorem dX11_count_14 : decode cX11_count 14 = .ok (.ifCond .ne 10, 3) := by decide +kernel
theorem dX11_count_17 : decode cX11_count 17 = .ok (.aload_n 0, 1) := by decide +kernel
theorem dX11_count_18 : decode cX11_count 18 = .ok (.invokevirtual 257, 3) := by decide +kernel
theorem dX11_count_21 : decode cX11_count 21 = .ok (.goto 8, 3) := by decide +kernel
theorem dX11_count_24 : decode cX11_count 24 = .ok (.aload_n 0, 1) := by decide +kernel
theorem dX11_count_25 : decode cX11_count 25 = .ok (.iload_n 1, 1) := by decide +kernel
theorem dX11_count_26 : decode cX11_count 26 = .ok (.invokevirtual 260, 3) := by decide +kernel
theorem dX11_count_29 : decode cX11_count 29 = .ok (.ireturn, 1) := by decide +kernel
theorem dX11_status_0 : decode cX11_status 0 = .ok (.aload_n 0, 1) := by decide +kernel
theorem dX11_status_1 : decode cX11_status 1 = .ok (.getfield 263, 3) := by decide +kernel
theorem dX11_status_4 : decode cX11_status 4 = .ok (.ireturn, 1) := by decide +kernel
theorem dX11_noRow_0 : decode cX11_noRow 0 = .ok (.iload_n 0, 1) := by decide +kernel
theorem dX11_noRow_1 : decode cX11_noRow 1 = .ok (.ifCond .lt 9, 3) := by decide +kernel
theorem dX11_noRow_4 : decode cX11_noRow 4 = .ok (.iload_n 0, 1) := by decide +kernel
theorem dX11_noRow_5 : decode cX11_noRow 5 = .ok (.bipush 8, 2) := by decide +kernel
theorem dX11_noRow_7 : decode cX11_noRow 7 = .ok (.if_icmp .lt 7, 3) := by decide +kernel
theorem dX11_noRow_10 : decode cX11_noRow 10 = .ok (.iconst 1, 1) := by decide +kernel
theorem dX11_noRow_11 : decode cX11_noRow 11 = .ok (.goto 4, 3) := by decide +kernel
theorem dX11_noRow_14 : decode cX11_noRow 14 = .ok (.iconst 0, 1) := by decide +kernel
theorem dX11_noRow_15 : decode cX11_noRow 15 = .ok (.ireturn, 1) := by decide +kernel
theorem dX11_noPlace_0 : decode cX11_noPlace 0 = .ok (.iload_n 0, 1) := by decide +kernel
theorem dX11_noPlace_1 : decode cX11_noPlace 1 = .ok (.ifCond .lt 9, 3) := by decide +kernel
theorem dX11_noPlace_4 : decode cX11_noPlace 4 = .ok (.iload_n 0, 1) := by decide +kernel
theorem dX11_noPlace_5 : decode cX11_noPlace 5 = .ok (.bipush 10, 2) := by decide +kernel
theorem dX11_noPlace_7 : decode cX11_noPlace 7 = .ok (.if_icmp .lt 7, 3) := by decide +kernel
theorem dX11_noPlace_10 : decode cX11_noPlace 10 = .ok (.iconst 1, 1) := by decide +kernel
theorem dX11_noPlace_11 : decode cX11_noPlace 11 = .ok (.goto 4, 3) := by decide +kernel
theorem dX11_noPlace_14 : decode cX11_noPlace 14 = .ok (.iconst 0, 1) := by decide +kernel
theorem dX11_noPlace_15 : decode cX11_noPlace 15 = .ok (.ireturn, 1) := by decide +kernel
theorem dX11_found_0 : decode cX11_found 0 = .ok (.aload_n 0, 1) := by decide +kernel
theorem dX11_found_1 : decode cX11_found 1 = .ok (.iload_n 1, 1) := by decide +kernel
theorem dX11_found_2 : decode cX11_found 2 = .ok (.putfield 263, 3) := by decide +kernel
theorem dX11_found_5 : decode cX11_found 5 = .ok (.ldc_w 266, 3) := by decide +kernel
theorem dX11_found_8 : decode cX11_found 8 = .ok (.iload_n 1, 1) := by decide +kernel
theorem dX11_found_9 : decode cX11_found 9 = .ok (.isub, 1) := by decide +kernel
theorem dX11_found_10 : decode cX11_found 10 = .ok (.ireturn, 1) := by decide +kernel
theorem dX11_fine_0 : decode cX11_fine 0 = .ok (.aload_n 0, 1) := by decide +kernel
theorem dX11_fine_1 : decode cX11_fine 1 = .ok (.iconst 0, 1) := by decide +kernel
theorem dX11_fine_2 : decode cX11_fine 2 = .ok (.putfield 263, 3) := by decide +kernel
theorem dX11_fine_5 : decode cX11_fine 5 = .ok (.iload_n 1, 1) := by decide +kernel
theorem dX11_fine_6 : decode cX11_fine 6 = .ok (.ireturn, 1) := by decide +kernel
theorem dX11_shelve_0 : decode cX11_shelve 0 = .ok (.iload_n 1, 1) := by decide +kernel
theorem dX11_shelve_1 : decode cX11_shelve 1 = .ok (.invokestatic 98, 3) := by decide +kernel
theorem dX11_shelve_4 : decode cX11_shelve 4 = .ok (.ifCond .eq 6, 3) := by decide +kernel
theorem dX11_shelve_7 : decode cX11_shelve 7 = .ok (.ldc 64, 2) := by decide +kernel
theorem dX11_shelve_9 : decode cX11_shelve 9 = .ok (.ireturn, 1) := by decide +kernel
theorem dX11_shelve_10 : decode cX11_shelve 10 = .ok (.aload_n 0, 1) := by decide +kernel
theorem dX11_shelve_11 : decode cX11_shelve 11 = .ok (.getfield 20, 3) := by decide +kernel
theorem dX11_shelve_14 : decode cX11_shelve 14 = .ok (.iload_n 1, 1) := by decide +kernel
theorem dX11_shelve_15 : decode cX11_shelve 15 = .ok (.aload_n 2, 1) := by decide +kernel
theorem dX11_shelve_16 : decode cX11_shelve 16 = .ok (.aastore, 1) := by decide +kernel
theorem dX11_shelve_17 : decode cX11_shelve 17 = .ok (.aload_n 0, 1) := by decide +kernel
theorem dX11_shelve_18 : decode cX11_shelve 18 = .ok (.aload_n 2, 1) := by decide +kernel
theorem dX11_shelve_19 : decode cX11_shelve 19 = .ok (.invokevirtual 224, 3) := by decide +kernel
theorem dX11_shelve_22 : decode cX11_shelve 22 = .ok (.invokevirtual 69, 3) := by decide +kernel
theorem dX11_shelve_25 : decode cX11_shelve 25 = .ok (.ireturn, 1) := by decide +kernel
theorem dX11_tellOf_0 : decode cX11_tellOf 0 = .ok (.iload_n 2, 1) := by decide +kernel
theorem dX11_tellOf_1 : decode cX11_tellOf 1 = .ok (.tableswitch 79 0 4 #[35, 40, 46, 51, 56], 35) := by decide +kernel
theorem dX11_tellOf_36 : decode cX11_tellOf 36 = .ok (.aload_n 1, 1) := by decide +kernel
theorem dX11_tellOf_37 : decode cX11_tellOf 37 = .ok (.getfield 143, 3) := by decide +kernel
theorem dX11_tellOf_40 : decode cX11_tellOf 40 = .ok (.ireturn, 1) := by decide +kernel
theorem dX11_tellOf_41 : decode cX11_tellOf 41 = .ok (.aload_n 1, 1) := by decide +kernel
theorem dX11_tellOf_42 : decode cX11_tellOf 42 = .ok (.getfield 139, 3) := by decide +kernel
theorem dX11_tellOf_45 : decode cX11_tellOf 45 = .ok (.arraylength, 1) := by decide +kernel
theorem dX11_tellOf_46 : decode cX11_tellOf 46 = .ok (.ireturn, 1) := by decide +kernel
theorem dX11_tellOf_47 : decode cX11_tellOf 47 = .ok (.aload_n 1, 1) := by decide +kernel
theorem dX11_tellOf_48 : decode cX11_tellOf 48 = .ok (.getfield 129, 3) := by decide +kernel
theorem dX11_tellOf_51 : decode cX11_tellOf 51 = .ok (.ireturn, 1) := by decide +kernel
theorem dX11_tellOf_52 : decode cX11_tellOf 52 = .ok (.aload_n 1, 1) := by decide +kernel
theorem dX11_tellOf_53 : decode cX11_tellOf 53 = .ok (.invokevirtual 267, 3) := by decide +kernel
theorem dX11_tellOf_56 : decode cX11_tellOf 56 = .ok (.ireturn, 1) := by decide +kernel
theorem dX11_tellOf_57 : decode cX11_tellOf 57 = .ok (.aload_n 0, 1) := by decide +kernel
theorem dX11_tellOf_58 : decode cX11_tellOf 58 = .ok (.getfield 35, 3) := by decide +kernel
theorem dX11_tellOf_61 : decode cX11_tellOf 61 = .ok (.aload_n 1, 1) := by decide +kernel
theorem dX11_tellOf_62 : decode cX11_tellOf 62 = .ok (.getfield 139, 3) := by decide +kernel
theorem dX11_tellOf_65 : decode cX11_tellOf 65 = .ok (.aload_n 1, 1) := by decide +kernel
theorem dX11_tellOf_66 : decode cX11_tellOf 66 = .ok (.getfield 143, 3) := by decide +kernel
theorem dX11_tellOf_69 : decode cX11_tellOf 69 = .ok (.invokevirtual 146, 3) := by decide +kernel
theorem dX11_tellOf_72 : decode cX11_tellOf 72 = .ok (.aload_n 0, 1) := by decide +kernel
theorem dX11_tellOf_73 : decode cX11_tellOf 73 = .ok (.getfield 35, 3) := by decide +kernel
theorem dX11_tellOf_76 : decode cX11_tellOf 76 = .ok (.getfield 270, 3) := by decide +kernel
theorem dX11_tellOf_79 : decode cX11_tellOf 79 = .ok (.ireturn, 1) := by decide +kernel
theorem dX11_tellOf_80 : decode cX11_tellOf 80 = .ok (.aload_n 0, 1) := by decide +kernel
theorem dX11_tellOf_81 : decode cX11_tellOf 81 = .ok (.getfield 49, 3) := by decide +kernel
theorem dX11_tellOf_84 : decode cX11_tellOf 84 = .ok (.aload_n 1, 1) := by decide +kernel
theorem dX11_tellOf_85 : decode cX11_tellOf 85 = .ok (.invokevirtual 273, 3) := by decide +kernel
theorem dX11_tellOf_88 : decode cX11_tellOf 88 = .ok (.ireturn, 1) := by decide +kernel
theorem dX11_alike_0 : decode cX11_alike 0 = .ok (.aload_n 1, 1) := by decide +kernel
theorem dX11_alike_1 : decode cX11_alike 1 = .ok (.getfield 139, 3) := by decide +kernel
theorem dX11_alike_4 : decode cX11_alike 4 = .ok (.arraylength, 1) := by decide +kernel
theorem dX11_alike_5 : decode cX11_alike 5 = .ok (.istore_n 3, 1) := by decide +kernel
theorem dX11_alike_6 : decode cX11_alike 6 = .ok (.aload_n 1, 1) := by decide +kernel
theorem dX11_alike_7 : decode cX11_alike 7 = .ok (.getfield 143, 3) := by decide +kernel
theorem dX11_alike_10 : decode cX11_alike 10 = .ok (.aload_n 2, 1) := by decide +kernel
theorem dX11_alike_11 : decode cX11_alike 11 = .ok (.getfield 143, 3) := by decide +kernel
theorem dX11_alike_14 : decode cX11_alike 14 = .ok (.if_icmp .ne 12, 3) := by decide +kernel
theorem dX11_alike_17 : decode cX11_alike 17 = .ok (.iload_n 3, 1) := by decide +kernel
theorem dX11_alike_18 : decode cX11_alike 18 = .ok (.aload_n 2, 1) := by decide +kernel
theorem dX11_alike_19 : decode cX11_alike 19 = .ok (.getfield 139, 3) := by decide +kernel
theorem dX11_alike_22 : decode cX11_alike 22 = .ok (.arraylength, 1) := by decide +kernel
theorem dX11_alike_23 : decode cX11_alike 23 = .ok (.if_icmp .eq 5, 3) := by decide +kernel
theorem dX11_alike_26 : decode cX11_alike 26 = .ok (.iconst 0, 1) := by decide +kernel
theorem dX11_alike_27 : decode cX11_alike 27 = .ok (.ireturn, 1) := by decide +kernel
theorem dX11_alike_28 : decode cX11_alike 28 = .ok (.aload_n 0, 1) := by decide +kernel
theorem dX11_alike_29 : decode cX11_alike 29 = .ok (.getfield 35, 3) := by decide +kernel
theorem dX11_alike_32 : decode cX11_alike 32 = .ok (.aload_n 1, 1) := by decide +kernel
theorem dX11_alike_33 : decode cX11_alike 33 = .ok (.getfield 139, 3) := by decide +kernel
theorem dX11_alike_36 : decode cX11_alike 36 = .ok (.aload_n 1, 1) := by decide +kernel
theorem dX11_alike_37 : decode cX11_alike 37 = .ok (.getfield 143, 3) := by decide +kernel
theorem dX11_alike_40 : decode cX11_alike 40 = .ok (.invokevirtual 146, 3) := by decide +kernel
theorem dX11_alike_43 : decode cX11_alike 43 = .ok (.aload_n 0, 1) := by decide +kernel
theorem dX11_alike_44 : decode cX11_alike 44 = .ok (.getfield 35, 3) := by decide +kernel
theorem dX11_alike_47 : decode cX11_alike 47 = .ok (.getfield 150, 3) := by decide +kernel
theorem dX11_alike_50 : decode cX11_alike 50 = .ok (.iload_n 3, 1) := by decide +kernel
theorem dX11_alike_51 : decode cX11_alike 51 = .ok (.invokestatic 153, 3) := by decide +kernel
theorem dX11_alike_54 : decode cX11_alike 54 = .ok (.astore 4, 2) := by decide +kernel
theorem dX11_alike_56 : decode cX11_alike 56 = .ok (.aload_n 0, 1) := by decide +kernel
theorem dX11_alike_57 : decode cX11_alike 57 = .ok (.getfield 35, 3) := by decide +kernel
theorem dX11_alike_60 : decode cX11_alike 60 = .ok (.aload_n 2, 1) := by decide +kernel
theorem dX11_alike_61 : decode cX11_alike 61 = .ok (.getfield 139, 3) := by decide +kernel
theorem dX11_alike_64 : decode cX11_alike 64 = .ok (.aload_n 2, 1) := by decide +kernel
theorem dX11_alike_65 : decode cX11_alike 65 = .ok (.getfield 143, 3) := by decide +kernel
theorem dX11_alike_68 : decode cX11_alike 68 = .ok (.invokevirtual 146, 3) := by decide +kernel
theorem dX11_alike_71 : decode cX11_alike 71 = .ok (.iconst 0, 1) := by decide +kernel
theorem dX11_alike_72 : decode cX11_alike 72 = .ok (.istore 5, 2) := by decide +kernel
theorem dX11_alike_74 : decode cX11_alike 74 = .ok (.iload 5, 2) := by decide +kernel
theorem dX11_alike_76 : decode cX11_alike 76 = .ok (.iload_n 3, 1) := by decide +kernel
theorem dX11_alike_77 : decode cX11_alike 77 = .ok (.if_icmp .ge 30, 3) := by decide +kernel
theorem dX11_alike_80 : decode cX11_alike 80 = .ok (.aload 4, 2) := by decide +kernel
theorem dX11_alike_82 : decode cX11_alike 82 = .ok (.iload 5, 2) := by decide +kernel
theorem dX11_alike_84 : decode cX11_alike 84 = .ok (.laload, 1) := by decide +kernel
theorem dX11_alike_85 : decode cX11_alike 85 = .ok (.aload_n 0, 1) := by decide +kernel
theorem dX11_alike_86 : decode cX11_alike 86 = .ok (.getfield 35, 3) := by decide +kernel
theorem dX11_alike_89 : decode cX11_alike 89 = .ok (.getfield 150, 3) := by decide +kernel
theorem dX11_alike_92 : decode cX11_alike 92 = .ok (.iload 5, 2) := by decide +kernel
theorem dX11_alike_94 : decode cX11_alike 94 = .ok (.laload, 1) := by decide +kernel
theorem dX11_alike_95 : decode cX11_alike 95 = .ok (.lcmp, 1) := by decide +kernel
theorem dX11_alike_96 : decode cX11_alike 96 = .ok (.ifCond .eq 5, 3) := by decide +kernel
theorem dX11_alike_99 : decode cX11_alike 99 = .ok (.iconst 0, 1) := by decide +kernel
theorem dX11_alike_100 : decode cX11_alike 100 = .ok (.ireturn, 1) := by decide +kernel
theorem dX11_alike_101 : decode cX11_alike 101 = .ok (.iinc 5 1, 3) := by decide +kernel
theorem dX11_alike_104 : decode cX11_alike 104 = .ok (.goto (-30), 3) := by decide +kernel
theorem dX11_alike_107 : decode cX11_alike 107 = .ok (.iconst 1, 1) := by decide +kernel
theorem dX11_alike_108 : decode cX11_alike 108 = .ok (.ireturn, 1) := by decide +kernel
theorem dX11_ofKind_0 : decode cX11_ofKind 0 = .ok (.iload_n 1, 1) := by decide +kernel
theorem dX11_ofKind_1 : decode cX11_ofKind 1 = .ok (.tableswitch 51 1 4 #[31, 36, 41, 46], 31) := by decide +kernel
theorem dX11_ofKind_32 : decode cX11_ofKind 32 = .ok (.aload_n 0, 1) := by decide +kernel
theorem dX11_ofKind_33 : decode cX11_ofKind 33 = .ok (.instanceof 276, 3) := by decide +kernel
theorem dX11_ofKind_36 : decode cX11_ofKind 36 = .ok (.ireturn, 1) := by decide +kernel
theorem dX11_ofKind_37 : decode cX11_ofKind 37 = .ok (.aload_n 0, 1) := by decide +kernel
theorem dX11_ofKind_38 : decode cX11_ofKind 38 = .ok (.instanceof 174, 3) := by decide +kernel
theorem dX11_ofKind_41 : decode cX11_ofKind 41 = .ok (.ireturn, 1) := by decide +kernel
theorem dX11_ofKind_42 : decode cX11_ofKind 42 = .ok (.aload_n 0, 1) := by decide +kernel
theorem dX11_ofKind_43 : decode cX11_ofKind 43 = .ok (.instanceof 278, 3) := by decide +kernel
theorem dX11_ofKind_46 : decode cX11_ofKind 46 = .ok (.ireturn, 1) := by decide +kernel
theorem dX11_ofKind_47 : decode cX11_ofKind 47 = .ok (.aload_n 0, 1) := by decide +kernel
theorem dX11_ofKind_48 : decode cX11_ofKind 48 = .ok (.instanceof 280, 3) := by decide +kernel
theorem dX11_ofKind_51 : decode cX11_ofKind 51 = .ok (.ireturn, 1) := by decide +kernel
theorem dX11_ofKind_52 : decode cX11_ofKind 52 = .ok (.aload_n 0, 1) := by decide +kernel
theorem dX11_ofKind_53 : decode cX11_ofKind 53 = .ok (.ifnull 7, 3) := by decide +kernel
theorem dX11_ofKind_56 : decode cX11_ofKind 56 = .ok (.iconst 1, 1) := by decide +kernel
theorem dX11_ofKind_57 : decode cX11_ofKind 57 = .ok (.goto 4, 3) := by decide +kernel
theorem dX11_ofKind_60 : decode cX11_ofKind 60 = .ok (.iconst 0, 1) := by decide +kernel
theorem dX11_ofKind_61 : decode cX11_ofKind 61 = .ok (.ireturn, 1) := by decide +kernel
theorem dX11_rowsThere_0 : decode cX11_rowsThere 0 = .ok (.iconst 0, 1) := by decide +kernel
theorem dX11_rowsThere_1 : decode cX11_rowsThere 1 = .ok (.istore_n 1, 1) := by decide +kernel
theorem dX11_rowsThere_2 : decode cX11_rowsThere 2 = .ok (.iconst 0, 1) := by decide +kernel
theorem dX11_rowsThere_3 : decode cX11_rowsThere 3 = .ok (.istore_n 2, 1) := by decide +kernel
theorem dX11_rowsThere_4 : decode cX11_rowsThere 4 = .ok (.iload_n 2, 1) := by decide +kernel
theorem dX11_rowsThere_5 : decode cX11_rowsThere 5 = .ok (.bipush 8, 2) := by decide +kernel
theorem dX11_rowsThere_7 : decode cX11_rowsThere 7 = .ok (.if_icmp .ge 24, 3) := by decide +kernel
theorem dX11_rowsThere_10 : decode cX11_rowsThere 10 = .ok (.aload_n 0, 1) := by decide +kernel
theorem dX11_rowsThere_11 : decode cX11_rowsThere 11 = .ok (.getfield 11, 3) := by decide +kernel
theorem dX11_rowsThere_14 : decode cX11_rowsThere 14 = .ok (.iload_n 2, 1) := by decide +kernel
theorem dX11_rowsThere_15 : decode cX11_rowsThere 15 = .ok (.aaload, 1) := by decide +kernel
theorem dX11_rowsThere_16 : decode cX11_rowsThere 16 = .ok (.invokevirtual 72, 3) := by decide +kernel
theorem dX11_rowsThere_19 : decode cX11_rowsThere 19 = .ok (.ifCond .ne 6, 3) := by decide +kernel
theorem dX11_rowsThere_22 : decode cX11_rowsThere 22 = .ok (.iinc 1 1, 3) := by decide +kernel
theorem dX11_rowsThere_25 : decode cX11_rowsThere 25 = .ok (.iinc 2 1, 3) := by decide +kernel
theorem dX11_rowsThere_28 : decode cX11_rowsThere 28 = .ok (.goto (-24), 3) := by decide +kernel
theorem dX11_rowsThere_31 : decode cX11_rowsThere 31 = .ok (.iload_n 1, 1) := by decide +kernel
theorem dX11_rowsThere_32 : decode cX11_rowsThere 32 = .ok (.ireturn, 1) := by decide +kernel
theorem dX11_coversThere_0 : decode cX11_coversThere 0 = .ok (.iconst 0, 1) := by decide +kernel
theorem dX11_coversThere_1 : decode cX11_coversThere 1 = .ok (.istore_n 2, 1) := by decide +kernel
theorem dX11_coversThere_2 : decode cX11_coversThere 2 = .ok (.iconst 0, 1) := by decide +kernel
theorem dX11_coversThere_3 : decode cX11_coversThere 3 = .ok (.istore_n 3, 1) := by decide +kernel
theorem dX11_coversThere_4 : decode cX11_coversThere 4 = .ok (.iload_n 3, 1) := by decide +kernel
theorem dX11_coversThere_5 : decode cX11_coversThere 5 = .ok (.bipush 10, 2) := by decide +kernel
theorem dX11_coversThere_7 : decode cX11_coversThere 7 = .ok (.if_icmp .ge 53, 3) := by decide +kernel
theorem dX11_coversThere_10 : decode cX11_coversThere 10 = .ok (.aload_n 0, 1) := by decide +kernel
theorem dX11_coversThere_11 : decode cX11_coversThere 11 = .ok (.getfield 20, 3) := by decide +kernel
theorem dX11_coversThere_14 : decode cX11_coversThere 14 = .ok (.iload_n 3, 1) := by decide +kernel
theorem dX11_coversThere_15 : decode cX11_coversThere 15 = .ok (.aaload, 1) := by decide +kernel
theorem dX11_coversThere_16 : decode cX11_coversThere 16 = .ok (.astore 4, 2) := by decide +kernel
theorem dX11_coversThere_18 : decode cX11_coversThere 18 = .ok (.aload 4, 2) := by decide +kernel
theorem dX11_coversThere_20 : decode cX11_coversThere 20 = .ok (.ifnull 34, 3) := by decide +kernel
theorem dX11_coversThere_23 : decode cX11_coversThere 23 = .ok (.iload_n 1, 1) := by decide +kernel
theorem dX11_coversThere_24 : decode cX11_coversThere 24 = .ok (.bipush 6, 2) := by decide +kernel
theorem dX11_coversThere_26 : decode cX11_coversThere 26 = .ok (.if_icmp .ne 14, 3) := by decide +kernel
theorem dX11_coversThere_29 : decode cX11_coversThere 29 = .ok (.aload 4, 2) := by decide +kernel
theorem dX11_coversThere_31 : decode cX11_coversThere 31 = .ok (.invokevirtual 136, 3) := by decide +kernel
theorem dX11_coversThere_34 : decode cX11_coversThere 34 = .ok (.ifCond .eq 20, 3) := by decide +kernel
theorem dX11_coversThere_37 : decode cX11_coversThere 37 = .ok (.goto 14, 3) := by decide +kernel
theorem dX11_coversThere_40 : decode cX11_coversThere 40 = .ok (.aload 4, 2) := by decide +kernel
theorem dX11_coversThere_42 : decode cX11_coversThere 42 = .ok (.iload_n 1, 1) := by decide +kernel
theorem dX11_coversThere_43 : decode cX11_coversThere 43 = .ok (.iconst 1, 1) := by decide +kernel
theorem dX11_coversThere_44 : decode cX11_coversThere 44 = .ok (.isub, 1) := by decide +kernel
theorem dX11_coversThere_45 : decode cX11_coversThere 45 = .ok (.invokestatic 228, 3) := by decide +kernel
theorem dX11_coversThere_48 : decode cX11_coversThere 48 = .ok (.ifCond .eq 6, 3) := by decide +kernel
theorem dX11_coversThere_51 : decode cX11_coversThere 51 = .ok (.iinc 2 1, 3) := by decide +kernel
theorem dX11_coversThere_54 : decode cX11_coversThere 54 = .ok (.iinc 3 1, 3) := by decide +kernel
theorem dX11_coversThere_57 : decode cX11_coversThere 57 = .ok (.goto (-53), 3) := by decide +kernel
theorem dX11_coversThere_60 : decode cX11_coversThere 60 = .ok (.iload_n 2, 1) := by decide +kernel
theorem dX11_coversThere_61 : decode cX11_coversThere 61 = .ok (.ireturn, 1) := by decide +kernel
theorem dX12_init_0 : decode cX12_init 0 = .ok (.aload_n 0, 1) := by decide +kernel
theorem dX12_init_1 : decode cX12_init 1 = .ok (.invokespecial 1, 3) := by decide +kernel
theorem dX12_init_4 : decode cX12_init 4 = .ok (.aload_n 0, 1) := by decide +kernel
theorem dX12_init_5 : decode cX12_init 5 = .ok (.bipush 8, 2) := by decide +kernel
theorem dX12_init_7 : decode cX12_init 7 = .ok (.newarray .int, 2) := by decide +kernel
theorem dX12_init_9 : decode cX12_init 9 = .ok (.dup, 1) := by decide +kernel
theorem dX12_init_10 : decode cX12_init 10 = .ok (.iconst 0, 1) := by decide +kernel
theorem dX12_init_11 : decode cX12_init 11 = .ok (.iconst (-1), 1) := by decide +kernel
theorem dX12_init_12 : decode cX12_init 12 = .ok (.iastore, 1) := by decide +kernel
theorem dX12_init_13 : decode cX12_init 13 = .ok (.dup, 1) := by decide +kernel
theorem dX12_init_14 : decode cX12_init 14 = .ok (.iconst 1, 1) := by decide +kernel
theorem dX12_init_15 : decode cX12_init 15 = .ok (.iconst (-1), 1) := by decide +kernel
theorem dX12_init_16 : decode cX12_init 16 = .ok (.iastore, 1) := by decide +kernel
theorem dX12_init_17 : decode cX12_init 17 = .ok (.dup, 1) := by decide +kernel
theorem dX12_init_18 : decode cX12_init 18 = .ok (.iconst 2, 1) := by decide +kernel
theorem dX12_init_19 : decode cX12_init 19 = .ok (.iconst (-1), 1) := by decide +kernel
theorem dX12_init_20 : decode cX12_init 20 = .ok (.iastore, 1) := by decide +kernel
theorem dX12_init_21 : decode cX12_init 21 = .ok (.dup, 1) := by decide +kernel
theorem dX12_init_22 : decode cX12_init 22 = .ok (.iconst 3, 1) := by decide +kernel
theorem dX12_init_23 : decode cX12_init 23 = .ok (.iconst (-1), 1) := by decide +kernel
theorem dX12_init_24 : decode cX12_init 24 = .ok (.iastore, 1) := by decide +kernel
theorem dX12_init_25 : decode cX12_init 25 = .ok (.dup, 1) := by decide +kernel
theorem dX12_init_26 : decode cX12_init 26 = .ok (.iconst 4, 1) := by decide +kernel
theorem dX12_init_27 : decode cX12_init 27 = .ok (.iconst (-1), 1) := by decide +kernel
theorem dX12_init_28 : decode cX12_init 28 = .ok (.iastore, 1) := by decide +kernel
theorem dX12_init_29 : decode cX12_init 29 = .ok (.dup, 1) := by decide +kernel
theorem dX12_init_30 : decode cX12_init 30 = .ok (.iconst 5, 1) := by decide +kernel
theorem dX12_init_31 : decode cX12_init 31 = .ok (.iconst (-1), 1) := by decide +kernel
theorem dX12_init_32 : decode cX12_init 32 = .ok (.iastore, 1) := by decide +kernel
theorem dX12_init_33 : decode cX12_init 33 = .ok (.dup, 1) := by decide +kernel
theorem dX12_init_34 : decode cX12_init 34 = .ok (.bipush 6, 2) := by decide +kernel
theorem dX12_init_36 : decode cX12_init 36 = .ok (.iconst (-1), 1) := by decide +kernel
theorem dX12_init_37 : decode cX12_init 37 = .ok (.iastore, 1) := by decide +kernel
theorem dX12_init_38 : decode cX12_init 38 = .ok (.dup, 1) := by decide +kernel
theorem dX12_init_39 : decode cX12_init 39 = .ok (.bipush 7, 2) := by decide +kernel
theorem dX12_init_41 : decode cX12_init 41 = .ok (.iconst (-1), 1) := by decide +kernel
theorem dX12_init_42 : decode cX12_init 42 = .ok (.iastore, 1) := by decide +kernel
theorem dX12_init_43 : decode cX12_init 43 = .ok (.putfield 7, 3) := by decide +kernel
theorem dX12_init_46 : decode cX12_init 46 = .ok (.aload_n 0, 1) := by decide +kernel
theorem dX12_init_47 : decode cX12_init 47 = .ok (.bipush 8, 2) := by decide +kernel
theorem dX12_init_49 : decode cX12_init 49 = .ok (.newarray .int, 2) := by decide +kernel
theorem dX12_init_51 : decode cX12_init 51 = .ok (.putfield 13, 3) := by decide +kernel
theorem dX12_init_54 : decode cX12_init 54 = .ok (.aload_n 0, 1) := by decide +kernel
theorem dX12_init_55 : decode cX12_init 55 = .ok (.sipush 768, 3) := by decide +kernel
theorem dX12_init_58 : decode cX12_init 58 = .ok (.newarray .int, 2) := by decide +kernel
theorem dX12_init_60 : decode cX12_init 60 = .ok (.putfield 16, 3) := by decide +kernel
theorem dX12_init_63 : decode cX12_init 63 = .ok (.aload_n 0, 1) := by decide +kernel
theorem dX12_init_64 : decode cX12_init 64 = .ok (.bipush 13, 2) := by decide +kernel
theorem dX12_init_66 : decode cX12_init 66 = .ok (.newarray .int, 2) := by decide +kernel
theorem dX12_init_68 : decode cX12_init 68 = .ok (.putfield 19, 3) := by decide +kernel
theorem dX12_init_71 : decode cX12_init 71 = .ok (.aload_n 0, 1) := by decide +kernel
theorem dX12_init_72 : decode cX12_init 72 = .ok (.bipush 13, 2) := by decide +kernel
theorem dX12_init_74 : decode cX12_init 74 = .ok (.newarray .int, 2) := by decide +kernel
theorem dX12_init_76 : decode cX12_init 76 = .ok (.putfield 22, 3) := by decide +kernel
theorem dX12_init_79 : decode cX12_init 79 = .ok (.aload_n 0, 1) := by decide +kernel
theorem dX12_init_80 : decode cX12_init 80 = .ok (.sipush 1248, 3) := by decide +kernel
theorem dX12_init_83 : decode cX12_init 83 = .ok (.newarray .int, 2) := by decide +kernel
theorem dX12_init_85 : decode cX12_init 85 = .ok (.putfield 25, 3) := by decide +kernel
theorem dX12_init_88 : decode cX12_init 88 = .ok (.aload_n 0, 1) := by decide +kernel
theorem dX12_init_89 : decode cX12_init 89 = .ok (.bipush 12, 2) := by decide +kernel
theorem dX12_init_91 : decode cX12_init 91 = .ok (.newarray .boolean, 2) := by decide +kernel
theorem dX12_init_93 : decode cX12_init 93 = .ok (.putfield 28, 3) := by decide +kernel
theorem dX12_init_96 : decode cX12_init 96 = .ok (.aload_n 0, 1) := by decide +kernel
theorem dX12_init_97 : decode cX12_init 97 = .ok (.bipush 12, 2) := by decide +kernel
theorem dX12_init_99 : decode cX12_init 99 = .ok (.newarray .int, 2) := by decide +kernel
theorem dX12_init_101 : decode cX12_init 101 = .ok (.putfield 32, 3) := by decide +kernel
theorem dX12_init_104 : decode cX12_init 104 = .ok (.aload_n 0, 1) := by decide +kernel
theorem dX12_init_105 : decode cX12_init 105 = .ok (.bipush 12, 2) := by decide +kernel
theorem dX12_init_107 : decode cX12_init 107 = .ok (.newarray .int, 2) := by decide +kernel
theorem dX12_init_109 : decode cX12_init 109 = .ok (.putfield 35, 3) := by decide +kernel
theorem dX12_init_112 : decode cX12_init 112 = .ok (.aload_n 0, 1) := by decide +kernel
theorem dX12_init_113 : decode cX12_init 113 = .ok (.bipush 12, 2) := by decide +kernel
theorem dX12_init_115 : decode cX12_init 115 = .ok (.newarray .int, 2) := by decide +kernel
theorem dX12_init_117 : decode cX12_init 117 = .ok (.putfield 38, 3) := by decide +kernel
theorem dX12_init_120 : decode cX12_init 120 = .ok (.aload_n 0, 1) := by decide +kernel
theorem dX12_init_121 : decode cX12_init 121 = .ok (.bipush 12, 2) := by decide +kernel
theorem dX12_init_123 : decode cX12_init 123 = .ok (.newarray .int, 2) := by decide +kernel
theorem dX12_init_125 : decode cX12_init 125 = .ok (.putfield 41, 3) := by decide +kernel
theorem dX12_init_128 : decode cX12_init 128 = .ok (.aload_n 0, 1) := by decide +kernel
theorem dX12_init_129 : decode cX12_init 129 = .ok (.bipush 12, 2) := by decide +kernel
theorem dX12_init_131 : decode cX12_init 131 = .ok (.newarray .int, 2) := by decide +kernel
theorem dX12_init_133 : decode cX12_init 133 = .ok (.putfield 44, 3) := by decide +kernel
theorem dX12_init_136 : decode cX12_init 136 = .ok (.aload_n 0, 1) := by decide +kernel
theorem dX12_init_137 : decode cX12_init 137 = .ok (.sipush 144, 3) := by decide +kernel
theorem dX12_init_140 : decode cX12_init 140 = .ok (.newarray .boolean, 2) := by decide +kernel
theorem dX12_init_142 : decode cX12_init 142 = .ok (.putfield 47, 3) := by decide +kernel
theorem dX12_init_145 : decode cX12_init 145 = .ok (.aload_n 0, 1) := by decide +kernel
theorem dX12_init_146 : decode cX12_init 146 = .ok (.sipush 1728, 3) := by decide +kernel
theorem dX12_init_149 : decode cX12_init 149 = .ok (.newarray .int, 2) := by decide +kernel
theorem dX12_init_151 : decode cX12_init 151 = .ok (.putfield 50, 3) := by decide +kernel
theorem dX12_init_154 : decode cX12_init 154 = .ok (.aload_n 0, 1) := by decide +kernel
theorem dX12_init_155 : decode cX12_init 155 = .ok (.bipush 12, 2) := by decide +kernel
theorem dX12_init_157 : decode cX12_init 157 = .ok (.newarray .int, 2) := by decide +kernel
theorem dX12_init_159 : decode cX12_init 159 = .ok (.putfield 53, 3) := by decide +kernel
theorem dX12_init_162 : decode cX12_init 162 = .ok (.aload_n 0, 1) := by decide +kernel
theorem dX12_init_163 : decode cX12_init 163 = .ok (.bipush 12, 2) := by decide +kernel
theorem dX12_init_165 : decode cX12_init 165 = .ok (.newarray .int, 2) := by decide +kernel
theorem dX12_init_167 : decode cX12_init 167 = .ok (.putfield 56, 3) := by decide +kernel
theorem dX12_init_170 : decode cX12_init 170 = .ok (.aload_n 0, 1) := by decide +kernel
theorem dX12_init_171 : decode cX12_init 171 = .ok (.sipush 28800, 3) := by decide +kernel
theorem dX12_init_174 : decode cX12_init 174 = .ok (.newarray .int, 2) := by decide +kernel
theorem dX12_init_176 : decode cX12_init 176 = .ok (.putfield 59, 3) := by decide +kernel
theorem dX12_init_179 : decode cX12_init 179 = .ok (.aload_n 0, 1) := by decide +kernel
theorem dX12_init_180 : decode cX12_init 180 = .ok (.bipush 16, 2) := by decide +kernel
theorem dX12_init_182 : decode cX12_init 182 = .ok (.newarray .int, 2) := by decide +kernel
theorem dX12_init_184 : decode cX12_init 184 = .ok (.putfield 62, 3) := by decide +kernel
theorem dX12_init_187 : decode cX12_init 187 = .ok (.aload_n 0, 1) := by decide +kernel
theorem dX12_init_188 : decode cX12_init 188 = .ok (.sipush 430, 3) := by decide +kernel
theorem dX12_init_191 : decode cX12_init 191 = .ok (.newarray .int, 2) := by decide +kernel
theorem dX12_init_193 : decode cX12_init 193 = .ok (.putfield 65, 3) := by decide +kernel
theorem dX12_init_196 : decode cX12_init 196 = .ok (.aload_n 0, 1) := by decide +kernel
theorem dX12_init_197 : decode cX12_init 197 = .ok (.bipush 10, 2) := by decide +kernel
theorem dX12_init_199 : decode cX12_init 199 = .ok (.newarray .int, 2) := by decide +kernel
theorem dX12_init_201 : decode cX12_init 201 = .ok (.putfield 68, 3) := by decide +kernel
theorem dX12_init_204 : decode cX12_init 204 = .ok (.aload_n 0, 1) := by decide +kernel
theorem dX12_init_205 : decode cX12_init 205 = .ok (.bipush 43, 2) := by decide +kernel
theorem dX12_init_207 : decode cX12_init 207 = .ok (.newarray .long, 2) := by decide +kernel
theorem dX12_init_209 : decode cX12_init 209 = .ok (.putfield 71, 3) := by decide +kernel
theorem dX12_init_212 : decode cX12_init 212 = .ok (.aload_n 0, 1) := by decide +kernel
theorem dX12_init_213 : decode cX12_init 213 = .ok (.bipush 43, 2) := by decide +kernel
theorem dX12_init_215 : decode cX12_init 215 = .ok (.newarray .long, 2) := by decide +kernel
theorem dX12_init_217 : decode cX12_init 217 = .ok (.putfield 75, 3) := by decide +kernel
theorem dX12_init_220 : decode cX12_init 220 = .ok (.return_, 1) := by decide +kernel
theorem dX12_in_0 : decode cX12_in 0 = .ok (.lload_n 0, 1) := by decide +kernel
theorem dX12_in_1 : decode cX12_in 1 = .ok (.lload_n 2, 1) := by decide +kernel
theorem dX12_in_2 : decode cX12_in 2 = .ok (.lcmp, 1) := by decide +kernel
theorem dX12_in_3 : decode cX12_in 3 = .ok (.ifCond .lt 14, 3) := by decide +kernel
theorem dX12_in_6 : decode cX12_in 6 = .ok (.lload_n 0, 1) := by decide +kernel
theorem dX12_in_7 : decode cX12_in 7 = .ok (.lload 4, 2) := by decide +kernel
theorem dX12_in_9 : decode cX12_in 9 = .ok (.lcmp, 1) := by decide +kernel
theorem dX12_in_10 : decode cX12_in 10 = .ok (.ifCond .gt 7, 3) := by decide +kernel
theorem dX12_in_13 : decode cX12_in 13 = .ok (.iconst 1, 1) := by decide +kernel
theorem dX12_in_14 : decode cX12_in 14 = .ok (.goto 4, 3) := by decide +kernel
theorem dX12_in_17 : decode cX12_in 17 = .ok (.iconst 0, 1) := by decide +kernel
theorem dX12_in_18 : decode cX12_in 18 = .ok (.ireturn, 1) := by decide +kernel
theorem dX12_found_0 : decode cX12_found 0 = .ok (.aload_n 0, 1) := by decide +kernel
theorem dX12_found_1 : decode cX12_found 1 = .ok (.iload_n 1, 1) := by decide +kernel
theorem dX12_found_2 : decode cX12_found 2 = .ok (.putfield 82, 3) := by decide +kernel
theorem dX12_found_5 : decode cX12_found 5 = .ok (.ldc 85, 2) := by decide +kernel
theorem dX12_found_7 : decode cX12_found 7 = .ok (.iload_n 1, 1) := by decide +kernel
theorem dX12_found_8 : decode cX12_found 8 = .ok (.isub, 1) := by decide +kernel
theorem dX12_found_9 : decode cX12_found 9 = .ok (.ireturn, 1) := by decide +kernel
theorem dX12_isRow_0 : decode cX12_isRow 0 = .ok (.iload_n 0, 1) := by decide +kernel
theorem dX12_isRow_1 : decode cX12_isRow 1 = .ok (.i2l, 1) := by decide +kernel
theorem dX12_isRow_2 : decode cX12_isRow 2 = .ok (.lconst 0, 1) := by decide +kernel
theorem dX12_isRow_3 : decode cX12_isRow 3 = .ok (.ldc2_w 86, 3) := by decide +kernel
theorem dX12_isRow_6 : decode cX12_isRow 6 = .ok (.invokestatic 88, 3) := by decide +kernel
theorem dX12_isRow_9 : decode cX12_isRow 9 = .ok (.ireturn, 1) := by decide +kernel
theorem dX12_row_0 : decode cX12_row 0 = .ok (.aload_n 0, 1) := by decide +kernel
theorem dX12_row_1 : decode cX12_row 1 = .ok (.iconst 0, 1) := by decide +kernel
theorem dX12_row_2 : decode cX12_row 2 = .ok (.putfield 78, 3) := by decide +kernel
theorem dX12_row_5 : decode cX12_row 5 = .ok (.iload_n 1, 1) := by decide +kernel
theorem dX12_row_6 : decode cX12_row 6 = .ok (.invokestatic 92, 3) := by decide +kernel
theorem dX12_row_9 : decode cX12_row 9 = .ok (.ifCond .eq 21, 3) := by decide +kernel
theorem dX12_row_12 : decode cX12_row 12 = .ok (.iload_n 2, 1) := by decide +kernel
theorem dX12_row_13 : decode cX12_row 13 = .ok (.i2l, 1) := by decide +kernel
theorem dX12_row_14 : decode cX12_row 14 = .ok (.lconst 0, 1) := by decide +kernel
theorem dX12_row_15 : decode cX12_row 15 = .ok (.ldc2_w 96, 3) := by decide +kernel
theorem dX12_row_18 : decode cX12_row 18 = .ok (.invokestatic 88, 3) := by decide +kernel
theorem dX12_row_21 : decode cX12_row 21 = .ok (.ifCond .eq 9, 3) := by decide +kernel
theorem dX12_row_24 : decode cX12_row 24 = .ok (.iload_n 3, 1) := by decide +kernel
theorem dX12_row_25 : decode cX12_row 25 = .ok (.bipush 96, 2) := by decide +kernel
theorem dX12_row_27 : decode cX12_row 27 = .ok (.if_icmp .le 6, 3) := by decide +kernel
theorem dX12_row_30 : decode cX12_row 30 = .ok (.ldc 98, 2) := by decide +kernel
theorem dX12_row_32 : decode cX12_row 32 = .ok (.ireturn, 1) := by decide +kernel
theorem dX12_row_33 : decode cX12_row 33 = .ok (.aload_n 0, 1) := by decide +kernel
theorem dX12_row_34 : decode cX12_row 34 = .ok (.iconst 0, 1) := by decide +kernel
theorem dX12_row_35 : decode cX12_row 35 = .ok (.putfield 82, 3) := by decide +kernel
theorem dX12_row_38 : decode cX12_row 38 = .ok (.iload_n 3, 1) := by decide +kernel
theorem dX12_row_39 : decode cX12_row 39 = .ok (.ifCond .ge 9, 3) := by decide +kernel
theorem dX12_row_42 : decode cX12_row 42 = .ok (.aload_n 0, 1) := by decide +kernel
theorem dX12_row_43 : decode cX12_row 43 = .ok (.iconst 4, 1) := by decide +kernel
theorem dX12_row_44 : decode cX12_row 44 = .ok (.invokevirtual 99, 3) := by decide +kernel
theorem dX12_row_47 : decode cX12_row 47 = .ok (.ireturn, 1) := by decide +kernel
theorem dX12_row_48 : decode cX12_row 48 = .ok (.aload_n 0, 1) := by decide +kernel
theorem dX12_row_49 : decode cX12_row 49 = .ok (.getfield 7, 3) := by decide +kernel
theorem dX12_row_52 : decode cX12_row 52 = .ok (.iload_n 1, 1) := by decide +kernel
theorem dX12_row_53 : decode cX12_row 53 = .ok (.iload_n 2, 1) := by decide +kernel
theorem dX12_row_54 : decode cX12_row 54 = .ok (.iastore, 1) := by decide +kernel
theorem dX12_row_55 : decode cX12_row 55 = .ok (.aload_n 0, 1) := by decide +kernel
theorem dX12_row_56 : decode cX12_row 56 = .ok (.getfield 13, 3) := by decide +kernel
theorem dX12_row_59 : decode cX12_row 59 = .ok (.iload_n 1, 1) := by decide +kernel
theorem dX12_row_60 : decode cX12_row 60 = .ok (.iload_n 3, 1) := by decide +kernel
theorem dX12_row_61 : decode cX12_row 61 = .ok (.iastore, 1) := by decide +kernel
theorem dX12_row_62 : decode cX12_row 62 = .ok (.iconst 0, 1) := by decide +kernel
theorem dX12_row_63 : decode cX12_row 63 = .ok (.istore 4, 2) := by decide +kernel
theorem dX12_row_65 : decode cX12_row 65 = .ok (.iload 4, 2) := by decide +kernel
theorem dX12_row_67 : decode cX12_row 67 = .ok (.bipush 96, 2) := by decide +kernel
theorem dX12_row_69 : decode cX12_row 69 = .ok (.if_icmp .ge 22, 3) := by decide +kernel
theorem dX12_row_72 : decode cX12_row 72 = .ok (.aload_n 0, 1) := by decide +kernel
theorem dX12_row_73 : decode cX12_row 73 = .ok (.getfield 16, 3) := by decide +kernel
theorem dX12_row_76 : decode cX12_row 76 = .ok (.bipush 96, 2) := by decide +kernel
theorem dX12_row_78 : decode cX12_row 78 = .ok (.iload_n 1, 1) := by decide +kernel
theorem dX12_row_79 : decode cX12_row 79 = .ok (.imul, 1) := by decide +kernel
theorem dX12_row_80 : decode cX12_row 80 = .ok (.iload 4, 2) := by decide +kernel
theorem dX12_row_82 : decode cX12_row 82 = .ok (.iadd, 1) := by decide +kernel
theorem dX12_row_83 : decode cX12_row 83 = .ok (.iconst 0, 1) := by decide +kernel
theorem dX12_row_84 : decode cX12_row 84 = .ok (.iastore, 1) := by decide +kernel
theorem dX12_row_85 : decode cX12_row 85 = .ok (.iinc 4 1, 3) := by decide +kernel
theorem dX12_row_88 : decode cX12_row 88 = .ok (.goto (-23), 3) := by decide +kernel
theorem dX12_row_91 : decode cX12_row 91 = .ok (.iload_n 3, 1) := by decide +kernel
theorem dX12_row_92 : decode cX12_row 92 = .ok (.ireturn, 1) := by decide +kernel
theorem dX12_set_0 : decode cX12_set 0 = .ok (.aload_n 0, 1) := by decide +kernel
theorem dX12_set_1 : decode cX12_set 1 = .ok (.iconst 0, 1) := by decide +kernel
theorem dX12_set_2 : decode cX12_set 2 = .ok (.putfield 78, 3) := by decide +kernel
theorem dX12_set_5 : decode cX12_set 5 = .ok (.iload_n 1, 1) := by decide +kernel
theorem dX12_set_6 : decode cX12_set 6 = .ok (.invokestatic 92, 3) := by decide +kernel
theorem dX12_set_9 : decode cX12_set 9 = .ok (.ifCond .ne 6, 3) := by decide +kernel
theorem dX12_set_12 : decode cX12_set 12 = .ok (.ldc 98, 2) := by decide +kernel
theorem dX12_set_14 : decode cX12_set 14 = .ok (.ireturn, 1) := by decide +kernel
theorem dX12_set_15 : decode cX12_set 15 = .ok (.aload_n 0, 1) := by decide +kernel
theorem dX12_set_16 : decode cX12_set 16 = .ok (.iconst 0, 1) := by decide +kernel
theorem dX12_set_17 : decode cX12_set 17 = .ok (.putfield 82, 3) := by decide +kernel
theorem dX12_set_20 : decode cX12_set 20 = .ok (.aload_n 0, 1) := by decide +kernel
theorem dX12_set_21 : decode cX12_set 21 = .ok (.getfield 7, 3) := by decide +kernel
theorem dX12_set_24 : decode cX12_set 24 = .ok (.iload_n 1, 1) := by decide +kernel
theorem dX12_set_25 : decode cX12_set 25 = .ok (.iaload, 1) := by decide +kernel
theorem dX12_set_26 : decode cX12_set 26 = .ok (.ifCond .ge 9, 3) := by decide +kernel
theorem dX12_set_29 : decode cX12_set 29 = .ok (.aload_n 0, 1) := by decide +kernel
theorem dX12_set_30 : decode cX12_set 30 = .ok (.iconst 1, 1) := by decide +kernel
theorem dX12_set_31 : decode cX12_set 31 = .ok (.invokevirtual 99, 3) := by decide +kernel
theorem dX12_set_34 : decode cX12_set 34 = .ok (.ireturn, 1) := by decide +kernel
theorem dX12_set_35 : decode cX12_set 35 = .ok (.iload_n 2, 1) := by decide +kernel
theorem dX12_set_36 : decode cX12_set 36 = .ok (.i2l, 1) := by decide +kernel
theorem dX12_set_37 : decode cX12_set 37 = .ok (.lconst 0, 1) := by decide +kernel
theorem dX12_set_38 : decode cX12_set 38 = .ok (.aload_n 0, 1) := by decide +kernel
theorem dX12_set_39 : decode cX12_set 39 = .ok (.getfield 13, 3) := by decide +kernel
theorem dX12_set_42 : decode cX12_set 42 = .ok (.iload_n 1, 1) := by decide +kernel
theorem dX12_set_43 : decode cX12_set 43 = .ok (.iaload, 1) := by decide +kernel
theorem dX12_set_44 : decode cX12_set 44 = .ok (.iconst 1, 1) := by decide +kernel
theorem dX12_set_45 : decode cX12_set 45 = .ok (.isub, 1) := by decide +kernel
theorem dX12_set_46 : decode cX12_set 46 = .ok (.i2l, 1) := by decide +kernel
theorem dX12_set_47 : decode cX12_set 47 = .ok (.invokestatic 88, 3) := by decide +kernel
theorem dX12_set_50 : decode cX12_set 50 = .ok (.ifCond .ne 9, 3) := by decide +kernel
theorem dX12_set_53 : decode cX12_set 53 = .ok (.aload_n 0, 1) := by decide +kernel
theorem dX12_set_54 : decode cX12_set 54 = .ok (.iconst 2, 1) := by decide +kernel
theorem dX12_set_55 : decode cX12_set 55 = .ok (.invokevirtual 99, 3) := by decide +kernel
theorem dX12_set_58 : decode cX12_set 58 = .ok (.ireturn, 1) := by decide +kernel
theorem dX12_set_59 : decode cX12_set 59 = .ok (.aload_n 0, 1) := by decide +kernel
theorem dX12_set_60 : decode cX12_set 60 = .ok (.getfield 16, 3) := by decide +kernel
theorem dX12_set_63 : decode cX12_set 63 = .ok (.bipush 96, 2) := by decide +kernel
theorem dX12_set_65 : decode cX12_set 65 = .ok (.iload_n 1, 1) := by decide +kernel
theorem dX12_set_66 : decode cX12_set 66 = .ok (.imul, 1) := by decide +kernel
theorem dX12_set_67 : decode cX12_set 67 = .ok (.iload_n 2, 1) := by decide +kernel
theorem dX12_set_68 : decode cX12_set 68 = .ok (.iadd, 1) := by decide +kernel
theorem dX12_set_69 : decode cX12_set 69 = .ok (.aload_n 0, 1) := by decide +kernel
theorem dX12_set_70 : decode cX12_set 70 = .ok (.getfield 7, 3) := by decide +kernel
theorem dX12_set_73 : decode cX12_set 73 = .ok (.iload_n 1, 1) := by decide +kernel
theorem dX12_set_74 : decode cX12_set 74 = .ok (.iaload, 1) := by decide +kernel
theorem dX12_set_75 : decode cX12_set 75 = .ok (.ifCond .ne 8, 3) := by decide +kernel
theorem dX12_set_78 : decode cX12_set 78 = .ok (.iload_n 3, 1) := by decide +kernel
theorem dX12_set_79 : decode cX12_set 79 = .ok (.i2b, 1) := by decide +kernel
theorem dX12_set_80 : decode cX12_set 80 = .ok (.goto 19, 3) := by decide +kernel
theorem dX12_set_83 : decode cX12_set 83 = .ok (.aload_n 0, 1) := by decide +kernel
theorem dX12_set_84 : decode cX12_set 84 = .ok (.getfield 7, 3) := by decide +kernel
theorem dX12_set_87 : decode cX12_set 87 = .ok (.iload_n 1, 1) := by decide +kernel
theorem dX12_set_88 : decode cX12_set 88 = .ok (.iaload, 1) := by decide +kernel
theorem dX12_set_89 : decode cX12_set 89 = .ok (.iconst 1, 1) := by decide +kernel
theorem dX12_set_90 : decode cX12_set 90 = .ok (.if_icmp .ne 8, 3) := by decide +kernel
theorem dX12_set_93 : decode cX12_set 93 = .ok (.iload_n 3, 1) := by decide +kernel
theorem dX12_set_94 : decode cX12_set 94 = .ok (.i2s, 1) := by decide +kernel
theorem dX12_set_95 : decode cX12_set 95 = .ok (.goto 4, 3) := by decide +kernel
theorem dX12_set_98 : decode cX12_set 98 = .ok (.iload_n 3, 1) := by decide +kernel
theorem dX12_set_99 : decode cX12_set 99 = .ok (.iastore, 1) := by decide +kernel
theorem dX12_set_100 : decode cX12_set 100 = .ok (.aload_n 0, 1) := by decide +kernel
theorem dX12_set_101 : decode cX12_set 101 = .ok (.getfield 16, 3) := by decide +kernel
theorem dX12_set_104 : decode cX12_set 104 = .ok (.bipush 96, 2) := by decide +kernel
theorem dX12_set_106 : decode cX12_set 106 = .ok (.iload_n 1, 1) := by decide +kernel
theorem dX12_set_107 : decode cX12_set 107 = .ok (.imul, 1) := by decide +kernel
theorem dX12_set_108 : decode cX12_set 108 = .ok (.iload_n 2, 1) := by decide +kernel
theorem dX12_set_109 : decode cX12_set 109 = .ok (.iadd, 1) := by decide +kernel
theorem dX12_set_110 : decode cX12_set 110 = .ok (.iaload, 1) := by decide +kernel
theorem dX12_set_111 : decode cX12_set 111 = .ok (.ireturn, 1) := by decide +kernel
theorem dX12_copy_0 : decode cX12_copy 0 = .ok (.aload_n 0, 1) := by decide +kernel
theorem dX12_copy_1 : decode cX12_copy 1 = .ok (.iconst 0, 1) := by decide +kernel
theorem dX12_copy_2 : decode cX12_copy 2 = .ok (.putfield 78, 3) := by decide +kernel
theorem dX12_copy_5 : decode cX12_copy 5 = .ok (.iload_n 1, 1) := by decide +kernel
theorem dX12_copy_6 : decode cX12_copy 6 = .ok (.invokestatic 92, 3) := by decide +kernel
theorem dX12_copy_9 : decode cX12_copy 9 = .ok (.ifCond .eq 10, 3) := by decide +kernel
theorem dX12_copy_12 : decode cX12_copy 12 = .ok (.iload_n 3, 1) := by decide +kernel
theorem dX12_copy_13 : decode cX12_copy 13 = .ok (.invokestatic 92, 3) := by decide +kernel
theorem dX12_copy_16 : decode cX12_copy 16 = .ok (.ifCond .ne 6, 3) := by decide +kernel
theorem dX12_copy_19 : decode cX12_copy 19 = .ok (.ldc 98, 2) := by decide +kernel
theorem dX12_copy_21 : decode cX12_copy 21 = .ok (.ireturn, 1) := by decide +kernel
theorem dX12_copy_22 : decode cX12_copy 22 = .ok (.aload_n 0, 1) := by decide +kernel
theorem dX12_copy_23 : decode cX12_copy 23 = .ok (.iconst 0, 1) := by decide +kernel
theorem dX12_copy_24 : decode cX12_copy 24 = .ok (.putfield 82, 3) := by decide +kernel
theorem dX12_copy_27 : decode cX12_copy 27 = .ok (.aload_n 0, 1) := by decide +kernel
theorem dX12_copy_28 : decode cX12_copy 28 = .ok (.getfield 7, 3) := by decide +kernel
theorem dX12_copy_31 : decode cX12_copy 31 = .ok (.iload_n 1, 1) := by decide +kernel
theorem dX12_copy_32 : decode cX12_copy 32 = .ok (.iaload, 1) := by decide +kernel
theorem dX12_copy_33 : decode cX12_copy 33 = .ok (.ifCond .lt 12, 3) := by decide +kernel
theorem dX12_copy_36 : decode cX12_copy 36 = .ok (.aload_n 0, 1) := by decide +kernel
theorem dX12_copy_37 : decode cX12_copy 37 = .ok (.getfield 7, 3) := by decide +kernel
theorem dX12_copy_40 : decode cX12_copy 40 = .ok (.iload_n 3, 1) := by decide +kernel
theorem dX12_copy_41 : decode cX12_copy 41 = .ok (.iaload, 1) := by decide +kernel
theorem dX12_copy_42 : decode cX12_copy 42 = .ok (.ifCond .ge 9, 3) := by decide +kernel
theorem dX12_copy_45 : decode cX12_copy 45 = .ok (.aload_n 0, 1) := by decide +kernel
theorem dX12_copy_46 : decode cX12_copy 46 = .ok (.iconst 1, 1) := by decide +kernel
theorem dX12_copy_47 : decode cX12_copy 47 = .ok (.invokevirtual 99, 3) := by decide +kernel
theorem dX12_copy_50 : decode cX12_copy 50 = .ok (.ireturn, 1) := by decide +kernel
theorem dX12_copy_51 : decode cX12_copy 51 = .ok (.aload_n 0, 1) := by decide +kernel
theorem dX12_copy_52 : decode cX12_copy 52 = .ok (.getfield 7, 3) := by decide +kernel
theorem dX12_copy_55 : decode cX12_copy 55 = .ok (.iload_n 1, 1) := by decide +kernel
theorem dX12_copy_56 : decode cX12_copy 56 = .ok (.iaload, 1) := by decide +kernel
theorem dX12_copy_57 : decode cX12_copy 57 = .ok (.aload_n 0, 1) := by decide +kernel
theorem dX12_copy_58 : decode cX12_copy 58 = .ok (.getfield 7, 3) := by decide +kernel
theorem dX12_copy_61 : decode cX12_copy 61 = .ok (.iload_n 3, 1) := by decide +kernel
theorem dX12_copy_62 : decode cX12_copy 62 = .ok (.iaload, 1) := by decide +kernel
theorem dX12_copy_63 : decode cX12_copy 63 = .ok (.if_icmp .eq 9, 3) := by decide +kernel
theorem dX12_copy_66 : decode cX12_copy 66 = .ok (.aload_n 0, 1) := by decide +kernel
theorem dX12_copy_67 : decode cX12_copy 67 = .ok (.iconst 5, 1) := by decide +kernel
theorem dX12_copy_68 : decode cX12_copy 68 = .ok (.invokevirtual 99, 3) := by decide +kernel
theorem dX12_copy_71 : decode cX12_copy 71 = .ok (.ireturn, 1) := by decide +kernel
theorem dX12_copy_72 : decode cX12_copy 72 = .ok (.iload_n 2, 1) := by decide +kernel
theorem dX12_copy_73 : decode cX12_copy 73 = .ok (.ifCond .lt 48, 3) := by decide +kernel
theorem dX12_copy_76 : decode cX12_copy 76 = .ok (.iload 4, 2) := by decide +kernel
theorem dX12_copy_78 : decode cX12_copy 78 = .ok (.ifCond .lt 43, 3) := by decide +kernel
theorem dX12_copy_81 : decode cX12_copy 81 = .ok (.iload 5, 2) := by decide +kernel
theorem dX12_copy_83 : decode cX12_copy 83 = .ok (.ifCond .lt 38, 3) := by decide +kernel
theorem dX12_copy_86 : decode cX12_copy 86 = .ok (.iload_n 2, 1) := by decide +kernel
theorem dX12_copy_87 : decode cX12_copy 87 = .ok (.i2l, 1) := by decide +kernel
theorem dX12_copy_88 : decode cX12_copy 88 = .ok (.iload 5, 2) := by decide +kernel
theorem dX12_copy_90 : decode cX12_copy 90 = .ok (.i2l, 1) := by decide +kernel
theorem dX12_copy_91 : decode cX12_copy 91 = .ok (.ladd, 1) := by decide +kernel
theorem dX12_copy_92 : decode cX12_copy 92 = .ok (.aload_n 0, 1) := by decide +kernel
theorem dX12_copy_93 : decode cX12_copy 93 = .ok (.getfield 13, 3) := by decide +kernel
theorem dX12_copy_96 : decode cX12_copy 96 = .ok (.iload_n 1, 1) := by decide +kernel
theorem dX12_copy_97 : decode cX12_copy 97 = .ok (.iaload, 1) := by decide +kernel
theorem dX12_copy_98 : decode cX12_copy 98 = .ok (.i2l, 1) := by decide +kernel
theorem dX12_copy_99 : decode cX12_copy 99 = .ok (.lcmp, 1) := by decide +kernel
theorem dX12_copy_100 : decode cX12_copy 100 = .ok (.ifCond .gt 21, 3) := by decide +kernel
theorem dX12_copy_103 : decode cX12_copy 103 = .ok (.iload 4, 2) := by decide +kernel
theorem dX12_copy_105 : decode cX12_copy 105 = .ok (.i2l, 1) := by decide +kernel
theorem dX12_copy_106 : decode cX12_copy 106 = .ok (.iload 5, 2) := by decide +kernel
theorem dX12_copy_108 : decode cX12_copy 108 = .ok (.i2l, 1) := by decide +kernel
theorem dX12_copy_109 : decode cX12_copy 109 = .ok (.ladd, 1) := by decide +kernel
theorem dX12_copy_110 : decode cX12_copy 110 = .ok (.aload_n 0, 1) := by decide +kernel
theorem dX12_copy_111 : decode cX12_copy 111 = .ok (.getfield 13, 3) := by decide +kernel
theorem dX12_copy_114 : decode cX12_copy 114 = .ok (.iload_n 3, 1) := by decide +kernel
theorem dX12_copy_115 : decode cX12_copy 115 = .ok (.iaload, 1) := by decide +kernel
theorem dX12_copy_116 : decode cX12_copy 116 = .ok (.i2l, 1) := by decide +kernel
theorem dX12_copy_117 : decode cX12_copy 117 = .ok (.lcmp, 1) := by decide +kernel
theorem dX12_copy_118 : decode cX12_copy 118 = .ok (.ifCond .le 9, 3) := by decide +kernel
theorem dX12_copy_121 : decode cX12_copy 121 = .ok (.aload_n 0, 1) := by decide +kernel
theorem dX12_copy_122 : decode cX12_copy 122 = .ok (.iconst 2, 1) := by decide +kernel
theorem dX12_copy_123 : decode cX12_copy 123 = .ok (.invokevirtual 99, 3) := by decide +kernel
theorem dX12_copy_126 : decode cX12_copy 126 = .ok (.ireturn, 1) := by decide +kernel
theorem dX12_copy_127 : decode cX12_copy 127 = .ok (.iload_n 2, 1) := by decide +kernel
theorem dX12_copy_128 : decode cX12_copy 128 = .ok (.iload 4, 2) := by decide +kernel
theorem dX12_copy_130 : decode cX12_copy 130 = .ok (.if_icmp .lt 7, 3) := by decide +kernel
theorem dX12_copy_133 : decode cX12_copy 133 = .ok (.iconst 1, 1) := by decide +kernel
theorem dX12_copy_134 : decode cX12_copy 134 = .ok (.goto 4, 3) := by decide +kernel
theorem dX12_copy_137 : decode cX12_copy 137 = .ok (.iconst 0, 1) := by decide +kernel
theorem dX12_copy_138 : decode cX12_copy 138 = .ok (.istore 6, 2) := by decide +kernel
theorem dX12_copy_140 : decode cX12_copy 140 = .ok (.iconst 0, 1) := by decide +kernel
theorem dX12_copy_141 : decode cX12_copy 141 = .ok (.istore 7, 2) := by decide +kernel
theorem dX12_copy_143 : decode cX12_copy 143 = .ok (.iload 7, 2) := by decide +kernel
theorem dX12_copy_145 : decode cX12_copy 145 = .ok (.iload 5, 2) := by decide +kernel
theorem dX12_copy_147 : decode cX12_copy 147 = .ok (.if_icmp .ge 57, 3) := by decide +kernel
theorem dX12_copy_150 : decode cX12_copy 150 = .ok (.iload 6, 2) := by decide +kernel
theorem dX12_copy_152 : decode cX12_copy 152 = .ok (.ifCond .eq 8, 3) := by decide +kernel
theorem dX12_copy_155 : decode cX12_copy 155 = .ok (.iload 7, 2) := by decide +kernel
theorem dX12_copy_157 : decode cX12_copy 157 = .ok (.goto 10, 3) := by decide +kernel
theorem dX12_copy_160 : decode cX12_copy 160 = .ok (.iload 5, 2) := by decide +kernel
theorem dX12_copy_162 : decode cX12_copy 162 = .ok (.iconst 1, 1) := by decide +kernel
theorem dX12_copy_163 : decode cX12_copy 163 = .ok (.isub, 1) := by decide +kernel
theorem dX12_copy_164 : decode cX12_copy 164 = .ok (.iload 7, 2) := by decide +kernel
theorem dX12_copy_166 : decode cX12_copy 166 = .ok (.isub, 1) := by decide +kernel
theorem dX12_copy_167 : decode cX12_copy 167 = .ok (.istore 8, 2) := by decide +kernel
theorem dX12_copy_169 : decode cX12_copy 169 = .ok (.aload_n 0, 1) := by decide +kernel
theorem dX12_copy_170 : decode cX12_copy 170 = .ok (.getfield 16, 3) := by decide +kernel
theorem dX12_copy_173 : decode cX12_copy 173 = .ok (.bipush 96, 2) := by decide +kernel
theorem dX12_copy_175 : decode cX12_copy 175 = .ok (.iload_n 3, 1) := by decide +kernel
theorem dX12_copy_176 : decode cX12_copy 176 = .ok (.imul, 1) := by decide +kernel
theorem dX12_copy_177 : decode cX12_copy 177 = .ok (.iload 4, 2) := by decide +kernel
theorem dX12_copy_179 : decode cX12_copy 179 = .ok (.iadd, 1) := by decide +kernel
theorem dX12_copy_180 : decode cX12_copy 180 = .ok (.iload 8, 2) := by decide +kernel
theorem dX12_copy_182 : decode cX12_copy 182 = .ok (.iadd, 1) := by decide +kernel
theorem dX12_copy_183 : decode cX12_copy 183 = .ok (.aload_n 0, 1) := by decide +kernel
theorem dX12_copy_184 : decode cX12_copy 184 = .ok (.getfield 16, 3) := by decide +kernel
theorem dX12_copy_187 : decode cX12_copy 187 = .ok (.bipush 96, 2) := by decide +kernel
theorem dX12_copy_189 : decode cX12_copy 189 = .ok (.iload_n 1, 1) := by decide +kernel
theorem dX12_copy_190 : decode cX12_copy 190 = .ok (.imul, 1) := by decide +kernel
theorem dX12_copy_191 : decode cX12_copy 191 = .ok (.iload_n 2, 1) := by decide +kernel
theorem dX12_copy_192 : decode cX12_copy 192 = .ok (.iadd, 1) := by decide +kernel
theorem dX12_copy_193 : decode cX12_copy 193 = .ok (.iload 8, 2) := by decide +kernel
theorem dX12_copy_195 : decode cX12_copy 195 = .ok (.iadd, 1) := by decide +kernel
theorem dX12_copy_196 : decode cX12_copy 196 = .ok (.iaload, 1) := by decide +kernel
theorem dX12_copy_197 : decode cX12_copy 197 = .ok (.iastore, 1) := by decide +kernel
theorem dX12_copy_198 : decode cX12_copy 198 = .ok (.iinc 7 1, 3) := by decide +kernel
theorem dX12_copy_201 : decode cX12_copy 201 = .ok (.goto (-58), 3) := by decide +kernel
theorem dX12_copy_204 : decode cX12_copy 204 = .ok (.iload 5, 2) := by decide +kernel
theorem dX12_copy_206 : decode cX12_copy 206 = .ok (.ireturn, 1) := by decide +kernel
theorem dX12_drop_0 : decode cX12_drop 0 = .ok (.aload_n 0, 1) := by decide +kernel
theorem dX12_drop_1 : decode cX12_drop 1 = .ok (.iconst 0, 1) := by decide +kernel
theorem dX12_drop_2 : decode cX12_drop 2 = .ok (.putfield 78, 3) := by decide +kernel
theorem dX12_drop_5 : decode cX12_drop 5 = .ok (.iload_n 1, 1) := by decide +kernel
theorem dX12_drop_6 : decode cX12_drop 6 = .ok (.invokestatic 92, 3) := by decide +kernel
theorem dX12_drop_9 : decode cX12_drop 9 = .ok (.ifCond .ne 6, 3) := by decide +kernel
theorem dX12_drop_12 : decode cX12_drop 12 = .ok (.ldc 98, 2) := by decide +kernel
theorem dX12_drop_14 : decode cX12_drop 14 = .ok (.ireturn, 1) := by decide +kernel
theorem dX12_drop_15 : decode cX12_drop 15 = .ok (.aload_n 0, 1) := by decide +kernel
theorem dX12_drop_16 : decode cX12_drop 16 = .ok (.iconst 0, 1) := by decide +kernel
theorem dX12_drop_17 : decode cX12_drop 17 = .ok (.putfield 82, 3) := by decide +kernel
theorem dX12_drop_20 : decode cX12_drop 20 = .ok (.aload_n 0, 1) := by decide +kernel
theorem dX12_drop_21 : decode cX12_drop 21 = .ok (.getfield 7, 3) := by decide +kernel
theorem dX12_drop_24 : decode cX12_drop 24 = .ok (.iload_n 1, 1) := by decide +kernel
theorem dX12_drop_25 : decode cX12_drop 25 = .ok (.iaload, 1) := by decide +kernel
theorem dX12_drop_26 : decode cX12_drop 26 = .ok (.ifCond .ge 9, 3) := by decide +kernel
theorem dX12_drop_29 : decode cX12_drop 29 = .ok (.aload_n 0, 1) := by decide +kernel
theorem dX12_drop_30 : decode cX12_drop 30 = .ok (.iconst 1, 1) := by decide +kernel
theorem dX12_drop_31 : decode cX12_drop 31 = .ok (.invokevirtual 99, 3) := by decide +kernel
theorem dX12_drop_34 : decode cX12_drop 34 = .ok (.ireturn, 1) := by decide +kernel
theorem dX12_drop_35 : decode cX12_drop 35 = .ok (.aload_n 0, 1) := by decide +kernel
theorem dX12_drop_36 : decode cX12_drop 36 = .ok (.getfield 7, 3) := by decide +kernel
theorem dX12_drop_39 : decode cX12_drop 39 = .ok (.iload_n 1, 1) := by decide +kernel
theorem dX12_drop_40 : decode cX12_drop 40 = .ok (.iconst (-1), 1) := by decide +kernel
theorem dX12_drop_41 : decode cX12_drop 41 = .ok (.iastore, 1) := by decide +kernel
theorem dX12_drop_42 : decode cX12_drop 42 = .ok (.aload_n 0, 1) := by decide +kernel
theorem dX12_drop_43 : decode cX12_drop 43 = .ok (.getfield 13, 3) := by decide +kernel
theorem dX12_drop_46 : decode cX12_drop 46 = .ok (.iload_n 1, 1) := by decide +kernel
theorem dX12_drop_47 : decode cX12_drop 47 = .ok (.iaload, 1) := by decide +kernel
theorem dX12_drop_48 : decode cX12_drop 48 = .ok (.ireturn, 1) := by decide +kernel
theorem dX12_isPlace_0 : decode cX12_isPlace 0 = .ok (.iload_n 0, 1) := by decide +kernel
theorem dX12_isPlace_1 : decode cX12_isPlace 1 = .ok (.i2l, 1) := by decide +kernel
theorem dX12_isPlace_2 : decode cX12_isPlace 2 = .ok (.lconst 0, 1) := by decide +kernel
theorem dX12_isPlace_3 : decode cX12_isPlace 3 = .ok (.ldc2_w 103, 3) := by decide +kernel
theorem dX12_isPlace_6 : decode cX12_isPlace 6 = .ok (.invokestatic 88, 3) := by decide +kernel
theorem dX12_isPlace_9 : decode cX12_isPlace 9 = .ok (.ireturn, 1) := by decide +kernel
theorem dX12_at_0 : decode cX12_at 0 = .ok (.aload_n 0, 1) := by decide +kernel
theorem dX12_at_1 : decode cX12_at 1 = .ok (.getfield 25, 3) := by decide +kernel
theorem dX12_at_4 : decode cX12_at 4 = .ok (.bipush 96, 2) := by decide +kernel
theorem dX12_at_6 : decode cX12_at 6 = .ok (.iload_n 1, 1) := by decide +kernel
theorem dX12_at_7 : decode cX12_at 7 = .ok (.imul, 1) := by decide +kernel
theorem dX12_at_8 : decode cX12_at 8 = .ok (.bipush 12, 2) := by decide +kernel
theorem dX12_at_10 : decode cX12_at 10 = .ok (.iload_n 2, 1) := by decide +kernel
theorem dX12_at_11 : decode cX12_at 11 = .ok (.imul, 1) := by decide +kernel
theorem dX12_at_12 : decode cX12_at 12 = .ok (.iadd, 1) := by decide +kernel
theorem dX12_at_13 : decode cX12_at 13 = .ok (.iload_n 3, 1) := by decide +kernel
theorem dX12_at_14 : decode cX12_at 14 = .ok (.iadd, 1) := by decide +kernel
theorem dX12_at_15 : decode cX12_at 15 = .ok (.iaload, 1) := by decide +kernel
theorem dX12_at_16 : decode cX12_at 16 = .ok (.ireturn, 1) := by decide +kernel
theorem dX12_put_0 : decode cX12_put 0 = .ok (.aload_n 0, 1) := by decide +kernel
theorem dX12_put_1 : decode cX12_put 1 = .ok (.getfield 25, 3) := by decide +kernel
theorem dX12_put_4 : decode cX12_put 4 = .ok (.bipush 96, 2) := by decide +kernel
theorem dX12_put_6 : decode cX12_put 6 = .ok (.iload_n 1, 1) := by decide +kernel
theorem dX12_put_7 : decode cX12_put 7 = .ok (.imul, 1) := by decide +kernel
theorem dX12_put_8 : decode cX12_put 8 = .ok (.bipush 12, 2) := by decide +kernel
theorem dX12_put_10 : decode cX12_put 10 = .ok (.iload_n 2, 1) := by decide +kernel
theorem dX12_put_11 : decode cX12_put 11 = .ok (.imul, 1) := by decide +kernel
theorem dX12_put_12 : decode cX12_put 12 = .ok (.iadd, 1) := by decide +kernel
theorem dX12_put_13 : decode cX12_put 13 = .ok (.iload_n 3, 1) := by decide +kernel
theorem dX12_put_14 : decode cX12_put 14 = .ok (.iadd, 1) := by decide +kernel
theorem dX12_put_15 : decode cX12_put 15 = .ok (.iload 4, 2) := by decide +kernel
theorem dX12_put_17 : decode cX12_put 17 = .ok (.iastore, 1) := by decide +kernel
theorem dX12_put_18 : decode cX12_put 18 = .ok (.return_, 1) := by decide +kernel
theorem dX12_backAt_0 : decode cX12_backAt 0 = .ok (.iconst 0, 1) := by decide +kernel
theorem dX12_backAt_1 : decode cX12_backAt 1 = .ok (.istore 4, 2) := by decide +kernel
theorem dX12_backAt_3 : decode cX12_backAt 3 = .ok (.aload_n 0, 1) := by decide +kernel
theorem dX12_backAt_4 : decode cX12_backAt 4 = .ok (.iload_n 1, 1) := by decide +kernel
theorem dX12_backAt_5 : decode cX12_backAt 5 = .ok (.iload_n 2, 1) := by decide +kernel
theorem dX12_backAt_6 : decode cX12_backAt 6 = .ok (.iload 4, 2) := by decide +kernel
theorem dX12_backAt_8 : decode cX12_backAt 8 = .ok (.invokevirtual 105, 3) := by decide +kernel
theorem dX12_backAt_11 : decode cX12_backAt 11 = .ok (.iload_n 3, 1) := by decide +kernel
theorem dX12_backAt_12 : decode cX12_backAt 12 = .ok (.if_icmp .eq 9, 3) := by decide +kernel
theorem dX12_backAt_15 : decode cX12_backAt 15 = .ok (.iinc 4 1, 3) := by decide +kernel
theorem dX12_backAt_18 : decode cX12_backAt 18 = .ok (.goto (-15), 3) := by decide +kernel
theorem dX12_backAt_21 : decode cX12_backAt 21 = .ok (.iload 4, 2) := by decide +kernel
theorem dX12_backAt_23 : decode cX12_backAt 23 = .ok (.ireturn, 1) := by decide +kernel
theorem dX12_become_0 : decode cX12_become 0 = .ok (.aload_n 0, 1) := by decide +kernel
theorem dX12_become_1 : decode cX12_become 1 = .ok (.getfield 19, 3) := by decide +kernel
theorem dX12_become_4 : decode cX12_become 4 = .ok (.iload_n 1, 1) := by decide +kernel
theorem dX12_become_5 : decode cX12_become 5 = .ok (.aload_n 0, 1) := by decide +kernel
theorem dX12_become_6 : decode cX12_become 6 = .ok (.getfield 19, 3) := by decide +kernel
theorem dX12_become_9 : decode cX12_become 9 = .ok (.iload_n 2, 1) := by decide +kernel
theorem dX12_become_10 : decode cX12_become 10 = .ok (.iaload, 1) := by decide +kernel
theorem dX12_become_11 : decode cX12_become 11 = .ok (.iastore, 1) := by decide +kernel
theorem dX12_become_12 : decode cX12_become 12 = .ok (.aload_n 0, 1) := by decide +kernel
theorem dX12_become_13 : decode cX12_become 13 = .ok (.getfield 22, 3) := by decide +kernel
theorem dX12_become_16 : decode cX12_become 16 = .ok (.iload_n 1, 1) := by decide +kernel
theorem dX12_become_17 : decode cX12_become 17 = .ok (.aload_n 0, 1) := by decide +kernel
theorem dX12_become_18 : decode cX12_become 18 = .ok (.getfield 22, 3) := by decide +kernel
theorem dX12_become_21 : decode cX12_become 21 = .ok (.iload_n 2, 1) := by decide +kernel
theorem dX12_become_22 : decode cX12_become 22 = .ok (.iaload, 1) := by decide +kernel
theorem dX12_become_23 : decode cX12_become 23 = .ok (.iastore, 1) := by decide +kernel
theorem dX12_become_24 : decode cX12_become 24 = .ok (.iconst 0, 1) := by decide +kernel
theorem dX12_become_25 : decode cX12_become 25 = .ok (.istore_n 3, 1) := by decide +kernel
theorem dX12_become_26 : decode cX12_become 26 = .ok (.iload_n 3, 1) := by decide +kernel
theorem dX12_become_27 : decode cX12_become 27 = .ok (.bipush 96, 2) := by decide +kernel
theorem dX12_become_29 : decode cX12_become 29 = .ok (.if_icmp .ge 31, 3) := by decide +kernel
theorem dX12_become_32 : decode cX12_become 32 = .ok (.aload_n 0, 1) := by decide +kernel
theorem dX12_become_33 : decode cX12_become 33 = .ok (.getfield 25, 3) := by decide +kernel
theorem dX12_become_36 : decode cX12_become 36 = .ok (.bipush 96, 2) := by decide +kernel
theorem dX12_become_38 : decode cX12_become 38 = .ok (.iload_n 1, 1) := by decide +kernel
theorem dX12_become_39 : decode cX12_become 39 = .ok (.imul, 1) := by decide +kernel
theorem dX12_become_40 : decode cX12_become 40 = .ok (.iload_n 3, 1) := by decide +kernel
theorem dX12_become_41 : decode cX12_become 41 = .ok (.iadd, 1) := by decide +kernel
theorem dX12_become_42 : decode cX12_become 42 = .ok (.aload_n 0, 1) := by decide +kernel
theorem dX12_become_43 : decode cX12_become 43 = .ok (.getfield 25, 3) := by decide +kernel
theorem dX12_become_46 : decode cX12_become 46 = .ok (.bipush 96, 2) := by decide +kernel
theorem dX12_become_48 : decode cX12_become 48 = .ok (.iload_n 2, 1) := by decide +kernel
theorem dX12_become_49 : decode cX12_become 49 = .ok (.imul, 1) := by decide +kernel
theorem dX12_become_50 : decode cX12_become 50 = .ok (.iload_n 3, 1) := by decide +kernel
theorem dX12_become_51 : decode cX12_become 51 = .ok (.iadd, 1) := by decide +kernel
theorem dX12_become_52 : decode cX12_become 52 = .ok (.iaload, 1) := by decide +kernel
theorem dX12_become_53 : decode cX12_become 53 = .ok (.iastore, 1) := by decide +kernel
theorem dX12_become_54 : decode cX12_become 54 = .ok (.iinc 3 1, 3) := by decide +kernel
theorem dX12_become_57 : decode cX12_become 57 = .ok (.goto (-31), 3) := by decide +kernel
theorem dX12_become_60 : decode cX12_become 60 = .ok (.return_, 1) := by decide +kernel
theorem dX12_rounds_0 : decode cX12_rounds 0 = .ok (.aload_n 0, 1) := by decide +kernel
theorem dX12_rounds_1 : decode cX12_rounds 1 = .ok (.getfield 19, 3) := by decide +kernel
theorem dX12_rounds_4 : decode cX12_rounds 4 = .ok (.iload_n 1, 1) := by decide +kernel
theorem dX12_rounds_5 : decode cX12_rounds 5 = .ok (.iaload, 1) := by decide +kernel
theorem dX12_rounds_6 : decode cX12_rounds 6 = .ok (.istore_n 3, 1) := by decide +kernel
theorem dX12_rounds_7 : decode cX12_rounds 7 = .ok (.iconst 0, 1) := by decide +kernel
theorem dX12_rounds_8 : decode cX12_rounds 8 = .ok (.istore 4, 2) := by decide +kernel
theorem dX12_rounds_10 : decode cX12_rounds 10 = .ok (.iload 4, 2) := by decide +kernel
theorem dX12_rounds_12 : decode cX12_rounds 12 = .ok (.iload_n 3, 1) := by decide +kernel
theorem dX12_rounds_13 : decode cX12_rounds 13 = .ok (.if_icmp .ge 17, 3) := by decide +kernel
theorem dX12_rounds_16 : decode cX12_rounds 16 = .ok (.aload_n 0, 1) := by decide +kernel
theorem dX12_rounds_17 : decode cX12_rounds 17 = .ok (.getfield 28, 3) := by decide +kernel
theorem dX12_rounds_20 : decode cX12_rounds 20 = .ok (.iload 4, 2) := by decide +kernel
theorem dX12_rounds_22 : decode cX12_rounds 22 = .ok (.iconst 0, 1) := by decide +kernel
theorem dX12_rounds_23 : decode cX12_rounds 23 = .ok (.bastore, 1) := by decide +kernel
theorem dX12_rounds_24 : decode cX12_rounds 24 = .ok (.iinc 4 1, 3) := by decide +kernel
theorem dX12_rounds_27 : decode cX12_rounds 27 = .ok (.goto (-17), 3) := by decide +kernel
theorem dX12_rounds_30 : decode cX12_rounds 30 = .ok (.iconst 0, 1) := by decide +kernel
theorem dX12_rounds_31 : decode cX12_rounds 31 = .ok (.istore 4, 2) := by decide +kernel
theorem dX12_rounds_33 : decode cX12_rounds 33 = .ok (.iconst 0, 1) := by decide +kernel
theorem dX12_rounds_34 : decode cX12_rounds 34 = .ok (.istore 5, 2) := by decide +kernel
theorem dX12_rounds_36 : decode cX12_rounds 36 = .ok (.iload 5, 2) := by decide +kernel
theorem dX12_rounds_38 : decode cX12_rounds 38 = .ok (.iload_n 3, 1) := by decide +kernel
theorem dX12_rounds_39 : decode cX12_rounds 39 = .ok (.if_icmp .ge 117, 3) := by decide +kernel
theorem dX12_rounds_42 : decode cX12_rounds 42 = .ok (.aload_n 0, 1) := by decide +kernel
theorem dX12_rounds_43 : decode cX12_rounds 43 = .ok (.getfield 28, 3) := by decide +kernel
theorem dX12_rounds_46 : decode cX12_rounds 46 = .ok (.iload 5, 2) := by decide +kernel
theorem dX12_rounds_48 : decode cX12_rounds 48 = .ok (.baload, 1) := by decide +kernel
theorem dX12_rounds_49 : decode cX12_rounds 49 = .ok (.ifCond .ne 101, 3) := by decide +kernel
theorem dX12_rounds_52 : decode cX12_rounds 52 = .ok (.iconst 0, 1) := by decide +kernel
theorem dX12_rounds_53 : decode cX12_rounds 53 = .ok (.istore 6, 2) := by decide +kernel
theorem dX12_rounds_55 : decode cX12_rounds 55 = .ok (.iload 5, 2) := by decide +kernel
theorem dX12_rounds_57 : decode cX12_rounds 57 = .ok (.istore 7, 2) := by decide +kernel
theorem dX12_rounds_59 : decode cX12_rounds 59 = .ok (.aload_n 0, 1) := by decide +kernel
theorem dX12_rounds_60 : decode cX12_rounds 60 = .ok (.getfield 28, 3) := by decide +kernel
theorem dX12_rounds_63 : decode cX12_rounds 63 = .ok (.iload 7, 2) := by decide +kernel
theorem dX12_rounds_65 : decode cX12_rounds 65 = .ok (.baload, 1) := by decide +kernel
theorem dX12_rounds_66 : decode cX12_rounds 66 = .ok (.ifCond .ne 27, 3) := by decide +kernel
theorem dX12_rounds_69 : decode cX12_rounds 69 = .ok (.aload_n 0, 1) := by decide +kernel
theorem dX12_rounds_70 : decode cX12_rounds 70 = .ok (.getfield 28, 3) := by decide +kernel
theorem dX12_rounds_73 : decode cX12_rounds 73 = .ok (.iload 7, 2) := by decide +kernel
theorem dX12_rounds_75 : decode cX12_rounds 75 = .ok (.iconst 1, 1) := by decide +kernel
theorem dX12_rounds_76 : decode cX12_rounds 76 = .ok (.bastore, 1) := by decide +kernel
theorem dX12_rounds_77 : decode cX12_rounds 77 = .ok (.iinc 6 1, 3) := by decide +kernel
theorem dX12_rounds_80 : decode cX12_rounds 80 = .ok (.aload_n 0, 1) := by decide +kernel
theorem dX12_rounds_81 : decode cX12_rounds 81 = .ok (.iload_n 1, 1) := by decide +kernel
theorem dX12_rounds_82 : decode cX12_rounds 82 = .ok (.iload_n 2, 1) := by decide +kernel
theorem dX12_rounds_83 : decode cX12_rounds 83 = .ok (.iload 7, 2) := by decide +kernel
theorem dX12_rounds_85 : decode cX12_rounds 85 = .ok (.invokevirtual 105, 3) := by decide +kernel
theorem dX12_rounds_88 : decode cX12_rounds 88 = .ok (.istore 7, 2) := by decide +kernel
theorem dX12_rounds_90 : decode cX12_rounds 90 = .ok (.goto (-31), 3) := by decide +kernel
theorem dX12_rounds_93 : decode cX12_rounds 93 = .ok (.iload 4, 2) := by decide +kernel
theorem dX12_rounds_95 : decode cX12_rounds 95 = .ok (.istore 7, 2) := by decide +kernel
theorem dX12_rounds_97 : decode cX12_rounds 97 = .ok (.iload 7, 2) := by decide +kernel
theorem dX12_rounds_99 : decode cX12_rounds 99 = .ok (.ifCond .le 39, 3) := by decide +kernel
theorem dX12_rounds_102 : decode cX12_rounds 102 = .ok (.aload_n 0, 1) := by decide +kernel
theorem dX12_rounds_103 : decode cX12_rounds 103 = .ok (.getfield 32, 3) := by decide +kernel
theorem dX12_rounds_106 : decode cX12_rounds 106 = .ok (.iload 7, 2) := by decide +kernel
theorem dX12_rounds_108 : decode cX12_rounds 108 = .ok (.iconst 1, 1) := by decide +kernel
theorem dX12_rounds_109 : decode cX12_rounds 109 = .ok (.isub, 1) := by decide +kernel
theorem dX12_rounds_110 : decode cX12_rounds 110 = .ok (.iaload, 1) := by decide +kernel
theorem dX12_rounds_111 : decode cX12_rounds 111 = .ok (.iload 6, 2) := by decide +kernel
theorem dX12_rounds_113 : decode cX12_rounds 113 = .ok (.if_icmp .ge 25, 3) := by decide +kernel
theorem dX12_rounds_116 : decode cX12_rounds 116 = .ok (.aload_n 0, 1) := by decide +kernel
theorem dX12_rounds_117 : decode cX12_rounds 117 = .ok (.getfield 32, 3) := by decide +kernel
theorem dX12_rounds_120 : decode cX12_rounds 120 = .ok (.iload 7, 2) := by decide +kernel
theorem dX12_rounds_122 : decode cX12_rounds 122 = .ok (.aload_n 0, 1) := by decide +kernel
theorem dX12_rounds_123 : decode cX12_rounds 123 = .ok (.getfield 32, 3) := by decide +kernel
theorem dX12_rounds_126 : decode cX12_rounds 126 = .ok (.iload 7, 2) := by decide +kernel
theorem dX12_rounds_128 : decode cX12_rounds 128 = .ok (.iconst 1, 1) := by decide +kernel
theorem dX12_rounds_129 : decode cX12_rounds 129 = .ok (.isub, 1) := by decide +kernel
theorem dX12_rounds_130 : decode cX12_rounds 130 = .ok (.iaload, 1) := by decide +kernel
theorem dX12_rounds_131 : decode cX12_rounds 131 = .ok (.iastore, 1) := by decide +kernel
theorem dX12_rounds_132 : decode cX12_rounds 132 = .ok (.iinc 7 (-1), 3) := by decide +kernel
theorem dX12_rounds_135 : decode cX12_rounds 135 = .ok (.goto (-38), 3) := by decide +kernel
theorem dX12_rounds_138 : decode cX12_rounds 138 = .ok (.aload_n 0, 1) := by decide +kernel
theorem dX12_rounds_139 : decode cX12_rounds 139 = .ok (.getfield 32, 3) := by decide +kernel
theorem dX12_rounds_142 : decode cX12_rounds 142 = .ok (.iload 7, 2) := by decide +kernel
theorem dX12_rounds_144 : decode cX12_rounds 144 = .ok (.iload 6, 2) := by decide +kernel
theorem dX12_rounds_146 : decode cX12_rounds 146 = .ok (.iastore, 1) := by decide +kernel
theorem dX12_rounds_147 : decode cX12_rounds 147 = .ok (.iinc 4 1, 3) := by decide +kernel
theorem dX12_rounds_150 : decode cX12_rounds 150 = .ok (.iinc 5 1, 3) := by decide +kernel
theorem dX12_rounds_153 : decode cX12_rounds 153 = .ok (.goto (-117), 3) := by decide +kernel
theorem dX12_rounds_156 : decode cX12_rounds 156 = .ok (.iload 4, 2) := by decide +kernel
theorem dX12_rounds_158 : decode cX12_rounds 158 = .ok (.ireturn, 1) := by decide +kernel
theorem dX12_parts_0 : decode cX12_parts 0 = .ok (.aload_n 0, 1) := by decide +kernel
theorem dX12_parts_1 : decode cX12_parts 1 = .ok (.getfield 19, 3) := by decide +kernel
theorem dX12_parts_4 : decode cX12_parts 4 = .ok (.iload_n 1, 1) := by decide +kernel
theorem dX12_parts_5 : decode cX12_parts 5 = .ok (.iaload, 1) := by decide +kernel
theorem dX12_parts_6 : decode cX12_parts 6 = .ok (.istore_n 2, 1) := by decide +kernel
theorem dX12_parts_7 : decode cX12_parts 7 = .ok (.iconst 0, 1) := by decide +kernel
theorem dX12_parts_8 : decode cX12_parts 8 = .ok (.istore_n 3, 1) := by decide +kernel
theorem dX12_parts_9 : decode cX12_parts 9 = .ok (.iload_n 3, 1) := by decide +kernel
theorem dX12_parts_10 : decode cX12_parts 10 = .ok (.iload_n 2, 1) := by decide +kernel
theorem dX12_parts_11 : decode cX12_parts 11 = .ok (.if_icmp .ge 16, 3) := by decide +kernel
theorem dX12_parts_14 : decode cX12_parts 14 = .ok (.aload_n 0, 1) := by decide +kernel
theorem dX12_parts_15 : decode cX12_parts 15 = .ok (.getfield 35, 3) := by decide +kernel
theorem dX12_parts_18 : decode cX12_parts 18 = .ok (.iload_n 3, 1) := by decide +kernel
theorem dX12_parts_19 : decode cX12_parts 19 = .ok (.iconst (-1), 1) := by decide +kernel
theorem dX12_parts_20 : decode cX12_parts 20 = .ok (.iastore, 1) := by decide +kernel
theorem dX12_parts_21 : decode cX12_parts 21 = .ok (.iinc 3 1, 3) := by decide +kernel
theorem dX12_parts_24 : decode cX12_parts 24 = .ok (.goto (-15), 3) := by decide +kernel
theorem dX12_parts_27 : decode cX12_parts 27 = .ok (.iconst 0, 1) := by decide +kernel
theorem dX12_parts_28 : decode cX12_parts 28 = .ok (.istore_n 3, 1) := by decide +kernel
theorem dX12_parts_29 : decode cX12_parts 29 = .ok (.iconst 0, 1) := by decide +kernel
theorem dX12_parts_30 : decode cX12_parts 30 = .ok (.istore 4, 2) := by decide +kernel
theorem dX12_parts_32 : decode cX12_parts 32 = .ok (.iload 4, 2) := by decide +kernel
theorem dX12_parts_34 : decode cX12_parts 34 = .ok (.iload_n 2, 1) := by decide +kernel
theorem dX12_parts_35 : decode cX12_parts 35 = .ok (.if_icmp .ge 123, 3) := by decide +kernel
theorem dX12_parts_38 : decode cX12_parts 38 = .ok (.aload_n 0, 1) := by decide +kernel
theorem dX12_parts_39 : decode cX12_parts 39 = .ok (.getfield 35, 3) := by decide +kernel
theorem dX12_parts_42 : decode cX12_parts 42 = .ok (.iload 4, 2) := by decide +kernel
theorem dX12_parts_44 : decode cX12_parts 44 = .ok (.iaload, 1) := by decide +kernel
theorem dX12_parts_45 : decode cX12_parts 45 = .ok (.ifCond .ge 107, 3) := by decide +kernel
theorem dX12_parts_48 : decode cX12_parts 48 = .ok (.aload_n 0, 1) := by decide +kernel
theorem dX12_parts_49 : decode cX12_parts 49 = .ok (.getfield 35, 3) := by decide +kernel
theorem dX12_parts_52 : decode cX12_parts 52 = .ok (.iload 4, 2) := by decide +kernel
theorem dX12_parts_54 : decode cX12_parts 54 = .ok (.iload_n 3, 1) := by decide +kernel
theorem dX12_parts_55 : decode cX12_parts 55 = .ok (.iastore, 1) := by decide +kernel
theorem dX12_parts_56 : decode cX12_parts 56 = .ok (.iconst 1, 1) := by decide +kernel
theorem dX12_parts_57 : decode cX12_parts 57 = .ok (.istore 5, 2) := by decide +kernel
theorem dX12_parts_59 : decode cX12_parts 59 = .ok (.iload 5, 2) := by decide +kernel
theorem dX12_parts_61 : decode cX12_parts 61 = .ok (.ifCond .eq 88, 3) := by decide +kernel
theorem dX12_parts_64 : decode cX12_parts 64 = .ok (.iconst 0, 1) := by decide +kernel
theorem dX12_parts_65 : decode cX12_parts 65 = .ok (.istore 5, 2) := by decide +kernel
theorem dX12_parts_67 : decode cX12_parts 67 = .ok (.iconst 0, 1) := by decide +kernel
theorem dX12_parts_68 : decode cX12_parts 68 = .ok (.istore 6, 2) := by decide +kernel
theorem dX12_parts_70 : decode cX12_parts 70 = .ok (.iload 6, 2) := by decide +kernel
theorem dX12_parts_72 : decode cX12_parts 72 = .ok (.iload_n 2, 1) := by decide +kernel
theorem dX12_parts_73 : decode cX12_parts 73 = .ok (.if_icmp .ge 73, 3) := by decide +kernel
theorem dX12_parts_76 : decode cX12_parts 76 = .ok (.iconst 0, 1) := by decide +kernel
theorem dX12_parts_77 : decode cX12_parts 77 = .ok (.istore 7, 2) := by decide +kernel
theorem dX12_parts_79 : decode cX12_parts 79 = .ok (.iload 7, 2) := by decide +kernel
theorem dX12_parts_81 : decode cX12_parts 81 = .ok (.aload_n 0, 1) := by decide +kernel
theorem dX12_parts_82 : decode cX12_parts 82 = .ok (.getfield 22, 3) := by decide +kernel
theorem dX12_parts_85 : decode cX12_parts 85 = .ok (.iload_n 1, 1) := by decide +kernel
theorem dX12_parts_86 : decode cX12_parts 86 = .ok (.iaload, 1) := by decide +kernel
theorem dX12_parts_87 : decode cX12_parts 87 = .ok (.if_icmp .ge 53, 3) := by decide +kernel
theorem dX12_parts_90 : decode cX12_parts 90 = .ok (.aload_n 0, 1) := by decide +kernel
theorem dX12_parts_91 : decode cX12_parts 91 = .ok (.iload_n 1, 1) := by decide +kernel
theorem dX12_parts_92 : decode cX12_parts 92 = .ok (.iload 7, 2) := by decide +kernel
theorem dX12_parts_94 : decode cX12_parts 94 = .ok (.iload 6, 2) := by decide +kernel
theorem dX12_parts_96 : decode cX12_parts 96 = .ok (.invokevirtual 105, 3) := by decide +kernel
theorem dX12_parts_99 : decode cX12_parts 99 = .ok (.istore 8, 2) := by decide +kernel
theorem dX12_parts_101 : decode cX12_parts 101 = .ok (.aload_n 0, 1) := by decide +kernel
theorem dX12_parts_102 : decode cX12_parts 102 = .ok (.getfield 35, 3) := by decide +kernel
theorem dX12_parts_105 : decode cX12_parts 105 = .ok (.iload 6, 2) := by decide +kernel
theorem dX12_parts_107 : decode cX12_parts 107 = .ok (.iaload, 1) := by decide +kernel
theorem dX12_parts_108 : decode cX12_parts 108 = .ok (.iload_n 3, 1) := by decide +kernel
theorem dX12_parts_109 : decode cX12_parts 109 = .ok (.if_icmp .ne 25, 3) := by decide +kernel
theorem dX12_parts_112 : decode cX12_parts 112 = .ok (.aload_n 0, 1) := by decide +kernel
theorem dX12_parts_113 : decode cX12_parts 113 = .ok (.getfield 35, 3) := by decide +kernel
theorem dX12_parts_116 : decode cX12_parts 116 = .ok (.iload 8, 2) := by decide +kernel
theorem dX12_parts_118 : decode cX12_parts 118 = .ok (.iaload, 1) := by decide +kernel
theorem dX12_parts_119 : decode cX12_parts 119 = .ok (.iload_n 3, 1) := by decide +kernel
theorem dX12_parts_120 : decode cX12_parts 120 = .ok (.if_icmp .eq 14, 3) := by decide +kernel
theorem dX12_parts_123 : decode cX12_parts 123 = .ok (.aload_n 0, 1) := by decide +kernel
theorem dX12_parts_124 : decode cX12_parts 124 = .ok (.getfield 35, 3) := by decide +kernel
theorem dX12_parts_127 : decode cX12_parts 127 = .ok (.iload 8, 2) := by decide +kernel
theorem dX12_parts_129 : decode cX12_parts 129 = .ok (.iload_n 3, 1) := by decide +kernel
theorem dX12_parts_130 : decode cX12_parts 130 = .ok (.iastore, 1) := by decide +kernel
theorem dX12_parts_131 : decode cX12_parts 131 = .ok (.iconst 1, 1) := by decide +kernel
theorem dX12_parts_132 : decode cX12_parts 132 = .ok (.istore 5, 2) := by decide +kernel
theorem dX12_parts_134 : decode cX12_parts 134 = .ok (.iinc 7 1, 3) := by decide +kernel
theorem dX12_parts_137 : decode cX12_parts 137 = .ok (.goto (-58), 3) := by decide +kernel
theorem dX12_parts_140 : decode cX12_parts 140 = .ok (.iinc 6 1, 3) := by decide +kernel
theorem dX12_parts_143 : decode cX12_parts 143 = .ok (.goto (-73), 3) := by decide +kernel
theorem dX12_parts_146 : decode cX12_parts 146 = .ok (.goto (-87), 3) := by decide +kernel
theorem dX12_parts_149 : decode cX12_parts 149 = .ok (.iinc 3 1, 3) := by decide +kernel
theorem dX12_parts_152 : decode cX12_parts 152 = .ok (.iinc 4 1, 3) := by decide +kernel
theorem dX12_parts_155 : decode cX12_parts 155 = .ok (.goto (-123), 3) := by decide +kernel
theorem dX12_parts_158 : decode cX12_parts 158 = .ok (.iload_n 3, 1) := by decide +kernel
theorem dX12_parts_159 : decode cX12_parts 159 = .ok (.ireturn, 1) := by decide +kernel
theorem dX12_kindOf_0 : decode cX12_kindOf 0 = .ok (.aload_n 0, 1) := by decide +kernel
theorem dX12_kindOf_1 : decode cX12_kindOf 1 = .ok (.getfield 19, 3) := by decide +kernel
theorem dX12_kindOf_4 : decode cX12_kindOf 4 = .ok (.iload_n 1, 1) := by decide +kernel
theorem dX12_kindOf_5 : decode cX12_kindOf 5 = .ok (.iaload, 1) := by decide +kernel
theorem dX12_kindOf_6 : decode cX12_kindOf 6 = .ok (.istore_n 2, 1) := by decide +kernel
theorem dX12_kindOf_7 : decode cX12_kindOf 7 = .ok (.aload_n 0, 1) := by decide +kernel
theorem dX12_kindOf_8 : decode cX12_kindOf 8 = .ok (.getfield 22, 3) := by decide +kernel
theorem dX12_kindOf_11 : decode cX12_kindOf 11 = .ok (.iload_n 1, 1) := by decide +kernel
theorem dX12_kindOf_12 : decode cX12_kindOf 12 = .ok (.iaload, 1) := by decide +kernel
theorem dX12_kindOf_13 : decode cX12_kindOf 13 = .ok (.istore_n 3, 1) := by decide +kernel
theorem dX12_kindOf_14 : decode cX12_kindOf 14 = .ok (.iload_n 3, 1) := by decide +kernel
theorem dX12_kindOf_15 : decode cX12_kindOf 15 = .ok (.iconst 3, 1) := by decide +kernel
theorem dX12_kindOf_16 : decode cX12_kindOf 16 = .ok (.if_icmp .ne 90, 3) := by decide +kernel
theorem dX12_kindOf_19 : decode cX12_kindOf 19 = .ok (.iconst 1, 1) := by decide +kernel
theorem dX12_kindOf_20 : decode cX12_kindOf 20 = .ok (.istore 4, 2) := by decide +kernel
theorem dX12_kindOf_22 : decode cX12_kindOf 22 = .ok (.iconst 0, 1) := by decide +kernel
theorem dX12_kindOf_23 : decode cX12_kindOf 23 = .ok (.istore 5, 2) := by decide +kernel
theorem dX12_kindOf_25 : decode cX12_kindOf 25 = .ok (.iload 5, 2) := by decide +kernel
theorem dX12_kindOf_27 : decode cX12_kindOf 27 = .ok (.iload_n 2, 1) := by decide +kernel
theorem dX12_kindOf_28 : decode cX12_kindOf 28 = .ok (.if_icmp .ge 53, 3) := by decide +kernel
theorem dX12_kindOf_31 : decode cX12_kindOf 31 = .ok (.iload 4, 2) := by decide +kernel
theorem dX12_kindOf_33 : decode cX12_kindOf 33 = .ok (.ifCond .eq 39, 3) := by decide +kernel
theorem dX12_kindOf_36 : decode cX12_kindOf 36 = .ok (.aload_n 0, 1) := by decide +kernel
theorem dX12_kindOf_37 : decode cX12_kindOf 37 = .ok (.iload_n 1, 1) := by decide +kernel
theorem dX12_kindOf_38 : decode cX12_kindOf 38 = .ok (.iconst 2, 1) := by decide +kernel
theorem dX12_kindOf_39 : decode cX12_kindOf 39 = .ok (.iload 5, 2) := by decide +kernel
theorem dX12_kindOf_41 : decode cX12_kindOf 41 = .ok (.invokevirtual 105, 3) := by decide +kernel
theorem dX12_kindOf_44 : decode cX12_kindOf 44 = .ok (.iload 5, 2) := by decide +kernel
theorem dX12_kindOf_46 : decode cX12_kindOf 46 = .ok (.if_icmp .eq 26, 3) := by decide +kernel
theorem dX12_kindOf_49 : decode cX12_kindOf 49 = .ok (.aload_n 0, 1) := by decide +kernel
theorem dX12_kindOf_50 : decode cX12_kindOf 50 = .ok (.iload_n 1, 1) := by decide +kernel
theorem dX12_kindOf_51 : decode cX12_kindOf 51 = .ok (.iconst 2, 1) := by decide +kernel
theorem dX12_kindOf_52 : decode cX12_kindOf 52 = .ok (.aload_n 0, 1) := by decide +kernel
theorem dX12_kindOf_53 : decode cX12_kindOf 53 = .ok (.iload_n 1, 1) := by decide +kernel
theorem dX12_kindOf_54 : decode cX12_kindOf 54 = .ok (.iconst 2, 1) := by decide +kernel
theorem dX12_kindOf_55 : decode cX12_kindOf 55 = .ok (.iload 5, 2) := by decide +kernel
theorem dX12_kindOf_57 : decode cX12_kindOf 57 = .ok (.invokevirtual 105, 3) := by decide +kernel
theorem dX12_kindOf_60 : decode cX12_kindOf 60 = .ok (.invokevirtual 105, 3) := by decide +kernel
theorem dX12_kindOf_63 : decode cX12_kindOf 63 = .ok (.iload 5, 2) := by decide +kernel
theorem dX12_kindOf_65 : decode cX12_kindOf 65 = .ok (.if_icmp .ne 7, 3) := by decide +kernel
theorem dX12_kindOf_68 : decode cX12_kindOf 68 = .ok (.iconst 1, 1) := by decide +kernel
theorem dX12_kindOf_69 : decode cX12_kindOf 69 = .ok (.goto 4, 3) := by decide +kernel
theorem dX12_kindOf_72 : decode cX12_kindOf 72 = .ok (.iconst 0, 1) := by decide +kernel
theorem dX12_kindOf_73 : decode cX12_kindOf 73 = .ok (.istore 4, 2) := by decide +kernel
theorem dX12_kindOf_75 : decode cX12_kindOf 75 = .ok (.iinc 5 1, 3) := by decide +kernel
theorem dX12_kindOf_78 : decode cX12_kindOf 78 = .ok (.goto (-53), 3) := by decide +kernel
theorem dX12_kindOf_81 : decode cX12_kindOf 81 = .ok (.iload 4, 2) := by decide +kernel
theorem dX12_kindOf_83 : decode cX12_kindOf 83 = .ok (.ifCond .eq 21, 3) := by decide +kernel
theorem dX12_kindOf_86 : decode cX12_kindOf 86 = .ok (.aload_n 0, 1) := by decide +kernel
theorem dX12_kindOf_87 : decode cX12_kindOf 87 = .ok (.iload_n 1, 1) := by decide +kernel
theorem dX12_kindOf_88 : decode cX12_kindOf 88 = .ok (.iconst 1, 1) := by decide +kernel
theorem dX12_kindOf_89 : decode cX12_kindOf 89 = .ok (.invokevirtual 109, 3) := by decide +kernel
theorem dX12_kindOf_92 : decode cX12_kindOf 92 = .ok (.iconst 1, 1) := by decide +kernel
theorem dX12_kindOf_93 : decode cX12_kindOf 93 = .ok (.if_icmp .ne 7, 3) := by decide +kernel
theorem dX12_kindOf_96 : decode cX12_kindOf 96 = .ok (.iconst 4, 1) := by decide +kernel
theorem dX12_kindOf_97 : decode cX12_kindOf 97 = .ok (.goto 8, 3) := by decide +kernel
theorem dX12_kindOf_100 : decode cX12_kindOf 100 = .ok (.iconst 3, 1) := by decide +kernel
theorem dX12_kindOf_101 : decode cX12_kindOf 101 = .ok (.goto 4, 3) := by decide +kernel
theorem dX12_kindOf_104 : decode cX12_kindOf 104 = .ok (.iconst 2, 1) := by decide +kernel
theorem dX12_kindOf_105 : decode cX12_kindOf 105 = .ok (.ireturn, 1) := by decide +kernel
theorem dX12_kindOf_106 : decode cX12_kindOf 106 = .ok (.iload_n 3, 1) := by decide +kernel
theorem dX12_kindOf_107 : decode cX12_kindOf 107 = .ok (.iconst 1, 1) := by decide +kernel
theorem dX12_kindOf_108 : decode cX12_kindOf 108 = .ok (.if_icmp .le 7, 3) := by decide +kernel
theorem dX12_kindOf_111 : decode cX12_kindOf 111 = .ok (.iconst 1, 1) := by decide +kernel
theorem dX12_kindOf_112 : decode cX12_kindOf 112 = .ok (.goto 4, 3) := by decide +kernel
theorem dX12_kindOf_115 : decode cX12_kindOf 115 = .ok (.iconst 0, 1) := by decide +kernel
theorem dX12_kindOf_116 : decode cX12_kindOf 116 = .ok (.istore 4, 2) := by decide +kernel
theorem dX12_kindOf_118 : decode cX12_kindOf 118 = .ok (.iconst 0, 1) := by decide +kernel
theorem dX12_kindOf_119 : decode cX12_kindOf 119 = .ok (.istore 5, 2) := by decide +kernel
theorem dX12_kindOf_121 : decode cX12_kindOf 121 = .ok (.iload 5, 2) := by decide +kernel
theorem dX12_kindOf_123 : decode cX12_kindOf 123 = .ok (.iconst 1, 1) := by decide +kernel
theorem dX12_kindOf_124 : decode cX12_kindOf 124 = .ok (.iadd, 1) := by decide +kernel
theorem dX12_kindOf_125 : decode cX12_kindOf 125 = .ok (.iload_n 3, 1) := by decide +kernel
theorem dX12_kindOf_126 : decode cX12_kindOf 126 = .ok (.if_icmp .ge 38, 3) := by decide +kernel
theorem dX12_kindOf_129 : decode cX12_kindOf 129 = .ok (.aload_n 0, 1) := by decide +kernel
theorem dX12_kindOf_130 : decode cX12_kindOf 130 = .ok (.iload_n 1, 1) := by decide +kernel
theorem dX12_kindOf_131 : decode cX12_kindOf 131 = .ok (.iload 5, 2) := by decide +kernel
theorem dX12_kindOf_133 : decode cX12_kindOf 133 = .ok (.invokevirtual 109, 3) := by decide +kernel
theorem dX12_kindOf_136 : decode cX12_kindOf 136 = .ok (.istore 6, 2) := by decide +kernel
theorem dX12_kindOf_138 : decode cX12_kindOf 138 = .ok (.iload 4, 2) := by decide +kernel
theorem dX12_kindOf_140 : decode cX12_kindOf 140 = .ok (.ifCond .eq 15, 3) := by decide +kernel
theorem dX12_kindOf_143 : decode cX12_kindOf 143 = .ok (.iload 6, 2) := by decide +kernel
theorem dX12_kindOf_145 : decode cX12_kindOf 145 = .ok (.iload_n 2, 1) := by decide +kernel
theorem dX12_kindOf_146 : decode cX12_kindOf 146 = .ok (.iconst 1, 1) := by decide +kernel
theorem dX12_kindOf_147 : decode cX12_kindOf 147 = .ok (.isub, 1) := by decide +kernel
theorem dX12_kindOf_148 : decode cX12_kindOf 148 = .ok (.if_icmp .ne 7, 3) := by decide +kernel
theorem dX12_kindOf_151 : decode cX12_kindOf 151 = .ok (.iconst 1, 1) := by decide +kernel
theorem dX12_kindOf_152 : decode cX12_kindOf 152 = .ok (.goto 4, 3) := by decide +kernel
theorem dX12_kindOf_155 : decode cX12_kindOf 155 = .ok (.iconst 0, 1) := by decide +kernel
theorem dX12_kindOf_156 : decode cX12_kindOf 156 = .ok (.istore 4, 2) := by decide +kernel
theorem dX12_kindOf_158 : decode cX12_kindOf 158 = .ok (.iinc 5 1, 3) := by decide +kernel
theorem dX12_kindOf_161 : decode cX12_kindOf 161 = .ok (.goto (-40), 3) := by decide +kernel
theorem dX12_kindOf_164 : decode cX12_kindOf 164 = .ok (.iload 4, 2) := by decide +kernel
theorem dX12_kindOf_166 : decode cX12_kindOf 166 = .ok (.ifCond .eq 7, 3) := by decide +kernel
theorem dX12_kindOf_169 : decode cX12_kindOf 169 = .ok (.iconst 1, 1) := by decide +kernel
theorem dX12_kindOf_170 : decode cX12_kindOf 170 = .ok (.goto 4, 3) := by decide +kernel
theorem dX12_kindOf_173 : decode cX12_kindOf 173 = .ok (.iconst 0, 1) := by decide +kernel
theorem dX12_kindOf_174 : decode cX12_kindOf 174 = .ok (.ireturn, 1) := by decide +kernel
theorem dX12_lay_0 : decode cX12_lay 0 = .ok (.aload_n 0, 1) := by decide +kernel
theorem dX12_lay_1 : decode cX12_lay 1 = .ok (.iconst 0, 1) := by decide +kernel
theorem dX12_lay_2 : decode cX12_lay 2 = .ok (.putfield 82, 3) := by decide +kernel
theorem dX12_lay_5 : decode cX12_lay 5 = .ok (.aload_n 0, 1) := by decide +kernel
theorem dX12_lay_6 : decode cX12_lay 6 = .ok (.iload_n 1, 1) := by decide +kernel
theorem dX12_lay_7 : decode cX12_lay 7 = .ok (.bipush 10, 2) := by decide +kernel
theorem dX12_lay_9 : decode cX12_lay 9 = .ok (.invokevirtual 113, 3) := by decide +kernel
theorem dX12_lay_12 : decode cX12_lay 12 = .ok (.aload_n 0, 1) := by decide +kernel
theorem dX12_lay_13 : decode cX12_lay 13 = .ok (.iload_n 1, 1) := by decide +kernel
theorem dX12_lay_14 : decode cX12_lay 14 = .ok (.invokevirtual 117, 3) := by decide +kernel
theorem dX12_lay_17 : decode cX12_lay 17 = .ok (.ireturn, 1) := by decide +kernel
theorem dX12_cover_0 : decode cX12_cover 0 = .ok (.aload_n 0, 1) := by decide +kernel
theorem dX12_cover_1 : decode cX12_cover 1 = .ok (.iconst 0, 1) := by decide +kernel
theorem dX12_cover_2 : decode cX12_cover 2 = .ok (.putfield 78, 3) := by decide +kernel
theorem dX12_cover_5 : decode cX12_cover 5 = .ok (.iload_n 1, 1) := by decide +kernel
theorem dX12_cover_6 : decode cX12_cover 6 = .ok (.invokestatic 120, 3) := by decide +kernel
theorem dX12_cover_9 : decode cX12_cover 9 = .ok (.ifCond .eq 36, 3) := by decide +kernel
theorem dX12_cover_12 : decode cX12_cover 12 = .ok (.iload_n 2, 1) := by decide +kernel
theorem dX12_cover_13 : decode cX12_cover 13 = .ok (.invokestatic 92, 3) := by decide +kernel
theorem dX12_cover_16 : decode cX12_cover 16 = .ok (.ifCond .eq 29, 3) := by decide +kernel
theorem dX12_cover_19 : decode cX12_cover 19 = .ok (.iload 4, 2) := by decide +kernel
theorem dX12_cover_21 : decode cX12_cover 21 = .ok (.i2l, 1) := by decide +kernel
theorem dX12_cover_22 : decode cX12_cover 22 = .ok (.lconst 1, 1) := by decide +kernel
theorem dX12_cover_23 : decode cX12_cover 23 = .ok (.ldc2_w 123, 3) := by decide +kernel
theorem dX12_cover_26 : decode cX12_cover 26 = .ok (.invokestatic 88, 3) := by decide +kernel
theorem dX12_cover_29 : decode cX12_cover 29 = .ok (.ifCond .eq 16, 3) := by decide +kernel
theorem dX12_cover_32 : decode cX12_cover 32 = .ok (.iload 5, 2) := by decide +kernel
theorem dX12_cover_34 : decode cX12_cover 34 = .ok (.i2l, 1) := by decide +kernel
theorem dX12_cover_35 : decode cX12_cover 35 = .ok (.lconst 1, 1) := by decide +kernel
theorem dX12_cover_36 : decode cX12_cover 36 = .ok (.ldc2_w 125, 3) := by decide +kernel
theorem dX12_cover_39 : decode cX12_cover 39 = .ok (.invokestatic 88, 3) := by decide +kernel
theorem dX12_cover_42 : decode cX12_cover 42 = .ok (.ifCond .ne 6, 3) := by decide +kernel
theorem dX12_cover_45 : decode cX12_cover 45 = .ok (.ldc 98, 2) := by decide +kernel
theorem dX12_cover_47 : decode cX12_cover 47 = .ok (.ireturn, 1) := by decide +kernel
theorem dX12_cover_48 : decode cX12_cover 48 = .ok (.aload_n 0, 1) := by decide +kernel
theorem dX12_cover_49 : decode cX12_cover 49 = .ok (.getfield 7, 3) := by decide +kernel
theorem dX12_cover_52 : decode cX12_cover 52 = .ok (.iload_n 2, 1) := by decide +kernel
theorem dX12_cover_53 : decode cX12_cover 53 = .ok (.iaload, 1) := by decide +kernel
theorem dX12_cover_54 : decode cX12_cover 54 = .ok (.ifCond .ge 9, 3) := by decide +kernel
theorem dX12_cover_57 : decode cX12_cover 57 = .ok (.aload_n 0, 1) := by decide +kernel
theorem dX12_cover_58 : decode cX12_cover 58 = .ok (.iconst 1, 1) := by decide +kernel
theorem dX12_cover_59 : decode cX12_cover 59 = .ok (.invokevirtual 99, 3) := by decide +kernel
theorem dX12_cover_62 : decode cX12_cover 62 = .ok (.ireturn, 1) := by decide +kernel
theorem dX12_cover_63 : decode cX12_cover 63 = .ok (.iload_n 3, 1) := by decide +kernel
theorem dX12_cover_64 : decode cX12_cover 64 = .ok (.ifCond .lt 25, 3) := by decide +kernel
theorem dX12_cover_67 : decode cX12_cover 67 = .ok (.iload_n 3, 1) := by decide +kernel
theorem dX12_cover_68 : decode cX12_cover 68 = .ok (.i2l, 1) := by decide +kernel
theorem dX12_cover_69 : decode cX12_cover 69 = .ok (.iload 5, 2) := by decide +kernel
theorem dX12_cover_71 : decode cX12_cover 71 = .ok (.iconst 1, 1) := by decide +kernel
theorem dX12_cover_72 : decode cX12_cover 72 = .ok (.isub, 1) := by decide +kernel
theorem dX12_cover_73 : decode cX12_cover 73 = .ok (.iload 4, 2) := by decide +kernel
theorem dX12_cover_75 : decode cX12_cover 75 = .ok (.imul, 1) := by decide +kernel
theorem dX12_cover_76 : decode cX12_cover 76 = .ok (.i2l, 1) := by decide +kernel
theorem dX12_cover_77 : decode cX12_cover 77 = .ok (.ladd, 1) := by decide +kernel
theorem dX12_cover_78 : decode cX12_cover 78 = .ok (.aload_n 0, 1) := by decide +kernel
theorem dX12_cover_79 : decode cX12_cover 79 = .ok (.getfield 13, 3) := by decide +kernel
theorem dX12_cover_82 : decode cX12_cover 82 = .ok (.iload_n 2, 1) := by decide +kernel
theorem dX12_cover_83 : decode cX12_cover 83 = .ok (.iaload, 1) := by decide +kernel
theorem dX12_cover_84 : decode cX12_cover 84 = .ok (.i2l, 1) := by decide +kernel
theorem dX12_cover_85 : decode cX12_cover 85 = .ok (.lcmp, 1) := by decide +kernel
theorem dX12_cover_86 : decode cX12_cover 86 = .ok (.ifCond .le 9, 3) := by decide +kernel
theorem dX12_cover_89 : decode cX12_cover 89 = .ok (.aload_n 0, 1) := by decide +kernel
theorem dX12_cover_90 : decode cX12_cover 90 = .ok (.iconst 2, 1) := by decide +kernel
theorem dX12_cover_91 : decode cX12_cover 91 = .ok (.invokevirtual 99, 3) := by decide +kernel
theorem dX12_cover_94 : decode cX12_cover 94 = .ok (.ireturn, 1) := by decide +kernel
theorem dX12_cover_95 : decode cX12_cover 95 = .ok (.iconst 0, 1) := by decide +kernel
theorem dX12_cover_96 : decode cX12_cover 96 = .ok (.istore 6, 2) := by decide +kernel
theorem dX12_cover_98 : decode cX12_cover 98 = .ok (.iload 6, 2) := by decide +kernel
theorem dX12_cover_100 : decode cX12_cover 100 = .ok (.iconst 1, 1) := by decide +kernel
theorem dX12_cover_101 : decode cX12_cover 101 = .ok (.iadd, 1) := by decide +kernel
theorem dX12_cover_102 : decode cX12_cover 102 = .ok (.iload 5, 2) := by decide +kernel
theorem dX12_cover_104 : decode cX12_cover 104 = .ok (.if_icmp .ge 88, 3) := by decide +kernel
theorem dX12_cover_107 : decode cX12_cover 107 = .ok (.iconst 0, 1) := by decide +kernel
theorem dX12_cover_108 : decode cX12_cover 108 = .ok (.istore 7, 2) := by decide +kernel
theorem dX12_cover_110 : decode cX12_cover 110 = .ok (.iconst 0, 1) := by decide +kernel
theorem dX12_cover_111 : decode cX12_cover 111 = .ok (.istore 8, 2) := by decide +kernel
theorem dX12_cover_113 : decode cX12_cover 113 = .ok (.iload 8, 2) := by decide +kernel
theorem dX12_cover_115 : decode cX12_cover 115 = .ok (.iload 4, 2) := by decide +kernel
theorem dX12_cover_117 : decode cX12_cover 117 = .ok (.if_icmp .ge 69, 3) := by decide +kernel
theorem dX12_cover_120 : decode cX12_cover 120 = .ok (.aload_n 0, 1) := by decide +kernel
theorem dX12_cover_121 : decode cX12_cover 121 = .ok (.getfield 16, 3) := by decide +kernel
theorem dX12_cover_124 : decode cX12_cover 124 = .ok (.bipush 96, 2) := by decide +kernel
theorem dX12_cover_126 : decode cX12_cover 126 = .ok (.iload_n 2, 1) := by decide +kernel
theorem dX12_cover_127 : decode cX12_cover 127 = .ok (.imul, 1) := by decide +kernel
theorem dX12_cover_128 : decode cX12_cover 128 = .ok (.iload_n 3, 1) := by decide +kernel
theorem dX12_cover_129 : decode cX12_cover 129 = .ok (.iadd, 1) := by decide +kernel
theorem dX12_cover_130 : decode cX12_cover 130 = .ok (.iload 6, 2) := by decide +kernel
theorem dX12_cover_132 : decode cX12_cover 132 = .ok (.iload 4, 2) := by decide +kernel
theorem dX12_cover_134 : decode cX12_cover 134 = .ok (.imul, 1) := by decide +kernel
theorem dX12_cover_135 : decode cX12_cover 135 = .ok (.iadd, 1) := by decide +kernel
theorem dX12_cover_136 : decode cX12_cover 136 = .ok (.iload 8, 2) := by decide +kernel
theorem dX12_cover_138 : decode cX12_cover 138 = .ok (.iadd, 1) := by decide +kernel
theorem dX12_cover_139 : decode cX12_cover 139 = .ok (.iaload, 1) := by decide +kernel
theorem dX12_cover_140 : decode cX12_cover 140 = .ok (.istore 9, 2) := by decide +kernel
theorem dX12_cover_142 : decode cX12_cover 142 = .ok (.iload 9, 2) := by decide +kernel
theorem dX12_cover_144 : decode cX12_cover 144 = .ok (.i2l, 1) := by decide +kernel
theorem dX12_cover_145 : decode cX12_cover 145 = .ok (.lconst 0, 1) := by decide +kernel
theorem dX12_cover_146 : decode cX12_cover 146 = .ok (.iload 4, 2) := by decide +kernel
theorem dX12_cover_148 : decode cX12_cover 148 = .ok (.iconst 1, 1) := by decide +kernel
theorem dX12_cover_149 : decode cX12_cover 149 = .ok (.isub, 1) := by decide +kernel
theorem dX12_cover_150 : decode cX12_cover 150 = .ok (.i2l, 1) := by decide +kernel
theorem dX12_cover_151 : decode cX12_cover 151 = .ok (.invokestatic 88, 3) := by decide +kernel
theorem dX12_cover_154 : decode cX12_cover 154 = .ok (.ifCond .eq 14, 3) := by decide +kernel
theorem dX12_cover_157 : decode cX12_cover 157 = .ok (.iload 7, 2) := by decide +kernel
theorem dX12_cover_159 : decode cX12_cover 159 = .ok (.iload 9, 2) := by decide +kernel
theorem dX12_cover_161 : decode cX12_cover 161 = .ok (.ishr, 1) := by decide +kernel
theorem dX12_cover_162 : decode cX12_cover 162 = .ok (.iconst 1, 1) := by decide +kernel
theorem dX12_cover_163 : decode cX12_cover 163 = .ok (.iand, 1) := by decide +kernel
theorem dX12_cover_164 : decode cX12_cover 164 = .ok (.iconst 1, 1) := by decide +kernel
theorem dX12_cover_165 : decode cX12_cover 165 = .ok (.if_icmp .ne 6, 3) := by decide +kernel
theorem dX12_cover_168 : decode cX12_cover 168 = .ok (.ldc 98, 2) := by decide +kernel
theorem dX12_cover_170 : decode cX12_cover 170 = .ok (.ireturn, 1) := by decide +kernel
theorem dX12_cover_171 : decode cX12_cover 171 = .ok (.iload 7, 2) := by decide +kernel
theorem dX12_cover_173 : decode cX12_cover 173 = .ok (.iconst 1, 1) := by decide +kernel
theorem dX12_cover_174 : decode cX12_cover 174 = .ok (.iload 9, 2) := by decide +kernel
theorem dX12_cover_176 : decode cX12_cover 176 = .ok (.ishl, 1) := by decide +kernel
theorem dX12_cover_177 : decode cX12_cover 177 = .ok (.ior, 1) := by decide +kernel
theorem dX12_cover_178 : decode cX12_cover 178 = .ok (.istore 7, 2) := by decide +kernel
theorem dX12_cover_180 : decode cX12_cover 180 = .ok (.iinc 8 1, 3) := by decide +kernel
theorem dX12_cover_183 : decode cX12_cover 183 = .ok (.goto (-70), 3) := by decide +kernel
theorem dX12_cover_186 : decode cX12_cover 186 = .ok (.iinc 6 1, 3) := by decide +kernel
theorem dX12_cover_189 : decode cX12_cover 189 = .ok (.goto (-91), 3) := by decide +kernel
theorem dX12_cover_192 : decode cX12_cover 192 = .ok (.aload_n 0, 1) := by decide +kernel
theorem dX12_cover_193 : decode cX12_cover 193 = .ok (.getfield 19, 3) := by decide +kernel
theorem dX12_cover_196 : decode cX12_cover 196 = .ok (.bipush 10, 2) := by decide +kernel
theorem dX12_cover_198 : decode cX12_cover 198 = .ok (.iload 4, 2) := by decide +kernel
theorem dX12_cover_200 : decode cX12_cover 200 = .ok (.iastore, 1) := by decide +kernel
theorem dX12_cover_201 : decode cX12_cover 201 = .ok (.aload_n 0, 1) := by decide +kernel
theorem dX12_cover_202 : decode cX12_cover 202 = .ok (.getfield 22, 3) := by decide +kernel
theorem dX12_cover_205 : decode cX12_cover 205 = .ok (.bipush 10, 2) := by decide +kernel
theorem dX12_cover_207 : decode cX12_cover 207 = .ok (.iload 5, 2) := by decide +kernel
theorem dX12_cover_209 : decode cX12_cover 209 = .ok (.iastore, 1) := by decide +kernel
theorem dX12_cover_210 : decode cX12_cover 210 = .ok (.iconst 0, 1) := by decide +kernel
theorem dX12_cover_211 : decode cX12_cover 211 = .ok (.istore 6, 2) := by decide +kernel
theorem dX12_cover_213 : decode cX12_cover 213 = .ok (.iload 6, 2) := by decide +kernel
theorem dX12_cover_215 : decode cX12_cover 215 = .ok (.iload 4, 2) := by decide +kernel
theorem dX12_cover_217 : decode cX12_cover 217 = .ok (.if_icmp .ge 97, 3) := by decide +kernel
theorem dX12_cover_220 : decode cX12_cover 220 = .ok (.iload 6, 2) := by decide +kernel
theorem dX12_cover_222 : decode cX12_cover 222 = .ok (.istore 7, 2) := by decide +kernel
theorem dX12_cover_224 : decode cX12_cover 224 = .ok (.iconst 0, 1) := by decide +kernel
theorem dX12_cover_225 : decode cX12_cover 225 = .ok (.istore 8, 2) := by decide +kernel
theorem dX12_cover_227 : decode cX12_cover 227 = .ok (.iload 8, 2) := by decide +kernel
theorem dX12_cover_229 : decode cX12_cover 229 = .ok (.iconst 1, 1) := by decide +kernel
theorem dX12_cover_230 : decode cX12_cover 230 = .ok (.iadd, 1) := by decide +kernel
theorem dX12_cover_231 : decode cX12_cover 231 = .ok (.iload 5, 2) := by decide +kernel
theorem dX12_cover_233 : decode cX12_cover 233 = .ok (.if_icmp .ge 61, 3) := by decide +kernel
theorem dX12_cover_236 : decode cX12_cover 236 = .ok (.aload_n 0, 1) := by decide +kernel
theorem dX12_cover_237 : decode cX12_cover 237 = .ok (.bipush 10, 2) := by decide +kernel
theorem dX12_cover_239 : decode cX12_cover 239 = .ok (.iload 8, 2) := by decide +kernel
theorem dX12_cover_241 : decode cX12_cover 241 = .ok (.iload 6, 2) := by decide +kernel
theorem dX12_cover_243 : decode cX12_cover 243 = .ok (.aload_n 0, 1) := by decide +kernel
theorem dX12_cover_244 : decode cX12_cover 244 = .ok (.getfield 16, 3) := by decide +kernel
theorem dX12_cover_247 : decode cX12_cover 247 = .ok (.bipush 96, 2) := by decide +kernel
theorem dX12_cover_249 : decode cX12_cover 249 = .ok (.iload_n 2, 1) := by decide +kernel
theorem dX12_cover_250 : decode cX12_cover 250 = .ok (.imul, 1) := by decide +kernel
theorem dX12_cover_251 : decode cX12_cover 251 = .ok (.iload_n 3, 1) := by decide +kernel
theorem dX12_cover_252 : decode cX12_cover 252 = .ok (.iadd, 1) := by decide +kernel
theorem dX12_cover_253 : decode cX12_cover 253 = .ok (.iload 8, 2) := by decide +kernel
theorem dX12_cover_255 : decode cX12_cover 255 = .ok (.iload 4, 2) := by decide +kernel
theorem dX12_cover_257 : decode cX12_cover 257 = .ok (.imul, 1) := by decide +kernel
theorem dX12_cover_258 : decode cX12_cover 258 = .ok (.iadd, 1) := by decide +kernel
theorem dX12_cover_259 : decode cX12_cover 259 = .ok (.iload 6, 2) := by decide +kernel
theorem dX12_cover_261 : decode cX12_cover 261 = .ok (.iadd, 1) := by decide +kernel
theorem dX12_cover_262 : decode cX12_cover 262 = .ok (.iaload, 1) := by decide +kernel
theorem dX12_cover_263 : decode cX12_cover 263 = .ok (.invokevirtual 127, 3) := by decide +kernel
end
section
theorem dX12_cover_266 : decode cX12_cover 266 = .ok (.aload_n 0, 1) := by decide +kernel
theorem dX12_cover_267 : decode cX12_cover 267 = .ok (.getfield 16, 3) := by decide +kernel
theorem dX12_cover_270 : decode cX12_cover 270 = .ok (.bipush 96, 2) := by decide +kernel
theorem dX12_cover_272 : decode cX12_cover 272 = .ok (.iload_n 2, 1) := by decide +kernel
theorem dX12_cover_273 : decode cX12_cover 273 = .ok (.imul, 1) := by decide +kernel
theorem dX12_cover_274 : decode cX12_cover 274 = .ok (.iload_n 3, 1) := by decide +kernel
theorem dX12_cover_275 : decode cX12_cover 275 = .ok (.iadd, 1) := by decide +kernel
theorem dX12_cover_276 : decode cX12_cover 276 = .ok (.iload 8, 2) := by decide +kernel
theorem dX12_cover_278 : decode cX12_cover 278 = .ok (.iload 4, 2) := by decide +kernel
theorem dX12_cover_280 : decode cX12_cover 280 = .ok (.imul, 1) := by decide +kernel
theorem dX12_cover_281 : decode cX12_cover 281 = .ok (.iadd, 1) := by decide +kernel
theorem dX12_cover_282 : decode cX12_cover 282 = .ok (.iload 7, 2) := by decide +kernel
theorem dX12_cover_284 : decode cX12_cover 284 = .ok (.iadd, 1) := by decide +kernel
theorem dX12_cover_285 : decode cX12_cover 285 = .ok (.iaload, 1) := by decide +kernel
theorem dX12_cover_286 : decode cX12_cover 286 = .ok (.istore 7, 2) := by decide +kernel
theorem dX12_cover_288 : decode cX12_cover 288 = .ok (.iinc 8 1, 3) := by decide +kernel
theorem dX12_cover_291 : decode cX12_cover 291 = .ok (.goto (-64), 3) := by decide +kernel
theorem dX12_cover_294 : decode cX12_cover 294 = .ok (.aload_n 0, 1) := by decide +kernel
theorem dX12_cover_295 : decode cX12_cover 295 = .ok (.bipush 10, 2) := by decide +kernel
theorem dX12_cover_297 : decode cX12_cover 297 = .ok (.iload 5, 2) := by decide +kernel
theorem dX12_cover_299 : decode cX12_cover 299 = .ok (.iconst 1, 1) := by decide +kernel
theorem dX12_cover_300 : decode cX12_cover 300 = .ok (.isub, 1) := by decide +kernel
theorem dX12_cover_301 : decode cX12_cover 301 = .ok (.iload 7, 2) := by decide +kernel
theorem dX12_cover_303 : decode cX12_cover 303 = .ok (.iload 6, 2) := by decide +kernel
theorem dX12_cover_305 : decode cX12_cover 305 = .ok (.invokevirtual 127, 3) := by decide +kernel
theorem dX12_cover_308 : decode cX12_cover 308 = .ok (.iinc 6 1, 3) := by decide +kernel
theorem dX12_cover_311 : decode cX12_cover 311 = .ok (.goto (-98), 3) := by decide +kernel
theorem dX12_cover_314 : decode cX12_cover 314 = .ok (.aload_n 0, 1) := by decide +kernel
theorem dX12_cover_315 : decode cX12_cover 315 = .ok (.iload_n 1, 1) := by decide +kernel
theorem dX12_cover_316 : decode cX12_cover 316 = .ok (.invokevirtual 131, 3) := by decide +kernel
theorem dX12_cover_319 : decode cX12_cover 319 = .ok (.ireturn, 1) := by decide +kernel
theorem dX12_look_0 : decode cX12_look 0 = .ok (.aload_n 0, 1) := by decide +kernel
theorem dX12_look_1 : decode cX12_look 1 = .ok (.iconst 0, 1) := by decide +kernel
theorem dX12_look_2 : decode cX12_look 2 = .ok (.putfield 82, 3) := by decide +kernel
theorem dX12_look_5 : decode cX12_look 5 = .ok (.aload_n 0, 1) := by decide +kernel
theorem dX12_look_6 : decode cX12_look 6 = .ok (.getfield 19, 3) := by decide +kernel
theorem dX12_look_9 : decode cX12_look 9 = .ok (.iload_n 1, 1) := by decide +kernel
theorem dX12_look_10 : decode cX12_look 10 = .ok (.iaload, 1) := by decide +kernel
theorem dX12_look_11 : decode cX12_look 11 = .ok (.ifCond .ne 11, 3) := by decide +kernel
theorem dX12_look_14 : decode cX12_look 14 = .ok (.aload_n 0, 1) := by decide +kernel
theorem dX12_look_15 : decode cX12_look 15 = .ok (.iconst 1, 1) := by decide +kernel
theorem dX12_look_16 : decode cX12_look 16 = .ok (.invokevirtual 99, 3) := by decide +kernel
theorem dX12_look_19 : decode cX12_look 19 = .ok (.goto 25, 3) := by decide +kernel
theorem dX12_look_22 : decode cX12_look 22 = .ok (.iload_n 2, 1) := by decide +kernel
theorem dX12_look_23 : decode cX12_look 23 = .ok (.ifCond .eq 20, 3) := by decide +kernel
theorem dX12_look_26 : decode cX12_look 26 = .ok (.aload_n 0, 1) := by decide +kernel
theorem dX12_look_27 : decode cX12_look 27 = .ok (.iload_n 1, 1) := by decide +kernel
theorem dX12_look_28 : decode cX12_look 28 = .ok (.invokevirtual 134, 3) := by decide +kernel
theorem dX12_look_31 : decode cX12_look 31 = .ok (.iconst 1, 1) := by decide +kernel
theorem dX12_look_32 : decode cX12_look 32 = .ok (.if_icmp .le 11, 3) := by decide +kernel
theorem dX12_look_35 : decode cX12_look 35 = .ok (.aload_n 0, 1) := by decide +kernel
theorem dX12_look_36 : decode cX12_look 36 = .ok (.iconst 3, 1) := by decide +kernel
theorem dX12_look_37 : decode cX12_look 37 = .ok (.invokevirtual 99, 3) := by decide +kernel
theorem dX12_look_40 : decode cX12_look 40 = .ok (.goto 4, 3) := by decide +kernel
theorem dX12_look_43 : decode cX12_look 43 = .ok (.iconst 0, 1) := by decide +kernel
theorem dX12_look_44 : decode cX12_look 44 = .ok (.ireturn, 1) := by decide +kernel
theorem dX12_part_0 : decode cX12_part 0 = .ok (.aload_n 0, 1) := by decide +kernel
theorem dX12_part_1 : decode cX12_part 1 = .ok (.iconst 0, 1) := by decide +kernel
theorem dX12_part_2 : decode cX12_part 2 = .ok (.putfield 78, 3) := by decide +kernel
theorem dX12_part_5 : decode cX12_part 5 = .ok (.iload_n 1, 1) := by decide +kernel
theorem dX12_part_6 : decode cX12_part 6 = .ok (.invokestatic 120, 3) := by decide +kernel
theorem dX12_part_9 : decode cX12_part 9 = .ok (.ifCond .eq 10, 3) := by decide +kernel
theorem dX12_part_12 : decode cX12_part 12 = .ok (.iload_n 2, 1) := by decide +kernel
theorem dX12_part_13 : decode cX12_part 13 = .ok (.invokestatic 120, 3) := by decide +kernel
theorem dX12_part_16 : decode cX12_part 16 = .ok (.ifCond .ne 6, 3) := by decide +kernel
theorem dX12_part_19 : decode cX12_part 19 = .ok (.ldc 98, 2) := by decide +kernel
theorem dX12_part_21 : decode cX12_part 21 = .ok (.ireturn, 1) := by decide +kernel
theorem dX12_part_22 : decode cX12_part 22 = .ok (.aload_n 0, 1) := by decide +kernel
theorem dX12_part_23 : decode cX12_part 23 = .ok (.getfield 82, 3) := by decide +kernel
theorem dX12_part_26 : decode cX12_part 26 = .ok (.istore 4, 2) := by decide +kernel
theorem dX12_part_28 : decode cX12_part 28 = .ok (.aload_n 0, 1) := by decide +kernel
theorem dX12_part_29 : decode cX12_part 29 = .ok (.iload_n 2, 1) := by decide +kernel
theorem dX12_part_30 : decode cX12_part 30 = .ok (.iconst 0, 1) := by decide +kernel
theorem dX12_part_31 : decode cX12_part 31 = .ok (.invokevirtual 137, 3) := by decide +kernel
theorem dX12_part_34 : decode cX12_part 34 = .ok (.istore 5, 2) := by decide +kernel
theorem dX12_part_36 : decode cX12_part 36 = .ok (.iload 5, 2) := by decide +kernel
theorem dX12_part_38 : decode cX12_part 38 = .ok (.ifCond .ge 6, 3) := by decide +kernel
theorem dX12_part_41 : decode cX12_part 41 = .ok (.iload 5, 2) := by decide +kernel
theorem dX12_part_43 : decode cX12_part 43 = .ok (.ireturn, 1) := by decide +kernel
theorem dX12_part_44 : decode cX12_part 44 = .ok (.iload_n 3, 1) := by decide +kernel
theorem dX12_part_45 : decode cX12_part 45 = .ok (.i2l, 1) := by decide +kernel
theorem dX12_part_46 : decode cX12_part 46 = .ok (.lconst 0, 1) := by decide +kernel
theorem dX12_part_47 : decode cX12_part 47 = .ok (.aload_n 0, 1) := by decide +kernel
theorem dX12_part_48 : decode cX12_part 48 = .ok (.iload_n 2, 1) := by decide +kernel
theorem dX12_part_49 : decode cX12_part 49 = .ok (.invokevirtual 134, 3) := by decide +kernel
theorem dX12_part_52 : decode cX12_part 52 = .ok (.iconst 1, 1) := by decide +kernel
theorem dX12_part_53 : decode cX12_part 53 = .ok (.isub, 1) := by decide +kernel
theorem dX12_part_54 : decode cX12_part 54 = .ok (.i2l, 1) := by decide +kernel
theorem dX12_part_55 : decode cX12_part 55 = .ok (.invokestatic 88, 3) := by decide +kernel
theorem dX12_part_58 : decode cX12_part 58 = .ok (.ifCond .ne 12, 3) := by decide +kernel
theorem dX12_part_61 : decode cX12_part 61 = .ok (.aload_n 0, 1) := by decide +kernel
theorem dX12_part_62 : decode cX12_part 62 = .ok (.iload 4, 2) := by decide +kernel
theorem dX12_part_64 : decode cX12_part 64 = .ok (.putfield 82, 3) := by decide +kernel
theorem dX12_part_67 : decode cX12_part 67 = .ok (.ldc 98, 2) := by decide +kernel
theorem dX12_part_69 : decode cX12_part 69 = .ok (.ireturn, 1) := by decide +kernel
theorem dX12_part_70 : decode cX12_part 70 = .ok (.iconst 0, 1) := by decide +kernel
theorem dX12_part_71 : decode cX12_part 71 = .ok (.istore 6, 2) := by decide +kernel
theorem dX12_part_73 : decode cX12_part 73 = .ok (.iconst 0, 1) := by decide +kernel
theorem dX12_part_74 : decode cX12_part 74 = .ok (.istore 7, 2) := by decide +kernel
theorem dX12_part_76 : decode cX12_part 76 = .ok (.iload 7, 2) := by decide +kernel
theorem dX12_part_78 : decode cX12_part 78 = .ok (.aload_n 0, 1) := by decide +kernel
theorem dX12_part_79 : decode cX12_part 79 = .ok (.getfield 19, 3) := by decide +kernel
theorem dX12_part_82 : decode cX12_part 82 = .ok (.iload_n 2, 1) := by decide +kernel
theorem dX12_part_83 : decode cX12_part 83 = .ok (.iaload, 1) := by decide +kernel
theorem dX12_part_84 : decode cX12_part 84 = .ok (.if_icmp .ge 39, 3) := by decide +kernel
theorem dX12_part_87 : decode cX12_part 87 = .ok (.aload_n 0, 1) := by decide +kernel
theorem dX12_part_88 : decode cX12_part 88 = .ok (.getfield 38, 3) := by decide +kernel
theorem dX12_part_91 : decode cX12_part 91 = .ok (.iload 7, 2) := by decide +kernel
theorem dX12_part_93 : decode cX12_part 93 = .ok (.iload 6, 2) := by decide +kernel
theorem dX12_part_95 : decode cX12_part 95 = .ok (.iastore, 1) := by decide +kernel
theorem dX12_part_96 : decode cX12_part 96 = .ok (.iload 6, 2) := by decide +kernel
theorem dX12_part_98 : decode cX12_part 98 = .ok (.aload_n 0, 1) := by decide +kernel
theorem dX12_part_99 : decode cX12_part 99 = .ok (.getfield 35, 3) := by decide +kernel
theorem dX12_part_102 : decode cX12_part 102 = .ok (.iload 7, 2) := by decide +kernel
theorem dX12_part_104 : decode cX12_part 104 = .ok (.iaload, 1) := by decide +kernel
theorem dX12_part_105 : decode cX12_part 105 = .ok (.iload_n 3, 1) := by decide +kernel
theorem dX12_part_106 : decode cX12_part 106 = .ok (.if_icmp .ne 7, 3) := by decide +kernel
theorem dX12_part_109 : decode cX12_part 109 = .ok (.iconst 1, 1) := by decide +kernel
theorem dX12_part_110 : decode cX12_part 110 = .ok (.goto 4, 3) := by decide +kernel
theorem dX12_part_113 : decode cX12_part 113 = .ok (.iconst 0, 1) := by decide +kernel
theorem dX12_part_114 : decode cX12_part 114 = .ok (.iadd, 1) := by decide +kernel
theorem dX12_part_115 : decode cX12_part 115 = .ok (.istore 6, 2) := by decide +kernel
theorem dX12_part_117 : decode cX12_part 117 = .ok (.iinc 7 1, 3) := by decide +kernel
theorem dX12_part_120 : decode cX12_part 120 = .ok (.goto (-44), 3) := by decide +kernel
theorem dX12_part_123 : decode cX12_part 123 = .ok (.aload_n 0, 1) := by decide +kernel
theorem dX12_part_124 : decode cX12_part 124 = .ok (.getfield 19, 3) := by decide +kernel
theorem dX12_part_127 : decode cX12_part 127 = .ok (.bipush 10, 2) := by decide +kernel
theorem dX12_part_129 : decode cX12_part 129 = .ok (.iload 6, 2) := by decide +kernel
theorem dX12_part_131 : decode cX12_part 131 = .ok (.iastore, 1) := by decide +kernel
theorem dX12_part_132 : decode cX12_part 132 = .ok (.aload_n 0, 1) := by decide +kernel
theorem dX12_part_133 : decode cX12_part 133 = .ok (.getfield 22, 3) := by decide +kernel
theorem dX12_part_136 : decode cX12_part 136 = .ok (.bipush 10, 2) := by decide +kernel
theorem dX12_part_138 : decode cX12_part 138 = .ok (.aload_n 0, 1) := by decide +kernel
theorem dX12_part_139 : decode cX12_part 139 = .ok (.getfield 22, 3) := by decide +kernel
theorem dX12_part_142 : decode cX12_part 142 = .ok (.iload_n 2, 1) := by decide +kernel
theorem dX12_part_143 : decode cX12_part 143 = .ok (.iaload, 1) := by decide +kernel
theorem dX12_part_144 : decode cX12_part 144 = .ok (.iastore, 1) := by decide +kernel
theorem dX12_part_145 : decode cX12_part 145 = .ok (.iconst 0, 1) := by decide +kernel
theorem dX12_part_146 : decode cX12_part 146 = .ok (.istore 7, 2) := by decide +kernel
theorem dX12_part_148 : decode cX12_part 148 = .ok (.iload 7, 2) := by decide +kernel
theorem dX12_part_150 : decode cX12_part 150 = .ok (.aload_n 0, 1) := by decide +kernel
theorem dX12_part_151 : decode cX12_part 151 = .ok (.getfield 22, 3) := by decide +kernel
theorem dX12_part_154 : decode cX12_part 154 = .ok (.iload_n 2, 1) := by decide +kernel
theorem dX12_part_155 : decode cX12_part 155 = .ok (.iaload, 1) := by decide +kernel
theorem dX12_part_156 : decode cX12_part 156 = .ok (.if_icmp .ge 69, 3) := by decide +kernel
theorem dX12_part_159 : decode cX12_part 159 = .ok (.iconst 0, 1) := by decide +kernel
theorem dX12_part_160 : decode cX12_part 160 = .ok (.istore 8, 2) := by decide +kernel
theorem dX12_part_162 : decode cX12_part 162 = .ok (.iload 8, 2) := by decide +kernel
theorem dX12_part_164 : decode cX12_part 164 = .ok (.aload_n 0, 1) := by decide +kernel
theorem dX12_part_165 : decode cX12_part 165 = .ok (.getfield 19, 3) := by decide +kernel
theorem dX12_part_168 : decode cX12_part 168 = .ok (.iload_n 2, 1) := by decide +kernel
theorem dX12_part_169 : decode cX12_part 169 = .ok (.iaload, 1) := by decide +kernel
theorem dX12_part_170 : decode cX12_part 170 = .ok (.if_icmp .ge 49, 3) := by decide +kernel
theorem dX12_part_173 : decode cX12_part 173 = .ok (.aload_n 0, 1) := by decide +kernel
theorem dX12_part_174 : decode cX12_part 174 = .ok (.getfield 35, 3) := by decide +kernel
theorem dX12_part_177 : decode cX12_part 177 = .ok (.iload 8, 2) := by decide +kernel
theorem dX12_part_179 : decode cX12_part 179 = .ok (.iaload, 1) := by decide +kernel
theorem dX12_part_180 : decode cX12_part 180 = .ok (.iload_n 3, 1) := by decide +kernel
theorem dX12_part_181 : decode cX12_part 181 = .ok (.if_icmp .ne 32, 3) := by decide +kernel
theorem dX12_part_184 : decode cX12_part 184 = .ok (.aload_n 0, 1) := by decide +kernel
theorem dX12_part_185 : decode cX12_part 185 = .ok (.bipush 10, 2) := by decide +kernel
theorem dX12_part_187 : decode cX12_part 187 = .ok (.iload 7, 2) := by decide +kernel
theorem dX12_part_189 : decode cX12_part 189 = .ok (.aload_n 0, 1) := by decide +kernel
theorem dX12_part_190 : decode cX12_part 190 = .ok (.getfield 38, 3) := by decide +kernel
theorem dX12_part_193 : decode cX12_part 193 = .ok (.iload 8, 2) := by decide +kernel
theorem dX12_part_195 : decode cX12_part 195 = .ok (.iaload, 1) := by decide +kernel
theorem dX12_part_196 : decode cX12_part 196 = .ok (.aload_n 0, 1) := by decide +kernel
theorem dX12_part_197 : decode cX12_part 197 = .ok (.getfield 38, 3) := by decide +kernel
theorem dX12_part_200 : decode cX12_part 200 = .ok (.aload_n 0, 1) := by decide +kernel
theorem dX12_part_201 : decode cX12_part 201 = .ok (.iload_n 2, 1) := by decide +kernel
theorem dX12_part_202 : decode cX12_part 202 = .ok (.iload 7, 2) := by decide +kernel
theorem dX12_part_204 : decode cX12_part 204 = .ok (.iload 8, 2) := by decide +kernel
theorem dX12_part_206 : decode cX12_part 206 = .ok (.invokevirtual 105, 3) := by decide +kernel
theorem dX12_part_209 : decode cX12_part 209 = .ok (.iaload, 1) := by decide +kernel
theorem dX12_part_210 : decode cX12_part 210 = .ok (.invokevirtual 127, 3) := by decide +kernel
theorem dX12_part_213 : decode cX12_part 213 = .ok (.iinc 8 1, 3) := by decide +kernel
theorem dX12_part_216 : decode cX12_part 216 = .ok (.goto (-54), 3) := by decide +kernel
theorem dX12_part_219 : decode cX12_part 219 = .ok (.iinc 7 1, 3) := by decide +kernel
theorem dX12_part_222 : decode cX12_part 222 = .ok (.goto (-74), 3) := by decide +kernel
theorem dX12_part_225 : decode cX12_part 225 = .ok (.aload_n 0, 1) := by decide +kernel
theorem dX12_part_226 : decode cX12_part 226 = .ok (.iload_n 1, 1) := by decide +kernel
theorem dX12_part_227 : decode cX12_part 227 = .ok (.invokevirtual 131, 3) := by decide +kernel
theorem dX12_part_230 : decode cX12_part 230 = .ok (.ireturn, 1) := by decide +kernel
theorem dX12_rename_0 : decode cX12_rename 0 = .ok (.aload_n 0, 1) := by decide +kernel
theorem dX12_rename_1 : decode cX12_rename 1 = .ok (.getfield 19, 3) := by decide +kernel
theorem dX12_rename_4 : decode cX12_rename 4 = .ok (.iload_n 2, 1) := by decide +kernel
theorem dX12_rename_5 : decode cX12_rename 5 = .ok (.iaload, 1) := by decide +kernel
theorem dX12_rename_6 : decode cX12_rename 6 = .ok (.istore 4, 2) := by decide +kernel
theorem dX12_rename_8 : decode cX12_rename 8 = .ok (.iconst 0, 1) := by decide +kernel
theorem dX12_rename_9 : decode cX12_rename 9 = .ok (.istore 5, 2) := by decide +kernel
theorem dX12_rename_11 : decode cX12_rename 11 = .ok (.iload 5, 2) := by decide +kernel
theorem dX12_rename_13 : decode cX12_rename 13 = .ok (.iload 4, 2) := by decide +kernel
theorem dX12_rename_15 : decode cX12_rename 15 = .ok (.if_icmp .ge 17, 3) := by decide +kernel
theorem dX12_rename_18 : decode cX12_rename 18 = .ok (.aload_n 0, 1) := by decide +kernel
theorem dX12_rename_19 : decode cX12_rename 19 = .ok (.getfield 38, 3) := by decide +kernel
theorem dX12_rename_22 : decode cX12_rename 22 = .ok (.iload 5, 2) := by decide +kernel
theorem dX12_rename_24 : decode cX12_rename 24 = .ok (.iconst (-1), 1) := by decide +kernel
theorem dX12_rename_25 : decode cX12_rename 25 = .ok (.iastore, 1) := by decide +kernel
theorem dX12_rename_26 : decode cX12_rename 26 = .ok (.iinc 5 1, 3) := by decide +kernel
theorem dX12_rename_29 : decode cX12_rename 29 = .ok (.goto (-18), 3) := by decide +kernel
theorem dX12_rename_32 : decode cX12_rename 32 = .ok (.aload_n 0, 1) := by decide +kernel
theorem dX12_rename_33 : decode cX12_rename 33 = .ok (.getfield 38, 3) := by decide +kernel
theorem dX12_rename_36 : decode cX12_rename 36 = .ok (.iload_n 3, 1) := by decide +kernel
theorem dX12_rename_37 : decode cX12_rename 37 = .ok (.iconst 0, 1) := by decide +kernel
theorem dX12_rename_38 : decode cX12_rename 38 = .ok (.iastore, 1) := by decide +kernel
theorem dX12_rename_39 : decode cX12_rename 39 = .ok (.aload_n 0, 1) := by decide +kernel
theorem dX12_rename_40 : decode cX12_rename 40 = .ok (.getfield 41, 3) := by decide +kernel
theorem dX12_rename_43 : decode cX12_rename 43 = .ok (.iconst 0, 1) := by decide +kernel
theorem dX12_rename_44 : decode cX12_rename 44 = .ok (.iload_n 3, 1) := by decide +kernel
theorem dX12_rename_45 : decode cX12_rename 45 = .ok (.iastore, 1) := by decide +kernel
theorem dX12_rename_46 : decode cX12_rename 46 = .ok (.iconst 1, 1) := by decide +kernel
theorem dX12_rename_47 : decode cX12_rename 47 = .ok (.istore 5, 2) := by decide +kernel
theorem dX12_rename_49 : decode cX12_rename 49 = .ok (.iconst 0, 1) := by decide +kernel
theorem dX12_rename_50 : decode cX12_rename 50 = .ok (.istore 6, 2) := by decide +kernel
theorem dX12_rename_52 : decode cX12_rename 52 = .ok (.iload 6, 2) := by decide +kernel
theorem dX12_rename_54 : decode cX12_rename 54 = .ok (.iload 5, 2) := by decide +kernel
theorem dX12_rename_56 : decode cX12_rename 56 = .ok (.if_icmp .ge 76, 3) := by decide +kernel
theorem dX12_rename_59 : decode cX12_rename 59 = .ok (.iconst 0, 1) := by decide +kernel
theorem dX12_rename_60 : decode cX12_rename 60 = .ok (.istore 7, 2) := by decide +kernel
theorem dX12_rename_62 : decode cX12_rename 62 = .ok (.iload 7, 2) := by decide +kernel
theorem dX12_rename_64 : decode cX12_rename 64 = .ok (.aload_n 0, 1) := by decide +kernel
theorem dX12_rename_65 : decode cX12_rename 65 = .ok (.getfield 22, 3) := by decide +kernel
theorem dX12_rename_68 : decode cX12_rename 68 = .ok (.iload_n 2, 1) := by decide +kernel
theorem dX12_rename_69 : decode cX12_rename 69 = .ok (.iaload, 1) := by decide +kernel
theorem dX12_rename_70 : decode cX12_rename 70 = .ok (.if_icmp .ge 56, 3) := by decide +kernel
theorem dX12_rename_73 : decode cX12_rename 73 = .ok (.aload_n 0, 1) := by decide +kernel
theorem dX12_rename_74 : decode cX12_rename 74 = .ok (.iload_n 2, 1) := by decide +kernel
theorem dX12_rename_75 : decode cX12_rename 75 = .ok (.iload 7, 2) := by decide +kernel
theorem dX12_rename_77 : decode cX12_rename 77 = .ok (.aload_n 0, 1) := by decide +kernel
theorem dX12_rename_78 : decode cX12_rename 78 = .ok (.getfield 41, 3) := by decide +kernel
theorem dX12_rename_81 : decode cX12_rename 81 = .ok (.iload 6, 2) := by decide +kernel
theorem dX12_rename_83 : decode cX12_rename 83 = .ok (.iaload, 1) := by decide +kernel
theorem dX12_rename_84 : decode cX12_rename 84 = .ok (.invokevirtual 105, 3) := by decide +kernel
theorem dX12_rename_87 : decode cX12_rename 87 = .ok (.istore 8, 2) := by decide +kernel
theorem dX12_rename_89 : decode cX12_rename 89 = .ok (.aload_n 0, 1) := by decide +kernel
theorem dX12_rename_90 : decode cX12_rename 90 = .ok (.getfield 38, 3) := by decide +kernel
theorem dX12_rename_93 : decode cX12_rename 93 = .ok (.iload 8, 2) := by decide +kernel
theorem dX12_rename_95 : decode cX12_rename 95 = .ok (.iaload, 1) := by decide +kernel
theorem dX12_rename_96 : decode cX12_rename 96 = .ok (.ifCond .ge 24, 3) := by decide +kernel
theorem dX12_rename_99 : decode cX12_rename 99 = .ok (.aload_n 0, 1) := by decide +kernel
theorem dX12_rename_100 : decode cX12_rename 100 = .ok (.getfield 38, 3) := by decide +kernel
theorem dX12_rename_103 : decode cX12_rename 103 = .ok (.iload 8, 2) := by decide +kernel
theorem dX12_rename_105 : decode cX12_rename 105 = .ok (.iload 5, 2) := by decide +kernel
theorem dX12_rename_107 : decode cX12_rename 107 = .ok (.iastore, 1) := by decide +kernel
theorem dX12_rename_108 : decode cX12_rename 108 = .ok (.aload_n 0, 1) := by decide +kernel
theorem dX12_rename_109 : decode cX12_rename 109 = .ok (.getfield 41, 3) := by decide +kernel
theorem dX12_rename_112 : decode cX12_rename 112 = .ok (.iload 5, 2) := by decide +kernel
theorem dX12_rename_114 : decode cX12_rename 114 = .ok (.iload 8, 2) := by decide +kernel
theorem dX12_rename_116 : decode cX12_rename 116 = .ok (.iastore, 1) := by decide +kernel
theorem dX12_rename_117 : decode cX12_rename 117 = .ok (.iinc 5 1, 3) := by decide +kernel
theorem dX12_rename_120 : decode cX12_rename 120 = .ok (.iinc 7 1, 3) := by decide +kernel
theorem dX12_rename_123 : decode cX12_rename 123 = .ok (.goto (-61), 3) := by decide +kernel
theorem dX12_rename_126 : decode cX12_rename 126 = .ok (.iinc 6 1, 3) := by decide +kernel
theorem dX12_rename_129 : decode cX12_rename 129 = .ok (.goto (-77), 3) := by decide +kernel
theorem dX12_rename_132 : decode cX12_rename 132 = .ok (.aload_n 0, 1) := by decide +kernel
theorem dX12_rename_133 : decode cX12_rename 133 = .ok (.getfield 19, 3) := by decide +kernel
theorem dX12_rename_136 : decode cX12_rename 136 = .ok (.iload_n 1, 1) := by decide +kernel
theorem dX12_rename_137 : decode cX12_rename 137 = .ok (.iload 4, 2) := by decide +kernel
theorem dX12_rename_139 : decode cX12_rename 139 = .ok (.iastore, 1) := by decide +kernel
theorem dX12_rename_140 : decode cX12_rename 140 = .ok (.aload_n 0, 1) := by decide +kernel
theorem dX12_rename_141 : decode cX12_rename 141 = .ok (.getfield 22, 3) := by decide +kernel
theorem dX12_rename_144 : decode cX12_rename 144 = .ok (.iload_n 1, 1) := by decide +kernel
theorem dX12_rename_145 : decode cX12_rename 145 = .ok (.aload_n 0, 1) := by decide +kernel
theorem dX12_rename_146 : decode cX12_rename 146 = .ok (.getfield 22, 3) := by decide +kernel
theorem dX12_rename_149 : decode cX12_rename 149 = .ok (.iload_n 2, 1) := by decide +kernel
theorem dX12_rename_150 : decode cX12_rename 150 = .ok (.iaload, 1) := by decide +kernel
theorem dX12_rename_151 : decode cX12_rename 151 = .ok (.iastore, 1) := by decide +kernel
theorem dX12_rename_152 : decode cX12_rename 152 = .ok (.iconst 0, 1) := by decide +kernel
theorem dX12_rename_153 : decode cX12_rename 153 = .ok (.istore 6, 2) := by decide +kernel
theorem dX12_rename_155 : decode cX12_rename 155 = .ok (.iload 6, 2) := by decide +kernel
theorem dX12_rename_157 : decode cX12_rename 157 = .ok (.aload_n 0, 1) := by decide +kernel
theorem dX12_rename_158 : decode cX12_rename 158 = .ok (.getfield 22, 3) := by decide +kernel
theorem dX12_rename_161 : decode cX12_rename 161 = .ok (.iload_n 2, 1) := by decide +kernel
theorem dX12_rename_162 : decode cX12_rename 162 = .ok (.iaload, 1) := by decide +kernel
theorem dX12_rename_163 : decode cX12_rename 163 = .ok (.if_icmp .ge 53, 3) := by decide +kernel
theorem dX12_rename_166 : decode cX12_rename 166 = .ok (.iconst 0, 1) := by decide +kernel
theorem dX12_rename_167 : decode cX12_rename 167 = .ok (.istore 7, 2) := by decide +kernel
theorem dX12_rename_169 : decode cX12_rename 169 = .ok (.iload 7, 2) := by decide +kernel
theorem dX12_rename_171 : decode cX12_rename 171 = .ok (.iload 4, 2) := by decide +kernel
theorem dX12_rename_173 : decode cX12_rename 173 = .ok (.if_icmp .ge 37, 3) := by decide +kernel
theorem dX12_rename_176 : decode cX12_rename 176 = .ok (.aload_n 0, 1) := by decide +kernel
theorem dX12_rename_177 : decode cX12_rename 177 = .ok (.iload_n 1, 1) := by decide +kernel
theorem dX12_rename_178 : decode cX12_rename 178 = .ok (.iload 6, 2) := by decide +kernel
theorem dX12_rename_180 : decode cX12_rename 180 = .ok (.aload_n 0, 1) := by decide +kernel
theorem dX12_rename_181 : decode cX12_rename 181 = .ok (.getfield 38, 3) := by decide +kernel
theorem dX12_rename_184 : decode cX12_rename 184 = .ok (.iload 7, 2) := by decide +kernel
theorem dX12_rename_186 : decode cX12_rename 186 = .ok (.iaload, 1) := by decide +kernel
theorem dX12_rename_187 : decode cX12_rename 187 = .ok (.aload_n 0, 1) := by decide +kernel
theorem dX12_rename_188 : decode cX12_rename 188 = .ok (.getfield 38, 3) := by decide +kernel
theorem dX12_rename_191 : decode cX12_rename 191 = .ok (.aload_n 0, 1) := by decide +kernel
theorem dX12_rename_192 : decode cX12_rename 192 = .ok (.iload_n 2, 1) := by decide +kernel
theorem dX12_rename_193 : decode cX12_rename 193 = .ok (.iload 6, 2) := by decide +kernel
theorem dX12_rename_195 : decode cX12_rename 195 = .ok (.iload 7, 2) := by decide +kernel
theorem dX12_rename_197 : decode cX12_rename 197 = .ok (.invokevirtual 105, 3) := by decide +kernel
theorem dX12_rename_200 : decode cX12_rename 200 = .ok (.iaload, 1) := by decide +kernel
theorem dX12_rename_201 : decode cX12_rename 201 = .ok (.invokevirtual 127, 3) := by decide +kernel
theorem dX12_rename_204 : decode cX12_rename 204 = .ok (.iinc 7 1, 3) := by decide +kernel
theorem dX12_rename_207 : decode cX12_rename 207 = .ok (.goto (-38), 3) := by decide +kernel
theorem dX12_rename_210 : decode cX12_rename 210 = .ok (.iinc 6 1, 3) := by decide +kernel
theorem dX12_rename_213 : decode cX12_rename 213 = .ok (.goto (-58), 3) := by decide +kernel
theorem dX12_rename_216 : decode cX12_rename 216 = .ok (.return_, 1) := by decide +kernel
theorem dX12_compare_0 : decode cX12_compare 0 = .ok (.iconst 0, 1) := by decide +kernel
theorem dX12_compare_1 : decode cX12_compare 1 = .ok (.istore_n 3, 1) := by decide +kernel
theorem dX12_compare_2 : decode cX12_compare 2 = .ok (.iload_n 3, 1) := by decide +kernel
theorem dX12_compare_3 : decode cX12_compare 3 = .ok (.aload_n 0, 1) := by decide +kernel
theorem dX12_compare_4 : decode cX12_compare 4 = .ok (.getfield 22, 3) := by decide +kernel
theorem dX12_compare_7 : decode cX12_compare 7 = .ok (.iload_n 1, 1) := by decide +kernel
theorem dX12_compare_8 : decode cX12_compare 8 = .ok (.iaload, 1) := by decide +kernel
theorem dX12_compare_9 : decode cX12_compare 9 = .ok (.if_icmp .ge 66, 3) := by decide +kernel
theorem dX12_compare_12 : decode cX12_compare 12 = .ok (.iconst 0, 1) := by decide +kernel
theorem dX12_compare_13 : decode cX12_compare 13 = .ok (.istore 4, 2) := by decide +kernel
theorem dX12_compare_15 : decode cX12_compare 15 = .ok (.iload 4, 2) := by decide +kernel
theorem dX12_compare_17 : decode cX12_compare 17 = .ok (.aload_n 0, 1) := by decide +kernel
theorem dX12_compare_18 : decode cX12_compare 18 = .ok (.getfield 19, 3) := by decide +kernel
theorem dX12_compare_21 : decode cX12_compare 21 = .ok (.iload_n 1, 1) := by decide +kernel
theorem dX12_compare_22 : decode cX12_compare 22 = .ok (.iaload, 1) := by decide +kernel
theorem dX12_compare_23 : decode cX12_compare 23 = .ok (.if_icmp .ge 46, 3) := by decide +kernel
theorem dX12_compare_26 : decode cX12_compare 26 = .ok (.aload_n 0, 1) := by decide +kernel
theorem dX12_compare_27 : decode cX12_compare 27 = .ok (.iload_n 1, 1) := by decide +kernel
theorem dX12_compare_28 : decode cX12_compare 28 = .ok (.iload_n 3, 1) := by decide +kernel
theorem dX12_compare_29 : decode cX12_compare 29 = .ok (.iload 4, 2) := by decide +kernel
theorem dX12_compare_31 : decode cX12_compare 31 = .ok (.invokevirtual 105, 3) := by decide +kernel
theorem dX12_compare_34 : decode cX12_compare 34 = .ok (.aload_n 0, 1) := by decide +kernel
theorem dX12_compare_35 : decode cX12_compare 35 = .ok (.iload_n 2, 1) := by decide +kernel
theorem dX12_compare_36 : decode cX12_compare 36 = .ok (.iload_n 3, 1) := by decide +kernel
theorem dX12_compare_37 : decode cX12_compare 37 = .ok (.iload 4, 2) := by decide +kernel
theorem dX12_compare_39 : decode cX12_compare 39 = .ok (.invokevirtual 105, 3) := by decide +kernel
theorem dX12_compare_42 : decode cX12_compare 42 = .ok (.if_icmp .eq 21, 3) := by decide +kernel
theorem dX12_compare_45 : decode cX12_compare 45 = .ok (.aload_n 0, 1) := by decide +kernel
theorem dX12_compare_46 : decode cX12_compare 46 = .ok (.iload_n 1, 1) := by decide +kernel
theorem dX12_compare_47 : decode cX12_compare 47 = .ok (.iload_n 3, 1) := by decide +kernel
theorem dX12_compare_48 : decode cX12_compare 48 = .ok (.iload 4, 2) := by decide +kernel
theorem dX12_compare_50 : decode cX12_compare 50 = .ok (.invokevirtual 105, 3) := by decide +kernel
theorem dX12_compare_53 : decode cX12_compare 53 = .ok (.aload_n 0, 1) := by decide +kernel
theorem dX12_compare_54 : decode cX12_compare 54 = .ok (.iload_n 2, 1) := by decide +kernel
theorem dX12_compare_55 : decode cX12_compare 55 = .ok (.iload_n 3, 1) := by decide +kernel
theorem dX12_compare_56 : decode cX12_compare 56 = .ok (.iload 4, 2) := by decide +kernel
theorem dX12_compare_58 : decode cX12_compare 58 = .ok (.invokevirtual 105, 3) := by decide +kernel
theorem dX12_compare_61 : decode cX12_compare 61 = .ok (.isub, 1) := by decide +kernel
theorem dX12_compare_62 : decode cX12_compare 62 = .ok (.ireturn, 1) := by decide +kernel
theorem dX12_compare_63 : decode cX12_compare 63 = .ok (.iinc 4 1, 3) := by decide +kernel
theorem dX12_compare_66 : decode cX12_compare 66 = .ok (.goto (-51), 3) := by decide +kernel
theorem dX12_compare_69 : decode cX12_compare 69 = .ok (.iinc 3 1, 3) := by decide +kernel
theorem dX12_compare_72 : decode cX12_compare 72 = .ok (.goto (-70), 3) := by decide +kernel
theorem dX12_compare_75 : decode cX12_compare 75 = .ok (.iconst 0, 1) := by decide +kernel
theorem dX12_compare_76 : decode cX12_compare 76 = .ok (.ireturn, 1) := by decide +kernel
theorem dX12_least_0 : decode cX12_least 0 = .ok (.iconst 0, 1) := by decide +kernel
theorem dX12_least_1 : decode cX12_least 1 = .ok (.istore_n 3, 1) := by decide +kernel
theorem dX12_least_2 : decode cX12_least 2 = .ok (.iconst 0, 1) := by decide +kernel
theorem dX12_least_3 : decode cX12_least 3 = .ok (.istore 4, 2) := by decide +kernel
theorem dX12_least_5 : decode cX12_least 5 = .ok (.iload 4, 2) := by decide +kernel
theorem dX12_least_7 : decode cX12_least 7 = .ok (.aload_n 0, 1) := by decide +kernel
theorem dX12_least_8 : decode cX12_least 8 = .ok (.getfield 19, 3) := by decide +kernel
theorem dX12_least_11 : decode cX12_least 11 = .ok (.iload_n 2, 1) := by decide +kernel
theorem dX12_least_12 : decode cX12_least 12 = .ok (.iaload, 1) := by decide +kernel
theorem dX12_least_13 : decode cX12_least 13 = .ok (.if_icmp .ge 61, 3) := by decide +kernel
theorem dX12_least_16 : decode cX12_least 16 = .ok (.aload_n 0, 1) := by decide +kernel
theorem dX12_least_17 : decode cX12_least 17 = .ok (.bipush 11, 2) := by decide +kernel
theorem dX12_least_19 : decode cX12_least 19 = .ok (.iload_n 2, 1) := by decide +kernel
theorem dX12_least_20 : decode cX12_least 20 = .ok (.iload 4, 2) := by decide +kernel
theorem dX12_least_22 : decode cX12_least 22 = .ok (.invokevirtual 141, 3) := by decide +kernel
theorem dX12_least_25 : decode cX12_least 25 = .ok (.iload 4, 2) := by decide +kernel
theorem dX12_least_27 : decode cX12_least 27 = .ok (.ifCond .ne 7, 3) := by decide +kernel
theorem dX12_least_30 : decode cX12_least 30 = .ok (.iconst (-1), 1) := by decide +kernel
theorem dX12_least_31 : decode cX12_least 31 = .ok (.goto 10, 3) := by decide +kernel
theorem dX12_least_34 : decode cX12_least 34 = .ok (.aload_n 0, 1) := by decide +kernel
theorem dX12_least_35 : decode cX12_least 35 = .ok (.bipush 11, 2) := by decide +kernel
theorem dX12_least_37 : decode cX12_least 37 = .ok (.iload_n 1, 1) := by decide +kernel
theorem dX12_least_38 : decode cX12_least 38 = .ok (.invokevirtual 145, 3) := by decide +kernel
theorem dX12_least_41 : decode cX12_least 41 = .ok (.istore 5, 2) := by decide +kernel
theorem dX12_least_43 : decode cX12_least 43 = .ok (.iload 5, 2) := by decide +kernel
theorem dX12_least_45 : decode cX12_least 45 = .ok (.ifCond .ge 15, 3) := by decide +kernel
theorem dX12_least_48 : decode cX12_least 48 = .ok (.aload_n 0, 1) := by decide +kernel
theorem dX12_least_49 : decode cX12_least 49 = .ok (.iload_n 1, 1) := by decide +kernel
theorem dX12_least_50 : decode cX12_least 50 = .ok (.bipush 11, 2) := by decide +kernel
theorem dX12_least_52 : decode cX12_least 52 = .ok (.invokevirtual 113, 3) := by decide +kernel
theorem dX12_least_55 : decode cX12_least 55 = .ok (.iconst 1, 1) := by decide +kernel
theorem dX12_least_56 : decode cX12_least 56 = .ok (.istore_n 3, 1) := by decide +kernel
theorem dX12_least_57 : decode cX12_least 57 = .ok (.goto 11, 3) := by decide +kernel
theorem dX12_least_60 : decode cX12_least 60 = .ok (.iload 5, 2) := by decide +kernel
theorem dX12_least_62 : decode cX12_least 62 = .ok (.ifCond .ne 6, 3) := by decide +kernel
theorem dX12_least_65 : decode cX12_least 65 = .ok (.iinc 3 1, 3) := by decide +kernel
theorem dX12_least_68 : decode cX12_least 68 = .ok (.iinc 4 1, 3) := by decide +kernel
theorem dX12_least_71 : decode cX12_least 71 = .ok (.goto (-66), 3) := by decide +kernel
theorem dX12_least_74 : decode cX12_least 74 = .ok (.iload_n 3, 1) := by decide +kernel
theorem dX12_least_75 : decode cX12_least 75 = .ok (.ireturn, 1) := by decide +kernel
theorem dX12_name_0 : decode cX12_name 0 = .ok (.aload_n 0, 1) := by decide +kernel
theorem dX12_name_1 : decode cX12_name 1 = .ok (.iconst 0, 1) := by decide +kernel
theorem dX12_name_2 : decode cX12_name 2 = .ok (.putfield 78, 3) := by decide +kernel
theorem dX12_name_5 : decode cX12_name 5 = .ok (.iload_n 1, 1) := by decide +kernel
theorem dX12_name_6 : decode cX12_name 6 = .ok (.invokestatic 120, 3) := by decide +kernel
theorem dX12_name_9 : decode cX12_name 9 = .ok (.ifCond .eq 10, 3) := by decide +kernel
theorem dX12_name_12 : decode cX12_name 12 = .ok (.iload_n 2, 1) := by decide +kernel
theorem dX12_name_13 : decode cX12_name 13 = .ok (.invokestatic 120, 3) := by decide +kernel
theorem dX12_name_16 : decode cX12_name 16 = .ok (.ifCond .ne 6, 3) := by decide +kernel
theorem dX12_name_19 : decode cX12_name 19 = .ok (.ldc 98, 2) := by decide +kernel
theorem dX12_name_21 : decode cX12_name 21 = .ok (.ireturn, 1) := by decide +kernel
theorem dX12_name_22 : decode cX12_name 22 = .ok (.aload_n 0, 1) := by decide +kernel
theorem dX12_name_23 : decode cX12_name 23 = .ok (.iload_n 2, 1) := by decide +kernel
theorem dX12_name_24 : decode cX12_name 24 = .ok (.iconst 1, 1) := by decide +kernel
theorem dX12_name_25 : decode cX12_name 25 = .ok (.invokevirtual 137, 3) := by decide +kernel
theorem dX12_name_28 : decode cX12_name 28 = .ok (.istore_n 3, 1) := by decide +kernel
theorem dX12_name_29 : decode cX12_name 29 = .ok (.iload_n 3, 1) := by decide +kernel
theorem dX12_name_30 : decode cX12_name 30 = .ok (.ifCond .ge 5, 3) := by decide +kernel
theorem dX12_name_33 : decode cX12_name 33 = .ok (.iload_n 3, 1) := by decide +kernel
theorem dX12_name_34 : decode cX12_name 34 = .ok (.ireturn, 1) := by decide +kernel
theorem dX12_name_35 : decode cX12_name 35 = .ok (.aload_n 0, 1) := by decide +kernel
theorem dX12_name_36 : decode cX12_name 36 = .ok (.bipush 10, 2) := by decide +kernel
theorem dX12_name_38 : decode cX12_name 38 = .ok (.iload_n 2, 1) := by decide +kernel
theorem dX12_name_39 : decode cX12_name 39 = .ok (.invokevirtual 148, 3) := by decide +kernel
theorem dX12_name_42 : decode cX12_name 42 = .ok (.istore 4, 2) := by decide +kernel
theorem dX12_name_44 : decode cX12_name 44 = .ok (.aload_n 0, 1) := by decide +kernel
theorem dX12_name_45 : decode cX12_name 45 = .ok (.iload_n 1, 1) := by decide +kernel
theorem dX12_name_46 : decode cX12_name 46 = .ok (.invokevirtual 131, 3) := by decide +kernel
theorem dX12_name_49 : decode cX12_name 49 = .ok (.ireturn, 1) := by decide +kernel
theorem dX12_blocks_0 : decode cX12_blocks 0 = .ok (.aload_n 0, 1) := by decide +kernel
theorem dX12_blocks_1 : decode cX12_blocks 1 = .ok (.getfield 19, 3) := by decide +kernel
theorem dX12_blocks_4 : decode cX12_blocks 4 = .ok (.iload_n 1, 1) := by decide +kernel
theorem dX12_blocks_5 : decode cX12_blocks 5 = .ok (.iaload, 1) := by decide +kernel
theorem dX12_blocks_6 : decode cX12_blocks 6 = .ok (.istore 4, 2) := by decide +kernel
theorem dX12_blocks_8 : decode cX12_blocks 8 = .ok (.iconst 0, 1) := by decide +kernel
theorem dX12_blocks_9 : decode cX12_blocks 9 = .ok (.istore 5, 2) := by decide +kernel
theorem dX12_blocks_11 : decode cX12_blocks 11 = .ok (.iload 5, 2) := by decide +kernel
theorem dX12_blocks_13 : decode cX12_blocks 13 = .ok (.iload 4, 2) := by decide +kernel
theorem dX12_blocks_15 : decode cX12_blocks 15 = .ok (.if_icmp .ge 18, 3) := by decide +kernel
theorem dX12_blocks_18 : decode cX12_blocks 18 = .ok (.aload_n 0, 1) := by decide +kernel
theorem dX12_blocks_19 : decode cX12_blocks 19 = .ok (.getfield 44, 3) := by decide +kernel
theorem dX12_blocks_22 : decode cX12_blocks 22 = .ok (.iload 5, 2) := by decide +kernel
theorem dX12_blocks_24 : decode cX12_blocks 24 = .ok (.iload 5, 2) := by decide +kernel
theorem dX12_blocks_26 : decode cX12_blocks 26 = .ok (.iastore, 1) := by decide +kernel
theorem dX12_blocks_27 : decode cX12_blocks 27 = .ok (.iinc 5 1, 3) := by decide +kernel
theorem dX12_blocks_30 : decode cX12_blocks 30 = .ok (.goto (-19), 3) := by decide +kernel
theorem dX12_blocks_33 : decode cX12_blocks 33 = .ok (.aload_n 0, 1) := by decide +kernel
theorem dX12_blocks_34 : decode cX12_blocks 34 = .ok (.iload 4, 2) := by decide +kernel
theorem dX12_blocks_36 : decode cX12_blocks 36 = .ok (.iload_n 2, 1) := by decide +kernel
theorem dX12_blocks_37 : decode cX12_blocks 37 = .ok (.iload_n 3, 1) := by decide +kernel
theorem dX12_blocks_38 : decode cX12_blocks 38 = .ok (.invokevirtual 151, 3) := by decide +kernel
theorem dX12_blocks_41 : decode cX12_blocks 41 = .ok (.iconst 1, 1) := by decide +kernel
theorem dX12_blocks_42 : decode cX12_blocks 42 = .ok (.istore 5, 2) := by decide +kernel
theorem dX12_blocks_44 : decode cX12_blocks 44 = .ok (.iload 5, 2) := by decide +kernel
theorem dX12_blocks_46 : decode cX12_blocks 46 = .ok (.ifCond .eq 136, 3) := by decide +kernel
theorem dX12_blocks_49 : decode cX12_blocks 49 = .ok (.iconst 0, 1) := by decide +kernel
theorem dX12_blocks_50 : decode cX12_blocks 50 = .ok (.istore 5, 2) := by decide +kernel
theorem dX12_blocks_52 : decode cX12_blocks 52 = .ok (.iconst 0, 1) := by decide +kernel
theorem dX12_blocks_53 : decode cX12_blocks 53 = .ok (.istore 6, 2) := by decide +kernel
theorem dX12_blocks_55 : decode cX12_blocks 55 = .ok (.iload 6, 2) := by decide +kernel
theorem dX12_blocks_57 : decode cX12_blocks 57 = .ok (.aload_n 0, 1) := by decide +kernel
theorem dX12_blocks_58 : decode cX12_blocks 58 = .ok (.getfield 22, 3) := by decide +kernel
theorem dX12_blocks_61 : decode cX12_blocks 61 = .ok (.iload_n 1, 1) := by decide +kernel
theorem dX12_blocks_62 : decode cX12_blocks 62 = .ok (.iaload, 1) := by decide +kernel
theorem dX12_blocks_63 : decode cX12_blocks 63 = .ok (.if_icmp .ge 116, 3) := by decide +kernel
theorem dX12_blocks_66 : decode cX12_blocks 66 = .ok (.iconst 0, 1) := by decide +kernel
theorem dX12_blocks_67 : decode cX12_blocks 67 = .ok (.istore 7, 2) := by decide +kernel
theorem dX12_blocks_69 : decode cX12_blocks 69 = .ok (.iload 7, 2) := by decide +kernel
theorem dX12_blocks_71 : decode cX12_blocks 71 = .ok (.iload 4, 2) := by decide +kernel
theorem dX12_blocks_73 : decode cX12_blocks 73 = .ok (.if_icmp .ge 100, 3) := by decide +kernel
theorem dX12_blocks_76 : decode cX12_blocks 76 = .ok (.iconst 0, 1) := by decide +kernel
theorem dX12_blocks_77 : decode cX12_blocks 77 = .ok (.istore 8, 2) := by decide +kernel
theorem dX12_blocks_79 : decode cX12_blocks 79 = .ok (.iload 8, 2) := by decide +kernel
theorem dX12_blocks_81 : decode cX12_blocks 81 = .ok (.iload 7, 2) := by decide +kernel
theorem dX12_blocks_83 : decode cX12_blocks 83 = .ok (.if_icmp .ge 84, 3) := by decide +kernel
theorem dX12_blocks_86 : decode cX12_blocks 86 = .ok (.aload_n 0, 1) := by decide +kernel
theorem dX12_blocks_87 : decode cX12_blocks 87 = .ok (.getfield 44, 3) := by decide +kernel
theorem dX12_blocks_90 : decode cX12_blocks 90 = .ok (.iload 7, 2) := by decide +kernel
theorem dX12_blocks_92 : decode cX12_blocks 92 = .ok (.iaload, 1) := by decide +kernel
theorem dX12_blocks_93 : decode cX12_blocks 93 = .ok (.aload_n 0, 1) := by decide +kernel
theorem dX12_blocks_94 : decode cX12_blocks 94 = .ok (.getfield 44, 3) := by decide +kernel
theorem dX12_blocks_97 : decode cX12_blocks 97 = .ok (.iload 8, 2) := by decide +kernel
theorem dX12_blocks_99 : decode cX12_blocks 99 = .ok (.iaload, 1) := by decide +kernel
theorem dX12_blocks_100 : decode cX12_blocks 100 = .ok (.if_icmp .ne 61, 3) := by decide +kernel
theorem dX12_blocks_103 : decode cX12_blocks 103 = .ok (.aload_n 0, 1) := by decide +kernel
theorem dX12_blocks_104 : decode cX12_blocks 104 = .ok (.getfield 44, 3) := by decide +kernel
theorem dX12_blocks_107 : decode cX12_blocks 107 = .ok (.aload_n 0, 1) := by decide +kernel
theorem dX12_blocks_108 : decode cX12_blocks 108 = .ok (.iload_n 1, 1) := by decide +kernel
theorem dX12_blocks_109 : decode cX12_blocks 109 = .ok (.iload 6, 2) := by decide +kernel
theorem dX12_blocks_111 : decode cX12_blocks 111 = .ok (.iload 7, 2) := by decide +kernel
theorem dX12_blocks_113 : decode cX12_blocks 113 = .ok (.invokevirtual 105, 3) := by decide +kernel
theorem dX12_blocks_116 : decode cX12_blocks 116 = .ok (.iaload, 1) := by decide +kernel
theorem dX12_blocks_117 : decode cX12_blocks 117 = .ok (.aload_n 0, 1) := by decide +kernel
theorem dX12_blocks_118 : decode cX12_blocks 118 = .ok (.getfield 44, 3) := by decide +kernel
theorem dX12_blocks_121 : decode cX12_blocks 121 = .ok (.aload_n 0, 1) := by decide +kernel
theorem dX12_blocks_122 : decode cX12_blocks 122 = .ok (.iload_n 1, 1) := by decide +kernel
theorem dX12_blocks_123 : decode cX12_blocks 123 = .ok (.iload 6, 2) := by decide +kernel
theorem dX12_blocks_125 : decode cX12_blocks 125 = .ok (.iload 8, 2) := by decide +kernel
theorem dX12_blocks_127 : decode cX12_blocks 127 = .ok (.invokevirtual 105, 3) := by decide +kernel
theorem dX12_blocks_130 : decode cX12_blocks 130 = .ok (.iaload, 1) := by decide +kernel
theorem dX12_blocks_131 : decode cX12_blocks 131 = .ok (.if_icmp .eq 30, 3) := by decide +kernel
theorem dX12_blocks_134 : decode cX12_blocks 134 = .ok (.aload_n 0, 1) := by decide +kernel
theorem dX12_blocks_135 : decode cX12_blocks 135 = .ok (.iload 4, 2) := by decide +kernel
theorem dX12_blocks_137 : decode cX12_blocks 137 = .ok (.aload_n 0, 1) := by decide +kernel
theorem dX12_blocks_138 : decode cX12_blocks 138 = .ok (.iload_n 1, 1) := by decide +kernel
theorem dX12_blocks_139 : decode cX12_blocks 139 = .ok (.iload 6, 2) := by decide +kernel
theorem dX12_blocks_141 : decode cX12_blocks 141 = .ok (.iload 7, 2) := by decide +kernel
theorem dX12_blocks_143 : decode cX12_blocks 143 = .ok (.invokevirtual 105, 3) := by decide +kernel
theorem dX12_blocks_146 : decode cX12_blocks 146 = .ok (.aload_n 0, 1) := by decide +kernel
theorem dX12_blocks_147 : decode cX12_blocks 147 = .ok (.iload_n 1, 1) := by decide +kernel
theorem dX12_blocks_148 : decode cX12_blocks 148 = .ok (.iload 6, 2) := by decide +kernel
theorem dX12_blocks_150 : decode cX12_blocks 150 = .ok (.iload 8, 2) := by decide +kernel
theorem dX12_blocks_152 : decode cX12_blocks 152 = .ok (.invokevirtual 105, 3) := by decide +kernel
theorem dX12_blocks_155 : decode cX12_blocks 155 = .ok (.invokevirtual 151, 3) := by decide +kernel
theorem dX12_blocks_158 : decode cX12_blocks 158 = .ok (.iconst 1, 1) := by decide +kernel
theorem dX12_blocks_159 : decode cX12_blocks 159 = .ok (.istore 5, 2) := by decide +kernel
theorem dX12_blocks_161 : decode cX12_blocks 161 = .ok (.iinc 8 1, 3) := by decide +kernel
theorem dX12_blocks_164 : decode cX12_blocks 164 = .ok (.goto (-85), 3) := by decide +kernel
theorem dX12_blocks_167 : decode cX12_blocks 167 = .ok (.iinc 7 1, 3) := by decide +kernel
theorem dX12_blocks_170 : decode cX12_blocks 170 = .ok (.goto (-101), 3) := by decide +kernel
theorem dX12_blocks_173 : decode cX12_blocks 173 = .ok (.iinc 6 1, 3) := by decide +kernel
theorem dX12_blocks_176 : decode cX12_blocks 176 = .ok (.goto (-121), 3) := by decide +kernel
theorem dX12_blocks_179 : decode cX12_blocks 179 = .ok (.goto (-135), 3) := by decide +kernel
theorem dX12_blocks_182 : decode cX12_blocks 182 = .ok (.iconst 0, 1) := by decide +kernel
theorem dX12_blocks_183 : decode cX12_blocks 183 = .ok (.istore 6, 2) := by decide +kernel
theorem dX12_blocks_185 : decode cX12_blocks 185 = .ok (.iconst 0, 1) := by decide +kernel
theorem dX12_blocks_186 : decode cX12_blocks 186 = .ok (.istore 7, 2) := by decide +kernel
theorem dX12_blocks_188 : decode cX12_blocks 188 = .ok (.iload 7, 2) := by decide +kernel
theorem dX12_blocks_190 : decode cX12_blocks 190 = .ok (.iload 4, 2) := by decide +kernel
theorem dX12_blocks_192 : decode cX12_blocks 192 = .ok (.if_icmp .ge 33, 3) := by decide +kernel
theorem dX12_blocks_195 : decode cX12_blocks 195 = .ok (.aload_n 0, 1) := by decide +kernel
theorem dX12_blocks_196 : decode cX12_blocks 196 = .ok (.getfield 44, 3) := by decide +kernel
theorem dX12_blocks_199 : decode cX12_blocks 199 = .ok (.iload 7, 2) := by decide +kernel
theorem dX12_blocks_201 : decode cX12_blocks 201 = .ok (.iaload, 1) := by decide +kernel
theorem dX12_blocks_202 : decode cX12_blocks 202 = .ok (.iload 7, 2) := by decide +kernel
theorem dX12_blocks_204 : decode cX12_blocks 204 = .ok (.if_icmp .ne 15, 3) := by decide +kernel
theorem dX12_blocks_207 : decode cX12_blocks 207 = .ok (.aload_n 0, 1) := by decide +kernel
theorem dX12_blocks_208 : decode cX12_blocks 208 = .ok (.getfield 38, 3) := by decide +kernel
theorem dX12_blocks_211 : decode cX12_blocks 211 = .ok (.iload 7, 2) := by decide +kernel
theorem dX12_blocks_213 : decode cX12_blocks 213 = .ok (.iload 6, 2) := by decide +kernel
theorem dX12_blocks_215 : decode cX12_blocks 215 = .ok (.iastore, 1) := by decide +kernel
theorem dX12_blocks_216 : decode cX12_blocks 216 = .ok (.iinc 6 1, 3) := by decide +kernel
theorem dX12_blocks_219 : decode cX12_blocks 219 = .ok (.iinc 7 1, 3) := by decide +kernel
theorem dX12_blocks_222 : decode cX12_blocks 222 = .ok (.goto (-34), 3) := by decide +kernel
theorem dX12_blocks_225 : decode cX12_blocks 225 = .ok (.iconst 0, 1) := by decide +kernel
theorem dX12_blocks_226 : decode cX12_blocks 226 = .ok (.istore 7, 2) := by decide +kernel
theorem dX12_blocks_228 : decode cX12_blocks 228 = .ok (.iload 7, 2) := by decide +kernel
theorem dX12_blocks_230 : decode cX12_blocks 230 = .ok (.iload 4, 2) := by decide +kernel
theorem dX12_blocks_232 : decode cX12_blocks 232 = .ok (.if_icmp .ge 28, 3) := by decide +kernel
theorem dX12_blocks_235 : decode cX12_blocks 235 = .ok (.aload_n 0, 1) := by decide +kernel
theorem dX12_blocks_236 : decode cX12_blocks 236 = .ok (.getfield 44, 3) := by decide +kernel
theorem dX12_blocks_239 : decode cX12_blocks 239 = .ok (.iload 7, 2) := by decide +kernel
theorem dX12_blocks_241 : decode cX12_blocks 241 = .ok (.aload_n 0, 1) := by decide +kernel
theorem dX12_blocks_242 : decode cX12_blocks 242 = .ok (.getfield 38, 3) := by decide +kernel
theorem dX12_blocks_245 : decode cX12_blocks 245 = .ok (.aload_n 0, 1) := by decide +kernel
theorem dX12_blocks_246 : decode cX12_blocks 246 = .ok (.getfield 44, 3) := by decide +kernel
theorem dX12_blocks_249 : decode cX12_blocks 249 = .ok (.iload 7, 2) := by decide +kernel
theorem dX12_blocks_251 : decode cX12_blocks 251 = .ok (.iaload, 1) := by decide +kernel
theorem dX12_blocks_252 : decode cX12_blocks 252 = .ok (.iaload, 1) := by decide +kernel
theorem dX12_blocks_253 : decode cX12_blocks 253 = .ok (.iastore, 1) := by decide +kernel
theorem dX12_blocks_254 : decode cX12_blocks 254 = .ok (.iinc 7 1, 3) := by decide +kernel
theorem dX12_blocks_257 : decode cX12_blocks 257 = .ok (.goto (-29), 3) := by decide +kernel
theorem dX12_blocks_260 : decode cX12_blocks 260 = .ok (.iload 6, 2) := by decide +kernel
theorem dX12_blocks_262 : decode cX12_blocks 262 = .ok (.ireturn, 1) := by decide +kernel
theorem dX12_merge_0 : decode cX12_merge 0 = .ok (.aload_n 0, 1) := by decide +kernel
theorem dX12_merge_1 : decode cX12_merge 1 = .ok (.getfield 44, 3) := by decide +kernel
theorem dX12_merge_4 : decode cX12_merge 4 = .ok (.iload_n 2, 1) := by decide +kernel
theorem dX12_merge_5 : decode cX12_merge 5 = .ok (.iaload, 1) := by decide +kernel
theorem dX12_merge_6 : decode cX12_merge 6 = .ok (.aload_n 0, 1) := by decide +kernel
theorem dX12_merge_7 : decode cX12_merge 7 = .ok (.getfield 44, 3) := by decide +kernel
theorem dX12_merge_10 : decode cX12_merge 10 = .ok (.iload_n 3, 1) := by decide +kernel
theorem dX12_merge_11 : decode cX12_merge 11 = .ok (.iaload, 1) := by decide +kernel
theorem dX12_merge_12 : decode cX12_merge 12 = .ok (.if_icmp .ge 12, 3) := by decide +kernel
theorem dX12_merge_15 : decode cX12_merge 15 = .ok (.aload_n 0, 1) := by decide +kernel
theorem dX12_merge_16 : decode cX12_merge 16 = .ok (.getfield 44, 3) := by decide +kernel
theorem dX12_merge_19 : decode cX12_merge 19 = .ok (.iload_n 2, 1) := by decide +kernel
theorem dX12_merge_20 : decode cX12_merge 20 = .ok (.iaload, 1) := by decide +kernel
theorem dX12_merge_21 : decode cX12_merge 21 = .ok (.goto 9, 3) := by decide +kernel
theorem dX12_merge_24 : decode cX12_merge 24 = .ok (.aload_n 0, 1) := by decide +kernel
theorem dX12_merge_25 : decode cX12_merge 25 = .ok (.getfield 44, 3) := by decide +kernel
theorem dX12_merge_28 : decode cX12_merge 28 = .ok (.iload_n 3, 1) := by decide +kernel
theorem dX12_merge_29 : decode cX12_merge 29 = .ok (.iaload, 1) := by decide +kernel
theorem dX12_merge_30 : decode cX12_merge 30 = .ok (.istore 4, 2) := by decide +kernel
theorem dX12_merge_32 : decode cX12_merge 32 = .ok (.aload_n 0, 1) := by decide +kernel
theorem dX12_merge_33 : decode cX12_merge 33 = .ok (.getfield 44, 3) := by decide +kernel
theorem dX12_merge_36 : decode cX12_merge 36 = .ok (.iload_n 2, 1) := by decide +kernel
theorem dX12_merge_37 : decode cX12_merge 37 = .ok (.iaload, 1) := by decide +kernel
theorem dX12_merge_38 : decode cX12_merge 38 = .ok (.aload_n 0, 1) := by decide +kernel
theorem dX12_merge_39 : decode cX12_merge 39 = .ok (.getfield 44, 3) := by decide +kernel
theorem dX12_merge_42 : decode cX12_merge 42 = .ok (.iload_n 3, 1) := by decide +kernel
theorem dX12_merge_43 : decode cX12_merge 43 = .ok (.iaload, 1) := by decide +kernel
theorem dX12_merge_44 : decode cX12_merge 44 = .ok (.if_icmp .ge 12, 3) := by decide +kernel
theorem dX12_merge_47 : decode cX12_merge 47 = .ok (.aload_n 0, 1) := by decide +kernel
theorem dX12_merge_48 : decode cX12_merge 48 = .ok (.getfield 44, 3) := by decide +kernel
theorem dX12_merge_51 : decode cX12_merge 51 = .ok (.iload_n 3, 1) := by decide +kernel
theorem dX12_merge_52 : decode cX12_merge 52 = .ok (.iaload, 1) := by decide +kernel
theorem dX12_merge_53 : decode cX12_merge 53 = .ok (.goto 9, 3) := by decide +kernel
theorem dX12_merge_56 : decode cX12_merge 56 = .ok (.aload_n 0, 1) := by decide +kernel
theorem dX12_merge_57 : decode cX12_merge 57 = .ok (.getfield 44, 3) := by decide +kernel
theorem dX12_merge_60 : decode cX12_merge 60 = .ok (.iload_n 2, 1) := by decide +kernel
theorem dX12_merge_61 : decode cX12_merge 61 = .ok (.iaload, 1) := by decide +kernel
theorem dX12_merge_62 : decode cX12_merge 62 = .ok (.istore 5, 2) := by decide +kernel
theorem dX12_merge_64 : decode cX12_merge 64 = .ok (.iconst 0, 1) := by decide +kernel
theorem dX12_merge_65 : decode cX12_merge 65 = .ok (.istore 6, 2) := by decide +kernel
theorem dX12_merge_67 : decode cX12_merge 67 = .ok (.iload 6, 2) := by decide +kernel
theorem dX12_merge_69 : decode cX12_merge 69 = .ok (.iload_n 1, 1) := by decide +kernel
theorem dX12_merge_70 : decode cX12_merge 70 = .ok (.if_icmp .ge 40, 3) := by decide +kernel
theorem dX12_merge_73 : decode cX12_merge 73 = .ok (.aload_n 0, 1) := by decide +kernel
theorem dX12_merge_74 : decode cX12_merge 74 = .ok (.getfield 44, 3) := by decide +kernel
theorem dX12_merge_77 : decode cX12_merge 77 = .ok (.iload 6, 2) := by decide +kernel
theorem dX12_merge_79 : decode cX12_merge 79 = .ok (.aload_n 0, 1) := by decide +kernel
theorem dX12_merge_80 : decode cX12_merge 80 = .ok (.getfield 44, 3) := by decide +kernel
theorem dX12_merge_83 : decode cX12_merge 83 = .ok (.iload 6, 2) := by decide +kernel
theorem dX12_merge_85 : decode cX12_merge 85 = .ok (.iaload, 1) := by decide +kernel
theorem dX12_merge_86 : decode cX12_merge 86 = .ok (.iload 5, 2) := by decide +kernel
theorem dX12_merge_88 : decode cX12_merge 88 = .ok (.if_icmp .ne 8, 3) := by decide +kernel
theorem dX12_merge_91 : decode cX12_merge 91 = .ok (.iload 4, 2) := by decide +kernel
theorem dX12_merge_93 : decode cX12_merge 93 = .ok (.goto 10, 3) := by decide +kernel
theorem dX12_merge_96 : decode cX12_merge 96 = .ok (.aload_n 0, 1) := by decide +kernel
theorem dX12_merge_97 : decode cX12_merge 97 = .ok (.getfield 44, 3) := by decide +kernel
theorem dX12_merge_100 : decode cX12_merge 100 = .ok (.iload 6, 2) := by decide +kernel
theorem dX12_merge_102 : decode cX12_merge 102 = .ok (.iaload, 1) := by decide +kernel
theorem dX12_merge_103 : decode cX12_merge 103 = .ok (.iastore, 1) := by decide +kernel
theorem dX12_merge_104 : decode cX12_merge 104 = .ok (.iinc 6 1, 3) := by decide +kernel
theorem dX12_merge_107 : decode cX12_merge 107 = .ok (.goto (-40), 3) := by decide +kernel
theorem dX12_merge_110 : decode cX12_merge 110 = .ok (.return_, 1) := by decide +kernel
theorem dX12_isSheet_0 : decode cX12_isSheet 0 = .ok (.iload_n 2, 1) := by decide +kernel
theorem dX12_isSheet_1 : decode cX12_isSheet 1 = .ok (.i2l, 1) := by decide +kernel
theorem dX12_isSheet_2 : decode cX12_isSheet 2 = .ok (.lconst 0, 1) := by decide +kernel
theorem dX12_isSheet_3 : decode cX12_isSheet 3 = .ok (.aload_n 0, 1) := by decide +kernel
theorem dX12_isSheet_4 : decode cX12_isSheet 4 = .ok (.getfield 19, 3) := by decide +kernel
theorem dX12_isSheet_7 : decode cX12_isSheet 7 = .ok (.iload_n 1, 1) := by decide +kernel
theorem dX12_isSheet_8 : decode cX12_isSheet 8 = .ok (.iaload, 1) := by decide +kernel
theorem dX12_isSheet_9 : decode cX12_isSheet 9 = .ok (.iconst 1, 1) := by decide +kernel
theorem dX12_isSheet_10 : decode cX12_isSheet 10 = .ok (.isub, 1) := by decide +kernel
theorem dX12_isSheet_11 : decode cX12_isSheet 11 = .ok (.i2l, 1) := by decide +kernel
theorem dX12_isSheet_12 : decode cX12_isSheet 12 = .ok (.invokestatic 88, 3) := by decide +kernel
theorem dX12_isSheet_15 : decode cX12_isSheet 15 = .ok (.ireturn, 1) := by decide +kernel
theorem dX12_between_0 : decode cX12_between 0 = .ok (.aload_n 0, 1) := by decide +kernel
theorem dX12_between_1 : decode cX12_between 1 = .ok (.iconst 0, 1) := by decide +kernel
theorem dX12_between_2 : decode cX12_between 2 = .ok (.putfield 78, 3) := by decide +kernel
theorem dX12_between_5 : decode cX12_between 5 = .ok (.iload_n 1, 1) := by decide +kernel
theorem dX12_between_6 : decode cX12_between 6 = .ok (.invokestatic 120, 3) := by decide +kernel
theorem dX12_between_9 : decode cX12_between 9 = .ok (.ifCond .eq 10, 3) := by decide +kernel
theorem dX12_between_12 : decode cX12_between 12 = .ok (.iload_n 2, 1) := by decide +kernel
theorem dX12_between_13 : decode cX12_between 13 = .ok (.invokestatic 120, 3) := by decide +kernel
theorem dX12_between_16 : decode cX12_between 16 = .ok (.ifCond .ne 6, 3) := by decide +kernel
theorem dX12_between_19 : decode cX12_between 19 = .ok (.ldc 98, 2) := by decide +kernel
theorem dX12_between_21 : decode cX12_between 21 = .ok (.ireturn, 1) := by decide +kernel
theorem dX12_between_22 : decode cX12_between 22 = .ok (.aload_n 0, 1) := by decide +kernel
theorem dX12_between_23 : decode cX12_between 23 = .ok (.getfield 82, 3) := by decide +kernel
theorem dX12_between_26 : decode cX12_between 26 = .ok (.istore 5, 2) := by decide +kernel
theorem dX12_between_28 : decode cX12_between 28 = .ok (.aload_n 0, 1) := by decide +kernel
theorem dX12_between_29 : decode cX12_between 29 = .ok (.iload_n 2, 1) := by decide +kernel
theorem dX12_between_30 : decode cX12_between 30 = .ok (.iconst 1, 1) := by decide +kernel
theorem dX12_between_31 : decode cX12_between 31 = .ok (.invokevirtual 137, 3) := by decide +kernel
theorem dX12_between_34 : decode cX12_between 34 = .ok (.istore 6, 2) := by decide +kernel
theorem dX12_between_36 : decode cX12_between 36 = .ok (.iload 6, 2) := by decide +kernel
theorem dX12_between_38 : decode cX12_between 38 = .ok (.ifCond .ge 6, 3) := by decide +kernel
theorem dX12_between_41 : decode cX12_between 41 = .ok (.iload 6, 2) := by decide +kernel
theorem dX12_between_43 : decode cX12_between 43 = .ok (.ireturn, 1) := by decide +kernel
theorem dX12_between_44 : decode cX12_between 44 = .ok (.aload_n 0, 1) := by decide +kernel
theorem dX12_between_45 : decode cX12_between 45 = .ok (.iload_n 2, 1) := by decide +kernel
theorem dX12_between_46 : decode cX12_between 46 = .ok (.iload_n 3, 1) := by decide +kernel
theorem dX12_between_47 : decode cX12_between 47 = .ok (.invokevirtual 154, 3) := by decide +kernel
theorem dX12_between_50 : decode cX12_between 50 = .ok (.ifCond .eq 13, 3) := by decide +kernel
theorem dX12_between_53 : decode cX12_between 53 = .ok (.aload_n 0, 1) := by decide +kernel
theorem dX12_between_54 : decode cX12_between 54 = .ok (.iload_n 2, 1) := by decide +kernel
theorem dX12_between_55 : decode cX12_between 55 = .ok (.iload 4, 2) := by decide +kernel
theorem dX12_between_57 : decode cX12_between 57 = .ok (.invokevirtual 154, 3) := by decide +kernel
theorem dX12_between_60 : decode cX12_between 60 = .ok (.ifCond .ne 12, 3) := by decide +kernel
theorem dX12_between_63 : decode cX12_between 63 = .ok (.aload_n 0, 1) := by decide +kernel
theorem dX12_between_64 : decode cX12_between 64 = .ok (.iload 5, 2) := by decide +kernel
theorem dX12_between_66 : decode cX12_between 66 = .ok (.putfield 82, 3) := by decide +kernel
theorem dX12_between_69 : decode cX12_between 69 = .ok (.ldc 98, 2) := by decide +kernel
theorem dX12_between_71 : decode cX12_between 71 = .ok (.ireturn, 1) := by decide +kernel
theorem dX12_between_72 : decode cX12_between 72 = .ok (.aload_n 0, 1) := by decide +kernel
theorem dX12_between_73 : decode cX12_between 73 = .ok (.iload_n 2, 1) := by decide +kernel
theorem dX12_between_74 : decode cX12_between 74 = .ok (.iload_n 3, 1) := by decide +kernel
theorem dX12_between_75 : decode cX12_between 75 = .ok (.iload 4, 2) := by decide +kernel
theorem dX12_between_77 : decode cX12_between 77 = .ok (.invokevirtual 158, 3) := by decide +kernel
theorem dX12_between_80 : decode cX12_between 80 = .ok (.istore 7, 2) := by decide +kernel
theorem dX12_between_82 : decode cX12_between 82 = .ok (.aload_n 0, 1) := by decide +kernel
theorem dX12_between_83 : decode cX12_between 83 = .ok (.getfield 19, 3) := by decide +kernel
theorem dX12_between_86 : decode cX12_between 86 = .ok (.bipush 10, 2) := by decide +kernel
theorem dX12_between_88 : decode cX12_between 88 = .ok (.iload 7, 2) := by decide +kernel
theorem dX12_between_90 : decode cX12_between 90 = .ok (.iastore, 1) := by decide +kernel
theorem dX12_between_91 : decode cX12_between 91 = .ok (.aload_n 0, 1) := by decide +kernel
theorem dX12_between_92 : decode cX12_between 92 = .ok (.getfield 22, 3) := by decide +kernel
theorem dX12_between_95 : decode cX12_between 95 = .ok (.bipush 10, 2) := by decide +kernel
theorem dX12_between_97 : decode cX12_between 97 = .ok (.aload_n 0, 1) := by decide +kernel
theorem dX12_between_98 : decode cX12_between 98 = .ok (.getfield 22, 3) := by decide +kernel
theorem dX12_between_101 : decode cX12_between 101 = .ok (.iload_n 2, 1) := by decide +kernel
theorem dX12_between_102 : decode cX12_between 102 = .ok (.iaload, 1) := by decide +kernel
theorem dX12_between_103 : decode cX12_between 103 = .ok (.iastore, 1) := by decide +kernel
theorem dX12_between_104 : decode cX12_between 104 = .ok (.iconst 0, 1) := by decide +kernel
theorem dX12_between_105 : decode cX12_between 105 = .ok (.istore 8, 2) := by decide +kernel
theorem dX12_between_107 : decode cX12_between 107 = .ok (.iload 8, 2) := by decide +kernel
theorem dX12_between_109 : decode cX12_between 109 = .ok (.aload_n 0, 1) := by decide +kernel
theorem dX12_between_110 : decode cX12_between 110 = .ok (.getfield 22, 3) := by decide +kernel
theorem dX12_between_113 : decode cX12_between 113 = .ok (.iload_n 2, 1) := by decide +kernel
theorem dX12_between_114 : decode cX12_between 114 = .ok (.iaload, 1) := by decide +kernel
theorem dX12_between_115 : decode cX12_between 115 = .ok (.if_icmp .ge 58, 3) := by decide +kernel
theorem dX12_between_118 : decode cX12_between 118 = .ok (.iconst 0, 1) := by decide +kernel
theorem dX12_between_119 : decode cX12_between 119 = .ok (.istore 9, 2) := by decide +kernel
theorem dX12_between_121 : decode cX12_between 121 = .ok (.iload 9, 2) := by decide +kernel
theorem dX12_between_123 : decode cX12_between 123 = .ok (.aload_n 0, 1) := by decide +kernel
theorem dX12_between_124 : decode cX12_between 124 = .ok (.getfield 19, 3) := by decide +kernel
theorem dX12_between_127 : decode cX12_between 127 = .ok (.iload_n 2, 1) := by decide +kernel
theorem dX12_between_128 : decode cX12_between 128 = .ok (.iaload, 1) := by decide +kernel
theorem dX12_between_129 : decode cX12_between 129 = .ok (.if_icmp .ge 38, 3) := by decide +kernel
theorem dX12_between_132 : decode cX12_between 132 = .ok (.aload_n 0, 1) := by decide +kernel
theorem dX12_between_133 : decode cX12_between 133 = .ok (.bipush 10, 2) := by decide +kernel
theorem dX12_between_135 : decode cX12_between 135 = .ok (.iload 8, 2) := by decide +kernel
theorem dX12_between_137 : decode cX12_between 137 = .ok (.aload_n 0, 1) := by decide +kernel
theorem dX12_between_138 : decode cX12_between 138 = .ok (.getfield 44, 3) := by decide +kernel
theorem dX12_between_141 : decode cX12_between 141 = .ok (.iload 9, 2) := by decide +kernel
theorem dX12_between_143 : decode cX12_between 143 = .ok (.iaload, 1) := by decide +kernel
theorem dX12_between_144 : decode cX12_between 144 = .ok (.aload_n 0, 1) := by decide +kernel
theorem dX12_between_145 : decode cX12_between 145 = .ok (.getfield 44, 3) := by decide +kernel
theorem dX12_between_148 : decode cX12_between 148 = .ok (.aload_n 0, 1) := by decide +kernel
theorem dX12_between_149 : decode cX12_between 149 = .ok (.iload_n 2, 1) := by decide +kernel
theorem dX12_between_150 : decode cX12_between 150 = .ok (.iload 8, 2) := by decide +kernel
theorem dX12_between_152 : decode cX12_between 152 = .ok (.iload 9, 2) := by decide +kernel
theorem dX12_between_154 : decode cX12_between 154 = .ok (.invokevirtual 105, 3) := by decide +kernel
theorem dX12_between_157 : decode cX12_between 157 = .ok (.iaload, 1) := by decide +kernel
theorem dX12_between_158 : decode cX12_between 158 = .ok (.invokevirtual 127, 3) := by decide +kernel
theorem dX12_between_161 : decode cX12_between 161 = .ok (.iinc 9 1, 3) := by decide +kernel
theorem dX12_between_164 : decode cX12_between 164 = .ok (.goto (-43), 3) := by decide +kernel
theorem dX12_between_167 : decode cX12_between 167 = .ok (.iinc 8 1, 3) := by decide +kernel
theorem dX12_between_170 : decode cX12_between 170 = .ok (.goto (-63), 3) := by decide +kernel
theorem dX12_between_173 : decode cX12_between 173 = .ok (.aload_n 0, 1) := by decide +kernel
theorem dX12_between_174 : decode cX12_between 174 = .ok (.iload_n 1, 1) := by decide +kernel
theorem dX12_between_175 : decode cX12_between 175 = .ok (.invokevirtual 131, 3) := by decide +kernel
theorem dX12_between_178 : decode cX12_between 178 = .ok (.ireturn, 1) := by decide +kernel
theorem dX12_braided_0 : decode cX12_braided 0 = .ok (.aload_n 0, 1) := by decide +kernel
theorem dX12_braided_1 : decode cX12_braided 1 = .ok (.iload_n 1, 1) := by decide +kernel
theorem dX12_braided_2 : decode cX12_braided 2 = .ok (.iload_n 2, 1) := by decide +kernel
theorem dX12_braided_3 : decode cX12_braided 3 = .ok (.invokevirtual 113, 3) := by decide +kernel
theorem dX12_braided_6 : decode cX12_braided 6 = .ok (.iconst 0, 1) := by decide +kernel
theorem dX12_braided_7 : decode cX12_braided 7 = .ok (.istore 5, 2) := by decide +kernel
theorem dX12_braided_9 : decode cX12_braided 9 = .ok (.iload 5, 2) := by decide +kernel
theorem dX12_braided_11 : decode cX12_braided 11 = .ok (.aload_n 0, 1) := by decide +kernel
theorem dX12_braided_12 : decode cX12_braided 12 = .ok (.getfield 19, 3) := by decide +kernel
theorem dX12_braided_15 : decode cX12_braided 15 = .ok (.iload_n 2, 1) := by decide +kernel
theorem dX12_braided_16 : decode cX12_braided 16 = .ok (.iaload, 1) := by decide +kernel
theorem dX12_braided_17 : decode cX12_braided 17 = .ok (.if_icmp .ge 117, 3) := by decide +kernel
theorem dX12_braided_20 : decode cX12_braided 20 = .ok (.iload 4, 2) := by decide +kernel
theorem dX12_braided_22 : decode cX12_braided 22 = .ok (.ifCond .ne 58, 3) := by decide +kernel
theorem dX12_braided_25 : decode cX12_braided 25 = .ok (.aload_n 0, 1) := by decide +kernel
theorem dX12_braided_26 : decode cX12_braided 26 = .ok (.iload_n 1, 1) := by decide +kernel
theorem dX12_braided_27 : decode cX12_braided 27 = .ok (.iload_n 3, 1) := by decide +kernel
theorem dX12_braided_28 : decode cX12_braided 28 = .ok (.iload 5, 2) := by decide +kernel
theorem dX12_braided_30 : decode cX12_braided 30 = .ok (.aload_n 0, 1) := by decide +kernel
theorem dX12_braided_31 : decode cX12_braided 31 = .ok (.iload_n 2, 1) := by decide +kernel
theorem dX12_braided_32 : decode cX12_braided 32 = .ok (.iload_n 3, 1) := by decide +kernel
theorem dX12_braided_33 : decode cX12_braided 33 = .ok (.iconst 1, 1) := by decide +kernel
theorem dX12_braided_34 : decode cX12_braided 34 = .ok (.iadd, 1) := by decide +kernel
theorem dX12_braided_35 : decode cX12_braided 35 = .ok (.iload 5, 2) := by decide +kernel
theorem dX12_braided_37 : decode cX12_braided 37 = .ok (.invokevirtual 105, 3) := by decide +kernel
theorem dX12_braided_40 : decode cX12_braided 40 = .ok (.invokevirtual 127, 3) := by decide +kernel
theorem dX12_braided_43 : decode cX12_braided 43 = .ok (.aload_n 0, 1) := by decide +kernel
theorem dX12_braided_44 : decode cX12_braided 44 = .ok (.iload_n 1, 1) := by decide +kernel
theorem dX12_braided_45 : decode cX12_braided 45 = .ok (.iload_n 3, 1) := by decide +kernel
theorem dX12_braided_46 : decode cX12_braided 46 = .ok (.iconst 1, 1) := by decide +kernel
theorem dX12_braided_47 : decode cX12_braided 47 = .ok (.iadd, 1) := by decide +kernel
theorem dX12_braided_48 : decode cX12_braided 48 = .ok (.iload 5, 2) := by decide +kernel
theorem dX12_braided_50 : decode cX12_braided 50 = .ok (.aload_n 0, 1) := by decide +kernel
theorem dX12_braided_51 : decode cX12_braided 51 = .ok (.iload_n 2, 1) := by decide +kernel
theorem dX12_braided_52 : decode cX12_braided 52 = .ok (.iload_n 3, 1) := by decide +kernel
theorem dX12_braided_53 : decode cX12_braided 53 = .ok (.iconst 1, 1) := by decide +kernel
theorem dX12_braided_54 : decode cX12_braided 54 = .ok (.iadd, 1) := by decide +kernel
theorem dX12_braided_55 : decode cX12_braided 55 = .ok (.aload_n 0, 1) := by decide +kernel
theorem dX12_braided_56 : decode cX12_braided 56 = .ok (.iload_n 2, 1) := by decide +kernel
theorem dX12_braided_57 : decode cX12_braided 57 = .ok (.iload_n 3, 1) := by decide +kernel
theorem dX12_braided_58 : decode cX12_braided 58 = .ok (.aload_n 0, 1) := by decide +kernel
theorem dX12_braided_59 : decode cX12_braided 59 = .ok (.iload_n 2, 1) := by decide +kernel
theorem dX12_braided_60 : decode cX12_braided 60 = .ok (.iload_n 3, 1) := by decide +kernel
theorem dX12_braided_61 : decode cX12_braided 61 = .ok (.iconst 1, 1) := by decide +kernel
theorem dX12_braided_62 : decode cX12_braided 62 = .ok (.iadd, 1) := by decide +kernel
theorem dX12_braided_63 : decode cX12_braided 63 = .ok (.iload 5, 2) := by decide +kernel
theorem dX12_braided_65 : decode cX12_braided 65 = .ok (.invokevirtual 161, 3) := by decide +kernel
theorem dX12_braided_68 : decode cX12_braided 68 = .ok (.invokevirtual 105, 3) := by decide +kernel
theorem dX12_braided_71 : decode cX12_braided 71 = .ok (.invokevirtual 105, 3) := by decide +kernel
theorem dX12_braided_74 : decode cX12_braided 74 = .ok (.invokevirtual 127, 3) := by decide +kernel
theorem dX12_braided_77 : decode cX12_braided 77 = .ok (.goto 51, 3) := by decide +kernel
theorem dX12_braided_80 : decode cX12_braided 80 = .ok (.aload_n 0, 1) := by decide +kernel
theorem dX12_braided_81 : decode cX12_braided 81 = .ok (.iload_n 1, 1) := by decide +kernel
theorem dX12_braided_82 : decode cX12_braided 82 = .ok (.iload_n 3, 1) := by decide +kernel
theorem dX12_braided_83 : decode cX12_braided 83 = .ok (.iconst 1, 1) := by decide +kernel
theorem dX12_braided_84 : decode cX12_braided 84 = .ok (.iadd, 1) := by decide +kernel
theorem dX12_braided_85 : decode cX12_braided 85 = .ok (.iload 5, 2) := by decide +kernel
theorem dX12_braided_87 : decode cX12_braided 87 = .ok (.aload_n 0, 1) := by decide +kernel
theorem dX12_braided_88 : decode cX12_braided 88 = .ok (.iload_n 2, 1) := by decide +kernel
theorem dX12_braided_89 : decode cX12_braided 89 = .ok (.iload_n 3, 1) := by decide +kernel
theorem dX12_braided_90 : decode cX12_braided 90 = .ok (.iload 5, 2) := by decide +kernel
theorem dX12_braided_92 : decode cX12_braided 92 = .ok (.invokevirtual 105, 3) := by decide +kernel
theorem dX12_braided_95 : decode cX12_braided 95 = .ok (.invokevirtual 127, 3) := by decide +kernel
theorem dX12_braided_98 : decode cX12_braided 98 = .ok (.aload_n 0, 1) := by decide +kernel
theorem dX12_braided_99 : decode cX12_braided 99 = .ok (.iload_n 1, 1) := by decide +kernel
theorem dX12_braided_100 : decode cX12_braided 100 = .ok (.iload_n 3, 1) := by decide +kernel
theorem dX12_braided_101 : decode cX12_braided 101 = .ok (.iload 5, 2) := by decide +kernel
theorem dX12_braided_103 : decode cX12_braided 103 = .ok (.aload_n 0, 1) := by decide +kernel
theorem dX12_braided_104 : decode cX12_braided 104 = .ok (.iload_n 2, 1) := by decide +kernel
theorem dX12_braided_105 : decode cX12_braided 105 = .ok (.iload_n 3, 1) := by decide +kernel
theorem dX12_braided_106 : decode cX12_braided 106 = .ok (.aload_n 0, 1) := by decide +kernel
theorem dX12_braided_107 : decode cX12_braided 107 = .ok (.iload_n 2, 1) := by decide +kernel
theorem dX12_braided_108 : decode cX12_braided 108 = .ok (.iload_n 3, 1) := by decide +kernel
theorem dX12_braided_109 : decode cX12_braided 109 = .ok (.iconst 1, 1) := by decide +kernel
theorem dX12_braided_110 : decode cX12_braided 110 = .ok (.iadd, 1) := by decide +kernel
theorem dX12_braided_111 : decode cX12_braided 111 = .ok (.aload_n 0, 1) := by decide +kernel
theorem dX12_braided_112 : decode cX12_braided 112 = .ok (.iload_n 2, 1) := by decide +kernel
theorem dX12_braided_113 : decode cX12_braided 113 = .ok (.iload_n 3, 1) := by decide +kernel
theorem dX12_braided_114 : decode cX12_braided 114 = .ok (.iload 5, 2) := by decide +kernel
theorem dX12_braided_116 : decode cX12_braided 116 = .ok (.invokevirtual 105, 3) := by decide +kernel
theorem dX12_braided_119 : decode cX12_braided 119 = .ok (.invokevirtual 105, 3) := by decide +kernel
theorem dX12_braided_122 : decode cX12_braided 122 = .ok (.invokevirtual 161, 3) := by decide +kernel
theorem dX12_braided_125 : decode cX12_braided 125 = .ok (.invokevirtual 127, 3) := by decide +kernel
theorem dX12_braided_128 : decode cX12_braided 128 = .ok (.iinc 5 1, 3) := by decide +kernel
theorem dX12_braided_131 : decode cX12_braided 131 = .ok (.goto (-122), 3) := by decide +kernel
theorem dX12_braided_134 : decode cX12_braided 134 = .ok (.return_, 1) := by decide +kernel
theorem dX12_braid_0 : decode cX12_braid 0 = .ok (.aload_n 0, 1) := by decide +kernel
theorem dX12_braid_1 : decode cX12_braid 1 = .ok (.iconst 0, 1) := by decide +kernel
theorem dX12_braid_2 : decode cX12_braid 2 = .ok (.putfield 78, 3) := by decide +kernel
theorem dX12_braid_5 : decode cX12_braid 5 = .ok (.iload_n 1, 1) := by decide +kernel
theorem dX12_braid_6 : decode cX12_braid 6 = .ok (.invokestatic 120, 3) := by decide +kernel
theorem dX12_braid_9 : decode cX12_braid 9 = .ok (.ifCond .eq 21, 3) := by decide +kernel
theorem dX12_braid_12 : decode cX12_braid 12 = .ok (.iload_n 2, 1) := by decide +kernel
theorem dX12_braid_13 : decode cX12_braid 13 = .ok (.invokestatic 120, 3) := by decide +kernel
theorem dX12_braid_16 : decode cX12_braid 16 = .ok (.ifCond .eq 14, 3) := by decide +kernel
theorem dX12_braid_19 : decode cX12_braid 19 = .ok (.iload 4, 2) := by decide +kernel
theorem dX12_braid_21 : decode cX12_braid 21 = .ok (.i2l, 1) := by decide +kernel
theorem dX12_braid_22 : decode cX12_braid 22 = .ok (.lconst 0, 1) := by decide +kernel
theorem dX12_braid_23 : decode cX12_braid 23 = .ok (.lconst 1, 1) := by decide +kernel
theorem dX12_braid_24 : decode cX12_braid 24 = .ok (.invokestatic 88, 3) := by decide +kernel
theorem dX12_braid_27 : decode cX12_braid 27 = .ok (.ifCond .ne 6, 3) := by decide +kernel
theorem dX12_braid_30 : decode cX12_braid 30 = .ok (.ldc 98, 2) := by decide +kernel
theorem dX12_braid_32 : decode cX12_braid 32 = .ok (.ireturn, 1) := by decide +kernel
theorem dX12_braid_33 : decode cX12_braid 33 = .ok (.aload_n 0, 1) := by decide +kernel
theorem dX12_braid_34 : decode cX12_braid 34 = .ok (.getfield 82, 3) := by decide +kernel
theorem dX12_braid_37 : decode cX12_braid 37 = .ok (.istore 5, 2) := by decide +kernel
theorem dX12_braid_39 : decode cX12_braid 39 = .ok (.aload_n 0, 1) := by decide +kernel
theorem dX12_braid_40 : decode cX12_braid 40 = .ok (.iload_n 2, 1) := by decide +kernel
theorem dX12_braid_41 : decode cX12_braid 41 = .ok (.iconst 0, 1) := by decide +kernel
theorem dX12_braid_42 : decode cX12_braid 42 = .ok (.invokevirtual 137, 3) := by decide +kernel
theorem dX12_braid_45 : decode cX12_braid 45 = .ok (.istore 6, 2) := by decide +kernel
theorem dX12_braid_47 : decode cX12_braid 47 = .ok (.iload 6, 2) := by decide +kernel
theorem dX12_braid_49 : decode cX12_braid 49 = .ok (.ifCond .ge 6, 3) := by decide +kernel
theorem dX12_braid_52 : decode cX12_braid 52 = .ok (.iload 6, 2) := by decide +kernel
theorem dX12_braid_54 : decode cX12_braid 54 = .ok (.ireturn, 1) := by decide +kernel
theorem dX12_braid_55 : decode cX12_braid 55 = .ok (.iload_n 3, 1) := by decide +kernel
theorem dX12_braid_56 : decode cX12_braid 56 = .ok (.i2l, 1) := by decide +kernel
theorem dX12_braid_57 : decode cX12_braid 57 = .ok (.lconst 0, 1) := by decide +kernel
theorem dX12_braid_58 : decode cX12_braid 58 = .ok (.aload_n 0, 1) := by decide +kernel
theorem dX12_braid_59 : decode cX12_braid 59 = .ok (.getfield 22, 3) := by decide +kernel
theorem dX12_braid_62 : decode cX12_braid 62 = .ok (.iload_n 2, 1) := by decide +kernel
theorem dX12_braid_63 : decode cX12_braid 63 = .ok (.iaload, 1) := by decide +kernel
theorem dX12_braid_64 : decode cX12_braid 64 = .ok (.iconst 2, 1) := by decide +kernel
theorem dX12_braid_65 : decode cX12_braid 65 = .ok (.isub, 1) := by decide +kernel
theorem dX12_braid_66 : decode cX12_braid 66 = .ok (.i2l, 1) := by decide +kernel
theorem dX12_braid_67 : decode cX12_braid 67 = .ok (.invokestatic 88, 3) := by decide +kernel
theorem dX12_braid_70 : decode cX12_braid 70 = .ok (.ifCond .ne 12, 3) := by decide +kernel
theorem dX12_braid_73 : decode cX12_braid 73 = .ok (.aload_n 0, 1) := by decide +kernel
theorem dX12_braid_74 : decode cX12_braid 74 = .ok (.iload 5, 2) := by decide +kernel
theorem dX12_braid_76 : decode cX12_braid 76 = .ok (.putfield 82, 3) := by decide +kernel
theorem dX12_braid_79 : decode cX12_braid 79 = .ok (.ldc 98, 2) := by decide +kernel
theorem dX12_braid_81 : decode cX12_braid 81 = .ok (.ireturn, 1) := by decide +kernel
theorem dX12_braid_82 : decode cX12_braid 82 = .ok (.aload_n 0, 1) := by decide +kernel
theorem dX12_braid_83 : decode cX12_braid 83 = .ok (.bipush 10, 2) := by decide +kernel
theorem dX12_braid_85 : decode cX12_braid 85 = .ok (.iload_n 2, 1) := by decide +kernel
theorem dX12_braid_86 : decode cX12_braid 86 = .ok (.iload_n 3, 1) := by decide +kernel
theorem dX12_braid_87 : decode cX12_braid 87 = .ok (.iload 4, 2) := by decide +kernel
theorem dX12_braid_89 : decode cX12_braid 89 = .ok (.invokevirtual 164, 3) := by decide +kernel
theorem dX12_braid_92 : decode cX12_braid 92 = .ok (.aload_n 0, 1) := by decide +kernel
theorem dX12_braid_93 : decode cX12_braid 93 = .ok (.iload_n 1, 1) := by decide +kernel
theorem dX12_braid_94 : decode cX12_braid 94 = .ok (.invokevirtual 131, 3) := by decide +kernel
theorem dX12_braid_97 : decode cX12_braid 97 = .ok (.ireturn, 1) := by decide +kernel
theorem dX12_turn_0 : decode cX12_turn 0 = .ok (.aload_n 0, 1) := by decide +kernel
theorem dX12_turn_1 : decode cX12_turn 1 = .ok (.iconst 0, 1) := by decide +kernel
theorem dX12_turn_2 : decode cX12_turn 2 = .ok (.putfield 78, 3) := by decide +kernel
theorem dX12_turn_5 : decode cX12_turn 5 = .ok (.iload_n 1, 1) := by decide +kernel
theorem dX12_turn_6 : decode cX12_turn 6 = .ok (.invokestatic 120, 3) := by decide +kernel
theorem dX12_turn_9 : decode cX12_turn 9 = .ok (.ifCond .eq 20, 3) := by decide +kernel
theorem dX12_turn_12 : decode cX12_turn 12 = .ok (.iload_n 2, 1) := by decide +kernel
theorem dX12_turn_13 : decode cX12_turn 13 = .ok (.invokestatic 120, 3) := by decide +kernel
theorem dX12_turn_16 : decode cX12_turn 16 = .ok (.ifCond .eq 13, 3) := by decide +kernel
theorem dX12_turn_19 : decode cX12_turn 19 = .ok (.iload_n 3, 1) := by decide +kernel
theorem dX12_turn_20 : decode cX12_turn 20 = .ok (.i2l, 1) := by decide +kernel
theorem dX12_turn_21 : decode cX12_turn 21 = .ok (.lconst 0, 1) := by decide +kernel
theorem dX12_turn_22 : decode cX12_turn 22 = .ok (.lconst 1, 1) := by decide +kernel
theorem dX12_turn_23 : decode cX12_turn 23 = .ok (.invokestatic 88, 3) := by decide +kernel
theorem dX12_turn_26 : decode cX12_turn 26 = .ok (.ifCond .ne 6, 3) := by decide +kernel
theorem dX12_turn_29 : decode cX12_turn 29 = .ok (.ldc 98, 2) := by decide +kernel
theorem dX12_turn_31 : decode cX12_turn 31 = .ok (.ireturn, 1) := by decide +kernel
theorem dX12_turn_32 : decode cX12_turn 32 = .ok (.aload_n 0, 1) := by decide +kernel
theorem dX12_turn_33 : decode cX12_turn 33 = .ok (.iload_n 2, 1) := by decide +kernel
theorem dX12_turn_34 : decode cX12_turn 34 = .ok (.iconst 0, 1) := by decide +kernel
theorem dX12_turn_35 : decode cX12_turn 35 = .ok (.invokevirtual 137, 3) := by decide +kernel
theorem dX12_turn_38 : decode cX12_turn 38 = .ok (.istore 4, 2) := by decide +kernel
theorem dX12_turn_40 : decode cX12_turn 40 = .ok (.iload 4, 2) := by decide +kernel
theorem dX12_turn_42 : decode cX12_turn 42 = .ok (.ifCond .ge 6, 3) := by decide +kernel
theorem dX12_turn_45 : decode cX12_turn 45 = .ok (.iload 4, 2) := by decide +kernel
theorem dX12_turn_47 : decode cX12_turn 47 = .ok (.ireturn, 1) := by decide +kernel
theorem dX12_turn_48 : decode cX12_turn 48 = .ok (.iload_n 3, 1) := by decide +kernel
theorem dX12_turn_49 : decode cX12_turn 49 = .ok (.iconst 1, 1) := by decide +kernel
theorem dX12_turn_50 : decode cX12_turn 50 = .ok (.if_icmp .ne 34, 3) := by decide +kernel
theorem dX12_turn_53 : decode cX12_turn 53 = .ok (.aload_n 0, 1) := by decide +kernel
theorem dX12_turn_54 : decode cX12_turn 54 = .ok (.getfield 22, 3) := by decide +kernel
theorem dX12_turn_57 : decode cX12_turn 57 = .ok (.iload_n 2, 1) := by decide +kernel
theorem dX12_turn_58 : decode cX12_turn 58 = .ok (.iaload, 1) := by decide +kernel
theorem dX12_turn_59 : decode cX12_turn 59 = .ok (.iconst 3, 1) := by decide +kernel
theorem dX12_turn_60 : decode cX12_turn 60 = .ok (.if_icmp .eq 9, 3) := by decide +kernel
theorem dX12_turn_63 : decode cX12_turn 63 = .ok (.aload_n 0, 1) := by decide +kernel
theorem dX12_turn_64 : decode cX12_turn 64 = .ok (.iconst 3, 1) := by decide +kernel
theorem dX12_turn_65 : decode cX12_turn 65 = .ok (.invokevirtual 99, 3) := by decide +kernel
theorem dX12_turn_68 : decode cX12_turn 68 = .ok (.ireturn, 1) := by decide +kernel
theorem dX12_turn_69 : decode cX12_turn 69 = .ok (.aload_n 0, 1) := by decide +kernel
theorem dX12_turn_70 : decode cX12_turn 70 = .ok (.bipush 10, 2) := by decide +kernel
theorem dX12_turn_72 : decode cX12_turn 72 = .ok (.iload_n 2, 1) := by decide +kernel
theorem dX12_turn_73 : decode cX12_turn 73 = .ok (.iconst 0, 1) := by decide +kernel
theorem dX12_turn_74 : decode cX12_turn 74 = .ok (.iconst 0, 1) := by decide +kernel
theorem dX12_turn_75 : decode cX12_turn 75 = .ok (.invokevirtual 164, 3) := by decide +kernel
theorem dX12_turn_78 : decode cX12_turn 78 = .ok (.aload_n 0, 1) := by decide +kernel
theorem dX12_turn_79 : decode cX12_turn 79 = .ok (.iload_n 1, 1) := by decide +kernel
theorem dX12_turn_80 : decode cX12_turn 80 = .ok (.invokevirtual 131, 3) := by decide +kernel
theorem dX12_turn_83 : decode cX12_turn 83 = .ok (.ireturn, 1) := by decide +kernel
theorem dX12_turn_84 : decode cX12_turn 84 = .ok (.aload_n 0, 1) := by decide +kernel
theorem dX12_turn_85 : decode cX12_turn 85 = .ok (.bipush 10, 2) := by decide +kernel
theorem dX12_turn_87 : decode cX12_turn 87 = .ok (.iload_n 2, 1) := by decide +kernel
theorem dX12_turn_88 : decode cX12_turn 88 = .ok (.invokevirtual 113, 3) := by decide +kernel
theorem dX12_turn_91 : decode cX12_turn 91 = .ok (.iconst 0, 1) := by decide +kernel
theorem dX12_turn_92 : decode cX12_turn 92 = .ok (.istore 5, 2) := by decide +kernel
theorem dX12_turn_94 : decode cX12_turn 94 = .ok (.iload 5, 2) := by decide +kernel
theorem dX12_turn_96 : decode cX12_turn 96 = .ok (.aload_n 0, 1) := by decide +kernel
theorem dX12_turn_97 : decode cX12_turn 97 = .ok (.getfield 22, 3) := by decide +kernel
theorem dX12_turn_100 : decode cX12_turn 100 = .ok (.iload_n 2, 1) := by decide +kernel
theorem dX12_turn_101 : decode cX12_turn 101 = .ok (.iaload, 1) := by decide +kernel
theorem dX12_turn_102 : decode cX12_turn 102 = .ok (.if_icmp .ge 57, 3) := by decide +kernel
theorem dX12_turn_105 : decode cX12_turn 105 = .ok (.iconst 0, 1) := by decide +kernel
theorem dX12_turn_106 : decode cX12_turn 106 = .ok (.istore 6, 2) := by decide +kernel
theorem dX12_turn_108 : decode cX12_turn 108 = .ok (.iload 6, 2) := by decide +kernel
theorem dX12_turn_110 : decode cX12_turn 110 = .ok (.aload_n 0, 1) := by decide +kernel
theorem dX12_turn_111 : decode cX12_turn 111 = .ok (.getfield 19, 3) := by decide +kernel
theorem dX12_turn_114 : decode cX12_turn 114 = .ok (.iload_n 2, 1) := by decide +kernel
theorem dX12_turn_115 : decode cX12_turn 115 = .ok (.iaload, 1) := by decide +kernel
theorem dX12_turn_116 : decode cX12_turn 116 = .ok (.if_icmp .ge 37, 3) := by decide +kernel
theorem dX12_turn_119 : decode cX12_turn 119 = .ok (.aload_n 0, 1) := by decide +kernel
theorem dX12_turn_120 : decode cX12_turn 120 = .ok (.bipush 10, 2) := by decide +kernel
theorem dX12_turn_122 : decode cX12_turn 122 = .ok (.aload_n 0, 1) := by decide +kernel
theorem dX12_turn_123 : decode cX12_turn 123 = .ok (.getfield 22, 3) := by decide +kernel
theorem dX12_turn_126 : decode cX12_turn 126 = .ok (.iload_n 2, 1) := by decide +kernel
theorem dX12_turn_127 : decode cX12_turn 127 = .ok (.iaload, 1) := by decide +kernel
theorem dX12_turn_128 : decode cX12_turn 128 = .ok (.iconst 1, 1) := by decide +kernel
theorem dX12_turn_129 : decode cX12_turn 129 = .ok (.isub, 1) := by decide +kernel
theorem dX12_turn_130 : decode cX12_turn 130 = .ok (.iload 5, 2) := by decide +kernel
theorem dX12_turn_132 : decode cX12_turn 132 = .ok (.isub, 1) := by decide +kernel
theorem dX12_turn_133 : decode cX12_turn 133 = .ok (.aload_n 0, 1) := by decide +kernel
theorem dX12_turn_134 : decode cX12_turn 134 = .ok (.iload_n 2, 1) := by decide +kernel
theorem dX12_turn_135 : decode cX12_turn 135 = .ok (.iload 5, 2) := by decide +kernel
theorem dX12_turn_137 : decode cX12_turn 137 = .ok (.iload 6, 2) := by decide +kernel
theorem dX12_turn_139 : decode cX12_turn 139 = .ok (.invokevirtual 105, 3) := by decide +kernel
theorem dX12_turn_142 : decode cX12_turn 142 = .ok (.iload 6, 2) := by decide +kernel
theorem dX12_turn_144 : decode cX12_turn 144 = .ok (.invokevirtual 127, 3) := by decide +kernel
theorem dX12_turn_147 : decode cX12_turn 147 = .ok (.iinc 6 1, 3) := by decide +kernel
theorem dX12_turn_150 : decode cX12_turn 150 = .ok (.goto (-42), 3) := by decide +kernel
theorem dX12_turn_153 : decode cX12_turn 153 = .ok (.iinc 5 1, 3) := by decide +kernel
theorem dX12_turn_156 : decode cX12_turn 156 = .ok (.goto (-62), 3) := by decide +kernel
theorem dX12_turn_159 : decode cX12_turn 159 = .ok (.aload_n 0, 1) := by decide +kernel
theorem dX12_turn_160 : decode cX12_turn 160 = .ok (.iload_n 1, 1) := by decide +kernel
theorem dX12_turn_161 : decode cX12_turn 161 = .ok (.invokevirtual 131, 3) := by decide +kernel
theorem dX12_turn_164 : decode cX12_turn 164 = .ok (.ireturn, 1) := by decide +kernel
theorem dX12_over_0 : decode cX12_over 0 = .ok (.aload_n 0, 1) := by decide +kernel
theorem dX12_over_1 : decode cX12_over 1 = .ok (.iconst 0, 1) := by decide +kernel
theorem dX12_over_2 : decode cX12_over 2 = .ok (.putfield 78, 3) := by decide +kernel
theorem dX12_over_5 : decode cX12_over 5 = .ok (.iload_n 1, 1) := by decide +kernel
theorem dX12_over_6 : decode cX12_over 6 = .ok (.invokestatic 120, 3) := by decide +kernel
theorem dX12_over_9 : decode cX12_over 9 = .ok (.ifCond .eq 17, 3) := by decide +kernel
theorem dX12_over_12 : decode cX12_over 12 = .ok (.iload_n 2, 1) := by decide +kernel
theorem dX12_over_13 : decode cX12_over 13 = .ok (.invokestatic 120, 3) := by decide +kernel
theorem dX12_over_16 : decode cX12_over 16 = .ok (.ifCond .eq 10, 3) := by decide +kernel
theorem dX12_over_19 : decode cX12_over 19 = .ok (.iload_n 3, 1) := by decide +kernel
theorem dX12_over_20 : decode cX12_over 20 = .ok (.invokestatic 120, 3) := by decide +kernel
theorem dX12_over_23 : decode cX12_over 23 = .ok (.ifCond .ne 6, 3) := by decide +kernel
theorem dX12_over_26 : decode cX12_over 26 = .ok (.ldc 98, 2) := by decide +kernel
theorem dX12_over_28 : decode cX12_over 28 = .ok (.ireturn, 1) := by decide +kernel
theorem dX12_over_29 : decode cX12_over 29 = .ok (.aload_n 0, 1) := by decide +kernel
theorem dX12_over_30 : decode cX12_over 30 = .ok (.getfield 19, 3) := by decide +kernel
theorem dX12_over_33 : decode cX12_over 33 = .ok (.iload_n 2, 1) := by decide +kernel
theorem dX12_over_34 : decode cX12_over 34 = .ok (.iaload, 1) := by decide +kernel
theorem dX12_over_35 : decode cX12_over 35 = .ok (.ifCond .eq 12, 3) := by decide +kernel
theorem dX12_over_38 : decode cX12_over 38 = .ok (.aload_n 0, 1) := by decide +kernel
theorem dX12_over_39 : decode cX12_over 39 = .ok (.getfield 19, 3) := by decide +kernel
theorem dX12_over_42 : decode cX12_over 42 = .ok (.iload_n 3, 1) := by decide +kernel
theorem dX12_over_43 : decode cX12_over 43 = .ok (.iaload, 1) := by decide +kernel
theorem dX12_over_44 : decode cX12_over 44 = .ok (.ifCond .ne 9, 3) := by decide +kernel
theorem dX12_over_47 : decode cX12_over 47 = .ok (.aload_n 0, 1) := by decide +kernel
theorem dX12_over_48 : decode cX12_over 48 = .ok (.iconst 1, 1) := by decide +kernel
theorem dX12_over_49 : decode cX12_over 49 = .ok (.invokevirtual 99, 3) := by decide +kernel
theorem dX12_over_52 : decode cX12_over 52 = .ok (.ireturn, 1) := by decide +kernel
theorem dX12_over_53 : decode cX12_over 53 = .ok (.aload_n 0, 1) := by decide +kernel
theorem dX12_over_54 : decode cX12_over 54 = .ok (.getfield 22, 3) := by decide +kernel
theorem dX12_over_57 : decode cX12_over 57 = .ok (.iload_n 2, 1) := by decide +kernel
theorem dX12_over_58 : decode cX12_over 58 = .ok (.iaload, 1) := by decide +kernel
theorem dX12_over_59 : decode cX12_over 59 = .ok (.aload_n 0, 1) := by decide +kernel
theorem dX12_over_60 : decode cX12_over 60 = .ok (.getfield 22, 3) := by decide +kernel
theorem dX12_over_63 : decode cX12_over 63 = .ok (.iload_n 3, 1) := by decide +kernel
theorem dX12_over_64 : decode cX12_over 64 = .ok (.iaload, 1) := by decide +kernel
theorem dX12_over_65 : decode cX12_over 65 = .ok (.if_icmp .eq 6, 3) := by decide +kernel
theorem dX12_over_68 : decode cX12_over 68 = .ok (.ldc 98, 2) := by decide +kernel
theorem dX12_over_70 : decode cX12_over 70 = .ok (.ireturn, 1) := by decide +kernel
theorem dX12_over_71 : decode cX12_over 71 = .ok (.aload_n 0, 1) := by decide +kernel
theorem dX12_over_72 : decode cX12_over 72 = .ok (.getfield 19, 3) := by decide +kernel
theorem dX12_over_75 : decode cX12_over 75 = .ok (.iload_n 2, 1) := by decide +kernel
theorem dX12_over_76 : decode cX12_over 76 = .ok (.iaload, 1) := by decide +kernel
theorem dX12_over_77 : decode cX12_over 77 = .ok (.aload_n 0, 1) := by decide +kernel
theorem dX12_over_78 : decode cX12_over 78 = .ok (.getfield 19, 3) := by decide +kernel
theorem dX12_over_81 : decode cX12_over 81 = .ok (.iload_n 3, 1) := by decide +kernel
theorem dX12_over_82 : decode cX12_over 82 = .ok (.iaload, 1) := by decide +kernel
theorem dX12_over_83 : decode cX12_over 83 = .ok (.imul, 1) := by decide +kernel
theorem dX12_over_84 : decode cX12_over 84 = .ok (.bipush 12, 2) := by decide +kernel
theorem dX12_over_86 : decode cX12_over 86 = .ok (.if_icmp .le 6, 3) := by decide +kernel
theorem dX12_over_89 : decode cX12_over 89 = .ok (.ldc 167, 2) := by decide +kernel
theorem dX12_over_91 : decode cX12_over 91 = .ok (.ireturn, 1) := by decide +kernel
theorem dX12_over_92 : decode cX12_over 92 = .ok (.aload_n 0, 1) := by decide +kernel
theorem dX12_over_93 : decode cX12_over 93 = .ok (.getfield 19, 3) := by decide +kernel
theorem dX12_over_96 : decode cX12_over 96 = .ok (.bipush 10, 2) := by decide +kernel
theorem dX12_over_98 : decode cX12_over 98 = .ok (.aload_n 0, 1) := by decide +kernel
theorem dX12_over_99 : decode cX12_over 99 = .ok (.getfield 19, 3) := by decide +kernel
theorem dX12_over_102 : decode cX12_over 102 = .ok (.iload_n 2, 1) := by decide +kernel
theorem dX12_over_103 : decode cX12_over 103 = .ok (.iaload, 1) := by decide +kernel
theorem dX12_over_104 : decode cX12_over 104 = .ok (.aload_n 0, 1) := by decide +kernel
theorem dX12_over_105 : decode cX12_over 105 = .ok (.getfield 19, 3) := by decide +kernel
theorem dX12_over_108 : decode cX12_over 108 = .ok (.iload_n 3, 1) := by decide +kernel
theorem dX12_over_109 : decode cX12_over 109 = .ok (.iaload, 1) := by decide +kernel
theorem dX12_over_110 : decode cX12_over 110 = .ok (.imul, 1) := by decide +kernel
theorem dX12_over_111 : decode cX12_over 111 = .ok (.iastore, 1) := by decide +kernel
theorem dX12_over_112 : decode cX12_over 112 = .ok (.aload_n 0, 1) := by decide +kernel
theorem dX12_over_113 : decode cX12_over 113 = .ok (.getfield 22, 3) := by decide +kernel
theorem dX12_over_116 : decode cX12_over 116 = .ok (.bipush 10, 2) := by decide +kernel
theorem dX12_over_118 : decode cX12_over 118 = .ok (.aload_n 0, 1) := by decide +kernel
theorem dX12_over_119 : decode cX12_over 119 = .ok (.getfield 22, 3) := by decide +kernel
theorem dX12_over_122 : decode cX12_over 122 = .ok (.iload_n 2, 1) := by decide +kernel
theorem dX12_over_123 : decode cX12_over 123 = .ok (.iaload, 1) := by decide +kernel
theorem dX12_over_124 : decode cX12_over 124 = .ok (.iastore, 1) := by decide +kernel
theorem dX12_over_125 : decode cX12_over 125 = .ok (.iconst 0, 1) := by decide +kernel
theorem dX12_over_126 : decode cX12_over 126 = .ok (.istore 4, 2) := by decide +kernel
theorem dX12_over_128 : decode cX12_over 128 = .ok (.iload 4, 2) := by decide +kernel
theorem dX12_over_130 : decode cX12_over 130 = .ok (.aload_n 0, 1) := by decide +kernel
theorem dX12_over_131 : decode cX12_over 131 = .ok (.getfield 22, 3) := by decide +kernel
theorem dX12_over_134 : decode cX12_over 134 = .ok (.iload_n 2, 1) := by decide +kernel
theorem dX12_over_135 : decode cX12_over 135 = .ok (.iaload, 1) := by decide +kernel
theorem dX12_over_136 : decode cX12_over 136 = .ok (.if_icmp .ge 95, 3) := by decide +kernel
theorem dX12_over_139 : decode cX12_over 139 = .ok (.iconst 0, 1) := by decide +kernel
theorem dX12_over_140 : decode cX12_over 140 = .ok (.istore 5, 2) := by decide +kernel
theorem dX12_over_142 : decode cX12_over 142 = .ok (.iload 5, 2) := by decide +kernel
theorem dX12_over_144 : decode cX12_over 144 = .ok (.aload_n 0, 1) := by decide +kernel
theorem dX12_over_145 : decode cX12_over 145 = .ok (.getfield 19, 3) := by decide +kernel
theorem dX12_over_148 : decode cX12_over 148 = .ok (.iload_n 2, 1) := by decide +kernel
theorem dX12_over_149 : decode cX12_over 149 = .ok (.iaload, 1) := by decide +kernel
theorem dX12_over_150 : decode cX12_over 150 = .ok (.if_icmp .ge 75, 3) := by decide +kernel
theorem dX12_over_153 : decode cX12_over 153 = .ok (.iconst 0, 1) := by decide +kernel
theorem dX12_over_154 : decode cX12_over 154 = .ok (.istore 6, 2) := by decide +kernel
theorem dX12_over_156 : decode cX12_over 156 = .ok (.iload 6, 2) := by decide +kernel
theorem dX12_over_158 : decode cX12_over 158 = .ok (.aload_n 0, 1) := by decide +kernel
theorem dX12_over_159 : decode cX12_over 159 = .ok (.getfield 19, 3) := by decide +kernel
theorem dX12_over_162 : decode cX12_over 162 = .ok (.iload_n 3, 1) := by decide +kernel
theorem dX12_over_163 : decode cX12_over 163 = .ok (.iaload, 1) := by decide +kernel
theorem dX12_over_164 : decode cX12_over 164 = .ok (.if_icmp .ge 55, 3) := by decide +kernel
theorem dX12_over_167 : decode cX12_over 167 = .ok (.aload_n 0, 1) := by decide +kernel
theorem dX12_over_168 : decode cX12_over 168 = .ok (.bipush 10, 2) := by decide +kernel
theorem dX12_over_170 : decode cX12_over 170 = .ok (.iload 4, 2) := by decide +kernel
theorem dX12_over_172 : decode cX12_over 172 = .ok (.iload 5, 2) := by decide +kernel
theorem dX12_over_174 : decode cX12_over 174 = .ok (.aload_n 0, 1) := by decide +kernel
theorem dX12_over_175 : decode cX12_over 175 = .ok (.getfield 19, 3) := by decide +kernel
theorem dX12_over_178 : decode cX12_over 178 = .ok (.iload_n 3, 1) := by decide +kernel
theorem dX12_over_179 : decode cX12_over 179 = .ok (.iaload, 1) := by decide +kernel
theorem dX12_over_180 : decode cX12_over 180 = .ok (.imul, 1) := by decide +kernel
theorem dX12_over_181 : decode cX12_over 181 = .ok (.iload 6, 2) := by decide +kernel
theorem dX12_over_183 : decode cX12_over 183 = .ok (.iadd, 1) := by decide +kernel
theorem dX12_over_184 : decode cX12_over 184 = .ok (.aload_n 0, 1) := by decide +kernel
theorem dX12_over_185 : decode cX12_over 185 = .ok (.iload_n 2, 1) := by decide +kernel
theorem dX12_over_186 : decode cX12_over 186 = .ok (.iload 4, 2) := by decide +kernel
theorem dX12_over_188 : decode cX12_over 188 = .ok (.iload 5, 2) := by decide +kernel
theorem dX12_over_190 : decode cX12_over 190 = .ok (.invokevirtual 105, 3) := by decide +kernel
theorem dX12_over_193 : decode cX12_over 193 = .ok (.aload_n 0, 1) := by decide +kernel
theorem dX12_over_194 : decode cX12_over 194 = .ok (.getfield 19, 3) := by decide +kernel
theorem dX12_over_197 : decode cX12_over 197 = .ok (.iload_n 3, 1) := by decide +kernel
theorem dX12_over_198 : decode cX12_over 198 = .ok (.iaload, 1) := by decide +kernel
theorem dX12_over_199 : decode cX12_over 199 = .ok (.imul, 1) := by decide +kernel
theorem dX12_over_200 : decode cX12_over 200 = .ok (.aload_n 0, 1) := by decide +kernel
theorem dX12_over_201 : decode cX12_over 201 = .ok (.iload_n 3, 1) := by decide +kernel
theorem dX12_over_202 : decode cX12_over 202 = .ok (.iload 4, 2) := by decide +kernel
theorem dX12_over_204 : decode cX12_over 204 = .ok (.iload 6, 2) := by decide +kernel
theorem dX12_over_206 : decode cX12_over 206 = .ok (.invokevirtual 105, 3) := by decide +kernel
theorem dX12_over_209 : decode cX12_over 209 = .ok (.iadd, 1) := by decide +kernel
theorem dX12_over_210 : decode cX12_over 210 = .ok (.invokevirtual 127, 3) := by decide +kernel
theorem dX12_over_213 : decode cX12_over 213 = .ok (.iinc 6 1, 3) := by decide +kernel
theorem dX12_over_216 : decode cX12_over 216 = .ok (.goto (-60), 3) := by decide +kernel
theorem dX12_over_219 : decode cX12_over 219 = .ok (.iinc 5 1, 3) := by decide +kernel
theorem dX12_over_222 : decode cX12_over 222 = .ok (.goto (-80), 3) := by decide +kernel
theorem dX12_over_225 : decode cX12_over 225 = .ok (.iinc 4 1, 3) := by decide +kernel
theorem dX12_over_228 : decode cX12_over 228 = .ok (.goto (-100), 3) := by decide +kernel
theorem dX12_over_231 : decode cX12_over 231 = .ok (.aload_n 0, 1) := by decide +kernel
theorem dX12_over_232 : decode cX12_over 232 = .ok (.iload_n 1, 1) := by decide +kernel
theorem dX12_over_233 : decode cX12_over 233 = .ok (.invokevirtual 131, 3) := by decide +kernel
theorem dX12_over_236 : decode cX12_over 236 = .ok (.ireturn, 1) := by decide +kernel
theorem dX12_clear_0 : decode cX12_clear 0 = .ok (.aload_n 0, 1) := by decide +kernel
theorem dX12_clear_1 : decode cX12_clear 1 = .ok (.iconst 0, 1) := by decide +kernel
theorem dX12_clear_2 : decode cX12_clear 2 = .ok (.putfield 78, 3) := by decide +kernel
theorem dX12_clear_5 : decode cX12_clear 5 = .ok (.iload_n 1, 1) := by decide +kernel
theorem dX12_clear_6 : decode cX12_clear 6 = .ok (.invokestatic 120, 3) := by decide +kernel
theorem dX12_clear_9 : decode cX12_clear 9 = .ok (.ifCond .ne 6, 3) := by decide +kernel
theorem dX12_clear_12 : decode cX12_clear 12 = .ok (.ldc 98, 2) := by decide +kernel
theorem dX12_clear_14 : decode cX12_clear 14 = .ok (.ireturn, 1) := by decide +kernel
theorem dX12_clear_15 : decode cX12_clear 15 = .ok (.aload_n 0, 1) := by decide +kernel
theorem dX12_clear_16 : decode cX12_clear 16 = .ok (.getfield 19, 3) := by decide +kernel
theorem dX12_clear_19 : decode cX12_clear 19 = .ok (.iload_n 1, 1) := by decide +kernel
theorem dX12_clear_20 : decode cX12_clear 20 = .ok (.iaload, 1) := by decide +kernel
theorem dX12_clear_21 : decode cX12_clear 21 = .ok (.ifCond .le 7, 3) := by decide +kernel
theorem dX12_clear_24 : decode cX12_clear 24 = .ok (.iconst 1, 1) := by decide +kernel
theorem dX12_clear_25 : decode cX12_clear 25 = .ok (.goto 4, 3) := by decide +kernel
theorem dX12_clear_28 : decode cX12_clear 28 = .ok (.iconst 0, 1) := by decide +kernel
theorem dX12_clear_29 : decode cX12_clear 29 = .ok (.istore_n 2, 1) := by decide +kernel
theorem dX12_clear_30 : decode cX12_clear 30 = .ok (.aload_n 0, 1) := by decide +kernel
theorem dX12_clear_31 : decode cX12_clear 31 = .ok (.getfield 19, 3) := by decide +kernel
theorem dX12_clear_34 : decode cX12_clear 34 = .ok (.iload_n 1, 1) := by decide +kernel
theorem dX12_clear_35 : decode cX12_clear 35 = .ok (.iconst 0, 1) := by decide +kernel
theorem dX12_clear_36 : decode cX12_clear 36 = .ok (.iastore, 1) := by decide +kernel
theorem dX12_clear_37 : decode cX12_clear 37 = .ok (.iload_n 2, 1) := by decide +kernel
theorem dX12_clear_38 : decode cX12_clear 38 = .ok (.ifCond .eq 7, 3) := by decide +kernel
theorem dX12_clear_41 : decode cX12_clear 41 = .ok (.iconst 1, 1) := by decide +kernel
theorem dX12_clear_42 : decode cX12_clear 42 = .ok (.goto 4, 3) := by decide +kernel
theorem dX12_clear_45 : decode cX12_clear 45 = .ok (.iconst 0, 1) := by decide +kernel
theorem dX12_clear_46 : decode cX12_clear 46 = .ok (.ireturn, 1) := by decide +kernel
theorem dX12_sift_0 : decode cX12_sift 0 = .ok (.iconst 0, 1) := by decide +kernel
theorem dX12_sift_1 : decode cX12_sift 1 = .ok (.istore_n 2, 1) := by decide +kernel
theorem dX12_sift_2 : decode cX12_sift 2 = .ok (.iload_n 2, 1) := by decide +kernel
theorem dX12_sift_3 : decode cX12_sift 3 = .ok (.iload_n 1, 1) := by decide +kernel
theorem dX12_sift_4 : decode cX12_sift 4 = .ok (.if_icmp .ge 169, 3) := by decide +kernel
theorem dX12_sift_7 : decode cX12_sift 7 = .ok (.aload_n 0, 1) := by decide +kernel
theorem dX12_sift_8 : decode cX12_sift 8 = .ok (.getfield 53, 3) := by decide +kernel
theorem dX12_sift_11 : decode cX12_sift 11 = .ok (.iload_n 2, 1) := by decide +kernel
theorem dX12_sift_12 : decode cX12_sift 12 = .ok (.iaload, 1) := by decide +kernel
theorem dX12_sift_13 : decode cX12_sift 13 = .ok (.istore_n 3, 1) := by decide +kernel
theorem dX12_sift_14 : decode cX12_sift 14 = .ok (.iload_n 3, 1) := by decide +kernel
theorem dX12_sift_15 : decode cX12_sift 15 = .ok (.iload_n 2, 1) := by decide +kernel
theorem dX12_sift_16 : decode cX12_sift 16 = .ok (.if_icmp .eq 151, 3) := by decide +kernel
theorem dX12_sift_19 : decode cX12_sift 19 = .ok (.bipush 12, 2) := by decide +kernel
theorem dX12_sift_21 : decode cX12_sift 21 = .ok (.iload_n 2, 1) := by decide +kernel
theorem dX12_sift_22 : decode cX12_sift 22 = .ok (.imul, 1) := by decide +kernel
theorem dX12_sift_23 : decode cX12_sift 23 = .ok (.iload_n 3, 1) := by decide +kernel
theorem dX12_sift_24 : decode cX12_sift 24 = .ok (.iadd, 1) := by decide +kernel
theorem dX12_sift_25 : decode cX12_sift 25 = .ok (.istore 4, 2) := by decide +kernel
theorem dX12_sift_27 : decode cX12_sift 27 = .ok (.aload_n 0, 1) := by decide +kernel
theorem dX12_sift_28 : decode cX12_sift 28 = .ok (.getfield 47, 3) := by decide +kernel
theorem dX12_sift_31 : decode cX12_sift 31 = .ok (.iload 4, 2) := by decide +kernel
theorem dX12_sift_33 : decode cX12_sift 33 = .ok (.baload, 1) := by decide +kernel
theorem dX12_sift_34 : decode cX12_sift 34 = .ok (.ifCond .ne 48, 3) := by decide +kernel
theorem dX12_sift_37 : decode cX12_sift 37 = .ok (.aload_n 0, 1) := by decide +kernel
theorem dX12_sift_38 : decode cX12_sift 38 = .ok (.getfield 47, 3) := by decide +kernel
theorem dX12_sift_41 : decode cX12_sift 41 = .ok (.iload 4, 2) := by decide +kernel
theorem dX12_sift_43 : decode cX12_sift 43 = .ok (.iconst 1, 1) := by decide +kernel
theorem dX12_sift_44 : decode cX12_sift 44 = .ok (.bastore, 1) := by decide +kernel
theorem dX12_sift_45 : decode cX12_sift 45 = .ok (.iconst 0, 1) := by decide +kernel
theorem dX12_sift_46 : decode cX12_sift 46 = .ok (.istore 5, 2) := by decide +kernel
theorem dX12_sift_48 : decode cX12_sift 48 = .ok (.iload 5, 2) := by decide +kernel
theorem dX12_sift_50 : decode cX12_sift 50 = .ok (.iload_n 1, 1) := by decide +kernel
theorem dX12_sift_51 : decode cX12_sift 51 = .ok (.if_icmp .ge 29, 3) := by decide +kernel
theorem dX12_sift_54 : decode cX12_sift 54 = .ok (.aload_n 0, 1) := by decide +kernel
theorem dX12_sift_55 : decode cX12_sift 55 = .ok (.getfield 50, 3) := by decide +kernel
theorem dX12_sift_58 : decode cX12_sift 58 = .ok (.bipush 12, 2) := by decide +kernel
theorem dX12_sift_60 : decode cX12_sift 60 = .ok (.iload 4, 2) := by decide +kernel
theorem dX12_sift_62 : decode cX12_sift 62 = .ok (.imul, 1) := by decide +kernel
theorem dX12_sift_63 : decode cX12_sift 63 = .ok (.iload 5, 2) := by decide +kernel
theorem dX12_sift_65 : decode cX12_sift 65 = .ok (.iadd, 1) := by decide +kernel
theorem dX12_sift_66 : decode cX12_sift 66 = .ok (.aload_n 0, 1) := by decide +kernel
theorem dX12_sift_67 : decode cX12_sift 67 = .ok (.getfield 53, 3) := by decide +kernel
theorem dX12_sift_70 : decode cX12_sift 70 = .ok (.iload 5, 2) := by decide +kernel
theorem dX12_sift_72 : decode cX12_sift 72 = .ok (.iaload, 1) := by decide +kernel
theorem dX12_sift_73 : decode cX12_sift 73 = .ok (.iastore, 1) := by decide +kernel
theorem dX12_sift_74 : decode cX12_sift 74 = .ok (.iinc 5 1, 3) := by decide +kernel
theorem dX12_sift_77 : decode cX12_sift 77 = .ok (.goto (-29), 3) := by decide +kernel
theorem dX12_sift_80 : decode cX12_sift 80 = .ok (.iconst 1, 1) := by decide +kernel
theorem dX12_sift_81 : decode cX12_sift 81 = .ok (.ireturn, 1) := by decide +kernel
theorem dX12_sift_82 : decode cX12_sift 82 = .ok (.iconst 0, 1) := by decide +kernel
theorem dX12_sift_83 : decode cX12_sift 83 = .ok (.istore 5, 2) := by decide +kernel
theorem dX12_sift_85 : decode cX12_sift 85 = .ok (.iload 5, 2) := by decide +kernel
theorem dX12_sift_87 : decode cX12_sift 87 = .ok (.iload_n 1, 1) := by decide +kernel
theorem dX12_sift_88 : decode cX12_sift 88 = .ok (.if_icmp .ge 50, 3) := by decide +kernel
theorem dX12_sift_91 : decode cX12_sift 91 = .ok (.iconst 0, 1) := by decide +kernel
theorem dX12_sift_92 : decode cX12_sift 92 = .ok (.istore 6, 2) := by decide +kernel
theorem dX12_sift_94 : decode cX12_sift 94 = .ok (.aload_n 0, 1) := by decide +kernel
theorem dX12_sift_95 : decode cX12_sift 95 = .ok (.getfield 50, 3) := by decide +kernel
theorem dX12_sift_98 : decode cX12_sift 98 = .ok (.bipush 12, 2) := by decide +kernel
theorem dX12_sift_100 : decode cX12_sift 100 = .ok (.iload 4, 2) := by decide +kernel
theorem dX12_sift_102 : decode cX12_sift 102 = .ok (.imul, 1) := by decide +kernel
theorem dX12_sift_103 : decode cX12_sift 103 = .ok (.iload 6, 2) := by decide +kernel
theorem dX12_sift_105 : decode cX12_sift 105 = .ok (.iadd, 1) := by decide +kernel
theorem dX12_sift_106 : decode cX12_sift 106 = .ok (.iaload, 1) := by decide +kernel
theorem dX12_sift_107 : decode cX12_sift 107 = .ok (.aload_n 0, 1) := by decide +kernel
theorem dX12_sift_108 : decode cX12_sift 108 = .ok (.getfield 53, 3) := by decide +kernel
theorem dX12_sift_111 : decode cX12_sift 111 = .ok (.iload 5, 2) := by decide +kernel
theorem dX12_sift_113 : decode cX12_sift 113 = .ok (.iaload, 1) := by decide +kernel
theorem dX12_sift_114 : decode cX12_sift 114 = .ok (.if_icmp .eq 9, 3) := by decide +kernel
theorem dX12_sift_117 : decode cX12_sift 117 = .ok (.iinc 6 1, 3) := by decide +kernel
theorem dX12_sift_120 : decode cX12_sift 120 = .ok (.goto (-26), 3) := by decide +kernel
theorem dX12_sift_123 : decode cX12_sift 123 = .ok (.aload_n 0, 1) := by decide +kernel
theorem dX12_sift_124 : decode cX12_sift 124 = .ok (.getfield 56, 3) := by decide +kernel
theorem dX12_sift_127 : decode cX12_sift 127 = .ok (.iload 5, 2) := by decide +kernel
theorem dX12_sift_129 : decode cX12_sift 129 = .ok (.iload 6, 2) := by decide +kernel
theorem dX12_sift_131 : decode cX12_sift 131 = .ok (.iastore, 1) := by decide +kernel
theorem dX12_sift_132 : decode cX12_sift 132 = .ok (.iinc 5 1, 3) := by decide +kernel
theorem dX12_sift_135 : decode cX12_sift 135 = .ok (.goto (-50), 3) := by decide +kernel
theorem dX12_sift_138 : decode cX12_sift 138 = .ok (.iconst 0, 1) := by decide +kernel
theorem dX12_sift_139 : decode cX12_sift 139 = .ok (.istore 5, 2) := by decide +kernel
theorem dX12_sift_141 : decode cX12_sift 141 = .ok (.iload 5, 2) := by decide +kernel
theorem dX12_sift_143 : decode cX12_sift 143 = .ok (.iload_n 1, 1) := by decide +kernel
theorem dX12_sift_144 : decode cX12_sift 144 = .ok (.if_icmp .ge 23, 3) := by decide +kernel
theorem dX12_sift_147 : decode cX12_sift 147 = .ok (.aload_n 0, 1) := by decide +kernel
theorem dX12_sift_148 : decode cX12_sift 148 = .ok (.getfield 53, 3) := by decide +kernel
theorem dX12_sift_151 : decode cX12_sift 151 = .ok (.iload 5, 2) := by decide +kernel
theorem dX12_sift_153 : decode cX12_sift 153 = .ok (.aload_n 0, 1) := by decide +kernel
theorem dX12_sift_154 : decode cX12_sift 154 = .ok (.getfield 56, 3) := by decide +kernel
theorem dX12_sift_157 : decode cX12_sift 157 = .ok (.iload 5, 2) := by decide +kernel
theorem dX12_sift_159 : decode cX12_sift 159 = .ok (.iaload, 1) := by decide +kernel
theorem dX12_sift_160 : decode cX12_sift 160 = .ok (.iastore, 1) := by decide +kernel
theorem dX12_sift_161 : decode cX12_sift 161 = .ok (.iinc 5 1, 3) := by decide +kernel
theorem dX12_sift_164 : decode cX12_sift 164 = .ok (.goto (-23), 3) := by decide +kernel
theorem dX12_sift_167 : decode cX12_sift 167 = .ok (.iinc 2 1, 3) := by decide +kernel
theorem dX12_sift_170 : decode cX12_sift 170 = .ok (.goto (-168), 3) := by decide +kernel
theorem dX12_sift_173 : decode cX12_sift 173 = .ok (.iconst 0, 1) := by decide +kernel
theorem dX12_sift_174 : decode cX12_sift 174 = .ok (.ireturn, 1) := by decide +kernel
theorem dX12_heap_0 : decode cX12_heap 0 = .ok (.aload_n 0, 1) := by decide +kernel
theorem dX12_heap_1 : decode cX12_heap 1 = .ok (.getfield 19, 3) := by decide +kernel
theorem dX12_heap_4 : decode cX12_heap 4 = .ok (.iload_n 1, 1) := by decide +kernel
theorem dX12_heap_5 : decode cX12_heap 5 = .ok (.iaload, 1) := by decide +kernel
theorem dX12_heap_6 : decode cX12_heap 6 = .ok (.istore_n 2, 1) := by decide +kernel
theorem dX12_heap_7 : decode cX12_heap 7 = .ok (.iconst 0, 1) := by decide +kernel
theorem dX12_heap_8 : decode cX12_heap 8 = .ok (.istore_n 3, 1) := by decide +kernel
theorem dX12_heap_9 : decode cX12_heap 9 = .ok (.iload_n 3, 1) := by decide +kernel
theorem dX12_heap_10 : decode cX12_heap 10 = .ok (.sipush 144, 3) := by decide +kernel
theorem dX12_heap_13 : decode cX12_heap 13 = .ok (.if_icmp .ge 16, 3) := by decide +kernel
theorem dX12_heap_16 : decode cX12_heap 16 = .ok (.aload_n 0, 1) := by decide +kernel
theorem dX12_heap_17 : decode cX12_heap 17 = .ok (.getfield 47, 3) := by decide +kernel
theorem dX12_heap_20 : decode cX12_heap 20 = .ok (.iload_n 3, 1) := by decide +kernel
theorem dX12_heap_21 : decode cX12_heap 21 = .ok (.iconst 0, 1) := by decide +kernel
theorem dX12_heap_22 : decode cX12_heap 22 = .ok (.bastore, 1) := by decide +kernel
theorem dX12_heap_23 : decode cX12_heap 23 = .ok (.iinc 3 1, 3) := by decide +kernel
theorem dX12_heap_26 : decode cX12_heap 26 = .ok (.goto (-17), 3) := by decide +kernel
theorem dX12_heap_29 : decode cX12_heap 29 = .ok (.iconst 0, 1) := by decide +kernel
theorem dX12_heap_30 : decode cX12_heap 30 = .ok (.istore_n 3, 1) := by decide +kernel
theorem dX12_heap_31 : decode cX12_heap 31 = .ok (.iload_n 3, 1) := by decide +kernel
theorem dX12_heap_32 : decode cX12_heap 32 = .ok (.aload_n 0, 1) := by decide +kernel
theorem dX12_heap_33 : decode cX12_heap 33 = .ok (.getfield 22, 3) := by decide +kernel
theorem dX12_heap_36 : decode cX12_heap 36 = .ok (.iload_n 1, 1) := by decide +kernel
theorem dX12_heap_37 : decode cX12_heap 37 = .ok (.iaload, 1) := by decide +kernel
theorem dX12_heap_38 : decode cX12_heap 38 = .ok (.if_icmp .ge 46, 3) := by decide +kernel
theorem dX12_heap_41 : decode cX12_heap 41 = .ok (.iconst 0, 1) := by decide +kernel
theorem dX12_heap_42 : decode cX12_heap 42 = .ok (.istore 4, 2) := by decide +kernel
theorem dX12_heap_44 : decode cX12_heap 44 = .ok (.iload 4, 2) := by decide +kernel
theorem dX12_heap_46 : decode cX12_heap 46 = .ok (.iload_n 2, 1) := by decide +kernel
theorem dX12_heap_47 : decode cX12_heap 47 = .ok (.if_icmp .ge 24, 3) := by decide +kernel
theorem dX12_heap_50 : decode cX12_heap 50 = .ok (.aload_n 0, 1) := by decide +kernel
theorem dX12_heap_51 : decode cX12_heap 51 = .ok (.getfield 53, 3) := by decide +kernel
theorem dX12_heap_54 : decode cX12_heap 54 = .ok (.iload 4, 2) := by decide +kernel
theorem dX12_heap_56 : decode cX12_heap 56 = .ok (.aload_n 0, 1) := by decide +kernel
theorem dX12_heap_57 : decode cX12_heap 57 = .ok (.iload_n 1, 1) := by decide +kernel
theorem dX12_heap_58 : decode cX12_heap 58 = .ok (.iload_n 3, 1) := by decide +kernel
theorem dX12_heap_59 : decode cX12_heap 59 = .ok (.iload 4, 2) := by decide +kernel
theorem dX12_heap_61 : decode cX12_heap 61 = .ok (.invokevirtual 105, 3) := by decide +kernel
theorem dX12_heap_64 : decode cX12_heap 64 = .ok (.iastore, 1) := by decide +kernel
theorem dX12_heap_65 : decode cX12_heap 65 = .ok (.iinc 4 1, 3) := by decide +kernel
theorem dX12_heap_68 : decode cX12_heap 68 = .ok (.goto (-24), 3) := by decide +kernel
theorem dX12_heap_71 : decode cX12_heap 71 = .ok (.aload_n 0, 1) := by decide +kernel
theorem dX12_heap_72 : decode cX12_heap 72 = .ok (.iload_n 2, 1) := by decide +kernel
theorem dX12_heap_73 : decode cX12_heap 73 = .ok (.invokevirtual 168, 3) := by decide +kernel
theorem dX12_heap_76 : decode cX12_heap 76 = .ok (.istore 4, 2) := by decide +kernel
theorem dX12_heap_78 : decode cX12_heap 78 = .ok (.iinc 3 1, 3) := by decide +kernel
theorem dX12_heap_81 : decode cX12_heap 81 = .ok (.goto (-50), 3) := by decide +kernel
theorem dX12_heap_84 : decode cX12_heap 84 = .ok (.iconst 1, 1) := by decide +kernel
theorem dX12_heap_85 : decode cX12_heap 85 = .ok (.istore_n 3, 1) := by decide +kernel
theorem dX12_heap_86 : decode cX12_heap 86 = .ok (.iload_n 3, 1) := by decide +kernel
theorem dX12_heap_87 : decode cX12_heap 87 = .ok (.ifCond .eq 126, 3) := by decide +kernel
theorem dX12_heap_90 : decode cX12_heap 90 = .ok (.iconst 0, 1) := by decide +kernel
theorem dX12_heap_91 : decode cX12_heap 91 = .ok (.istore_n 3, 1) := by decide +kernel
theorem dX12_heap_92 : decode cX12_heap 92 = .ok (.iconst 0, 1) := by decide +kernel
theorem dX12_heap_93 : decode cX12_heap 93 = .ok (.istore 4, 2) := by decide +kernel
theorem dX12_heap_95 : decode cX12_heap 95 = .ok (.iload 4, 2) := by decide +kernel
theorem dX12_heap_97 : decode cX12_heap 97 = .ok (.sipush 144, 3) := by decide +kernel
theorem dX12_heap_100 : decode cX12_heap 100 = .ok (.if_icmp .ge 110, 3) := by decide +kernel
theorem dX12_heap_103 : decode cX12_heap 103 = .ok (.iconst 0, 1) := by decide +kernel
theorem dX12_heap_104 : decode cX12_heap 104 = .ok (.istore 5, 2) := by decide +kernel
theorem dX12_heap_106 : decode cX12_heap 106 = .ok (.iload 5, 2) := by decide +kernel
theorem dX12_heap_108 : decode cX12_heap 108 = .ok (.sipush 144, 3) := by decide +kernel
theorem dX12_heap_111 : decode cX12_heap 111 = .ok (.if_icmp .ge 93, 3) := by decide +kernel
theorem dX12_heap_114 : decode cX12_heap 114 = .ok (.aload_n 0, 1) := by decide +kernel
theorem dX12_heap_115 : decode cX12_heap 115 = .ok (.getfield 47, 3) := by decide +kernel
theorem dX12_heap_118 : decode cX12_heap 118 = .ok (.iload 4, 2) := by decide +kernel
theorem dX12_heap_120 : decode cX12_heap 120 = .ok (.baload, 1) := by decide +kernel
theorem dX12_heap_121 : decode cX12_heap 121 = .ok (.ifCond .eq 83, 3) := by decide +kernel
theorem dX12_heap_124 : decode cX12_heap 124 = .ok (.aload_n 0, 1) := by decide +kernel
theorem dX12_heap_125 : decode cX12_heap 125 = .ok (.getfield 47, 3) := by decide +kernel
theorem dX12_heap_128 : decode cX12_heap 128 = .ok (.iload 5, 2) := by decide +kernel
theorem dX12_heap_130 : decode cX12_heap 130 = .ok (.baload, 1) := by decide +kernel
theorem dX12_heap_131 : decode cX12_heap 131 = .ok (.ifCond .eq 67, 3) := by decide +kernel
theorem dX12_heap_134 : decode cX12_heap 134 = .ok (.iconst 0, 1) := by decide +kernel
theorem dX12_heap_135 : decode cX12_heap 135 = .ok (.istore 6, 2) := by decide +kernel
theorem dX12_heap_137 : decode cX12_heap 137 = .ok (.iload 6, 2) := by decide +kernel
theorem dX12_heap_139 : decode cX12_heap 139 = .ok (.iload_n 2, 1) := by decide +kernel
theorem dX12_heap_140 : decode cX12_heap 140 = .ok (.if_icmp .ge 40, 3) := by decide +kernel
theorem dX12_heap_143 : decode cX12_heap 143 = .ok (.aload_n 0, 1) := by decide +kernel
theorem dX12_heap_144 : decode cX12_heap 144 = .ok (.getfield 53, 3) := by decide +kernel
theorem dX12_heap_147 : decode cX12_heap 147 = .ok (.iload 6, 2) := by decide +kernel
theorem dX12_heap_149 : decode cX12_heap 149 = .ok (.aload_n 0, 1) := by decide +kernel
theorem dX12_heap_150 : decode cX12_heap 150 = .ok (.getfield 50, 3) := by decide +kernel
theorem dX12_heap_153 : decode cX12_heap 153 = .ok (.bipush 12, 2) := by decide +kernel
theorem dX12_heap_155 : decode cX12_heap 155 = .ok (.iload 5, 2) := by decide +kernel
theorem dX12_heap_157 : decode cX12_heap 157 = .ok (.imul, 1) := by decide +kernel
theorem dX12_heap_158 : decode cX12_heap 158 = .ok (.aload_n 0, 1) := by decide +kernel
theorem dX12_heap_159 : decode cX12_heap 159 = .ok (.getfield 50, 3) := by decide +kernel
theorem dX12_heap_162 : decode cX12_heap 162 = .ok (.bipush 12, 2) := by decide +kernel
theorem dX12_heap_164 : decode cX12_heap 164 = .ok (.iload 4, 2) := by decide +kernel
theorem dX12_heap_166 : decode cX12_heap 166 = .ok (.imul, 1) := by decide +kernel
theorem dX12_heap_167 : decode cX12_heap 167 = .ok (.iload 6, 2) := by decide +kernel
theorem dX12_heap_169 : decode cX12_heap 169 = .ok (.iadd, 1) := by decide +kernel
theorem dX12_heap_170 : decode cX12_heap 170 = .ok (.iaload, 1) := by decide +kernel
theorem dX12_heap_171 : decode cX12_heap 171 = .ok (.iadd, 1) := by decide +kernel
theorem dX12_heap_172 : decode cX12_heap 172 = .ok (.iaload, 1) := by decide +kernel
theorem dX12_heap_173 : decode cX12_heap 173 = .ok (.iastore, 1) := by decide +kernel
theorem dX12_heap_174 : decode cX12_heap 174 = .ok (.iinc 6 1, 3) := by decide +kernel
theorem dX12_heap_177 : decode cX12_heap 177 = .ok (.goto (-40), 3) := by decide +kernel
theorem dX12_heap_180 : decode cX12_heap 180 = .ok (.aload_n 0, 1) := by decide +kernel
theorem dX12_heap_181 : decode cX12_heap 181 = .ok (.iload_n 2, 1) := by decide +kernel
theorem dX12_heap_182 : decode cX12_heap 182 = .ok (.invokevirtual 168, 3) := by decide +kernel
theorem dX12_heap_185 : decode cX12_heap 185 = .ok (.ifCond .ne 7, 3) := by decide +kernel
theorem dX12_heap_188 : decode cX12_heap 188 = .ok (.iload_n 3, 1) := by decide +kernel
theorem dX12_heap_189 : decode cX12_heap 189 = .ok (.ifCond .eq 7, 3) := by decide +kernel
theorem dX12_heap_192 : decode cX12_heap 192 = .ok (.iconst 1, 1) := by decide +kernel
theorem dX12_heap_193 : decode cX12_heap 193 = .ok (.goto 4, 3) := by decide +kernel
theorem dX12_heap_196 : decode cX12_heap 196 = .ok (.iconst 0, 1) := by decide +kernel
theorem dX12_heap_197 : decode cX12_heap 197 = .ok (.istore_n 3, 1) := by decide +kernel
theorem dX12_heap_198 : decode cX12_heap 198 = .ok (.iinc 5 1, 3) := by decide +kernel
theorem dX12_heap_201 : decode cX12_heap 201 = .ok (.goto (-95), 3) := by decide +kernel
theorem dX12_heap_204 : decode cX12_heap 204 = .ok (.iinc 4 1, 3) := by decide +kernel
theorem dX12_heap_207 : decode cX12_heap 207 = .ok (.goto (-112), 3) := by decide +kernel
theorem dX12_heap_210 : decode cX12_heap 210 = .ok (.goto (-124), 3) := by decide +kernel
theorem dX12_heap_213 : decode cX12_heap 213 = .ok (.iconst 1, 1) := by decide +kernel
theorem dX12_heap_214 : decode cX12_heap 214 = .ok (.istore 4, 2) := by decide +kernel
theorem dX12_heap_216 : decode cX12_heap 216 = .ok (.iconst 0, 1) := by decide +kernel
theorem dX12_heap_217 : decode cX12_heap 217 = .ok (.istore 5, 2) := by decide +kernel
theorem dX12_heap_219 : decode cX12_heap 219 = .ok (.iload 5, 2) := by decide +kernel
theorem dX12_heap_221 : decode cX12_heap 221 = .ok (.iload_n 2, 1) := by decide +kernel
theorem dX12_heap_222 : decode cX12_heap 222 = .ok (.if_icmp .ge 60, 3) := by decide +kernel
theorem dX12_heap_225 : decode cX12_heap 225 = .ok (.iconst 1, 1) := by decide +kernel
theorem dX12_heap_226 : decode cX12_heap 226 = .ok (.istore 6, 2) := by decide +kernel
theorem dX12_heap_228 : decode cX12_heap 228 = .ok (.iconst 0, 1) := by decide +kernel
theorem dX12_heap_229 : decode cX12_heap 229 = .ok (.istore 7, 2) := by decide +kernel
theorem dX12_heap_231 : decode cX12_heap 231 = .ok (.iload 7, 2) := by decide +kernel
theorem dX12_heap_233 : decode cX12_heap 233 = .ok (.iload_n 2, 1) := by decide +kernel
theorem dX12_heap_234 : decode cX12_heap 234 = .ok (.if_icmp .ge 35, 3) := by decide +kernel
theorem dX12_heap_237 : decode cX12_heap 237 = .ok (.iload 6, 2) := by decide +kernel
theorem dX12_heap_239 : decode cX12_heap 239 = .ok (.aload_n 0, 1) := by decide +kernel
theorem dX12_heap_240 : decode cX12_heap 240 = .ok (.getfield 47, 3) := by decide +kernel
theorem dX12_heap_243 : decode cX12_heap 243 = .ok (.bipush 12, 2) := by decide +kernel
theorem dX12_heap_245 : decode cX12_heap 245 = .ok (.iload 5, 2) := by decide +kernel
theorem dX12_heap_247 : decode cX12_heap 247 = .ok (.imul, 1) := by decide +kernel
theorem dX12_heap_248 : decode cX12_heap 248 = .ok (.iload 7, 2) := by decide +kernel
theorem dX12_heap_250 : decode cX12_heap 250 = .ok (.iadd, 1) := by decide +kernel
theorem dX12_heap_251 : decode cX12_heap 251 = .ok (.baload, 1) := by decide +kernel
theorem dX12_heap_252 : decode cX12_heap 252 = .ok (.ifCond .eq 7, 3) := by decide +kernel
theorem dX12_heap_255 : decode cX12_heap 255 = .ok (.iconst 1, 1) := by decide +kernel
theorem dX12_heap_256 : decode cX12_heap 256 = .ok (.goto 4, 3) := by decide +kernel
theorem dX12_heap_259 : decode cX12_heap 259 = .ok (.iconst 0, 1) := by decide +kernel
theorem dX12_heap_260 : decode cX12_heap 260 = .ok (.iadd, 1) := by decide +kernel
theorem dX12_heap_261 : decode cX12_heap 261 = .ok (.istore 6, 2) := by decide +kernel
theorem dX12_heap_263 : decode cX12_heap 263 = .ok (.iinc 7 1, 3) := by decide +kernel
theorem dX12_heap_266 : decode cX12_heap 266 = .ok (.goto (-35), 3) := by decide +kernel
theorem dX12_heap_269 : decode cX12_heap 269 = .ok (.iload 4, 2) := by decide +kernel
theorem dX12_heap_271 : decode cX12_heap 271 = .ok (.iload 6, 2) := by decide +kernel
theorem dX12_heap_273 : decode cX12_heap 273 = .ok (.imul, 1) := by decide +kernel
theorem dX12_heap_274 : decode cX12_heap 274 = .ok (.istore 4, 2) := by decide +kernel
theorem dX12_heap_276 : decode cX12_heap 276 = .ok (.iinc 5 1, 3) := by decide +kernel
theorem dX12_heap_279 : decode cX12_heap 279 = .ok (.goto (-60), 3) := by decide +kernel
theorem dX12_heap_282 : decode cX12_heap 282 = .ok (.iload 4, 2) := by decide +kernel
theorem dX12_heap_284 : decode cX12_heap 284 = .ok (.ireturn, 1) := by decide +kernel
theorem dX12_told_0 : decode cX12_told 0 = .ok (.aload_n 0, 1) := by decide +kernel
theorem dX12_told_1 : decode cX12_told 1 = .ok (.iconst 0, 1) := by decide +kernel
theorem dX12_told_2 : decode cX12_told 2 = .ok (.putfield 78, 3) := by decide +kernel
theorem dX12_told_5 : decode cX12_told 5 = .ok (.iload_n 1, 1) := by decide +kernel
theorem dX12_told_6 : decode cX12_told 6 = .ok (.invokestatic 120, 3) := by decide +kernel
theorem dX12_told_9 : decode cX12_told 9 = .ok (.ifCond .eq 15, 3) := by decide +kernel
theorem dX12_told_12 : decode cX12_told 12 = .ok (.iload_n 2, 1) := by decide +kernel
theorem dX12_told_13 : decode cX12_told 13 = .ok (.i2l, 1) := by decide +kernel
theorem dX12_told_14 : decode cX12_told 14 = .ok (.lconst 0, 1) := by decide +kernel
theorem dX12_told_15 : decode cX12_told 15 = .ok (.ldc2_w 171, 3) := by decide +kernel
theorem dX12_told_18 : decode cX12_told 18 = .ok (.invokestatic 88, 3) := by decide +kernel
theorem dX12_told_21 : decode cX12_told 21 = .ok (.ifCond .ne 6, 3) := by decide +kernel
theorem dX12_told_24 : decode cX12_told 24 = .ok (.ldc 98, 2) := by decide +kernel
theorem dX12_told_26 : decode cX12_told 26 = .ok (.ireturn, 1) := by decide +kernel
theorem dX12_told_27 : decode cX12_told 27 = .ok (.aload_n 0, 1) := by decide +kernel
theorem dX12_told_28 : decode cX12_told 28 = .ok (.iload_n 1, 1) := by decide +kernel
theorem dX12_told_29 : decode cX12_told 29 = .ok (.iload_n 2, 1) := by decide +kernel
theorem dX12_told_30 : decode cX12_told 30 = .ok (.iconst 3, 1) := by decide +kernel
theorem dX12_told_31 : decode cX12_told 31 = .ok (.if_icmp .eq 8, 3) := by decide +kernel
theorem dX12_told_34 : decode cX12_told 34 = .ok (.iload_n 2, 1) := by decide +kernel
theorem dX12_told_35 : decode cX12_told 35 = .ok (.iconst 4, 1) := by decide +kernel
theorem dX12_told_36 : decode cX12_told 36 = .ok (.if_icmp .ne 7, 3) := by decide +kernel
theorem dX12_told_39 : decode cX12_told 39 = .ok (.iconst 1, 1) := by decide +kernel
theorem dX12_told_40 : decode cX12_told 40 = .ok (.goto 4, 3) := by decide +kernel
theorem dX12_told_43 : decode cX12_told 43 = .ok (.iconst 0, 1) := by decide +kernel
theorem dX12_told_44 : decode cX12_told 44 = .ok (.invokevirtual 137, 3) := by decide +kernel
theorem dX12_told_47 : decode cX12_told 47 = .ok (.istore_n 3, 1) := by decide +kernel
theorem dX12_told_48 : decode cX12_told 48 = .ok (.iload_n 3, 1) := by decide +kernel
theorem dX12_told_49 : decode cX12_told 49 = .ok (.ifCond .ge 5, 3) := by decide +kernel
theorem dX12_told_52 : decode cX12_told 52 = .ok (.iload_n 3, 1) := by decide +kernel
theorem dX12_told_53 : decode cX12_told 53 = .ok (.ireturn, 1) := by decide +kernel
theorem dX12_told_54 : decode cX12_told 54 = .ok (.aload_n 0, 1) := by decide +kernel
theorem dX12_told_55 : decode cX12_told 55 = .ok (.getfield 19, 3) := by decide +kernel
theorem dX12_told_58 : decode cX12_told 58 = .ok (.iload_n 1, 1) := by decide +kernel
theorem dX12_told_59 : decode cX12_told 59 = .ok (.iaload, 1) := by decide +kernel
theorem dX12_told_60 : decode cX12_told 60 = .ok (.istore 4, 2) := by decide +kernel
theorem dX12_told_62 : decode cX12_told 62 = .ok (.iload_n 2, 1) := by decide +kernel
theorem dX12_told_63 : decode cX12_told 63 = .ok (.iconst 3, 1) := by decide +kernel
theorem dX12_told_64 : decode cX12_told 64 = .ok (.if_icmp .ne 51, 3) := by decide +kernel
theorem dX12_told_67 : decode cX12_told 67 = .ok (.iconst 2, 1) := by decide +kernel
theorem dX12_told_68 : decode cX12_told 68 = .ok (.iconst 2, 1) := by decide +kernel
theorem dX12_told_69 : decode cX12_told 69 = .ok (.iload 4, 2) := by decide +kernel
theorem dX12_told_71 : decode cX12_told 71 = .ok (.imul, 1) := by decide +kernel
theorem dX12_told_72 : decode cX12_told 72 = .ok (.isub, 1) := by decide +kernel
theorem dX12_told_73 : decode cX12_told 73 = .ok (.istore 5, 2) := by decide +kernel
theorem dX12_told_75 : decode cX12_told 75 = .ok (.iconst 0, 1) := by decide +kernel
theorem dX12_told_76 : decode cX12_told 76 = .ok (.istore 6, 2) := by decide +kernel
theorem dX12_told_78 : decode cX12_told 78 = .ok (.iload 6, 2) := by decide +kernel
theorem dX12_told_80 : decode cX12_told 80 = .ok (.aload_n 0, 1) := by decide +kernel
theorem dX12_told_81 : decode cX12_told 81 = .ok (.getfield 22, 3) := by decide +kernel
theorem dX12_told_84 : decode cX12_told 84 = .ok (.iload_n 1, 1) := by decide +kernel
theorem dX12_told_85 : decode cX12_told 85 = .ok (.iaload, 1) := by decide +kernel
theorem dX12_told_86 : decode cX12_told 86 = .ok (.if_icmp .ge 24, 3) := by decide +kernel
theorem dX12_told_89 : decode cX12_told 89 = .ok (.iload 5, 2) := by decide +kernel
theorem dX12_told_91 : decode cX12_told 91 = .ok (.iload 4, 2) := by decide +kernel
theorem dX12_told_93 : decode cX12_told 93 = .ok (.aload_n 0, 1) := by decide +kernel
theorem dX12_told_94 : decode cX12_told 94 = .ok (.iload_n 1, 1) := by decide +kernel
theorem dX12_told_95 : decode cX12_told 95 = .ok (.iload 6, 2) := by decide +kernel
theorem dX12_told_97 : decode cX12_told 97 = .ok (.invokevirtual 109, 3) := by decide +kernel
theorem dX12_told_100 : decode cX12_told 100 = .ok (.isub, 1) := by decide +kernel
theorem dX12_told_101 : decode cX12_told 101 = .ok (.iadd, 1) := by decide +kernel
theorem dX12_told_102 : decode cX12_told 102 = .ok (.istore 5, 2) := by decide +kernel
theorem dX12_told_104 : decode cX12_told 104 = .ok (.iinc 6 1, 3) := by decide +kernel
theorem dX12_told_107 : decode cX12_told 107 = .ok (.goto (-29), 3) := by decide +kernel
theorem dX12_told_110 : decode cX12_told 110 = .ok (.iload 5, 2) := by decide +kernel
theorem dX12_told_112 : decode cX12_told 112 = .ok (.iconst 2, 1) := by decide +kernel
theorem dX12_told_113 : decode cX12_told 113 = .ok (.idiv, 1) := by decide +kernel
theorem dX12_told_114 : decode cX12_told 114 = .ok (.ireturn, 1) := by decide +kernel
theorem dX12_told_115 : decode cX12_told 115 = .ok (.iload_n 2, 1) := by decide +kernel
theorem dX12_told_116 : decode cX12_told 116 = .ok (.ifCond .ne 8, 3) := by decide +kernel
theorem dX12_told_119 : decode cX12_told 119 = .ok (.iload 4, 2) := by decide +kernel
theorem dX12_told_121 : decode cX12_told 121 = .ok (.goto 50, 3) := by decide +kernel
theorem dX12_told_124 : decode cX12_told 124 = .ok (.iload_n 2, 1) := by decide +kernel
theorem dX12_told_125 : decode cX12_told 125 = .ok (.iconst 1, 1) := by decide +kernel
theorem dX12_told_126 : decode cX12_told 126 = .ok (.if_icmp .ne 12, 3) := by decide +kernel
theorem dX12_told_129 : decode cX12_told 129 = .ok (.aload_n 0, 1) := by decide +kernel
theorem dX12_told_130 : decode cX12_told 130 = .ok (.getfield 22, 3) := by decide +kernel
theorem dX12_told_133 : decode cX12_told 133 = .ok (.iload_n 1, 1) := by decide +kernel
theorem dX12_told_134 : decode cX12_told 134 = .ok (.iaload, 1) := by decide +kernel
theorem dX12_told_135 : decode cX12_told 135 = .ok (.goto 36, 3) := by decide +kernel
theorem dX12_told_138 : decode cX12_told 138 = .ok (.iload_n 2, 1) := by decide +kernel
theorem dX12_told_139 : decode cX12_told 139 = .ok (.iconst 2, 1) := by decide +kernel
theorem dX12_told_140 : decode cX12_told 140 = .ok (.if_icmp .ne 11, 3) := by decide +kernel
theorem dX12_told_143 : decode cX12_told 143 = .ok (.aload_n 0, 1) := by decide +kernel
theorem dX12_told_144 : decode cX12_told 144 = .ok (.iload_n 1, 1) := by decide +kernel
theorem dX12_told_145 : decode cX12_told 145 = .ok (.invokevirtual 134, 3) := by decide +kernel
theorem dX12_told_148 : decode cX12_told 148 = .ok (.goto 23, 3) := by decide +kernel
theorem dX12_told_151 : decode cX12_told 151 = .ok (.iload_n 2, 1) := by decide +kernel
theorem dX12_told_152 : decode cX12_told 152 = .ok (.iconst 4, 1) := by decide +kernel
theorem dX12_told_153 : decode cX12_told 153 = .ok (.if_icmp .ne 13, 3) := by decide +kernel
theorem dX12_told_156 : decode cX12_told 156 = .ok (.aload_n 0, 1) := by decide +kernel
theorem dX12_told_157 : decode cX12_told 157 = .ok (.bipush 10, 2) := by decide +kernel
theorem dX12_told_159 : decode cX12_told 159 = .ok (.iload_n 1, 1) := by decide +kernel
theorem dX12_told_160 : decode cX12_told 160 = .ok (.invokevirtual 148, 3) := by decide +kernel
theorem dX12_told_163 : decode cX12_told 163 = .ok (.goto 8, 3) := by decide +kernel
theorem dX12_told_166 : decode cX12_told 166 = .ok (.aload_n 0, 1) := by decide +kernel
theorem dX12_told_167 : decode cX12_told 167 = .ok (.iload_n 1, 1) := by decide +kernel
theorem dX12_told_168 : decode cX12_told 168 = .ok (.invokevirtual 173, 3) := by decide +kernel
theorem dX12_told_171 : decode cX12_told 171 = .ok (.ireturn, 1) := by decide +kernel
theorem dX12_leads_0 : decode cX12_leads 0 = .ok (.aload_n 0, 1) := by decide +kernel
theorem dX12_leads_1 : decode cX12_leads 1 = .ok (.iconst 0, 1) := by decide +kernel
theorem dX12_leads_2 : decode cX12_leads 2 = .ok (.putfield 78, 3) := by decide +kernel
theorem dX12_leads_5 : decode cX12_leads 5 = .ok (.iload_n 1, 1) := by decide +kernel
theorem dX12_leads_6 : decode cX12_leads 6 = .ok (.invokestatic 120, 3) := by decide +kernel
theorem dX12_leads_9 : decode cX12_leads 9 = .ok (.ifCond .ne 6, 3) := by decide +kernel
theorem dX12_leads_12 : decode cX12_leads 12 = .ok (.ldc 98, 2) := by decide +kernel
theorem dX12_leads_14 : decode cX12_leads 14 = .ok (.ireturn, 1) := by decide +kernel
theorem dX12_leads_15 : decode cX12_leads 15 = .ok (.aload_n 0, 1) := by decide +kernel
theorem dX12_leads_16 : decode cX12_leads 16 = .ok (.getfield 82, 3) := by decide +kernel
theorem dX12_leads_19 : decode cX12_leads 19 = .ok (.istore 4, 2) := by decide +kernel
theorem dX12_leads_21 : decode cX12_leads 21 = .ok (.aload_n 0, 1) := by decide +kernel
theorem dX12_leads_22 : decode cX12_leads 22 = .ok (.iload_n 1, 1) := by decide +kernel
theorem dX12_leads_23 : decode cX12_leads 23 = .ok (.iconst 0, 1) := by decide +kernel
theorem dX12_leads_24 : decode cX12_leads 24 = .ok (.invokevirtual 137, 3) := by decide +kernel
theorem dX12_leads_27 : decode cX12_leads 27 = .ok (.istore 5, 2) := by decide +kernel
theorem dX12_leads_29 : decode cX12_leads 29 = .ok (.iload 5, 2) := by decide +kernel
theorem dX12_leads_31 : decode cX12_leads 31 = .ok (.ifCond .ge 6, 3) := by decide +kernel
theorem dX12_leads_34 : decode cX12_leads 34 = .ok (.iload 5, 2) := by decide +kernel
theorem dX12_leads_36 : decode cX12_leads 36 = .ok (.ireturn, 1) := by decide +kernel
theorem dX12_leads_37 : decode cX12_leads 37 = .ok (.iload_n 2, 1) := by decide +kernel
theorem dX12_leads_38 : decode cX12_leads 38 = .ok (.i2l, 1) := by decide +kernel
theorem dX12_leads_39 : decode cX12_leads 39 = .ok (.lconst 0, 1) := by decide +kernel
theorem dX12_leads_40 : decode cX12_leads 40 = .ok (.aload_n 0, 1) := by decide +kernel
theorem dX12_leads_41 : decode cX12_leads 41 = .ok (.getfield 22, 3) := by decide +kernel
theorem dX12_leads_44 : decode cX12_leads 44 = .ok (.iload_n 1, 1) := by decide +kernel
theorem dX12_leads_45 : decode cX12_leads 45 = .ok (.iaload, 1) := by decide +kernel
theorem dX12_leads_46 : decode cX12_leads 46 = .ok (.iconst 1, 1) := by decide +kernel
theorem dX12_leads_47 : decode cX12_leads 47 = .ok (.isub, 1) := by decide +kernel
theorem dX12_leads_48 : decode cX12_leads 48 = .ok (.i2l, 1) := by decide +kernel
end
section
theorem dX12_leads_49 : decode cX12_leads 49 = .ok (.invokestatic 88, 3) := by decide +kernel
theorem dX12_leads_52 : decode cX12_leads 52 = .ok (.ifCond .eq 12, 3) := by decide +kernel
theorem dX12_leads_55 : decode cX12_leads 55 = .ok (.aload_n 0, 1) := by decide +kernel
theorem dX12_leads_56 : decode cX12_leads 56 = .ok (.iload_n 1, 1) := by decide +kernel
theorem dX12_leads_57 : decode cX12_leads 57 = .ok (.iload_n 3, 1) := by decide +kernel
theorem dX12_leads_58 : decode cX12_leads 58 = .ok (.invokevirtual 154, 3) := by decide +kernel
theorem dX12_leads_61 : decode cX12_leads 61 = .ok (.ifCond .ne 12, 3) := by decide +kernel
theorem dX12_leads_64 : decode cX12_leads 64 = .ok (.aload_n 0, 1) := by decide +kernel
theorem dX12_leads_65 : decode cX12_leads 65 = .ok (.iload 4, 2) := by decide +kernel
theorem dX12_leads_67 : decode cX12_leads 67 = .ok (.putfield 82, 3) := by decide +kernel
theorem dX12_leads_70 : decode cX12_leads 70 = .ok (.ldc 98, 2) := by decide +kernel
theorem dX12_leads_72 : decode cX12_leads 72 = .ok (.ireturn, 1) := by decide +kernel
theorem dX12_leads_73 : decode cX12_leads 73 = .ok (.aload_n 0, 1) := by decide +kernel
theorem dX12_leads_74 : decode cX12_leads 74 = .ok (.iload_n 1, 1) := by decide +kernel
theorem dX12_leads_75 : decode cX12_leads 75 = .ok (.iload_n 2, 1) := by decide +kernel
theorem dX12_leads_76 : decode cX12_leads 76 = .ok (.iload_n 3, 1) := by decide +kernel
theorem dX12_leads_77 : decode cX12_leads 77 = .ok (.invokevirtual 105, 3) := by decide +kernel
theorem dX12_leads_80 : decode cX12_leads 80 = .ok (.ireturn, 1) := by decide +kernel
theorem dX12_shape_0 : decode cX12_shape 0 = .ok (.aload_n 0, 1) := by decide +kernel
theorem dX12_shape_1 : decode cX12_shape 1 = .ok (.iconst 0, 1) := by decide +kernel
theorem dX12_shape_2 : decode cX12_shape 2 = .ok (.putfield 78, 3) := by decide +kernel
theorem dX12_shape_5 : decode cX12_shape 5 = .ok (.iload_n 1, 1) := by decide +kernel
theorem dX12_shape_6 : decode cX12_shape 6 = .ok (.invokestatic 120, 3) := by decide +kernel
theorem dX12_shape_9 : decode cX12_shape 9 = .ok (.ifCond .ne 6, 3) := by decide +kernel
theorem dX12_shape_12 : decode cX12_shape 12 = .ok (.ldc 98, 2) := by decide +kernel
theorem dX12_shape_14 : decode cX12_shape 14 = .ok (.ireturn, 1) := by decide +kernel
theorem dX12_shape_15 : decode cX12_shape 15 = .ok (.aload_n 0, 1) := by decide +kernel
theorem dX12_shape_16 : decode cX12_shape 16 = .ok (.getfield 82, 3) := by decide +kernel
theorem dX12_shape_19 : decode cX12_shape 19 = .ok (.istore 4, 2) := by decide +kernel
theorem dX12_shape_21 : decode cX12_shape 21 = .ok (.aload_n 0, 1) := by decide +kernel
theorem dX12_shape_22 : decode cX12_shape 22 = .ok (.iload_n 1, 1) := by decide +kernel
theorem dX12_shape_23 : decode cX12_shape 23 = .ok (.iconst 0, 1) := by decide +kernel
theorem dX12_shape_24 : decode cX12_shape 24 = .ok (.invokevirtual 137, 3) := by decide +kernel
theorem dX12_shape_27 : decode cX12_shape 27 = .ok (.istore 5, 2) := by decide +kernel
theorem dX12_shape_29 : decode cX12_shape 29 = .ok (.iload 5, 2) := by decide +kernel
theorem dX12_shape_31 : decode cX12_shape 31 = .ok (.ifCond .ge 6, 3) := by decide +kernel
theorem dX12_shape_34 : decode cX12_shape 34 = .ok (.iload 5, 2) := by decide +kernel
theorem dX12_shape_36 : decode cX12_shape 36 = .ok (.ireturn, 1) := by decide +kernel
theorem dX12_shape_37 : decode cX12_shape 37 = .ok (.iload_n 2, 1) := by decide +kernel
theorem dX12_shape_38 : decode cX12_shape 38 = .ok (.i2l, 1) := by decide +kernel
theorem dX12_shape_39 : decode cX12_shape 39 = .ok (.lconst 0, 1) := by decide +kernel
theorem dX12_shape_40 : decode cX12_shape 40 = .ok (.aload_n 0, 1) := by decide +kernel
theorem dX12_shape_41 : decode cX12_shape 41 = .ok (.getfield 22, 3) := by decide +kernel
theorem dX12_shape_44 : decode cX12_shape 44 = .ok (.iload_n 1, 1) := by decide +kernel
theorem dX12_shape_45 : decode cX12_shape 45 = .ok (.iaload, 1) := by decide +kernel
theorem dX12_shape_46 : decode cX12_shape 46 = .ok (.iconst 1, 1) := by decide +kernel
theorem dX12_shape_47 : decode cX12_shape 47 = .ok (.isub, 1) := by decide +kernel
theorem dX12_shape_48 : decode cX12_shape 48 = .ok (.i2l, 1) := by decide +kernel
theorem dX12_shape_49 : decode cX12_shape 49 = .ok (.invokestatic 88, 3) := by decide +kernel
theorem dX12_shape_52 : decode cX12_shape 52 = .ok (.ifCond .ne 12, 3) := by decide +kernel
theorem dX12_shape_55 : decode cX12_shape 55 = .ok (.aload_n 0, 1) := by decide +kernel
theorem dX12_shape_56 : decode cX12_shape 56 = .ok (.iload 4, 2) := by decide +kernel
theorem dX12_shape_58 : decode cX12_shape 58 = .ok (.putfield 82, 3) := by decide +kernel
theorem dX12_shape_61 : decode cX12_shape 61 = .ok (.ldc 98, 2) := by decide +kernel
theorem dX12_shape_63 : decode cX12_shape 63 = .ok (.ireturn, 1) := by decide +kernel
theorem dX12_shape_64 : decode cX12_shape 64 = .ok (.aload_n 0, 1) := by decide +kernel
theorem dX12_shape_65 : decode cX12_shape 65 = .ok (.iload_n 1, 1) := by decide +kernel
theorem dX12_shape_66 : decode cX12_shape 66 = .ok (.iload_n 2, 1) := by decide +kernel
theorem dX12_shape_67 : decode cX12_shape 67 = .ok (.invokevirtual 109, 3) := by decide +kernel
theorem dX12_shape_70 : decode cX12_shape 70 = .ok (.istore 6, 2) := by decide +kernel
theorem dX12_shape_72 : decode cX12_shape 72 = .ok (.iload_n 3, 1) := by decide +kernel
theorem dX12_shape_73 : decode cX12_shape 73 = .ok (.i2l, 1) := by decide +kernel
theorem dX12_shape_74 : decode cX12_shape 74 = .ok (.lconst 0, 1) := by decide +kernel
theorem dX12_shape_75 : decode cX12_shape 75 = .ok (.iload 6, 2) := by decide +kernel
theorem dX12_shape_77 : decode cX12_shape 77 = .ok (.iconst 1, 1) := by decide +kernel
theorem dX12_shape_78 : decode cX12_shape 78 = .ok (.isub, 1) := by decide +kernel
theorem dX12_shape_79 : decode cX12_shape 79 = .ok (.i2l, 1) := by decide +kernel
theorem dX12_shape_80 : decode cX12_shape 80 = .ok (.invokestatic 88, 3) := by decide +kernel
theorem dX12_shape_83 : decode cX12_shape 83 = .ok (.ifCond .eq 12, 3) := by decide +kernel
theorem dX12_shape_86 : decode cX12_shape 86 = .ok (.aload_n 0, 1) := by decide +kernel
theorem dX12_shape_87 : decode cX12_shape 87 = .ok (.getfield 32, 3) := by decide +kernel
theorem dX12_shape_90 : decode cX12_shape 90 = .ok (.iload_n 3, 1) := by decide +kernel
theorem dX12_shape_91 : decode cX12_shape 91 = .ok (.iaload, 1) := by decide +kernel
theorem dX12_shape_92 : decode cX12_shape 92 = .ok (.goto 5, 3) := by decide +kernel
theorem dX12_shape_95 : decode cX12_shape 95 = .ok (.ldc 176, 2) := by decide +kernel
theorem dX12_shape_97 : decode cX12_shape 97 = .ok (.ireturn, 1) := by decide +kernel
theorem dX12_block_0 : decode cX12_block 0 = .ok (.aload_n 0, 1) := by decide +kernel
theorem dX12_block_1 : decode cX12_block 1 = .ok (.iconst 0, 1) := by decide +kernel
theorem dX12_block_2 : decode cX12_block 2 = .ok (.putfield 78, 3) := by decide +kernel
theorem dX12_block_5 : decode cX12_block 5 = .ok (.iload_n 1, 1) := by decide +kernel
theorem dX12_block_6 : decode cX12_block 6 = .ok (.invokestatic 120, 3) := by decide +kernel
theorem dX12_block_9 : decode cX12_block 9 = .ok (.ifCond .ne 6, 3) := by decide +kernel
theorem dX12_block_12 : decode cX12_block 12 = .ok (.ldc 98, 2) := by decide +kernel
theorem dX12_block_14 : decode cX12_block 14 = .ok (.ireturn, 1) := by decide +kernel
theorem dX12_block_15 : decode cX12_block 15 = .ok (.aload_n 0, 1) := by decide +kernel
theorem dX12_block_16 : decode cX12_block 16 = .ok (.getfield 82, 3) := by decide +kernel
theorem dX12_block_19 : decode cX12_block 19 = .ok (.istore 5, 2) := by decide +kernel
theorem dX12_block_21 : decode cX12_block 21 = .ok (.aload_n 0, 1) := by decide +kernel
theorem dX12_block_22 : decode cX12_block 22 = .ok (.iload_n 1, 1) := by decide +kernel
theorem dX12_block_23 : decode cX12_block 23 = .ok (.iconst 1, 1) := by decide +kernel
theorem dX12_block_24 : decode cX12_block 24 = .ok (.invokevirtual 137, 3) := by decide +kernel
theorem dX12_block_27 : decode cX12_block 27 = .ok (.istore 6, 2) := by decide +kernel
theorem dX12_block_29 : decode cX12_block 29 = .ok (.iload 6, 2) := by decide +kernel
theorem dX12_block_31 : decode cX12_block 31 = .ok (.ifCond .ge 6, 3) := by decide +kernel
theorem dX12_block_34 : decode cX12_block 34 = .ok (.iload 6, 2) := by decide +kernel
theorem dX12_block_36 : decode cX12_block 36 = .ok (.ireturn, 1) := by decide +kernel
theorem dX12_block_37 : decode cX12_block 37 = .ok (.aload_n 0, 1) := by decide +kernel
theorem dX12_block_38 : decode cX12_block 38 = .ok (.iload_n 1, 1) := by decide +kernel
theorem dX12_block_39 : decode cX12_block 39 = .ok (.iload_n 2, 1) := by decide +kernel
theorem dX12_block_40 : decode cX12_block 40 = .ok (.invokevirtual 154, 3) := by decide +kernel
theorem dX12_block_43 : decode cX12_block 43 = .ok (.ifCond .eq 28, 3) := by decide +kernel
theorem dX12_block_46 : decode cX12_block 46 = .ok (.aload_n 0, 1) := by decide +kernel
theorem dX12_block_47 : decode cX12_block 47 = .ok (.iload_n 1, 1) := by decide +kernel
theorem dX12_block_48 : decode cX12_block 48 = .ok (.iload_n 3, 1) := by decide +kernel
theorem dX12_block_49 : decode cX12_block 49 = .ok (.invokevirtual 154, 3) := by decide +kernel
theorem dX12_block_52 : decode cX12_block 52 = .ok (.ifCond .eq 19, 3) := by decide +kernel
theorem dX12_block_55 : decode cX12_block 55 = .ok (.iload 4, 2) := by decide +kernel
theorem dX12_block_57 : decode cX12_block 57 = .ok (.iconst (-1), 1) := by decide +kernel
theorem dX12_block_58 : decode cX12_block 58 = .ok (.if_icmp .eq 22, 3) := by decide +kernel
theorem dX12_block_61 : decode cX12_block 61 = .ok (.aload_n 0, 1) := by decide +kernel
theorem dX12_block_62 : decode cX12_block 62 = .ok (.iload_n 1, 1) := by decide +kernel
theorem dX12_block_63 : decode cX12_block 63 = .ok (.iload 4, 2) := by decide +kernel
theorem dX12_block_65 : decode cX12_block 65 = .ok (.invokevirtual 154, 3) := by decide +kernel
theorem dX12_block_68 : decode cX12_block 68 = .ok (.ifCond .ne 12, 3) := by decide +kernel
theorem dX12_block_71 : decode cX12_block 71 = .ok (.aload_n 0, 1) := by decide +kernel
theorem dX12_block_72 : decode cX12_block 72 = .ok (.iload 5, 2) := by decide +kernel
theorem dX12_block_74 : decode cX12_block 74 = .ok (.putfield 82, 3) := by decide +kernel
theorem dX12_block_77 : decode cX12_block 77 = .ok (.ldc 98, 2) := by decide +kernel
theorem dX12_block_79 : decode cX12_block 79 = .ok (.ireturn, 1) := by decide +kernel
theorem dX12_block_80 : decode cX12_block 80 = .ok (.aload_n 0, 1) := by decide +kernel
theorem dX12_block_81 : decode cX12_block 81 = .ok (.iload_n 1, 1) := by decide +kernel
theorem dX12_block_82 : decode cX12_block 82 = .ok (.iload_n 2, 1) := by decide +kernel
theorem dX12_block_83 : decode cX12_block 83 = .ok (.iload_n 3, 1) := by decide +kernel
theorem dX12_block_84 : decode cX12_block 84 = .ok (.invokevirtual 158, 3) := by decide +kernel
theorem dX12_block_87 : decode cX12_block 87 = .ok (.istore 7, 2) := by decide +kernel
theorem dX12_block_89 : decode cX12_block 89 = .ok (.iload 4, 2) := by decide +kernel
theorem dX12_block_91 : decode cX12_block 91 = .ok (.iconst (-1), 1) := by decide +kernel
theorem dX12_block_92 : decode cX12_block 92 = .ok (.if_icmp .ne 8, 3) := by decide +kernel
theorem dX12_block_95 : decode cX12_block 95 = .ok (.iload 7, 2) := by decide +kernel
theorem dX12_block_97 : decode cX12_block 97 = .ok (.goto 10, 3) := by decide +kernel
theorem dX12_block_100 : decode cX12_block 100 = .ok (.aload_n 0, 1) := by decide +kernel
theorem dX12_block_101 : decode cX12_block 101 = .ok (.getfield 44, 3) := by decide +kernel
theorem dX12_block_104 : decode cX12_block 104 = .ok (.iload 4, 2) := by decide +kernel
theorem dX12_block_106 : decode cX12_block 106 = .ok (.iaload, 1) := by decide +kernel
theorem dX12_block_107 : decode cX12_block 107 = .ok (.ireturn, 1) := by decide +kernel
theorem dX12_same_0 : decode cX12_same 0 = .ok (.aload_n 0, 1) := by decide +kernel
theorem dX12_same_1 : decode cX12_same 1 = .ok (.iconst 0, 1) := by decide +kernel
theorem dX12_same_2 : decode cX12_same 2 = .ok (.putfield 78, 3) := by decide +kernel
theorem dX12_same_5 : decode cX12_same 5 = .ok (.iload_n 1, 1) := by decide +kernel
theorem dX12_same_6 : decode cX12_same 6 = .ok (.invokestatic 120, 3) := by decide +kernel
theorem dX12_same_9 : decode cX12_same 9 = .ok (.ifCond .eq 10, 3) := by decide +kernel
theorem dX12_same_12 : decode cX12_same 12 = .ok (.iload_n 2, 1) := by decide +kernel
theorem dX12_same_13 : decode cX12_same 13 = .ok (.invokestatic 120, 3) := by decide +kernel
theorem dX12_same_16 : decode cX12_same 16 = .ok (.ifCond .ne 6, 3) := by decide +kernel
theorem dX12_same_19 : decode cX12_same 19 = .ok (.ldc 98, 2) := by decide +kernel
theorem dX12_same_21 : decode cX12_same 21 = .ok (.ireturn, 1) := by decide +kernel
theorem dX12_same_22 : decode cX12_same 22 = .ok (.aload_n 0, 1) := by decide +kernel
theorem dX12_same_23 : decode cX12_same 23 = .ok (.iload_n 1, 1) := by decide +kernel
theorem dX12_same_24 : decode cX12_same 24 = .ok (.iconst 1, 1) := by decide +kernel
theorem dX12_same_25 : decode cX12_same 25 = .ok (.invokevirtual 137, 3) := by decide +kernel
theorem dX12_same_28 : decode cX12_same 28 = .ok (.istore_n 3, 1) := by decide +kernel
theorem dX12_same_29 : decode cX12_same 29 = .ok (.iload_n 3, 1) := by decide +kernel
theorem dX12_same_30 : decode cX12_same 30 = .ok (.ifCond .ne 10, 3) := by decide +kernel
theorem dX12_same_33 : decode cX12_same 33 = .ok (.aload_n 0, 1) := by decide +kernel
theorem dX12_same_34 : decode cX12_same 34 = .ok (.iload_n 2, 1) := by decide +kernel
theorem dX12_same_35 : decode cX12_same 35 = .ok (.iconst 1, 1) := by decide +kernel
theorem dX12_same_36 : decode cX12_same 36 = .ok (.invokevirtual 137, 3) := by decide +kernel
theorem dX12_same_39 : decode cX12_same 39 = .ok (.istore_n 3, 1) := by decide +kernel
theorem dX12_same_40 : decode cX12_same 40 = .ok (.iload_n 3, 1) := by decide +kernel
theorem dX12_same_41 : decode cX12_same 41 = .ok (.ifCond .ge 5, 3) := by decide +kernel
theorem dX12_same_44 : decode cX12_same 44 = .ok (.iload_n 3, 1) := by decide +kernel
theorem dX12_same_45 : decode cX12_same 45 = .ok (.ireturn, 1) := by decide +kernel
theorem dX12_same_46 : decode cX12_same 46 = .ok (.aload_n 0, 1) := by decide +kernel
theorem dX12_same_47 : decode cX12_same 47 = .ok (.getfield 19, 3) := by decide +kernel
theorem dX12_same_50 : decode cX12_same 50 = .ok (.iload_n 1, 1) := by decide +kernel
theorem dX12_same_51 : decode cX12_same 51 = .ok (.iaload, 1) := by decide +kernel
theorem dX12_same_52 : decode cX12_same 52 = .ok (.aload_n 0, 1) := by decide +kernel
theorem dX12_same_53 : decode cX12_same 53 = .ok (.getfield 19, 3) := by decide +kernel
theorem dX12_same_56 : decode cX12_same 56 = .ok (.iload_n 2, 1) := by decide +kernel
theorem dX12_same_57 : decode cX12_same 57 = .ok (.iaload, 1) := by decide +kernel
theorem dX12_same_58 : decode cX12_same 58 = .ok (.if_icmp .ne 18, 3) := by decide +kernel
theorem dX12_same_61 : decode cX12_same 61 = .ok (.aload_n 0, 1) := by decide +kernel
theorem dX12_same_62 : decode cX12_same 62 = .ok (.getfield 22, 3) := by decide +kernel
theorem dX12_same_65 : decode cX12_same 65 = .ok (.iload_n 1, 1) := by decide +kernel
theorem dX12_same_66 : decode cX12_same 66 = .ok (.iaload, 1) := by decide +kernel
theorem dX12_same_67 : decode cX12_same 67 = .ok (.aload_n 0, 1) := by decide +kernel
theorem dX12_same_68 : decode cX12_same 68 = .ok (.getfield 22, 3) := by decide +kernel
theorem dX12_same_71 : decode cX12_same 71 = .ok (.iload_n 2, 1) := by decide +kernel
theorem dX12_same_72 : decode cX12_same 72 = .ok (.iaload, 1) := by decide +kernel
theorem dX12_same_73 : decode cX12_same 73 = .ok (.if_icmp .eq 5, 3) := by decide +kernel
theorem dX12_same_76 : decode cX12_same 76 = .ok (.iconst 0, 1) := by decide +kernel
theorem dX12_same_77 : decode cX12_same 77 = .ok (.ireturn, 1) := by decide +kernel
theorem dX12_same_78 : decode cX12_same 78 = .ok (.aload_n 0, 1) := by decide +kernel
theorem dX12_same_79 : decode cX12_same 79 = .ok (.bipush 10, 2) := by decide +kernel
theorem dX12_same_81 : decode cX12_same 81 = .ok (.iload_n 1, 1) := by decide +kernel
theorem dX12_same_82 : decode cX12_same 82 = .ok (.invokevirtual 148, 3) := by decide +kernel
theorem dX12_same_85 : decode cX12_same 85 = .ok (.aload_n 0, 1) := by decide +kernel
theorem dX12_same_86 : decode cX12_same 86 = .ok (.bipush 12, 2) := by decide +kernel
theorem dX12_same_88 : decode cX12_same 88 = .ok (.iload_n 2, 1) := by decide +kernel
theorem dX12_same_89 : decode cX12_same 89 = .ok (.invokevirtual 148, 3) := by decide +kernel
theorem dX12_same_92 : decode cX12_same 92 = .ok (.iadd, 1) := by decide +kernel
theorem dX12_same_93 : decode cX12_same 93 = .ok (.istore 4, 2) := by decide +kernel
theorem dX12_same_95 : decode cX12_same 95 = .ok (.aload_n 0, 1) := by decide +kernel
theorem dX12_same_96 : decode cX12_same 96 = .ok (.bipush 10, 2) := by decide +kernel
theorem dX12_same_98 : decode cX12_same 98 = .ok (.bipush 12, 2) := by decide +kernel
theorem dX12_same_100 : decode cX12_same 100 = .ok (.invokevirtual 145, 3) := by decide +kernel
theorem dX12_same_103 : decode cX12_same 103 = .ok (.ifCond .ne 7, 3) := by decide +kernel
theorem dX12_same_106 : decode cX12_same 106 = .ok (.iconst 1, 1) := by decide +kernel
theorem dX12_same_107 : decode cX12_same 107 = .ok (.goto 4, 3) := by decide +kernel
theorem dX12_same_110 : decode cX12_same 110 = .ok (.iconst 0, 1) := by decide +kernel
theorem dX12_same_111 : decode cX12_same 111 = .ok (.ireturn, 1) := by decide +kernel
theorem dX12_isName_0 : decode cX12_isName 0 = .ok (.iconst 0, 1) := by decide +kernel
theorem dX12_isName_1 : decode cX12_isName 1 = .ok (.istore_n 2, 1) := by decide +kernel
theorem dX12_isName_2 : decode cX12_isName 2 = .ok (.iload_n 2, 1) := by decide +kernel
theorem dX12_isName_3 : decode cX12_isName 3 = .ok (.bipush 96, 2) := by decide +kernel
theorem dX12_isName_5 : decode cX12_isName 5 = .ok (.if_icmp .ge 35, 3) := by decide +kernel
theorem dX12_isName_8 : decode cX12_isName 8 = .ok (.aload_n 0, 1) := by decide +kernel
theorem dX12_isName_9 : decode cX12_isName 9 = .ok (.getfield 59, 3) := by decide +kernel
theorem dX12_isName_12 : decode cX12_isName 12 = .ok (.bipush 96, 2) := by decide +kernel
theorem dX12_isName_14 : decode cX12_isName 14 = .ok (.iload_n 1, 1) := by decide +kernel
theorem dX12_isName_15 : decode cX12_isName 15 = .ok (.imul, 1) := by decide +kernel
theorem dX12_isName_16 : decode cX12_isName 16 = .ok (.iload_n 2, 1) := by decide +kernel
theorem dX12_isName_17 : decode cX12_isName 17 = .ok (.iadd, 1) := by decide +kernel
theorem dX12_isName_18 : decode cX12_isName 18 = .ok (.iaload, 1) := by decide +kernel
theorem dX12_isName_19 : decode cX12_isName 19 = .ok (.aload_n 0, 1) := by decide +kernel
theorem dX12_isName_20 : decode cX12_isName 20 = .ok (.getfield 25, 3) := by decide +kernel
theorem dX12_isName_23 : decode cX12_isName 23 = .ok (.sipush 960, 3) := by decide +kernel
theorem dX12_isName_26 : decode cX12_isName 26 = .ok (.iload_n 2, 1) := by decide +kernel
theorem dX12_isName_27 : decode cX12_isName 27 = .ok (.iadd, 1) := by decide +kernel
theorem dX12_isName_28 : decode cX12_isName 28 = .ok (.iaload, 1) := by decide +kernel
theorem dX12_isName_29 : decode cX12_isName 29 = .ok (.if_icmp .eq 5, 3) := by decide +kernel
theorem dX12_isName_32 : decode cX12_isName 32 = .ok (.iconst 0, 1) := by decide +kernel
theorem dX12_isName_33 : decode cX12_isName 33 = .ok (.ireturn, 1) := by decide +kernel
theorem dX12_isName_34 : decode cX12_isName 34 = .ok (.iinc 2 1, 3) := by decide +kernel
theorem dX12_isName_37 : decode cX12_isName 37 = .ok (.goto (-35), 3) := by decide +kernel
theorem dX12_isName_40 : decode cX12_isName 40 = .ok (.iconst 1, 1) := by decide +kernel
theorem dX12_isName_41 : decode cX12_isName 41 = .ok (.ireturn, 1) := by decide +kernel
theorem dX12_ring_0 : decode cX12_ring 0 = .ok (.aload_n 0, 1) := by decide +kernel
theorem dX12_ring_1 : decode cX12_ring 1 = .ok (.iconst 0, 1) := by decide +kernel
theorem dX12_ring_2 : decode cX12_ring 2 = .ok (.putfield 78, 3) := by decide +kernel
theorem dX12_ring_5 : decode cX12_ring 5 = .ok (.iload_n 1, 1) := by decide +kernel
theorem dX12_ring_6 : decode cX12_ring 6 = .ok (.invokestatic 120, 3) := by decide +kernel
theorem dX12_ring_9 : decode cX12_ring 9 = .ok (.ifCond .ne 6, 3) := by decide +kernel
theorem dX12_ring_12 : decode cX12_ring 12 = .ok (.ldc 98, 2) := by decide +kernel
theorem dX12_ring_14 : decode cX12_ring 14 = .ok (.ireturn, 1) := by decide +kernel
theorem dX12_ring_15 : decode cX12_ring 15 = .ok (.aload_n 0, 1) := by decide +kernel
theorem dX12_ring_16 : decode cX12_ring 16 = .ok (.getfield 82, 3) := by decide +kernel
theorem dX12_ring_19 : decode cX12_ring 19 = .ok (.istore_n 2, 1) := by decide +kernel
theorem dX12_ring_20 : decode cX12_ring 20 = .ok (.aload_n 0, 1) := by decide +kernel
theorem dX12_ring_21 : decode cX12_ring 21 = .ok (.iload_n 1, 1) := by decide +kernel
theorem dX12_ring_22 : decode cX12_ring 22 = .ok (.iconst 1, 1) := by decide +kernel
theorem dX12_ring_23 : decode cX12_ring 23 = .ok (.invokevirtual 137, 3) := by decide +kernel
theorem dX12_ring_26 : decode cX12_ring 26 = .ok (.istore_n 3, 1) := by decide +kernel
theorem dX12_ring_27 : decode cX12_ring 27 = .ok (.iload_n 3, 1) := by decide +kernel
theorem dX12_ring_28 : decode cX12_ring 28 = .ok (.ifCond .ge 5, 3) := by decide +kernel
theorem dX12_ring_31 : decode cX12_ring 31 = .ok (.iload_n 3, 1) := by decide +kernel
theorem dX12_ring_32 : decode cX12_ring 32 = .ok (.ireturn, 1) := by decide +kernel
theorem dX12_ring_33 : decode cX12_ring 33 = .ok (.iconst 0, 1) := by decide +kernel
theorem dX12_ring_34 : decode cX12_ring 34 = .ok (.istore 4, 2) := by decide +kernel
theorem dX12_ring_36 : decode cX12_ring 36 = .ok (.iload 4, 2) := by decide +kernel
theorem dX12_ring_38 : decode cX12_ring 38 = .ok (.bipush 96, 2) := by decide +kernel
theorem dX12_ring_40 : decode cX12_ring 40 = .ok (.if_icmp .ge 33, 3) := by decide +kernel
theorem dX12_ring_43 : decode cX12_ring 43 = .ok (.aload_n 0, 1) := by decide +kernel
theorem dX12_ring_44 : decode cX12_ring 44 = .ok (.getfield 25, 3) := by decide +kernel
theorem dX12_ring_47 : decode cX12_ring 47 = .ok (.sipush 960, 3) := by decide +kernel
theorem dX12_ring_50 : decode cX12_ring 50 = .ok (.iload 4, 2) := by decide +kernel
theorem dX12_ring_52 : decode cX12_ring 52 = .ok (.iadd, 1) := by decide +kernel
theorem dX12_ring_53 : decode cX12_ring 53 = .ok (.iconst 0, 1) := by decide +kernel
theorem dX12_ring_54 : decode cX12_ring 54 = .ok (.iastore, 1) := by decide +kernel
theorem dX12_ring_55 : decode cX12_ring 55 = .ok (.aload_n 0, 1) := by decide +kernel
theorem dX12_ring_56 : decode cX12_ring 56 = .ok (.getfield 25, 3) := by decide +kernel
theorem dX12_ring_59 : decode cX12_ring 59 = .ok (.sipush 1056, 3) := by decide +kernel
theorem dX12_ring_62 : decode cX12_ring 62 = .ok (.iload 4, 2) := by decide +kernel
theorem dX12_ring_64 : decode cX12_ring 64 = .ok (.iadd, 1) := by decide +kernel
theorem dX12_ring_65 : decode cX12_ring 65 = .ok (.iconst 0, 1) := by decide +kernel
theorem dX12_ring_66 : decode cX12_ring 66 = .ok (.iastore, 1) := by decide +kernel
theorem dX12_ring_67 : decode cX12_ring 67 = .ok (.iinc 4 1, 3) := by decide +kernel
theorem dX12_ring_70 : decode cX12_ring 70 = .ok (.goto (-34), 3) := by decide +kernel
theorem dX12_ring_73 : decode cX12_ring 73 = .ok (.aload_n 0, 1) := by decide +kernel
theorem dX12_ring_74 : decode cX12_ring 74 = .ok (.bipush 10, 2) := by decide +kernel
theorem dX12_ring_76 : decode cX12_ring 76 = .ok (.iload_n 1, 1) := by decide +kernel
theorem dX12_ring_77 : decode cX12_ring 77 = .ok (.invokevirtual 148, 3) := by decide +kernel
theorem dX12_ring_80 : decode cX12_ring 80 = .ok (.istore 4, 2) := by decide +kernel
theorem dX12_ring_82 : decode cX12_ring 82 = .ok (.iconst 0, 1) := by decide +kernel
theorem dX12_ring_83 : decode cX12_ring 83 = .ok (.istore 5, 2) := by decide +kernel
theorem dX12_ring_85 : decode cX12_ring 85 = .ok (.iload 5, 2) := by decide +kernel
theorem dX12_ring_87 : decode cX12_ring 87 = .ok (.bipush 96, 2) := by decide +kernel
theorem dX12_ring_89 : decode cX12_ring 89 = .ok (.if_icmp .ge 27, 3) := by decide +kernel
theorem dX12_ring_92 : decode cX12_ring 92 = .ok (.aload_n 0, 1) := by decide +kernel
theorem dX12_ring_93 : decode cX12_ring 93 = .ok (.getfield 59, 3) := by decide +kernel
theorem dX12_ring_96 : decode cX12_ring 96 = .ok (.iload 5, 2) := by decide +kernel
theorem dX12_ring_98 : decode cX12_ring 98 = .ok (.aload_n 0, 1) := by decide +kernel
theorem dX12_ring_99 : decode cX12_ring 99 = .ok (.getfield 25, 3) := by decide +kernel
theorem dX12_ring_102 : decode cX12_ring 102 = .ok (.sipush 960, 3) := by decide +kernel
theorem dX12_ring_105 : decode cX12_ring 105 = .ok (.iload 5, 2) := by decide +kernel
theorem dX12_ring_107 : decode cX12_ring 107 = .ok (.iadd, 1) := by decide +kernel
theorem dX12_ring_108 : decode cX12_ring 108 = .ok (.iaload, 1) := by decide +kernel
theorem dX12_ring_109 : decode cX12_ring 109 = .ok (.iastore, 1) := by decide +kernel
theorem dX12_ring_110 : decode cX12_ring 110 = .ok (.iinc 5 1, 3) := by decide +kernel
theorem dX12_ring_113 : decode cX12_ring 113 = .ok (.goto (-28), 3) := by decide +kernel
theorem dX12_ring_116 : decode cX12_ring 116 = .ok (.iconst 1, 1) := by decide +kernel
theorem dX12_ring_117 : decode cX12_ring 117 = .ok (.istore 5, 2) := by decide +kernel
theorem dX12_ring_119 : decode cX12_ring 119 = .ok (.iconst 0, 1) := by decide +kernel
theorem dX12_ring_120 : decode cX12_ring 120 = .ok (.istore 6, 2) := by decide +kernel
theorem dX12_ring_122 : decode cX12_ring 122 = .ok (.iload 6, 2) := by decide +kernel
theorem dX12_ring_124 : decode cX12_ring 124 = .ok (.iload 5, 2) := by decide +kernel
theorem dX12_ring_126 : decode cX12_ring 126 = .ok (.if_icmp .ge 248, 3) := by decide +kernel
theorem dX12_ring_129 : decode cX12_ring 129 = .ok (.iconst 0, 1) := by decide +kernel
theorem dX12_ring_130 : decode cX12_ring 130 = .ok (.istore 7, 2) := by decide +kernel
theorem dX12_ring_132 : decode cX12_ring 132 = .ok (.iload 7, 2) := by decide +kernel
theorem dX12_ring_134 : decode cX12_ring 134 = .ok (.iconst 1, 1) := by decide +kernel
theorem dX12_ring_135 : decode cX12_ring 135 = .ok (.iadd, 1) := by decide +kernel
theorem dX12_ring_136 : decode cX12_ring 136 = .ok (.aload_n 0, 1) := by decide +kernel
theorem dX12_ring_137 : decode cX12_ring 137 = .ok (.getfield 22, 3) := by decide +kernel
theorem dX12_ring_140 : decode cX12_ring 140 = .ok (.iload_n 1, 1) := by decide +kernel
theorem dX12_ring_141 : decode cX12_ring 141 = .ok (.iaload, 1) := by decide +kernel
theorem dX12_ring_142 : decode cX12_ring 142 = .ok (.if_icmp .ge 226, 3) := by decide +kernel
theorem dX12_ring_145 : decode cX12_ring 145 = .ok (.aload_n 0, 1) := by decide +kernel
theorem dX12_ring_146 : decode cX12_ring 146 = .ok (.getfield 19, 3) := by decide +kernel
theorem dX12_ring_149 : decode cX12_ring 149 = .ok (.bipush 12, 2) := by decide +kernel
theorem dX12_ring_151 : decode cX12_ring 151 = .ok (.aload_n 0, 1) := by decide +kernel
theorem dX12_ring_152 : decode cX12_ring 152 = .ok (.getfield 19, 3) := by decide +kernel
theorem dX12_ring_155 : decode cX12_ring 155 = .ok (.iload_n 1, 1) := by decide +kernel
theorem dX12_ring_156 : decode cX12_ring 156 = .ok (.iaload, 1) := by decide +kernel
theorem dX12_ring_157 : decode cX12_ring 157 = .ok (.iastore, 1) := by decide +kernel
theorem dX12_ring_158 : decode cX12_ring 158 = .ok (.aload_n 0, 1) := by decide +kernel
theorem dX12_ring_159 : decode cX12_ring 159 = .ok (.getfield 22, 3) := by decide +kernel
theorem dX12_ring_162 : decode cX12_ring 162 = .ok (.bipush 12, 2) := by decide +kernel
theorem dX12_ring_164 : decode cX12_ring 164 = .ok (.aload_n 0, 1) := by decide +kernel
theorem dX12_ring_165 : decode cX12_ring 165 = .ok (.getfield 22, 3) := by decide +kernel
theorem dX12_ring_168 : decode cX12_ring 168 = .ok (.iload_n 1, 1) := by decide +kernel
theorem dX12_ring_169 : decode cX12_ring 169 = .ok (.iaload, 1) := by decide +kernel
theorem dX12_ring_170 : decode cX12_ring 170 = .ok (.iastore, 1) := by decide +kernel
theorem dX12_ring_171 : decode cX12_ring 171 = .ok (.aload_n 0, 1) := by decide +kernel
theorem dX12_ring_172 : decode cX12_ring 172 = .ok (.getfield 19, 3) := by decide +kernel
theorem dX12_ring_175 : decode cX12_ring 175 = .ok (.bipush 10, 2) := by decide +kernel
theorem dX12_ring_177 : decode cX12_ring 177 = .ok (.aload_n 0, 1) := by decide +kernel
theorem dX12_ring_178 : decode cX12_ring 178 = .ok (.getfield 19, 3) := by decide +kernel
theorem dX12_ring_181 : decode cX12_ring 181 = .ok (.iload_n 1, 1) := by decide +kernel
theorem dX12_ring_182 : decode cX12_ring 182 = .ok (.iaload, 1) := by decide +kernel
theorem dX12_ring_183 : decode cX12_ring 183 = .ok (.iastore, 1) := by decide +kernel
theorem dX12_ring_184 : decode cX12_ring 184 = .ok (.aload_n 0, 1) := by decide +kernel
theorem dX12_ring_185 : decode cX12_ring 185 = .ok (.getfield 22, 3) := by decide +kernel
theorem dX12_ring_188 : decode cX12_ring 188 = .ok (.bipush 10, 2) := by decide +kernel
theorem dX12_ring_190 : decode cX12_ring 190 = .ok (.aload_n 0, 1) := by decide +kernel
theorem dX12_ring_191 : decode cX12_ring 191 = .ok (.getfield 22, 3) := by decide +kernel
theorem dX12_ring_194 : decode cX12_ring 194 = .ok (.iload_n 1, 1) := by decide +kernel
theorem dX12_ring_195 : decode cX12_ring 195 = .ok (.iaload, 1) := by decide +kernel
theorem dX12_ring_196 : decode cX12_ring 196 = .ok (.iastore, 1) := by decide +kernel
theorem dX12_ring_197 : decode cX12_ring 197 = .ok (.iconst 0, 1) := by decide +kernel
theorem dX12_ring_198 : decode cX12_ring 198 = .ok (.istore 8, 2) := by decide +kernel
theorem dX12_ring_200 : decode cX12_ring 200 = .ok (.iload 8, 2) := by decide +kernel
theorem dX12_ring_202 : decode cX12_ring 202 = .ok (.bipush 96, 2) := by decide +kernel
theorem dX12_ring_204 : decode cX12_ring 204 = .ok (.if_icmp .ge 33, 3) := by decide +kernel
theorem dX12_ring_207 : decode cX12_ring 207 = .ok (.aload_n 0, 1) := by decide +kernel
theorem dX12_ring_208 : decode cX12_ring 208 = .ok (.getfield 25, 3) := by decide +kernel
theorem dX12_ring_211 : decode cX12_ring 211 = .ok (.sipush 1152, 3) := by decide +kernel
theorem dX12_ring_214 : decode cX12_ring 214 = .ok (.iload 8, 2) := by decide +kernel
theorem dX12_ring_216 : decode cX12_ring 216 = .ok (.iadd, 1) := by decide +kernel
theorem dX12_ring_217 : decode cX12_ring 217 = .ok (.aload_n 0, 1) := by decide +kernel
theorem dX12_ring_218 : decode cX12_ring 218 = .ok (.getfield 59, 3) := by decide +kernel
theorem dX12_ring_221 : decode cX12_ring 221 = .ok (.bipush 96, 2) := by decide +kernel
theorem dX12_ring_223 : decode cX12_ring 223 = .ok (.iload 6, 2) := by decide +kernel
theorem dX12_ring_225 : decode cX12_ring 225 = .ok (.imul, 1) := by decide +kernel
theorem dX12_ring_226 : decode cX12_ring 226 = .ok (.iload 8, 2) := by decide +kernel
theorem dX12_ring_228 : decode cX12_ring 228 = .ok (.iadd, 1) := by decide +kernel
theorem dX12_ring_229 : decode cX12_ring 229 = .ok (.iaload, 1) := by decide +kernel
theorem dX12_ring_230 : decode cX12_ring 230 = .ok (.iastore, 1) := by decide +kernel
theorem dX12_ring_231 : decode cX12_ring 231 = .ok (.iinc 8 1, 3) := by decide +kernel
theorem dX12_ring_234 : decode cX12_ring 234 = .ok (.goto (-34), 3) := by decide +kernel
theorem dX12_ring_237 : decode cX12_ring 237 = .ok (.aload_n 0, 1) := by decide +kernel
theorem dX12_ring_238 : decode cX12_ring 238 = .ok (.bipush 10, 2) := by decide +kernel
theorem dX12_ring_240 : decode cX12_ring 240 = .ok (.bipush 12, 2) := by decide +kernel
theorem dX12_ring_242 : decode cX12_ring 242 = .ok (.iload 7, 2) := by decide +kernel
theorem dX12_ring_244 : decode cX12_ring 244 = .ok (.iconst 0, 1) := by decide +kernel
theorem dX12_ring_245 : decode cX12_ring 245 = .ok (.invokevirtual 164, 3) := by decide +kernel
theorem dX12_ring_248 : decode cX12_ring 248 = .ok (.aload_n 0, 1) := by decide +kernel
theorem dX12_ring_249 : decode cX12_ring 249 = .ok (.bipush 12, 2) := by decide +kernel
theorem dX12_ring_251 : decode cX12_ring 251 = .ok (.bipush 10, 2) := by decide +kernel
theorem dX12_ring_253 : decode cX12_ring 253 = .ok (.invokevirtual 113, 3) := by decide +kernel
theorem dX12_ring_256 : decode cX12_ring 256 = .ok (.aload_n 0, 1) := by decide +kernel
theorem dX12_ring_257 : decode cX12_ring 257 = .ok (.bipush 10, 2) := by decide +kernel
theorem dX12_ring_259 : decode cX12_ring 259 = .ok (.bipush 12, 2) := by decide +kernel
theorem dX12_ring_261 : decode cX12_ring 261 = .ok (.invokevirtual 148, 3) := by decide +kernel
theorem dX12_ring_264 : decode cX12_ring 264 = .ok (.istore 4, 2) := by decide +kernel
theorem dX12_ring_266 : decode cX12_ring 266 = .ok (.iconst 0, 1) := by decide +kernel
theorem dX12_ring_267 : decode cX12_ring 267 = .ok (.istore 8, 2) := by decide +kernel
theorem dX12_ring_269 : decode cX12_ring 269 = .ok (.iconst 0, 1) := by decide +kernel
theorem dX12_ring_270 : decode cX12_ring 270 = .ok (.istore 9, 2) := by decide +kernel
theorem dX12_ring_272 : decode cX12_ring 272 = .ok (.iload 9, 2) := by decide +kernel
theorem dX12_ring_274 : decode cX12_ring 274 = .ok (.iload 5, 2) := by decide +kernel
theorem dX12_ring_276 : decode cX12_ring 276 = .ok (.if_icmp .ge 22, 3) := by decide +kernel
theorem dX12_ring_279 : decode cX12_ring 279 = .ok (.iload 8, 2) := by decide +kernel
theorem dX12_ring_281 : decode cX12_ring 281 = .ok (.ifCond .ne 17, 3) := by decide +kernel
theorem dX12_ring_284 : decode cX12_ring 284 = .ok (.aload_n 0, 1) := by decide +kernel
theorem dX12_ring_285 : decode cX12_ring 285 = .ok (.iload 9, 2) := by decide +kernel
theorem dX12_ring_287 : decode cX12_ring 287 = .ok (.invokevirtual 177, 3) := by decide +kernel
theorem dX12_ring_290 : decode cX12_ring 290 = .ok (.istore 8, 2) := by decide +kernel
theorem dX12_ring_292 : decode cX12_ring 292 = .ok (.iinc 9 1, 3) := by decide +kernel
theorem dX12_ring_295 : decode cX12_ring 295 = .ok (.goto (-23), 3) := by decide +kernel
theorem dX12_ring_298 : decode cX12_ring 298 = .ok (.iload 8, 2) := by decide +kernel
theorem dX12_ring_300 : decode cX12_ring 300 = .ok (.ifCond .ne 62, 3) := by decide +kernel
theorem dX12_ring_303 : decode cX12_ring 303 = .ok (.iload 5, 2) := by decide +kernel
theorem dX12_ring_305 : decode cX12_ring 305 = .ok (.sipush 300, 3) := by decide +kernel
theorem dX12_ring_308 : decode cX12_ring 308 = .ok (.if_icmp .ne 11, 3) := by decide +kernel
theorem dX12_ring_311 : decode cX12_ring 311 = .ok (.aload_n 0, 1) := by decide +kernel
theorem dX12_ring_312 : decode cX12_ring 312 = .ok (.iload_n 2, 1) := by decide +kernel
theorem dX12_ring_313 : decode cX12_ring 313 = .ok (.putfield 82, 3) := by decide +kernel
theorem dX12_ring_316 : decode cX12_ring 316 = .ok (.ldc 167, 2) := by decide +kernel
theorem dX12_ring_318 : decode cX12_ring 318 = .ok (.ireturn, 1) := by decide +kernel
theorem dX12_ring_319 : decode cX12_ring 319 = .ok (.iconst 0, 1) := by decide +kernel
theorem dX12_ring_320 : decode cX12_ring 320 = .ok (.istore 9, 2) := by decide +kernel
theorem dX12_ring_322 : decode cX12_ring 322 = .ok (.iload 9, 2) := by decide +kernel
theorem dX12_ring_324 : decode cX12_ring 324 = .ok (.bipush 96, 2) := by decide +kernel
theorem dX12_ring_326 : decode cX12_ring 326 = .ok (.if_icmp .ge 33, 3) := by decide +kernel
theorem dX12_ring_329 : decode cX12_ring 329 = .ok (.aload_n 0, 1) := by decide +kernel
theorem dX12_ring_330 : decode cX12_ring 330 = .ok (.getfield 59, 3) := by decide +kernel
theorem dX12_ring_333 : decode cX12_ring 333 = .ok (.bipush 96, 2) := by decide +kernel
theorem dX12_ring_335 : decode cX12_ring 335 = .ok (.iload 5, 2) := by decide +kernel
theorem dX12_ring_337 : decode cX12_ring 337 = .ok (.imul, 1) := by decide +kernel
theorem dX12_ring_338 : decode cX12_ring 338 = .ok (.iload 9, 2) := by decide +kernel
theorem dX12_ring_340 : decode cX12_ring 340 = .ok (.iadd, 1) := by decide +kernel
theorem dX12_ring_341 : decode cX12_ring 341 = .ok (.aload_n 0, 1) := by decide +kernel
theorem dX12_ring_342 : decode cX12_ring 342 = .ok (.getfield 25, 3) := by decide +kernel
theorem dX12_ring_345 : decode cX12_ring 345 = .ok (.sipush 960, 3) := by decide +kernel
theorem dX12_ring_348 : decode cX12_ring 348 = .ok (.iload 9, 2) := by decide +kernel
theorem dX12_ring_350 : decode cX12_ring 350 = .ok (.iadd, 1) := by decide +kernel
theorem dX12_ring_351 : decode cX12_ring 351 = .ok (.iaload, 1) := by decide +kernel
theorem dX12_ring_352 : decode cX12_ring 352 = .ok (.iastore, 1) := by decide +kernel
theorem dX12_ring_353 : decode cX12_ring 353 = .ok (.iinc 9 1, 3) := by decide +kernel
theorem dX12_ring_356 : decode cX12_ring 356 = .ok (.goto (-34), 3) := by decide +kernel
theorem dX12_ring_359 : decode cX12_ring 359 = .ok (.iinc 5 1, 3) := by decide +kernel
theorem dX12_ring_362 : decode cX12_ring 362 = .ok (.iinc 7 1, 3) := by decide +kernel
theorem dX12_ring_365 : decode cX12_ring 365 = .ok (.goto (-233), 3) := by decide +kernel
theorem dX12_ring_368 : decode cX12_ring 368 = .ok (.iinc 6 1, 3) := by decide +kernel
theorem dX12_ring_371 : decode cX12_ring 371 = .ok (.goto (-249), 3) := by decide +kernel
theorem dX12_ring_374 : decode cX12_ring 374 = .ok (.iload 5, 2) := by decide +kernel
theorem dX12_ring_376 : decode cX12_ring 376 = .ok (.ireturn, 1) := by decide +kernel
theorem dX12_lift_0 : decode cX12_lift 0 = .ok (.aload_n 0, 1) := by decide +kernel
theorem dX12_lift_1 : decode cX12_lift 1 = .ok (.iconst 0, 1) := by decide +kernel
theorem dX12_lift_2 : decode cX12_lift 2 = .ok (.putfield 78, 3) := by decide +kernel
theorem dX12_lift_5 : decode cX12_lift 5 = .ok (.iload_n 1, 1) := by decide +kernel
theorem dX12_lift_6 : decode cX12_lift 6 = .ok (.invokestatic 120, 3) := by decide +kernel
theorem dX12_lift_9 : decode cX12_lift 9 = .ok (.ifCond .eq 23, 3) := by decide +kernel
theorem dX12_lift_12 : decode cX12_lift 12 = .ok (.iload_n 2, 1) := by decide +kernel
theorem dX12_lift_13 : decode cX12_lift 13 = .ok (.invokestatic 92, 3) := by decide +kernel
theorem dX12_lift_16 : decode cX12_lift 16 = .ok (.ifCond .eq 16, 3) := by decide +kernel
theorem dX12_lift_19 : decode cX12_lift 19 = .ok (.iload 4, 2) := by decide +kernel
theorem dX12_lift_21 : decode cX12_lift 21 = .ok (.i2l, 1) := by decide +kernel
theorem dX12_lift_22 : decode cX12_lift 22 = .ok (.lconst 0, 1) := by decide +kernel
theorem dX12_lift_23 : decode cX12_lift 23 = .ok (.ldc2_w 180, 3) := by decide +kernel
theorem dX12_lift_26 : decode cX12_lift 26 = .ok (.invokestatic 88, 3) := by decide +kernel
theorem dX12_lift_29 : decode cX12_lift 29 = .ok (.ifCond .ne 6, 3) := by decide +kernel
theorem dX12_lift_32 : decode cX12_lift 32 = .ok (.ldc 98, 2) := by decide +kernel
theorem dX12_lift_34 : decode cX12_lift 34 = .ok (.ireturn, 1) := by decide +kernel
theorem dX12_lift_35 : decode cX12_lift 35 = .ok (.aload_n 0, 1) := by decide +kernel
theorem dX12_lift_36 : decode cX12_lift 36 = .ok (.getfield 82, 3) := by decide +kernel
theorem dX12_lift_39 : decode cX12_lift 39 = .ok (.istore 6, 2) := by decide +kernel
theorem dX12_lift_41 : decode cX12_lift 41 = .ok (.aload_n 0, 1) := by decide +kernel
theorem dX12_lift_42 : decode cX12_lift 42 = .ok (.iload_n 1, 1) := by decide +kernel
theorem dX12_lift_43 : decode cX12_lift 43 = .ok (.iconst 0, 1) := by decide +kernel
theorem dX12_lift_44 : decode cX12_lift 44 = .ok (.invokevirtual 137, 3) := by decide +kernel
theorem dX12_lift_47 : decode cX12_lift 47 = .ok (.istore 7, 2) := by decide +kernel
theorem dX12_lift_49 : decode cX12_lift 49 = .ok (.iload 7, 2) := by decide +kernel
theorem dX12_lift_51 : decode cX12_lift 51 = .ok (.ifCond .ge 6, 3) := by decide +kernel
theorem dX12_lift_54 : decode cX12_lift 54 = .ok (.iload 7, 2) := by decide +kernel
theorem dX12_lift_56 : decode cX12_lift 56 = .ok (.ireturn, 1) := by decide +kernel
theorem dX12_lift_57 : decode cX12_lift 57 = .ok (.aload_n 0, 1) := by decide +kernel
theorem dX12_lift_58 : decode cX12_lift 58 = .ok (.getfield 7, 3) := by decide +kernel
theorem dX12_lift_61 : decode cX12_lift 61 = .ok (.iload_n 2, 1) := by decide +kernel
theorem dX12_lift_62 : decode cX12_lift 62 = .ok (.iaload, 1) := by decide +kernel
theorem dX12_lift_63 : decode cX12_lift 63 = .ok (.ifCond .ge 9, 3) := by decide +kernel
theorem dX12_lift_66 : decode cX12_lift 66 = .ok (.aload_n 0, 1) := by decide +kernel
theorem dX12_lift_67 : decode cX12_lift 67 = .ok (.iconst 1, 1) := by decide +kernel
theorem dX12_lift_68 : decode cX12_lift 68 = .ok (.invokevirtual 99, 3) := by decide +kernel
theorem dX12_lift_71 : decode cX12_lift 71 = .ok (.ireturn, 1) := by decide +kernel
theorem dX12_lift_72 : decode cX12_lift 72 = .ok (.iload_n 3, 1) := by decide +kernel
theorem dX12_lift_73 : decode cX12_lift 73 = .ok (.ifCond .lt 20, 3) := by decide +kernel
theorem dX12_lift_76 : decode cX12_lift 76 = .ok (.iload_n 3, 1) := by decide +kernel
theorem dX12_lift_77 : decode cX12_lift 77 = .ok (.i2l, 1) := by decide +kernel
theorem dX12_lift_78 : decode cX12_lift 78 = .ok (.iload 4, 2) := by decide +kernel
theorem dX12_lift_80 : decode cX12_lift 80 = .ok (.i2l, 1) := by decide +kernel
theorem dX12_lift_81 : decode cX12_lift 81 = .ok (.ladd, 1) := by decide +kernel
theorem dX12_lift_82 : decode cX12_lift 82 = .ok (.aload_n 0, 1) := by decide +kernel
theorem dX12_lift_83 : decode cX12_lift 83 = .ok (.getfield 13, 3) := by decide +kernel
theorem dX12_lift_86 : decode cX12_lift 86 = .ok (.iload_n 2, 1) := by decide +kernel
theorem dX12_lift_87 : decode cX12_lift 87 = .ok (.iaload, 1) := by decide +kernel
theorem dX12_lift_88 : decode cX12_lift 88 = .ok (.i2l, 1) := by decide +kernel
theorem dX12_lift_89 : decode cX12_lift 89 = .ok (.lcmp, 1) := by decide +kernel
theorem dX12_lift_90 : decode cX12_lift 90 = .ok (.ifCond .le 9, 3) := by decide +kernel
theorem dX12_lift_93 : decode cX12_lift 93 = .ok (.aload_n 0, 1) := by decide +kernel
theorem dX12_lift_94 : decode cX12_lift 94 = .ok (.iconst 2, 1) := by decide +kernel
theorem dX12_lift_95 : decode cX12_lift 95 = .ok (.invokevirtual 99, 3) := by decide +kernel
theorem dX12_lift_98 : decode cX12_lift 98 = .ok (.ireturn, 1) := by decide +kernel
theorem dX12_lift_99 : decode cX12_lift 99 = .ok (.aload_n 0, 1) := by decide +kernel
theorem dX12_lift_100 : decode cX12_lift 100 = .ok (.iload_n 1, 1) := by decide +kernel
theorem dX12_lift_101 : decode cX12_lift 101 = .ok (.iload 5, 2) := by decide +kernel
theorem dX12_lift_103 : decode cX12_lift 103 = .ok (.invokevirtual 154, 3) := by decide +kernel
theorem dX12_lift_106 : decode cX12_lift 106 = .ok (.istore 8, 2) := by decide +kernel
theorem dX12_lift_108 : decode cX12_lift 108 = .ok (.iconst 0, 1) := by decide +kernel
theorem dX12_lift_109 : decode cX12_lift 109 = .ok (.istore 9, 2) := by decide +kernel
theorem dX12_lift_111 : decode cX12_lift 111 = .ok (.iload 9, 2) := by decide +kernel
theorem dX12_lift_113 : decode cX12_lift 113 = .ok (.iload 4, 2) := by decide +kernel
theorem dX12_lift_115 : decode cX12_lift 115 = .ok (.if_icmp .ge 66, 3) := by decide +kernel
theorem dX12_lift_118 : decode cX12_lift 118 = .ok (.aload_n 0, 1) := by decide +kernel
theorem dX12_lift_119 : decode cX12_lift 119 = .ok (.getfield 16, 3) := by decide +kernel
theorem dX12_lift_122 : decode cX12_lift 122 = .ok (.bipush 96, 2) := by decide +kernel
theorem dX12_lift_124 : decode cX12_lift 124 = .ok (.iload_n 2, 1) := by decide +kernel
theorem dX12_lift_125 : decode cX12_lift 125 = .ok (.imul, 1) := by decide +kernel
theorem dX12_lift_126 : decode cX12_lift 126 = .ok (.iload_n 3, 1) := by decide +kernel
theorem dX12_lift_127 : decode cX12_lift 127 = .ok (.iadd, 1) := by decide +kernel
theorem dX12_lift_128 : decode cX12_lift 128 = .ok (.iload 9, 2) := by decide +kernel
theorem dX12_lift_130 : decode cX12_lift 130 = .ok (.iadd, 1) := by decide +kernel
theorem dX12_lift_131 : decode cX12_lift 131 = .ok (.iaload, 1) := by decide +kernel
theorem dX12_lift_132 : decode cX12_lift 132 = .ok (.istore 10, 2) := by decide +kernel
theorem dX12_lift_134 : decode cX12_lift 134 = .ok (.iload 8, 2) := by decide +kernel
theorem dX12_lift_136 : decode cX12_lift 136 = .ok (.ifCond .eq 36, 3) := by decide +kernel
theorem dX12_lift_139 : decode cX12_lift 139 = .ok (.iload 10, 2) := by decide +kernel
theorem dX12_lift_141 : decode cX12_lift 141 = .ok (.ifCond .eq 31, 3) := by decide +kernel
theorem dX12_lift_144 : decode cX12_lift 144 = .ok (.iload 10, 2) := by decide +kernel
theorem dX12_lift_146 : decode cX12_lift 146 = .ok (.i2l, 1) := by decide +kernel
theorem dX12_lift_147 : decode cX12_lift 147 = .ok (.aload_n 0, 1) := by decide +kernel
theorem dX12_lift_148 : decode cX12_lift 148 = .ok (.getfield 22, 3) := by decide +kernel
theorem dX12_lift_151 : decode cX12_lift 151 = .ok (.iload_n 1, 1) := by decide +kernel
theorem dX12_lift_152 : decode cX12_lift 152 = .ok (.iaload, 1) := by decide +kernel
theorem dX12_lift_153 : decode cX12_lift 153 = .ok (.ineg, 1) := by decide +kernel
theorem dX12_lift_154 : decode cX12_lift 154 = .ok (.i2l, 1) := by decide +kernel
theorem dX12_lift_155 : decode cX12_lift 155 = .ok (.aload_n 0, 1) := by decide +kernel
theorem dX12_lift_156 : decode cX12_lift 156 = .ok (.getfield 22, 3) := by decide +kernel
theorem dX12_lift_159 : decode cX12_lift 159 = .ok (.iload_n 1, 1) := by decide +kernel
theorem dX12_lift_160 : decode cX12_lift 160 = .ok (.iaload, 1) := by decide +kernel
theorem dX12_lift_161 : decode cX12_lift 161 = .ok (.i2l, 1) := by decide +kernel
theorem dX12_lift_162 : decode cX12_lift 162 = .ok (.invokestatic 88, 3) := by decide +kernel
theorem dX12_lift_165 : decode cX12_lift 165 = .ok (.ifCond .eq 7, 3) := by decide +kernel
theorem dX12_lift_168 : decode cX12_lift 168 = .ok (.iconst 1, 1) := by decide +kernel
theorem dX12_lift_169 : decode cX12_lift 169 = .ok (.goto 4, 3) := by decide +kernel
theorem dX12_lift_172 : decode cX12_lift 172 = .ok (.iconst 0, 1) := by decide +kernel
theorem dX12_lift_173 : decode cX12_lift 173 = .ok (.istore 8, 2) := by decide +kernel
theorem dX12_lift_175 : decode cX12_lift 175 = .ok (.iinc 9 1, 3) := by decide +kernel
theorem dX12_lift_178 : decode cX12_lift 178 = .ok (.goto (-67), 3) := by decide +kernel
theorem dX12_lift_181 : decode cX12_lift 181 = .ok (.iload 8, 2) := by decide +kernel
theorem dX12_lift_183 : decode cX12_lift 183 = .ok (.ifCond .ne 12, 3) := by decide +kernel
theorem dX12_lift_186 : decode cX12_lift 186 = .ok (.aload_n 0, 1) := by decide +kernel
theorem dX12_lift_187 : decode cX12_lift 187 = .ok (.iload 6, 2) := by decide +kernel
theorem dX12_lift_189 : decode cX12_lift 189 = .ok (.putfield 82, 3) := by decide +kernel
theorem dX12_lift_192 : decode cX12_lift 192 = .ok (.ldc 98, 2) := by decide +kernel
theorem dX12_lift_194 : decode cX12_lift 194 = .ok (.ireturn, 1) := by decide +kernel
theorem dX12_lift_195 : decode cX12_lift 195 = .ok (.iload 5, 2) := by decide +kernel
theorem dX12_lift_197 : decode cX12_lift 197 = .ok (.istore 9, 2) := by decide +kernel
theorem dX12_lift_199 : decode cX12_lift 199 = .ok (.iconst 0, 1) := by decide +kernel
theorem dX12_lift_200 : decode cX12_lift 200 = .ok (.istore 10, 2) := by decide +kernel
theorem dX12_lift_202 : decode cX12_lift 202 = .ok (.iload 10, 2) := by decide +kernel
theorem dX12_lift_204 : decode cX12_lift 204 = .ok (.iload 4, 2) := by decide +kernel
theorem dX12_lift_206 : decode cX12_lift 206 = .ok (.if_icmp .ge 58, 3) := by decide +kernel
theorem dX12_lift_209 : decode cX12_lift 209 = .ok (.aload_n 0, 1) := by decide +kernel
theorem dX12_lift_210 : decode cX12_lift 210 = .ok (.getfield 16, 3) := by decide +kernel
theorem dX12_lift_213 : decode cX12_lift 213 = .ok (.bipush 96, 2) := by decide +kernel
theorem dX12_lift_215 : decode cX12_lift 215 = .ok (.iload_n 2, 1) := by decide +kernel
theorem dX12_lift_216 : decode cX12_lift 216 = .ok (.imul, 1) := by decide +kernel
theorem dX12_lift_217 : decode cX12_lift 217 = .ok (.iload_n 3, 1) := by decide +kernel
theorem dX12_lift_218 : decode cX12_lift 218 = .ok (.iadd, 1) := by decide +kernel
theorem dX12_lift_219 : decode cX12_lift 219 = .ok (.iload 10, 2) := by decide +kernel
theorem dX12_lift_221 : decode cX12_lift 221 = .ok (.iadd, 1) := by decide +kernel
theorem dX12_lift_222 : decode cX12_lift 222 = .ok (.iaload, 1) := by decide +kernel
theorem dX12_lift_223 : decode cX12_lift 223 = .ok (.istore 11, 2) := by decide +kernel
theorem dX12_lift_225 : decode cX12_lift 225 = .ok (.iload 11, 2) := by decide +kernel
theorem dX12_lift_227 : decode cX12_lift 227 = .ok (.ifCond .le 17, 3) := by decide +kernel
theorem dX12_lift_230 : decode cX12_lift 230 = .ok (.aload_n 0, 1) := by decide +kernel
theorem dX12_lift_231 : decode cX12_lift 231 = .ok (.iload_n 1, 1) := by decide +kernel
theorem dX12_lift_232 : decode cX12_lift 232 = .ok (.iload 11, 2) := by decide +kernel
theorem dX12_lift_234 : decode cX12_lift 234 = .ok (.iconst 1, 1) := by decide +kernel
theorem dX12_lift_235 : decode cX12_lift 235 = .ok (.isub, 1) := by decide +kernel
theorem dX12_lift_236 : decode cX12_lift 236 = .ok (.iload 9, 2) := by decide +kernel
theorem dX12_lift_238 : decode cX12_lift 238 = .ok (.invokevirtual 105, 3) := by decide +kernel
theorem dX12_lift_241 : decode cX12_lift 241 = .ok (.goto 15, 3) := by decide +kernel
theorem dX12_lift_244 : decode cX12_lift 244 = .ok (.aload_n 0, 1) := by decide +kernel
theorem dX12_lift_245 : decode cX12_lift 245 = .ok (.iload_n 1, 1) := by decide +kernel
theorem dX12_lift_246 : decode cX12_lift 246 = .ok (.iload 11, 2) := by decide +kernel
theorem dX12_lift_248 : decode cX12_lift 248 = .ok (.ineg, 1) := by decide +kernel
theorem dX12_lift_249 : decode cX12_lift 249 = .ok (.iconst 1, 1) := by decide +kernel
theorem dX12_lift_250 : decode cX12_lift 250 = .ok (.isub, 1) := by decide +kernel
theorem dX12_lift_251 : decode cX12_lift 251 = .ok (.iload 9, 2) := by decide +kernel
theorem dX12_lift_253 : decode cX12_lift 253 = .ok (.invokevirtual 161, 3) := by decide +kernel
theorem dX12_lift_256 : decode cX12_lift 256 = .ok (.istore 9, 2) := by decide +kernel
theorem dX12_lift_258 : decode cX12_lift 258 = .ok (.iinc 10 1, 3) := by decide +kernel
theorem dX12_lift_261 : decode cX12_lift 261 = .ok (.goto (-59), 3) := by decide +kernel
theorem dX12_lift_264 : decode cX12_lift 264 = .ok (.iload 9, 2) := by decide +kernel
theorem dX12_lift_266 : decode cX12_lift 266 = .ok (.ireturn, 1) := by decide +kernel
theorem dX12_kind_0 : decode cX12_kind 0 = .ok (.aload_n 0, 1) := by decide +kernel
theorem dX12_kind_1 : decode cX12_kind 1 = .ok (.iconst 0, 1) := by decide +kernel
theorem dX12_kind_2 : decode cX12_kind 2 = .ok (.putfield 78, 3) := by decide +kernel
theorem dX12_kind_5 : decode cX12_kind 5 = .ok (.iload_n 1, 1) := by decide +kernel
theorem dX12_kind_6 : decode cX12_kind 6 = .ok (.invokestatic 120, 3) := by decide +kernel
theorem dX12_kind_9 : decode cX12_kind 9 = .ok (.ifCond .ne 6, 3) := by decide +kernel
theorem dX12_kind_12 : decode cX12_kind 12 = .ok (.ldc 98, 2) := by decide +kernel
theorem dX12_kind_14 : decode cX12_kind 14 = .ok (.ireturn, 1) := by decide +kernel
theorem dX12_kind_15 : decode cX12_kind 15 = .ok (.aload_n 0, 1) := by decide +kernel
theorem dX12_kind_16 : decode cX12_kind 16 = .ok (.iload_n 1, 1) := by decide +kernel
theorem dX12_kind_17 : decode cX12_kind 17 = .ok (.iconst 0, 1) := by decide +kernel
theorem dX12_kind_18 : decode cX12_kind 18 = .ok (.invokevirtual 137, 3) := by decide +kernel
theorem dX12_kind_21 : decode cX12_kind 21 = .ok (.istore_n 2, 1) := by decide +kernel
theorem dX12_kind_22 : decode cX12_kind 22 = .ok (.iload_n 2, 1) := by decide +kernel
theorem dX12_kind_23 : decode cX12_kind 23 = .ok (.ifCond .ge 7, 3) := by decide +kernel
theorem dX12_kind_26 : decode cX12_kind 26 = .ok (.iload_n 2, 1) := by decide +kernel
theorem dX12_kind_27 : decode cX12_kind 27 = .ok (.goto 8, 3) := by decide +kernel
theorem dX12_kind_30 : decode cX12_kind 30 = .ok (.aload_n 0, 1) := by decide +kernel
theorem dX12_kind_31 : decode cX12_kind 31 = .ok (.iload_n 1, 1) := by decide +kernel
theorem dX12_kind_32 : decode cX12_kind 32 = .ok (.invokevirtual 117, 3) := by decide +kernel
theorem dX12_kind_35 : decode cX12_kind 35 = .ok (.ireturn, 1) := by decide +kernel
theorem dX12_isOf_0 : decode cX12_isOf 0 = .ok (.iload_n 1, 1) := by decide +kernel
theorem dX12_isOf_1 : decode cX12_isOf 1 = .ok (.ifCond .eq 33, 3) := by decide +kernel
theorem dX12_isOf_4 : decode cX12_isOf 4 = .ok (.iload_n 0, 1) := by decide +kernel
theorem dX12_isOf_5 : decode cX12_isOf 5 = .ok (.iload_n 1, 1) := by decide +kernel
theorem dX12_isOf_6 : decode cX12_isOf 6 = .ok (.if_icmp .eq 28, 3) := by decide +kernel
theorem dX12_isOf_9 : decode cX12_isOf 9 = .ok (.iload_n 1, 1) := by decide +kernel
theorem dX12_isOf_10 : decode cX12_isOf 10 = .ok (.iconst 3, 1) := by decide +kernel
theorem dX12_isOf_11 : decode cX12_isOf 11 = .ok (.if_icmp .ne 8, 3) := by decide +kernel
theorem dX12_isOf_14 : decode cX12_isOf 14 = .ok (.iload_n 0, 1) := by decide +kernel
theorem dX12_isOf_15 : decode cX12_isOf 15 = .ok (.iconst 4, 1) := by decide +kernel
theorem dX12_isOf_16 : decode cX12_isOf 16 = .ok (.if_icmp .eq 18, 3) := by decide +kernel
theorem dX12_isOf_19 : decode cX12_isOf 19 = .ok (.iload_n 1, 1) := by decide +kernel
theorem dX12_isOf_20 : decode cX12_isOf 20 = .ok (.iconst 2, 1) := by decide +kernel
theorem dX12_isOf_21 : decode cX12_isOf 21 = .ok (.if_icmp .ne 17, 3) := by decide +kernel
theorem dX12_isOf_24 : decode cX12_isOf 24 = .ok (.iload_n 0, 1) := by decide +kernel
theorem dX12_isOf_25 : decode cX12_isOf 25 = .ok (.iconst 3, 1) := by decide +kernel
theorem dX12_isOf_26 : decode cX12_isOf 26 = .ok (.if_icmp .eq 8, 3) := by decide +kernel
theorem dX12_isOf_29 : decode cX12_isOf 29 = .ok (.iload_n 0, 1) := by decide +kernel
theorem dX12_isOf_30 : decode cX12_isOf 30 = .ok (.iconst 4, 1) := by decide +kernel
theorem dX12_isOf_31 : decode cX12_isOf 31 = .ok (.if_icmp .ne 7, 3) := by decide +kernel
theorem dX12_isOf_34 : decode cX12_isOf 34 = .ok (.iconst 1, 1) := by decide +kernel
theorem dX12_isOf_35 : decode cX12_isOf 35 = .ok (.goto 4, 3) := by decide +kernel
theorem dX12_isOf_38 : decode cX12_isOf 38 = .ok (.iconst 0, 1) := by decide +kernel
theorem dX12_isOf_39 : decode cX12_isOf 39 = .ok (.ireturn, 1) := by decide +kernel
theorem dX12_is_0 : decode cX12_is 0 = .ok (.aload_n 0, 1) := by decide +kernel
theorem dX12_is_1 : decode cX12_is 1 = .ok (.iconst 0, 1) := by decide +kernel
theorem dX12_is_2 : decode cX12_is 2 = .ok (.putfield 78, 3) := by decide +kernel
theorem dX12_is_5 : decode cX12_is 5 = .ok (.iload_n 1, 1) := by decide +kernel
theorem dX12_is_6 : decode cX12_is 6 = .ok (.invokestatic 120, 3) := by decide +kernel
theorem dX12_is_9 : decode cX12_is 9 = .ok (.ifCond .eq 15, 3) := by decide +kernel
theorem dX12_is_12 : decode cX12_is 12 = .ok (.iload_n 2, 1) := by decide +kernel
theorem dX12_is_13 : decode cX12_is 13 = .ok (.i2l, 1) := by decide +kernel
theorem dX12_is_14 : decode cX12_is 14 = .ok (.lconst 0, 1) := by decide +kernel
theorem dX12_is_15 : decode cX12_is 15 = .ok (.ldc2_w 182, 3) := by decide +kernel
theorem dX12_is_18 : decode cX12_is 18 = .ok (.invokestatic 88, 3) := by decide +kernel
theorem dX12_is_21 : decode cX12_is 21 = .ok (.ifCond .ne 8, 3) := by decide +kernel
theorem dX12_is_24 : decode cX12_is 24 = .ok (.ldc 98, 2) := by decide +kernel
theorem dX12_is_26 : decode cX12_is 26 = .ok (.goto 29, 3) := by decide +kernel
theorem dX12_is_29 : decode cX12_is 29 = .ok (.aload_n 0, 1) := by decide +kernel
theorem dX12_is_30 : decode cX12_is 30 = .ok (.getfield 19, 3) := by decide +kernel
theorem dX12_is_33 : decode cX12_is 33 = .ok (.iload_n 1, 1) := by decide +kernel
theorem dX12_is_34 : decode cX12_is 34 = .ok (.iaload, 1) := by decide +kernel
theorem dX12_is_35 : decode cX12_is 35 = .ok (.ifCond .le 19, 3) := by decide +kernel
theorem dX12_is_38 : decode cX12_is 38 = .ok (.aload_n 0, 1) := by decide +kernel
theorem dX12_is_39 : decode cX12_is 39 = .ok (.iload_n 1, 1) := by decide +kernel
theorem dX12_is_40 : decode cX12_is 40 = .ok (.invokevirtual 117, 3) := by decide +kernel
theorem dX12_is_43 : decode cX12_is 43 = .ok (.iload_n 2, 1) := by decide +kernel
theorem dX12_is_44 : decode cX12_is 44 = .ok (.invokestatic 184, 3) := by decide +kernel
theorem dX12_is_47 : decode cX12_is 47 = .ok (.ifCond .eq 7, 3) := by decide +kernel
theorem dX12_is_50 : decode cX12_is 50 = .ok (.iconst 1, 1) := by decide +kernel
theorem dX12_is_51 : decode cX12_is 51 = .ok (.goto 4, 3) := by decide +kernel
theorem dX12_is_54 : decode cX12_is 54 = .ok (.iconst 0, 1) := by decide +kernel
theorem dX12_is_55 : decode cX12_is 55 = .ok (.ireturn, 1) := by decide +kernel
theorem dX12_as_0 : decode cX12_as 0 = .ok (.aload_n 0, 1) := by decide +kernel
theorem dX12_as_1 : decode cX12_as 1 = .ok (.iconst 0, 1) := by decide +kernel
theorem dX12_as_2 : decode cX12_as 2 = .ok (.putfield 78, 3) := by decide +kernel
theorem dX12_as_5 : decode cX12_as 5 = .ok (.iload_n 1, 1) := by decide +kernel
theorem dX12_as_6 : decode cX12_as 6 = .ok (.invokestatic 120, 3) := by decide +kernel
theorem dX12_as_9 : decode cX12_as 9 = .ok (.ifCond .eq 15, 3) := by decide +kernel
theorem dX12_as_12 : decode cX12_as 12 = .ok (.iload_n 2, 1) := by decide +kernel
theorem dX12_as_13 : decode cX12_as 13 = .ok (.i2l, 1) := by decide +kernel
theorem dX12_as_14 : decode cX12_as 14 = .ok (.lconst 0, 1) := by decide +kernel
theorem dX12_as_15 : decode cX12_as 15 = .ok (.ldc2_w 182, 3) := by decide +kernel
theorem dX12_as_18 : decode cX12_as 18 = .ok (.invokestatic 88, 3) := by decide +kernel
theorem dX12_as_21 : decode cX12_as 21 = .ok (.ifCond .ne 6, 3) := by decide +kernel
theorem dX12_as_24 : decode cX12_as 24 = .ok (.ldc 98, 2) := by decide +kernel
theorem dX12_as_26 : decode cX12_as 26 = .ok (.ireturn, 1) := by decide +kernel
theorem dX12_as_27 : decode cX12_as 27 = .ok (.aload_n 0, 1) := by decide +kernel
theorem dX12_as_28 : decode cX12_as 28 = .ok (.iload_n 1, 1) := by decide +kernel
theorem dX12_as_29 : decode cX12_as 29 = .ok (.iconst 0, 1) := by decide +kernel
theorem dX12_as_30 : decode cX12_as 30 = .ok (.invokevirtual 137, 3) := by decide +kernel
theorem dX12_as_33 : decode cX12_as 33 = .ok (.istore_n 3, 1) := by decide +kernel
theorem dX12_as_34 : decode cX12_as 34 = .ok (.iload_n 3, 1) := by decide +kernel
theorem dX12_as_35 : decode cX12_as 35 = .ok (.ifCond .ge 7, 3) := by decide +kernel
theorem dX12_as_38 : decode cX12_as 38 = .ok (.iload_n 3, 1) := by decide +kernel
theorem dX12_as_39 : decode cX12_as 39 = .ok (.goto 29, 3) := by decide +kernel
theorem dX12_as_42 : decode cX12_as 42 = .ok (.aload_n 0, 1) := by decide +kernel
theorem dX12_as_43 : decode cX12_as 43 = .ok (.iload_n 1, 1) := by decide +kernel
theorem dX12_as_44 : decode cX12_as 44 = .ok (.invokevirtual 117, 3) := by decide +kernel
theorem dX12_as_47 : decode cX12_as 47 = .ok (.iload_n 2, 1) := by decide +kernel
theorem dX12_as_48 : decode cX12_as 48 = .ok (.invokestatic 184, 3) := by decide +kernel
theorem dX12_as_51 : decode cX12_as 51 = .ok (.ifCond .eq 12, 3) := by decide +kernel
theorem dX12_as_54 : decode cX12_as 54 = .ok (.aload_n 0, 1) := by decide +kernel
theorem dX12_as_55 : decode cX12_as 55 = .ok (.getfield 19, 3) := by decide +kernel
theorem dX12_as_58 : decode cX12_as 58 = .ok (.iload_n 1, 1) := by decide +kernel
theorem dX12_as_59 : decode cX12_as 59 = .ok (.iaload, 1) := by decide +kernel
theorem dX12_as_60 : decode cX12_as 60 = .ok (.goto 8, 3) := by decide +kernel
theorem dX12_as_63 : decode cX12_as 63 = .ok (.aload_n 0, 1) := by decide +kernel
theorem dX12_as_64 : decode cX12_as 64 = .ok (.iconst 3, 1) := by decide +kernel
theorem dX12_as_65 : decode cX12_as 65 = .ok (.invokevirtual 99, 3) := by decide +kernel
theorem dX12_as_68 : decode cX12_as 68 = .ok (.ireturn, 1) := by decide +kernel
theorem dX12_began_0 : decode cX12_began 0 = .ok (.aload_n 0, 1) := by decide +kernel
theorem dX12_began_1 : decode cX12_began 1 = .ok (.getfield 187, 3) := by decide +kernel
theorem dX12_began_4 : decode cX12_began 4 = .ok (.bipush 16, 2) := by decide +kernel
theorem dX12_began_6 : decode cX12_began 6 = .ok (.if_icmp .ge 23, 3) := by decide +kernel
theorem dX12_began_9 : decode cX12_began 9 = .ok (.aload_n 0, 1) := by decide +kernel
theorem dX12_began_10 : decode cX12_began 10 = .ok (.getfield 62, 3) := by decide +kernel
theorem dX12_began_13 : decode cX12_began 13 = .ok (.aload_n 0, 1) := by decide +kernel
theorem dX12_began_14 : decode cX12_began 14 = .ok (.getfield 187, 3) := by decide +kernel
theorem dX12_began_17 : decode cX12_began 17 = .ok (.iload_n 1, 1) := by decide +kernel
theorem dX12_began_18 : decode cX12_began 18 = .ok (.iastore, 1) := by decide +kernel
theorem dX12_began_19 : decode cX12_began 19 = .ok (.aload_n 0, 1) := by decide +kernel
theorem dX12_began_20 : decode cX12_began 20 = .ok (.dup, 1) := by decide +kernel
theorem dX12_began_21 : decode cX12_began 21 = .ok (.getfield 187, 3) := by decide +kernel
theorem dX12_began_24 : decode cX12_began 24 = .ok (.iconst 1, 1) := by decide +kernel
theorem dX12_began_25 : decode cX12_began 25 = .ok (.iadd, 1) := by decide +kernel
theorem dX12_began_26 : decode cX12_began 26 = .ok (.putfield 187, 3) := by decide +kernel
theorem dX12_began_29 : decode cX12_began 29 = .ok (.return_, 1) := by decide +kernel
theorem dX12_marked_0 : decode cX12_marked 0 = .ok (.aload_n 0, 1) := by decide +kernel
theorem dX12_marked_1 : decode cX12_marked 1 = .ok (.iload_n 1, 1) := by decide +kernel
theorem dX12_marked_2 : decode cX12_marked 2 = .ok (.invokevirtual 117, 3) := by decide +kernel
theorem dX12_marked_5 : decode cX12_marked 5 = .ok (.istore_n 2, 1) := by decide +kernel
theorem dX12_marked_6 : decode cX12_marked 6 = .ok (.iload_n 2, 1) := by decide +kernel
theorem dX12_marked_7 : decode cX12_marked 7 = .ok (.iconst 4, 1) := by decide +kernel
theorem dX12_marked_8 : decode cX12_marked 8 = .ok (.if_icmp .ne 9, 3) := by decide +kernel
theorem dX12_marked_11 : decode cX12_marked 11 = .ok (.aload_n 0, 1) := by decide +kernel
theorem dX12_marked_12 : decode cX12_marked 12 = .ok (.bipush 22, 2) := by decide +kernel
theorem dX12_marked_14 : decode cX12_marked 14 = .ok (.invokevirtual 190, 3) := by decide +kernel
theorem dX12_marked_17 : decode cX12_marked 17 = .ok (.iload_n 2, 1) := by decide +kernel
theorem dX12_marked_18 : decode cX12_marked 18 = .ok (.iconst 2, 1) := by decide +kernel
theorem dX12_marked_19 : decode cX12_marked 19 = .ok (.invokestatic 184, 3) := by decide +kernel
theorem dX12_marked_22 : decode cX12_marked 22 = .ok (.ifCond .eq 9, 3) := by decide +kernel
theorem dX12_marked_25 : decode cX12_marked 25 = .ok (.aload_n 0, 1) := by decide +kernel
theorem dX12_marked_26 : decode cX12_marked 26 = .ok (.bipush 21, 2) := by decide +kernel
theorem dX12_marked_28 : decode cX12_marked 28 = .ok (.invokevirtual 190, 3) := by decide +kernel
theorem dX12_marked_31 : decode cX12_marked 31 = .ok (.aload_n 0, 1) := by decide +kernel
theorem dX12_marked_32 : decode cX12_marked 32 = .ok (.bipush 20, 2) := by decide +kernel
theorem dX12_marked_34 : decode cX12_marked 34 = .ok (.invokevirtual 190, 3) := by decide +kernel
theorem dX12_marked_37 : decode cX12_marked 37 = .ok (.aload_n 0, 1) := by decide +kernel
theorem dX12_marked_38 : decode cX12_marked 38 = .ok (.iload_n 1, 1) := by decide +kernel
theorem dX12_marked_39 : decode cX12_marked 39 = .ok (.invokevirtual 134, 3) := by decide +kernel
theorem dX12_marked_42 : decode cX12_marked 42 = .ok (.iload_n 2, 1) := by decide +kernel
theorem dX12_marked_43 : decode cX12_marked 43 = .ok (.iconst 2, 1) := by decide +kernel
theorem dX12_marked_44 : decode cX12_marked 44 = .ok (.invokestatic 184, 3) := by decide +kernel
theorem dX12_marked_47 : decode cX12_marked 47 = .ok (.ifCond .eq 8, 3) := by decide +kernel
theorem dX12_marked_50 : decode cX12_marked 50 = .ok (.bipush 100, 2) := by decide +kernel
theorem dX12_marked_52 : decode cX12_marked 52 = .ok (.goto 4, 3) := by decide +kernel
theorem dX12_marked_55 : decode cX12_marked 55 = .ok (.iconst 0, 1) := by decide +kernel
theorem dX12_marked_56 : decode cX12_marked 56 = .ok (.iadd, 1) := by decide +kernel
theorem dX12_marked_57 : decode cX12_marked 57 = .ok (.iload_n 2, 1) := by decide +kernel
theorem dX12_marked_58 : decode cX12_marked 58 = .ok (.iconst 4, 1) := by decide +kernel
theorem dX12_marked_59 : decode cX12_marked 59 = .ok (.if_icmp .ne 12, 3) := by decide +kernel
theorem dX12_marked_62 : decode cX12_marked 62 = .ok (.aload_n 0, 1) := by decide +kernel
theorem dX12_marked_63 : decode cX12_marked 63 = .ok (.iload_n 1, 1) := by decide +kernel
theorem dX12_marked_64 : decode cX12_marked 64 = .ok (.iconst 2, 1) := by decide +kernel
theorem dX12_marked_65 : decode cX12_marked 65 = .ok (.invokevirtual 109, 3) := by decide +kernel
theorem dX12_marked_68 : decode cX12_marked 68 = .ok (.goto 4, 3) := by decide +kernel
theorem dX12_marked_71 : decode cX12_marked 71 = .ok (.iconst 0, 1) := by decide +kernel
theorem dX12_marked_72 : decode cX12_marked 72 = .ok (.iadd, 1) := by decide +kernel
theorem dX12_marked_73 : decode cX12_marked 73 = .ok (.ireturn, 1) := by decide +kernel
theorem dX12_sized_0 : decode cX12_sized 0 = .ok (.aload_n 0, 1) := by decide +kernel
theorem dX12_sized_1 : decode cX12_sized 1 = .ok (.iload_n 1, 1) := by decide +kernel
theorem dX12_sized_2 : decode cX12_sized 2 = .ok (.invokevirtual 117, 3) := by decide +kernel
theorem dX12_sized_5 : decode cX12_sized 5 = .ok (.istore_n 2, 1) := by decide +kernel
theorem dX12_sized_6 : decode cX12_sized 6 = .ok (.iload_n 2, 1) := by decide +kernel
theorem dX12_sized_7 : decode cX12_sized 7 = .ok (.iconst 1, 1) := by decide +kernel
theorem dX12_sized_8 : decode cX12_sized 8 = .ok (.if_icmp .ne 29, 3) := by decide +kernel
theorem dX12_sized_11 : decode cX12_sized 11 = .ok (.aload_n 0, 1) := by decide +kernel
theorem dX12_sized_12 : decode cX12_sized 12 = .ok (.bipush 11, 2) := by decide +kernel
theorem dX12_sized_14 : decode cX12_sized 14 = .ok (.invokevirtual 190, 3) := by decide +kernel
theorem dX12_sized_17 : decode cX12_sized 17 = .ok (.aload_n 0, 1) := by decide +kernel
theorem dX12_sized_18 : decode cX12_sized 18 = .ok (.bipush 10, 2) := by decide +kernel
theorem dX12_sized_20 : decode cX12_sized 20 = .ok (.invokevirtual 190, 3) := by decide +kernel
theorem dX12_sized_23 : decode cX12_sized 23 = .ok (.aload_n 0, 1) := by decide +kernel
theorem dX12_sized_24 : decode cX12_sized 24 = .ok (.getfield 19, 3) := by decide +kernel
theorem dX12_sized_27 : decode cX12_sized 27 = .ok (.iload_n 1, 1) := by decide +kernel
theorem dX12_sized_28 : decode cX12_sized 28 = .ok (.iaload, 1) := by decide +kernel
theorem dX12_sized_29 : decode cX12_sized 29 = .ok (.aload_n 0, 1) := by decide +kernel
theorem dX12_sized_30 : decode cX12_sized 30 = .ok (.getfield 22, 3) := by decide +kernel
theorem dX12_sized_33 : decode cX12_sized 33 = .ok (.iload_n 1, 1) := by decide +kernel
theorem dX12_sized_34 : decode cX12_sized 34 = .ok (.iaload, 1) := by decide +kernel
theorem dX12_sized_35 : decode cX12_sized 35 = .ok (.iadd, 1) := by decide +kernel
theorem dX12_sized_36 : decode cX12_sized 36 = .ok (.ireturn, 1) := by decide +kernel
theorem dX12_sized_37 : decode cX12_sized 37 = .ok (.iload_n 2, 1) := by decide +kernel
theorem dX12_sized_38 : decode cX12_sized 38 = .ok (.iconst 4, 1) := by decide +kernel
theorem dX12_sized_39 : decode cX12_sized 39 = .ok (.if_icmp .ne 9, 3) := by decide +kernel
theorem dX12_sized_42 : decode cX12_sized 42 = .ok (.aload_n 0, 1) := by decide +kernel
theorem dX12_sized_43 : decode cX12_sized 43 = .ok (.bipush 14, 2) := by decide +kernel
theorem dX12_sized_45 : decode cX12_sized 45 = .ok (.invokevirtual 190, 3) := by decide +kernel
theorem dX12_sized_48 : decode cX12_sized 48 = .ok (.iload_n 2, 1) := by decide +kernel
theorem dX12_sized_49 : decode cX12_sized 49 = .ok (.iconst 3, 1) := by decide +kernel
theorem dX12_sized_50 : decode cX12_sized 50 = .ok (.invokestatic 184, 3) := by decide +kernel
theorem dX12_sized_53 : decode cX12_sized 53 = .ok (.ifCond .eq 9, 3) := by decide +kernel
theorem dX12_sized_56 : decode cX12_sized 56 = .ok (.aload_n 0, 1) := by decide +kernel
theorem dX12_sized_57 : decode cX12_sized 57 = .ok (.bipush 13, 2) := by decide +kernel
theorem dX12_sized_59 : decode cX12_sized 59 = .ok (.invokevirtual 190, 3) := by decide +kernel
theorem dX12_sized_62 : decode cX12_sized 62 = .ok (.iload_n 2, 1) := by decide +kernel
theorem dX12_sized_63 : decode cX12_sized 63 = .ok (.iconst 2, 1) := by decide +kernel
theorem dX12_sized_64 : decode cX12_sized 64 = .ok (.invokestatic 184, 3) := by decide +kernel
theorem dX12_sized_67 : decode cX12_sized 67 = .ok (.ifCond .eq 9, 3) := by decide +kernel
theorem dX12_sized_70 : decode cX12_sized 70 = .ok (.aload_n 0, 1) := by decide +kernel
theorem dX12_sized_71 : decode cX12_sized 71 = .ok (.bipush 12, 2) := by decide +kernel
theorem dX12_sized_73 : decode cX12_sized 73 = .ok (.invokevirtual 190, 3) := by decide +kernel
theorem dX12_sized_76 : decode cX12_sized 76 = .ok (.aload_n 0, 1) := by decide +kernel
theorem dX12_sized_77 : decode cX12_sized 77 = .ok (.bipush 10, 2) := by decide +kernel
theorem dX12_sized_79 : decode cX12_sized 79 = .ok (.invokevirtual 190, 3) := by decide +kernel
theorem dX12_sized_82 : decode cX12_sized 82 = .ok (.aload_n 0, 1) := by decide +kernel
theorem dX12_sized_83 : decode cX12_sized 83 = .ok (.getfield 19, 3) := by decide +kernel
theorem dX12_sized_86 : decode cX12_sized 86 = .ok (.iload_n 1, 1) := by decide +kernel
theorem dX12_sized_87 : decode cX12_sized 87 = .ok (.iaload, 1) := by decide +kernel
theorem dX12_sized_88 : decode cX12_sized 88 = .ok (.iload_n 2, 1) := by decide +kernel
theorem dX12_sized_89 : decode cX12_sized 89 = .ok (.iconst 2, 1) := by decide +kernel
theorem dX12_sized_90 : decode cX12_sized 90 = .ok (.invokestatic 184, 3) := by decide +kernel
theorem dX12_sized_93 : decode cX12_sized 93 = .ok (.ifCond .eq 12, 3) := by decide +kernel
theorem dX12_sized_96 : decode cX12_sized 96 = .ok (.aload_n 0, 1) := by decide +kernel
theorem dX12_sized_97 : decode cX12_sized 97 = .ok (.iload_n 1, 1) := by decide +kernel
theorem dX12_sized_98 : decode cX12_sized 98 = .ok (.iconst 0, 1) := by decide +kernel
theorem dX12_sized_99 : decode cX12_sized 99 = .ok (.invokevirtual 109, 3) := by decide +kernel
theorem dX12_sized_102 : decode cX12_sized 102 = .ok (.goto 4, 3) := by decide +kernel
theorem dX12_sized_105 : decode cX12_sized 105 = .ok (.iconst 0, 1) := by decide +kernel
theorem dX12_sized_106 : decode cX12_sized 106 = .ok (.iadd, 1) := by decide +kernel
theorem dX12_sized_107 : decode cX12_sized 107 = .ok (.istore_n 3, 1) := by decide +kernel
theorem dX12_sized_108 : decode cX12_sized 108 = .ok (.iload_n 2, 1) := by decide +kernel
theorem dX12_sized_109 : decode cX12_sized 109 = .ok (.iconst 3, 1) := by decide +kernel
theorem dX12_sized_110 : decode cX12_sized 110 = .ok (.invokestatic 184, 3) := by decide +kernel
theorem dX12_sized_113 : decode cX12_sized 113 = .ok (.ifCond .eq 9, 3) := by decide +kernel
theorem dX12_sized_116 : decode cX12_sized 116 = .ok (.iconst 2, 1) := by decide +kernel
theorem dX12_sized_117 : decode cX12_sized 117 = .ok (.iload_n 3, 1) := by decide +kernel
theorem dX12_sized_118 : decode cX12_sized 118 = .ok (.imul, 1) := by decide +kernel
theorem dX12_sized_119 : decode cX12_sized 119 = .ok (.goto 4, 3) := by decide +kernel
theorem dX12_sized_122 : decode cX12_sized 122 = .ok (.iload_n 3, 1) := by decide +kernel
theorem dX12_sized_123 : decode cX12_sized 123 = .ok (.istore_n 3, 1) := by decide +kernel
theorem dX12_sized_124 : decode cX12_sized 124 = .ok (.iload_n 2, 1) := by decide +kernel
theorem dX12_sized_125 : decode cX12_sized 125 = .ok (.iconst 4, 1) := by decide +kernel
theorem dX12_sized_126 : decode cX12_sized 126 = .ok (.if_icmp .ne 13, 3) := by decide +kernel
theorem dX12_sized_129 : decode cX12_sized 129 = .ok (.iload_n 3, 1) := by decide +kernel
theorem dX12_sized_130 : decode cX12_sized 130 = .ok (.aload_n 0, 1) := by decide +kernel
theorem dX12_sized_131 : decode cX12_sized 131 = .ok (.iload_n 1, 1) := by decide +kernel
theorem dX12_sized_132 : decode cX12_sized 132 = .ok (.invokevirtual 194, 3) := by decide +kernel
theorem dX12_sized_135 : decode cX12_sized 135 = .ok (.iadd, 1) := by decide +kernel
theorem dX12_sized_136 : decode cX12_sized 136 = .ok (.goto 4, 3) := by decide +kernel
theorem dX12_sized_139 : decode cX12_sized 139 = .ok (.iload_n 3, 1) := by decide +kernel
theorem dX12_sized_140 : decode cX12_sized 140 = .ok (.ireturn, 1) := by decide +kernel
theorem dX12_ask_0 : decode cX12_ask 0 = .ok (.aload_n 0, 1) := by decide +kernel
theorem dX12_ask_1 : decode cX12_ask 1 = .ok (.iconst 0, 1) := by decide +kernel
theorem dX12_ask_2 : decode cX12_ask 2 = .ok (.putfield 78, 3) := by decide +kernel
theorem dX12_ask_5 : decode cX12_ask 5 = .ok (.iload_n 1, 1) := by decide +kernel
theorem dX12_ask_6 : decode cX12_ask 6 = .ok (.invokestatic 120, 3) := by decide +kernel
theorem dX12_ask_9 : decode cX12_ask 9 = .ok (.ifCond .eq 13, 3) := by decide +kernel
theorem dX12_ask_12 : decode cX12_ask 12 = .ok (.iload_n 2, 1) := by decide +kernel
theorem dX12_ask_13 : decode cX12_ask 13 = .ok (.i2l, 1) := by decide +kernel
theorem dX12_ask_14 : decode cX12_ask 14 = .ok (.lconst 0, 1) := by decide +kernel
theorem dX12_ask_15 : decode cX12_ask 15 = .ok (.lconst 1, 1) := by decide +kernel
theorem dX12_ask_16 : decode cX12_ask 16 = .ok (.invokestatic 88, 3) := by decide +kernel
theorem dX12_ask_19 : decode cX12_ask 19 = .ok (.ifCond .ne 6, 3) := by decide +kernel
theorem dX12_ask_22 : decode cX12_ask 22 = .ok (.ldc 98, 2) := by decide +kernel
theorem dX12_ask_24 : decode cX12_ask 24 = .ok (.ireturn, 1) := by decide +kernel
theorem dX12_ask_25 : decode cX12_ask 25 = .ok (.aload_n 0, 1) := by decide +kernel
theorem dX12_ask_26 : decode cX12_ask 26 = .ok (.iconst 0, 1) := by decide +kernel
theorem dX12_ask_27 : decode cX12_ask 27 = .ok (.putfield 187, 3) := by decide +kernel
theorem dX12_ask_30 : decode cX12_ask 30 = .ok (.aload_n 0, 1) := by decide +kernel
theorem dX12_ask_31 : decode cX12_ask 31 = .ok (.iload_n 1, 1) := by decide +kernel
theorem dX12_ask_32 : decode cX12_ask 32 = .ok (.iconst 0, 1) := by decide +kernel
theorem dX12_ask_33 : decode cX12_ask 33 = .ok (.invokevirtual 137, 3) := by decide +kernel
theorem dX12_ask_36 : decode cX12_ask 36 = .ok (.istore_n 3, 1) := by decide +kernel
theorem dX12_ask_37 : decode cX12_ask 37 = .ok (.iload_n 3, 1) := by decide +kernel
theorem dX12_ask_38 : decode cX12_ask 38 = .ok (.ifCond .ge 7, 3) := by decide +kernel
theorem dX12_ask_41 : decode cX12_ask 41 = .ok (.iload_n 3, 1) := by decide +kernel
theorem dX12_ask_42 : decode cX12_ask 42 = .ok (.goto 20, 3) := by decide +kernel
theorem dX12_ask_45 : decode cX12_ask 45 = .ok (.iload_n 2, 1) := by decide +kernel
theorem dX12_ask_46 : decode cX12_ask 46 = .ok (.ifCond .ne 11, 3) := by decide +kernel
theorem dX12_ask_49 : decode cX12_ask 49 = .ok (.aload_n 0, 1) := by decide +kernel
theorem dX12_ask_50 : decode cX12_ask 50 = .ok (.iload_n 1, 1) := by decide +kernel
theorem dX12_ask_51 : decode cX12_ask 51 = .ok (.invokevirtual 197, 3) := by decide +kernel
theorem dX12_ask_54 : decode cX12_ask 54 = .ok (.goto 8, 3) := by decide +kernel
theorem dX12_ask_57 : decode cX12_ask 57 = .ok (.aload_n 0, 1) := by decide +kernel
theorem dX12_ask_58 : decode cX12_ask 58 = .ok (.iload_n 1, 1) := by decide +kernel
theorem dX12_ask_59 : decode cX12_ask 59 = .ok (.invokevirtual 194, 3) := by decide +kernel
theorem dX12_ask_62 : decode cX12_ask 62 = .ok (.ireturn, 1) := by decide +kernel
theorem dX12_trace_0 : decode cX12_trace 0 = .ok (.aload_n 0, 1) := by decide +kernel
theorem dX12_trace_1 : decode cX12_trace 1 = .ok (.iconst 0, 1) := by decide +kernel
theorem dX12_trace_2 : decode cX12_trace 2 = .ok (.putfield 78, 3) := by decide +kernel
theorem dX12_trace_5 : decode cX12_trace 5 = .ok (.iload_n 1, 1) := by decide +kernel
theorem dX12_trace_6 : decode cX12_trace 6 = .ok (.i2l, 1) := by decide +kernel
theorem dX12_trace_7 : decode cX12_trace 7 = .ok (.lconst 0, 1) := by decide +kernel
theorem dX12_trace_8 : decode cX12_trace 8 = .ok (.aload_n 0, 1) := by decide +kernel
theorem dX12_trace_9 : decode cX12_trace 9 = .ok (.getfield 187, 3) := by decide +kernel
theorem dX12_trace_12 : decode cX12_trace 12 = .ok (.iconst 1, 1) := by decide +kernel
theorem dX12_trace_13 : decode cX12_trace 13 = .ok (.isub, 1) := by decide +kernel
theorem dX12_trace_14 : decode cX12_trace 14 = .ok (.i2l, 1) := by decide +kernel
theorem dX12_trace_15 : decode cX12_trace 15 = .ok (.invokestatic 88, 3) := by decide +kernel
theorem dX12_trace_18 : decode cX12_trace 18 = .ok (.ifCond .eq 12, 3) := by decide +kernel
theorem dX12_trace_21 : decode cX12_trace 21 = .ok (.aload_n 0, 1) := by decide +kernel
theorem dX12_trace_22 : decode cX12_trace 22 = .ok (.getfield 62, 3) := by decide +kernel
theorem dX12_trace_25 : decode cX12_trace 25 = .ok (.iload_n 1, 1) := by decide +kernel
theorem dX12_trace_26 : decode cX12_trace 26 = .ok (.iaload, 1) := by decide +kernel
theorem dX12_trace_27 : decode cX12_trace 27 = .ok (.goto 5, 3) := by decide +kernel
theorem dX12_trace_30 : decode cX12_trace 30 = .ok (.ldc 176, 2) := by decide +kernel
theorem dX12_trace_32 : decode cX12_trace 32 = .ok (.ireturn, 1) := by decide +kernel
theorem dX12_findShapes_0 : decode cX12_findShapes 0 = .ok (.iconst 0, 1) := by decide +kernel
theorem dX12_findShapes_1 : decode cX12_findShapes 1 = .ok (.istore_n 2, 1) := by decide +kernel
theorem dX12_findShapes_2 : decode cX12_findShapes 2 = .ok (.iload_n 2, 1) := by decide +kernel
theorem dX12_findShapes_3 : decode cX12_findShapes 3 = .ok (.bipush 10, 2) := by decide +kernel
theorem dX12_findShapes_5 : decode cX12_findShapes 5 = .ok (.if_icmp .ge 24, 3) := by decide +kernel
theorem dX12_findShapes_8 : decode cX12_findShapes 8 = .ok (.aload_n 0, 1) := by decide +kernel
theorem dX12_findShapes_9 : decode cX12_findShapes 9 = .ok (.getfield 65, 3) := by decide +kernel
theorem dX12_findShapes_12 : decode cX12_findShapes 12 = .ok (.iload_n 2, 1) := by decide +kernel
theorem dX12_findShapes_13 : decode cX12_findShapes 13 = .ok (.iload_n 2, 1) := by decide +kernel
theorem dX12_findShapes_14 : decode cX12_findShapes 14 = .ok (.ifCond .ne 7, 3) := by decide +kernel
theorem dX12_findShapes_17 : decode cX12_findShapes 17 = .ok (.iload_n 1, 1) := by decide +kernel
theorem dX12_findShapes_18 : decode cX12_findShapes 18 = .ok (.goto 4, 3) := by decide +kernel
theorem dX12_findShapes_21 : decode cX12_findShapes 21 = .ok (.iconst 0, 1) := by decide +kernel
theorem dX12_findShapes_22 : decode cX12_findShapes 22 = .ok (.iastore, 1) := by decide +kernel
theorem dX12_findShapes_23 : decode cX12_findShapes 23 = .ok (.iinc 2 1, 3) := by decide +kernel
theorem dX12_findShapes_26 : decode cX12_findShapes 26 = .ok (.goto (-24), 3) := by decide +kernel
theorem dX12_findShapes_29 : decode cX12_findShapes 29 = .ok (.aload_n 0, 1) := by decide +kernel
theorem dX12_findShapes_30 : decode cX12_findShapes 30 = .ok (.iconst 1, 1) := by decide +kernel
theorem dX12_findShapes_31 : decode cX12_findShapes 31 = .ok (.putfield 200, 3) := by decide +kernel
theorem dX12_findShapes_34 : decode cX12_findShapes 34 = .ok (.iconst 1, 1) := by decide +kernel
theorem dX12_findShapes_35 : decode cX12_findShapes 35 = .ok (.istore_n 2, 1) := by decide +kernel
theorem dX12_findShapes_36 : decode cX12_findShapes 36 = .ok (.iload_n 2, 1) := by decide +kernel
theorem dX12_findShapes_37 : decode cX12_findShapes 37 = .ok (.ifCond .eq 213, 3) := by decide +kernel
theorem dX12_findShapes_40 : decode cX12_findShapes 40 = .ok (.bipush 10, 2) := by decide +kernel
theorem dX12_findShapes_42 : decode cX12_findShapes 42 = .ok (.aload_n 0, 1) := by decide +kernel
theorem dX12_findShapes_43 : decode cX12_findShapes 43 = .ok (.getfield 200, 3) := by decide +kernel
theorem dX12_findShapes_46 : decode cX12_findShapes 46 = .ok (.iconst 1, 1) := by decide +kernel
theorem dX12_findShapes_47 : decode cX12_findShapes 47 = .ok (.isub, 1) := by decide +kernel
theorem dX12_findShapes_48 : decode cX12_findShapes 48 = .ok (.imul, 1) := by decide +kernel
theorem dX12_findShapes_49 : decode cX12_findShapes 49 = .ok (.istore_n 3, 1) := by decide +kernel
theorem dX12_findShapes_50 : decode cX12_findShapes 50 = .ok (.bipush 9, 2) := by decide +kernel
theorem dX12_findShapes_52 : decode cX12_findShapes 52 = .ok (.istore 4, 2) := by decide +kernel
theorem dX12_findShapes_54 : decode cX12_findShapes 54 = .ok (.iconst 1, 1) := by decide +kernel
theorem dX12_findShapes_55 : decode cX12_findShapes 55 = .ok (.istore 5, 2) := by decide +kernel
theorem dX12_findShapes_57 : decode cX12_findShapes 57 = .ok (.iload 4, 2) := by decide +kernel
theorem dX12_findShapes_59 : decode cX12_findShapes 59 = .ok (.ifCond .lt 36, 3) := by decide +kernel
theorem dX12_findShapes_62 : decode cX12_findShapes 62 = .ok (.aload_n 0, 1) := by decide +kernel
theorem dX12_findShapes_63 : decode cX12_findShapes 63 = .ok (.getfield 65, 3) := by decide +kernel
theorem dX12_findShapes_66 : decode cX12_findShapes 66 = .ok (.iload_n 3, 1) := by decide +kernel
theorem dX12_findShapes_67 : decode cX12_findShapes 67 = .ok (.iload 4, 2) := by decide +kernel
theorem dX12_findShapes_69 : decode cX12_findShapes 69 = .ok (.iadd, 1) := by decide +kernel
theorem dX12_findShapes_70 : decode cX12_findShapes 70 = .ok (.iaload, 1) := by decide +kernel
theorem dX12_findShapes_71 : decode cX12_findShapes 71 = .ok (.iconst 2, 1) := by decide +kernel
theorem dX12_findShapes_72 : decode cX12_findShapes 72 = .ok (.if_icmp .ge 23, 3) := by decide +kernel
theorem dX12_findShapes_75 : decode cX12_findShapes 75 = .ok (.iload 5, 2) := by decide +kernel
theorem dX12_findShapes_77 : decode cX12_findShapes 77 = .ok (.aload_n 0, 1) := by decide +kernel
theorem dX12_findShapes_78 : decode cX12_findShapes 78 = .ok (.getfield 65, 3) := by decide +kernel
theorem dX12_findShapes_81 : decode cX12_findShapes 81 = .ok (.iload_n 3, 1) := by decide +kernel
theorem dX12_findShapes_82 : decode cX12_findShapes 82 = .ok (.iload 4, 2) := by decide +kernel
theorem dX12_findShapes_84 : decode cX12_findShapes 84 = .ok (.iadd, 1) := by decide +kernel
theorem dX12_findShapes_85 : decode cX12_findShapes 85 = .ok (.iaload, 1) := by decide +kernel
theorem dX12_findShapes_86 : decode cX12_findShapes 86 = .ok (.iadd, 1) := by decide +kernel
theorem dX12_findShapes_87 : decode cX12_findShapes 87 = .ok (.istore 5, 2) := by decide +kernel
theorem dX12_findShapes_89 : decode cX12_findShapes 89 = .ok (.iinc 4 (-1), 3) := by decide +kernel
theorem dX12_findShapes_92 : decode cX12_findShapes 92 = .ok (.goto (-35), 3) := by decide +kernel
theorem dX12_findShapes_95 : decode cX12_findShapes 95 = .ok (.iload 4, 2) := by decide +kernel
theorem dX12_findShapes_97 : decode cX12_findShapes 97 = .ok (.ifCond .lt 7, 3) := by decide +kernel
theorem dX12_findShapes_100 : decode cX12_findShapes 100 = .ok (.iconst 1, 1) := by decide +kernel
theorem dX12_findShapes_101 : decode cX12_findShapes 101 = .ok (.goto 4, 3) := by decide +kernel
theorem dX12_findShapes_104 : decode cX12_findShapes 104 = .ok (.iconst 0, 1) := by decide +kernel
theorem dX12_findShapes_105 : decode cX12_findShapes 105 = .ok (.istore_n 2, 1) := by decide +kernel
theorem dX12_findShapes_106 : decode cX12_findShapes 106 = .ok (.iload_n 2, 1) := by decide +kernel
theorem dX12_findShapes_107 : decode cX12_findShapes 107 = .ok (.ifCond .eq 140, 3) := by decide +kernel
theorem dX12_findShapes_110 : decode cX12_findShapes 110 = .ok (.aload_n 0, 1) := by decide +kernel
theorem dX12_findShapes_111 : decode cX12_findShapes 111 = .ok (.getfield 65, 3) := by decide +kernel
theorem dX12_findShapes_114 : decode cX12_findShapes 114 = .ok (.iload_n 3, 1) := by decide +kernel
theorem dX12_findShapes_115 : decode cX12_findShapes 115 = .ok (.iload 4, 2) := by decide +kernel
theorem dX12_findShapes_117 : decode cX12_findShapes 117 = .ok (.iadd, 1) := by decide +kernel
theorem dX12_findShapes_118 : decode cX12_findShapes 118 = .ok (.iaload, 1) := by decide +kernel
theorem dX12_findShapes_119 : decode cX12_findShapes 119 = .ok (.iconst 1, 1) := by decide +kernel
theorem dX12_findShapes_120 : decode cX12_findShapes 120 = .ok (.isub, 1) := by decide +kernel
theorem dX12_findShapes_121 : decode cX12_findShapes 121 = .ok (.istore 6, 2) := by decide +kernel
theorem dX12_findShapes_123 : decode cX12_findShapes 123 = .ok (.iconst 0, 1) := by decide +kernel
theorem dX12_findShapes_124 : decode cX12_findShapes 124 = .ok (.istore 7, 2) := by decide +kernel
theorem dX12_findShapes_126 : decode cX12_findShapes 126 = .ok (.iload 7, 2) := by decide +kernel
theorem dX12_findShapes_128 : decode cX12_findShapes 128 = .ok (.bipush 10, 2) := by decide +kernel
theorem dX12_findShapes_130 : decode cX12_findShapes 130 = .ok (.if_icmp .ge 107, 3) := by decide +kernel
theorem dX12_findShapes_133 : decode cX12_findShapes 133 = .ok (.iload 7, 2) := by decide +kernel
theorem dX12_findShapes_135 : decode cX12_findShapes 135 = .ok (.iload 4, 2) := by decide +kernel
theorem dX12_findShapes_137 : decode cX12_findShapes 137 = .ok (.if_icmp .ge 27, 3) := by decide +kernel
theorem dX12_findShapes_140 : decode cX12_findShapes 140 = .ok (.aload_n 0, 1) := by decide +kernel
theorem dX12_findShapes_141 : decode cX12_findShapes 141 = .ok (.getfield 65, 3) := by decide +kernel
theorem dX12_findShapes_144 : decode cX12_findShapes 144 = .ok (.iload_n 3, 1) := by decide +kernel
theorem dX12_findShapes_145 : decode cX12_findShapes 145 = .ok (.bipush 10, 2) := by decide +kernel
theorem dX12_findShapes_147 : decode cX12_findShapes 147 = .ok (.iadd, 1) := by decide +kernel
theorem dX12_findShapes_148 : decode cX12_findShapes 148 = .ok (.iload 7, 2) := by decide +kernel
theorem dX12_findShapes_150 : decode cX12_findShapes 150 = .ok (.iadd, 1) := by decide +kernel
theorem dX12_findShapes_151 : decode cX12_findShapes 151 = .ok (.aload_n 0, 1) := by decide +kernel
theorem dX12_findShapes_152 : decode cX12_findShapes 152 = .ok (.getfield 65, 3) := by decide +kernel
theorem dX12_findShapes_155 : decode cX12_findShapes 155 = .ok (.iload_n 3, 1) := by decide +kernel
theorem dX12_findShapes_156 : decode cX12_findShapes 156 = .ok (.iload 7, 2) := by decide +kernel
theorem dX12_findShapes_158 : decode cX12_findShapes 158 = .ok (.iadd, 1) := by decide +kernel
theorem dX12_findShapes_159 : decode cX12_findShapes 159 = .ok (.iaload, 1) := by decide +kernel
theorem dX12_findShapes_160 : decode cX12_findShapes 160 = .ok (.iastore, 1) := by decide +kernel
theorem dX12_findShapes_161 : decode cX12_findShapes 161 = .ok (.goto 70, 3) := by decide +kernel
theorem dX12_findShapes_164 : decode cX12_findShapes 164 = .ok (.iload 7, 2) := by decide +kernel
theorem dX12_findShapes_166 : decode cX12_findShapes 166 = .ok (.iload 4, 2) := by decide +kernel
theorem dX12_findShapes_168 : decode cX12_findShapes 168 = .ok (.if_icmp .ne 20, 3) := by decide +kernel
theorem dX12_findShapes_171 : decode cX12_findShapes 171 = .ok (.aload_n 0, 1) := by decide +kernel
theorem dX12_findShapes_172 : decode cX12_findShapes 172 = .ok (.getfield 65, 3) := by decide +kernel
theorem dX12_findShapes_175 : decode cX12_findShapes 175 = .ok (.iload_n 3, 1) := by decide +kernel
theorem dX12_findShapes_176 : decode cX12_findShapes 176 = .ok (.bipush 10, 2) := by decide +kernel
theorem dX12_findShapes_178 : decode cX12_findShapes 178 = .ok (.iadd, 1) := by decide +kernel
theorem dX12_findShapes_179 : decode cX12_findShapes 179 = .ok (.iload 7, 2) := by decide +kernel
theorem dX12_findShapes_181 : decode cX12_findShapes 181 = .ok (.iadd, 1) := by decide +kernel
theorem dX12_findShapes_182 : decode cX12_findShapes 182 = .ok (.iload 6, 2) := by decide +kernel
theorem dX12_findShapes_184 : decode cX12_findShapes 184 = .ok (.iastore, 1) := by decide +kernel
theorem dX12_findShapes_185 : decode cX12_findShapes 185 = .ok (.goto 46, 3) := by decide +kernel
theorem dX12_findShapes_188 : decode cX12_findShapes 188 = .ok (.aload_n 0, 1) := by decide +kernel
theorem dX12_findShapes_189 : decode cX12_findShapes 189 = .ok (.getfield 65, 3) := by decide +kernel
theorem dX12_findShapes_192 : decode cX12_findShapes 192 = .ok (.iload_n 3, 1) := by decide +kernel
theorem dX12_findShapes_193 : decode cX12_findShapes 193 = .ok (.bipush 10, 2) := by decide +kernel
theorem dX12_findShapes_195 : decode cX12_findShapes 195 = .ok (.iadd, 1) := by decide +kernel
theorem dX12_findShapes_196 : decode cX12_findShapes 196 = .ok (.iload 7, 2) := by decide +kernel
theorem dX12_findShapes_198 : decode cX12_findShapes 198 = .ok (.iadd, 1) := by decide +kernel
theorem dX12_findShapes_199 : decode cX12_findShapes 199 = .ok (.iload 5, 2) := by decide +kernel
theorem dX12_findShapes_201 : decode cX12_findShapes 201 = .ok (.iload 6, 2) := by decide +kernel
theorem dX12_findShapes_203 : decode cX12_findShapes 203 = .ok (.if_icmp .ge 8, 3) := by decide +kernel
theorem dX12_findShapes_206 : decode cX12_findShapes 206 = .ok (.iload 5, 2) := by decide +kernel
theorem dX12_findShapes_208 : decode cX12_findShapes 208 = .ok (.goto 5, 3) := by decide +kernel
theorem dX12_findShapes_211 : decode cX12_findShapes 211 = .ok (.iload 6, 2) := by decide +kernel
theorem dX12_findShapes_213 : decode cX12_findShapes 213 = .ok (.iastore, 1) := by decide +kernel
theorem dX12_findShapes_214 : decode cX12_findShapes 214 = .ok (.iload 5, 2) := by decide +kernel
theorem dX12_findShapes_216 : decode cX12_findShapes 216 = .ok (.aload_n 0, 1) := by decide +kernel
theorem dX12_findShapes_217 : decode cX12_findShapes 217 = .ok (.getfield 65, 3) := by decide +kernel
theorem dX12_findShapes_220 : decode cX12_findShapes 220 = .ok (.iload_n 3, 1) := by decide +kernel
theorem dX12_findShapes_221 : decode cX12_findShapes 221 = .ok (.bipush 10, 2) := by decide +kernel
theorem dX12_findShapes_223 : decode cX12_findShapes 223 = .ok (.iadd, 1) := by decide +kernel
theorem dX12_findShapes_224 : decode cX12_findShapes 224 = .ok (.iload 7, 2) := by decide +kernel
theorem dX12_findShapes_226 : decode cX12_findShapes 226 = .ok (.iadd, 1) := by decide +kernel
theorem dX12_findShapes_227 : decode cX12_findShapes 227 = .ok (.iaload, 1) := by decide +kernel
theorem dX12_findShapes_228 : decode cX12_findShapes 228 = .ok (.isub, 1) := by decide +kernel
theorem dX12_findShapes_229 : decode cX12_findShapes 229 = .ok (.istore 5, 2) := by decide +kernel
theorem dX12_findShapes_231 : decode cX12_findShapes 231 = .ok (.iinc 7 1, 3) := by decide +kernel
theorem dX12_findShapes_234 : decode cX12_findShapes 234 = .ok (.goto (-108), 3) := by decide +kernel
theorem dX12_findShapes_237 : decode cX12_findShapes 237 = .ok (.aload_n 0, 1) := by decide +kernel
theorem dX12_findShapes_238 : decode cX12_findShapes 238 = .ok (.dup, 1) := by decide +kernel
theorem dX12_findShapes_239 : decode cX12_findShapes 239 = .ok (.getfield 200, 3) := by decide +kernel
theorem dX12_findShapes_242 : decode cX12_findShapes 242 = .ok (.iconst 1, 1) := by decide +kernel
theorem dX12_findShapes_243 : decode cX12_findShapes 243 = .ok (.iadd, 1) := by decide +kernel
theorem dX12_findShapes_244 : decode cX12_findShapes 244 = .ok (.putfield 200, 3) := by decide +kernel
theorem dX12_findShapes_247 : decode cX12_findShapes 247 = .ok (.goto (-211), 3) := by decide +kernel
theorem dX12_findShapes_250 : decode cX12_findShapes 250 = .ok (.return_, 1) := by decide +kernel
theorem dX12_changed_0 : decode cX12_changed 0 = .ok (.iconst 0, 1) := by decide +kernel
theorem dX12_changed_1 : decode cX12_changed 1 = .ok (.istore 6, 2) := by decide +kernel
theorem dX12_changed_3 : decode cX12_changed 3 = .ok (.iconst 0, 1) := by decide +kernel
theorem dX12_changed_4 : decode cX12_changed 4 = .ok (.istore 7, 2) := by decide +kernel
theorem dX12_changed_6 : decode cX12_changed 6 = .ok (.iload_n 3, 1) := by decide +kernel
theorem dX12_changed_7 : decode cX12_changed 7 = .ok (.ifCond .ne 7, 3) := by decide +kernel
theorem dX12_changed_10 : decode cX12_changed 10 = .ok (.iconst 1, 1) := by decide +kernel
theorem dX12_changed_11 : decode cX12_changed 11 = .ok (.goto 4, 3) := by decide +kernel
theorem dX12_changed_14 : decode cX12_changed 14 = .ok (.iconst 0, 1) := by decide +kernel
theorem dX12_changed_15 : decode cX12_changed 15 = .ok (.istore 8, 2) := by decide +kernel
theorem dX12_changed_17 : decode cX12_changed 17 = .ok (.iconst 0, 1) := by decide +kernel
theorem dX12_changed_18 : decode cX12_changed 18 = .ok (.istore 9, 2) := by decide +kernel
theorem dX12_changed_20 : decode cX12_changed 20 = .ok (.iload 9, 2) := by decide +kernel
theorem dX12_changed_22 : decode cX12_changed 22 = .ok (.bipush 10, 2) := by decide +kernel
theorem dX12_changed_24 : decode cX12_changed 24 = .ok (.if_icmp .ge 74, 3) := by decide +kernel
theorem dX12_changed_27 : decode cX12_changed 27 = .ok (.aload_n 0, 1) := by decide +kernel
theorem dX12_changed_28 : decode cX12_changed 28 = .ok (.getfield 65, 3) := by decide +kernel
theorem dX12_changed_31 : decode cX12_changed 31 = .ok (.bipush 10, 2) := by decide +kernel
theorem dX12_changed_33 : decode cX12_changed 33 = .ok (.iload_n 1, 1) := by decide +kernel
theorem dX12_changed_34 : decode cX12_changed 34 = .ok (.imul, 1) := by decide +kernel
theorem dX12_changed_35 : decode cX12_changed 35 = .ok (.iload 9, 2) := by decide +kernel
theorem dX12_changed_37 : decode cX12_changed 37 = .ok (.iadd, 1) := by decide +kernel
theorem dX12_changed_38 : decode cX12_changed 38 = .ok (.iaload, 1) := by decide +kernel
theorem dX12_changed_39 : decode cX12_changed 39 = .ok (.istore 10, 2) := by decide +kernel
theorem dX12_changed_41 : decode cX12_changed 41 = .ok (.iload 10, 2) := by decide +kernel
theorem dX12_changed_43 : decode cX12_changed 43 = .ok (.ifCond .le 49, 3) := by decide +kernel
theorem dX12_changed_46 : decode cX12_changed 46 = .ok (.iload 10, 2) := by decide +kernel
theorem dX12_changed_48 : decode cX12_changed 48 = .ok (.iload_n 2, 1) := by decide +kernel
theorem dX12_changed_49 : decode cX12_changed 49 = .ok (.if_icmp .ne 14, 3) := by decide +kernel
theorem dX12_changed_52 : decode cX12_changed 52 = .ok (.iload 7, 2) := by decide +kernel
theorem dX12_changed_54 : decode cX12_changed 54 = .ok (.ifCond .ne 9, 3) := by decide +kernel
theorem dX12_changed_57 : decode cX12_changed 57 = .ok (.iconst 1, 1) := by decide +kernel
theorem dX12_changed_58 : decode cX12_changed 58 = .ok (.istore 7, 2) := by decide +kernel
theorem dX12_changed_60 : decode cX12_changed 60 = .ok (.goto 32, 3) := by decide +kernel
theorem dX12_changed_63 : decode cX12_changed 63 = .ok (.iload 10, 2) := by decide +kernel
theorem dX12_changed_65 : decode cX12_changed 65 = .ok (.iload_n 3, 1) := by decide +kernel
theorem dX12_changed_66 : decode cX12_changed 66 = .ok (.if_icmp .ne 14, 3) := by decide +kernel
theorem dX12_changed_69 : decode cX12_changed 69 = .ok (.iload 8, 2) := by decide +kernel
theorem dX12_changed_71 : decode cX12_changed 71 = .ok (.ifCond .ne 9, 3) := by decide +kernel
theorem dX12_changed_74 : decode cX12_changed 74 = .ok (.iconst 1, 1) := by decide +kernel
theorem dX12_changed_75 : decode cX12_changed 75 = .ok (.istore 8, 2) := by decide +kernel
theorem dX12_changed_77 : decode cX12_changed 77 = .ok (.goto 15, 3) := by decide +kernel
theorem dX12_changed_80 : decode cX12_changed 80 = .ok (.aload_n 0, 1) := by decide +kernel
theorem dX12_changed_81 : decode cX12_changed 81 = .ok (.getfield 68, 3) := by decide +kernel
theorem dX12_changed_84 : decode cX12_changed 84 = .ok (.iload 6, 2) := by decide +kernel
theorem dX12_changed_86 : decode cX12_changed 86 = .ok (.iload 10, 2) := by decide +kernel
theorem dX12_changed_88 : decode cX12_changed 88 = .ok (.iastore, 1) := by decide +kernel
theorem dX12_changed_89 : decode cX12_changed 89 = .ok (.iinc 6 1, 3) := by decide +kernel
theorem dX12_changed_92 : decode cX12_changed 92 = .ok (.iinc 9 1, 3) := by decide +kernel
theorem dX12_changed_95 : decode cX12_changed 95 = .ok (.goto (-75), 3) := by decide +kernel
theorem dX12_changed_98 : decode cX12_changed 98 = .ok (.aload_n 0, 1) := by decide +kernel
theorem dX12_changed_99 : decode cX12_changed 99 = .ok (.getfield 68, 3) := by decide +kernel
theorem dX12_changed_102 : decode cX12_changed 102 = .ok (.iload 6, 2) := by decide +kernel
theorem dX12_changed_104 : decode cX12_changed 104 = .ok (.iload 4, 2) := by decide +kernel
theorem dX12_changed_106 : decode cX12_changed 106 = .ok (.iastore, 1) := by decide +kernel
theorem dX12_changed_107 : decode cX12_changed 107 = .ok (.iinc 6 1, 3) := by decide +kernel
theorem dX12_changed_110 : decode cX12_changed 110 = .ok (.iload 5, 2) := by decide +kernel
theorem dX12_changed_112 : decode cX12_changed 112 = .ok (.ifCond .le 15, 3) := by decide +kernel
theorem dX12_changed_115 : decode cX12_changed 115 = .ok (.aload_n 0, 1) := by decide +kernel
theorem dX12_changed_116 : decode cX12_changed 116 = .ok (.getfield 68, 3) := by decide +kernel
theorem dX12_changed_119 : decode cX12_changed 119 = .ok (.iload 6, 2) := by decide +kernel
theorem dX12_changed_121 : decode cX12_changed 121 = .ok (.iload 5, 2) := by decide +kernel
theorem dX12_changed_123 : decode cX12_changed 123 = .ok (.iastore, 1) := by decide +kernel
theorem dX12_changed_124 : decode cX12_changed 124 = .ok (.iinc 6 1, 3) := by decide +kernel
theorem dX12_changed_127 : decode cX12_changed 127 = .ok (.iconst 0, 1) := by decide +kernel
theorem dX12_changed_128 : decode cX12_changed 128 = .ok (.istore 9, 2) := by decide +kernel
theorem dX12_changed_130 : decode cX12_changed 130 = .ok (.iload 9, 2) := by decide +kernel
theorem dX12_changed_132 : decode cX12_changed 132 = .ok (.iload 6, 2) := by decide +kernel
theorem dX12_changed_134 : decode cX12_changed 134 = .ok (.if_icmp .ge 80, 3) := by decide +kernel
theorem dX12_changed_137 : decode cX12_changed 137 = .ok (.iconst 1, 1) := by decide +kernel
theorem dX12_changed_138 : decode cX12_changed 138 = .ok (.istore 10, 2) := by decide +kernel
theorem dX12_changed_140 : decode cX12_changed 140 = .ok (.iload 10, 2) := by decide +kernel
theorem dX12_changed_142 : decode cX12_changed 142 = .ok (.iload 6, 2) := by decide +kernel
theorem dX12_changed_144 : decode cX12_changed 144 = .ok (.if_icmp .ge 64, 3) := by decide +kernel
theorem dX12_changed_147 : decode cX12_changed 147 = .ok (.aload_n 0, 1) := by decide +kernel
theorem dX12_changed_148 : decode cX12_changed 148 = .ok (.getfield 68, 3) := by decide +kernel
theorem dX12_changed_151 : decode cX12_changed 151 = .ok (.iload 10, 2) := by decide +kernel
theorem dX12_changed_153 : decode cX12_changed 153 = .ok (.iconst 1, 1) := by decide +kernel
theorem dX12_changed_154 : decode cX12_changed 154 = .ok (.isub, 1) := by decide +kernel
theorem dX12_changed_155 : decode cX12_changed 155 = .ok (.iaload, 1) := by decide +kernel
theorem dX12_changed_156 : decode cX12_changed 156 = .ok (.aload_n 0, 1) := by decide +kernel
theorem dX12_changed_157 : decode cX12_changed 157 = .ok (.getfield 68, 3) := by decide +kernel
theorem dX12_changed_160 : decode cX12_changed 160 = .ok (.iload 10, 2) := by decide +kernel
theorem dX12_changed_162 : decode cX12_changed 162 = .ok (.iaload, 1) := by decide +kernel
theorem dX12_changed_163 : decode cX12_changed 163 = .ok (.if_icmp .ge 39, 3) := by decide +kernel
theorem dX12_changed_166 : decode cX12_changed 166 = .ok (.aload_n 0, 1) := by decide +kernel
theorem dX12_changed_167 : decode cX12_changed 167 = .ok (.getfield 68, 3) := by decide +kernel
theorem dX12_changed_170 : decode cX12_changed 170 = .ok (.iload 10, 2) := by decide +kernel
theorem dX12_changed_172 : decode cX12_changed 172 = .ok (.iaload, 1) := by decide +kernel
theorem dX12_changed_173 : decode cX12_changed 173 = .ok (.istore 11, 2) := by decide +kernel
theorem dX12_changed_175 : decode cX12_changed 175 = .ok (.aload_n 0, 1) := by decide +kernel
theorem dX12_changed_176 : decode cX12_changed 176 = .ok (.getfield 68, 3) := by decide +kernel
theorem dX12_changed_179 : decode cX12_changed 179 = .ok (.iload 10, 2) := by decide +kernel
theorem dX12_changed_181 : decode cX12_changed 181 = .ok (.aload_n 0, 1) := by decide +kernel
theorem dX12_changed_182 : decode cX12_changed 182 = .ok (.getfield 68, 3) := by decide +kernel
theorem dX12_changed_185 : decode cX12_changed 185 = .ok (.iload 10, 2) := by decide +kernel
theorem dX12_changed_187 : decode cX12_changed 187 = .ok (.iconst 1, 1) := by decide +kernel
theorem dX12_changed_188 : decode cX12_changed 188 = .ok (.isub, 1) := by decide +kernel
theorem dX12_changed_189 : decode cX12_changed 189 = .ok (.iaload, 1) := by decide +kernel
theorem dX12_changed_190 : decode cX12_changed 190 = .ok (.iastore, 1) := by decide +kernel
theorem dX12_changed_191 : decode cX12_changed 191 = .ok (.aload_n 0, 1) := by decide +kernel
theorem dX12_changed_192 : decode cX12_changed 192 = .ok (.getfield 68, 3) := by decide +kernel
theorem dX12_changed_195 : decode cX12_changed 195 = .ok (.iload 10, 2) := by decide +kernel
theorem dX12_changed_197 : decode cX12_changed 197 = .ok (.iconst 1, 1) := by decide +kernel
theorem dX12_changed_198 : decode cX12_changed 198 = .ok (.isub, 1) := by decide +kernel
theorem dX12_changed_199 : decode cX12_changed 199 = .ok (.iload 11, 2) := by decide +kernel
theorem dX12_changed_201 : decode cX12_changed 201 = .ok (.iastore, 1) := by decide +kernel
theorem dX12_changed_202 : decode cX12_changed 202 = .ok (.iinc 10 1, 3) := by decide +kernel
theorem dX12_changed_205 : decode cX12_changed 205 = .ok (.goto (-65), 3) := by decide +kernel
theorem dX12_changed_208 : decode cX12_changed 208 = .ok (.iinc 9 1, 3) := by decide +kernel
theorem dX12_changed_211 : decode cX12_changed 211 = .ok (.goto (-81), 3) := by decide +kernel
theorem dX12_changed_214 : decode cX12_changed 214 = .ok (.ldc 176, 2) := by decide +kernel
theorem dX12_changed_216 : decode cX12_changed 216 = .ok (.istore 9, 2) := by decide +kernel
theorem dX12_changed_218 : decode cX12_changed 218 = .ok (.iconst 0, 1) := by decide +kernel
theorem dX12_changed_219 : decode cX12_changed 219 = .ok (.istore 10, 2) := by decide +kernel
theorem dX12_changed_221 : decode cX12_changed 221 = .ok (.iload 10, 2) := by decide +kernel
theorem dX12_changed_223 : decode cX12_changed 223 = .ok (.aload_n 0, 1) := by decide +kernel
theorem dX12_changed_224 : decode cX12_changed 224 = .ok (.getfield 200, 3) := by decide +kernel
theorem dX12_changed_227 : decode cX12_changed 227 = .ok (.if_icmp .ge 88, 3) := by decide +kernel
theorem dX12_changed_230 : decode cX12_changed 230 = .ok (.iconst 1, 1) := by decide +kernel
theorem dX12_changed_231 : decode cX12_changed 231 = .ok (.istore 11, 2) := by decide +kernel
theorem dX12_changed_233 : decode cX12_changed 233 = .ok (.iconst 0, 1) := by decide +kernel
theorem dX12_changed_234 : decode cX12_changed 234 = .ok (.istore 12, 2) := by decide +kernel
theorem dX12_changed_236 : decode cX12_changed 236 = .ok (.iload 12, 2) := by decide +kernel
theorem dX12_changed_238 : decode cX12_changed 238 = .ok (.bipush 10, 2) := by decide +kernel
theorem dX12_changed_240 : decode cX12_changed 240 = .ok (.if_icmp .ge 55, 3) := by decide +kernel
theorem dX12_changed_243 : decode cX12_changed 243 = .ok (.iload 11, 2) := by decide +kernel
theorem dX12_changed_245 : decode cX12_changed 245 = .ok (.ifCond .eq 41, 3) := by decide +kernel
theorem dX12_changed_248 : decode cX12_changed 248 = .ok (.aload_n 0, 1) := by decide +kernel
theorem dX12_changed_249 : decode cX12_changed 249 = .ok (.getfield 65, 3) := by decide +kernel
theorem dX12_changed_252 : decode cX12_changed 252 = .ok (.bipush 10, 2) := by decide +kernel
theorem dX12_changed_254 : decode cX12_changed 254 = .ok (.iload 10, 2) := by decide +kernel
theorem dX12_changed_256 : decode cX12_changed 256 = .ok (.imul, 1) := by decide +kernel
theorem dX12_changed_257 : decode cX12_changed 257 = .ok (.iload 12, 2) := by decide +kernel
theorem dX12_changed_259 : decode cX12_changed 259 = .ok (.iadd, 1) := by decide +kernel
theorem dX12_changed_260 : decode cX12_changed 260 = .ok (.iaload, 1) := by decide +kernel
theorem dX12_changed_261 : decode cX12_changed 261 = .ok (.iload 12, 2) := by decide +kernel
theorem dX12_changed_263 : decode cX12_changed 263 = .ok (.iload 6, 2) := by decide +kernel
theorem dX12_changed_265 : decode cX12_changed 265 = .ok (.if_icmp .ge 13, 3) := by decide +kernel
theorem dX12_changed_268 : decode cX12_changed 268 = .ok (.aload_n 0, 1) := by decide +kernel
theorem dX12_changed_269 : decode cX12_changed 269 = .ok (.getfield 68, 3) := by decide +kernel
theorem dX12_changed_272 : decode cX12_changed 272 = .ok (.iload 12, 2) := by decide +kernel
theorem dX12_changed_274 : decode cX12_changed 274 = .ok (.iaload, 1) := by decide +kernel
theorem dX12_changed_275 : decode cX12_changed 275 = .ok (.goto 4, 3) := by decide +kernel
theorem dX12_changed_278 : decode cX12_changed 278 = .ok (.iconst 0, 1) := by decide +kernel
theorem dX12_changed_279 : decode cX12_changed 279 = .ok (.if_icmp .ne 7, 3) := by decide +kernel
theorem dX12_changed_282 : decode cX12_changed 282 = .ok (.iconst 1, 1) := by decide +kernel
theorem dX12_changed_283 : decode cX12_changed 283 = .ok (.goto 4, 3) := by decide +kernel
theorem dX12_changed_286 : decode cX12_changed 286 = .ok (.iconst 0, 1) := by decide +kernel
theorem dX12_changed_287 : decode cX12_changed 287 = .ok (.istore 11, 2) := by decide +kernel
theorem dX12_changed_289 : decode cX12_changed 289 = .ok (.iinc 12 1, 3) := by decide +kernel
theorem dX12_changed_292 : decode cX12_changed 292 = .ok (.goto (-56), 3) := by decide +kernel
theorem dX12_changed_295 : decode cX12_changed 295 = .ok (.iload 11, 2) := by decide +kernel
theorem dX12_changed_297 : decode cX12_changed 297 = .ok (.ifCond .eq 8, 3) := by decide +kernel
theorem dX12_changed_300 : decode cX12_changed 300 = .ok (.iload 10, 2) := by decide +kernel
theorem dX12_changed_302 : decode cX12_changed 302 = .ok (.goto 5, 3) := by decide +kernel
theorem dX12_changed_305 : decode cX12_changed 305 = .ok (.iload 9, 2) := by decide +kernel
theorem dX12_changed_307 : decode cX12_changed 307 = .ok (.istore 9, 2) := by decide +kernel
theorem dX12_changed_309 : decode cX12_changed 309 = .ok (.iinc 10 1, 3) := by decide +kernel
theorem dX12_changed_312 : decode cX12_changed 312 = .ok (.goto (-91), 3) := by decide +kernel
theorem dX12_changed_315 : decode cX12_changed 315 = .ok (.iload 9, 2) := by decide +kernel
theorem dX12_changed_317 : decode cX12_changed 317 = .ok (.ireturn, 1) := by decide +kernel
theorem dX12_joins_0 : decode cX12_joins 0 = .ok (.aload_n 0, 1) := by decide +kernel
theorem dX12_joins_1 : decode cX12_joins 1 = .ok (.iconst 0, 1) := by decide +kernel
theorem dX12_joins_2 : decode cX12_joins 2 = .ok (.putfield 78, 3) := by decide +kernel
theorem dX12_joins_5 : decode cX12_joins 5 = .ok (.iload_n 1, 1) := by decide +kernel
theorem dX12_joins_6 : decode cX12_joins 6 = .ok (.i2l, 1) := by decide +kernel
theorem dX12_joins_7 : decode cX12_joins 7 = .ok (.ldc2_w 96, 3) := by decide +kernel
theorem dX12_joins_10 : decode cX12_joins 10 = .ok (.ldc2_w 203, 3) := by decide +kernel
theorem dX12_joins_13 : decode cX12_joins 13 = .ok (.invokestatic 88, 3) := by decide +kernel
theorem dX12_joins_16 : decode cX12_joins 16 = .ok (.ifCond .eq 15, 3) := by decide +kernel
theorem dX12_joins_19 : decode cX12_joins 19 = .ok (.iload_n 2, 1) := by decide +kernel
theorem dX12_joins_20 : decode cX12_joins 20 = .ok (.i2l, 1) := by decide +kernel
theorem dX12_joins_21 : decode cX12_joins 21 = .ok (.lconst 0, 1) := by decide +kernel
theorem dX12_joins_22 : decode cX12_joins 22 = .ok (.ldc2_w 103, 3) := by decide +kernel
theorem dX12_joins_25 : decode cX12_joins 25 = .ok (.invokestatic 88, 3) := by decide +kernel
theorem dX12_joins_28 : decode cX12_joins 28 = .ok (.ifCond .ne 7, 3) := by decide +kernel
theorem dX12_joins_31 : decode cX12_joins 31 = .ok (.ldc2_w 205, 3) := by decide +kernel
theorem dX12_joins_34 : decode cX12_joins 34 = .ok (.lreturn, 1) := by decide +kernel
theorem dX12_joins_35 : decode cX12_joins 35 = .ok (.aload_n 0, 1) := by decide +kernel
theorem dX12_joins_36 : decode cX12_joins 36 = .ok (.iload_n 1, 1) := by decide +kernel
theorem dX12_joins_37 : decode cX12_joins 37 = .ok (.invokevirtual 207, 3) := by decide +kernel
theorem dX12_joins_40 : decode cX12_joins 40 = .ok (.iload_n 3, 1) := by decide +kernel
theorem dX12_joins_41 : decode cX12_joins 41 = .ok (.i2l, 1) := by decide +kernel
theorem dX12_joins_42 : decode cX12_joins 42 = .ok (.lconst 0, 1) := by decide +kernel
theorem dX12_joins_43 : decode cX12_joins 43 = .ok (.aload_n 0, 1) := by decide +kernel
theorem dX12_joins_44 : decode cX12_joins 44 = .ok (.getfield 200, 3) := by decide +kernel
theorem dX12_joins_47 : decode cX12_joins 47 = .ok (.iconst 1, 1) := by decide +kernel
theorem dX12_joins_48 : decode cX12_joins 48 = .ok (.isub, 1) := by decide +kernel
theorem dX12_joins_49 : decode cX12_joins 49 = .ok (.i2l, 1) := by decide +kernel
theorem dX12_joins_50 : decode cX12_joins 50 = .ok (.invokestatic 88, 3) := by decide +kernel
theorem dX12_joins_53 : decode cX12_joins 53 = .ok (.ifCond .ne 7, 3) := by decide +kernel
theorem dX12_joins_56 : decode cX12_joins 56 = .ok (.ldc2_w 205, 3) := by decide +kernel
theorem dX12_joins_59 : decode cX12_joins 59 = .ok (.lreturn, 1) := by decide +kernel
theorem dX12_joins_60 : decode cX12_joins 60 = .ok (.iconst 0, 1) := by decide +kernel
theorem dX12_joins_61 : decode cX12_joins 61 = .ok (.istore 4, 2) := by decide +kernel
theorem dX12_joins_63 : decode cX12_joins 63 = .ok (.iload 4, 2) := by decide +kernel
theorem dX12_joins_65 : decode cX12_joins 65 = .ok (.aload_n 0, 1) := by decide +kernel
theorem dX12_joins_66 : decode cX12_joins 66 = .ok (.getfield 200, 3) := by decide +kernel
theorem dX12_joins_69 : decode cX12_joins 69 = .ok (.if_icmp .ge 32, 3) := by decide +kernel
theorem dX12_joins_72 : decode cX12_joins 72 = .ok (.aload_n 0, 1) := by decide +kernel
theorem dX12_joins_73 : decode cX12_joins 73 = .ok (.getfield 71, 3) := by decide +kernel
theorem dX12_joins_76 : decode cX12_joins 76 = .ok (.iload 4, 2) := by decide +kernel
theorem dX12_joins_78 : decode cX12_joins 78 = .ok (.iload 4, 2) := by decide +kernel
theorem dX12_joins_80 : decode cX12_joins 80 = .ok (.aload_n 0, 1) := by decide +kernel
theorem dX12_joins_81 : decode cX12_joins 81 = .ok (.getfield 200, 3) := by decide +kernel
theorem dX12_joins_84 : decode cX12_joins 84 = .ok (.iconst 1, 1) := by decide +kernel
theorem dX12_joins_85 : decode cX12_joins 85 = .ok (.isub, 1) := by decide +kernel
theorem dX12_joins_86 : decode cX12_joins 86 = .ok (.if_icmp .ne 7, 3) := by decide +kernel
theorem dX12_joins_89 : decode cX12_joins 89 = .ok (.lconst 1, 1) := by decide +kernel
theorem dX12_joins_90 : decode cX12_joins 90 = .ok (.goto 4, 3) := by decide +kernel
theorem dX12_joins_93 : decode cX12_joins 93 = .ok (.lconst 0, 1) := by decide +kernel
theorem dX12_joins_94 : decode cX12_joins 94 = .ok (.lastore, 1) := by decide +kernel
theorem dX12_joins_95 : decode cX12_joins 95 = .ok (.iinc 4 1, 3) := by decide +kernel
theorem dX12_joins_98 : decode cX12_joins 98 = .ok (.goto (-35), 3) := by decide +kernel
theorem dX12_joins_101 : decode cX12_joins 101 = .ok (.iconst 0, 1) := by decide +kernel
theorem dX12_joins_102 : decode cX12_joins 102 = .ok (.istore 4, 2) := by decide +kernel
theorem dX12_joins_104 : decode cX12_joins 104 = .ok (.iload 4, 2) := by decide +kernel
theorem dX12_joins_106 : decode cX12_joins 106 = .ok (.iload_n 2, 1) := by decide +kernel
theorem dX12_joins_107 : decode cX12_joins 107 = .ok (.if_icmp .ge 246, 3) := by decide +kernel
theorem dX12_joins_110 : decode cX12_joins 110 = .ok (.iconst 0, 1) := by decide +kernel
theorem dX12_joins_111 : decode cX12_joins 111 = .ok (.istore 5, 2) := by decide +kernel
theorem dX12_joins_113 : decode cX12_joins 113 = .ok (.iload 5, 2) := by decide +kernel
theorem dX12_joins_115 : decode cX12_joins 115 = .ok (.aload_n 0, 1) := by decide +kernel
theorem dX12_joins_116 : decode cX12_joins 116 = .ok (.getfield 200, 3) := by decide +kernel
theorem dX12_joins_119 : decode cX12_joins 119 = .ok (.if_icmp .ge 196, 3) := by decide +kernel
theorem dX12_joins_122 : decode cX12_joins 122 = .ok (.lconst 0, 1) := by decide +kernel
theorem dX12_joins_123 : decode cX12_joins 123 = .ok (.lstore 6, 2) := by decide +kernel
theorem dX12_joins_125 : decode cX12_joins 125 = .ok (.iconst 0, 1) := by decide +kernel
theorem dX12_joins_126 : decode cX12_joins 126 = .ok (.istore 8, 2) := by decide +kernel
theorem dX12_joins_128 : decode cX12_joins 128 = .ok (.iload 8, 2) := by decide +kernel
theorem dX12_joins_130 : decode cX12_joins 130 = .ok (.bipush 10, 2) := by decide +kernel
theorem dX12_joins_132 : decode cX12_joins 132 = .ok (.if_icmp .ge 168, 3) := by decide +kernel
theorem dX12_joins_135 : decode cX12_joins 135 = .ok (.aload_n 0, 1) := by decide +kernel
theorem dX12_joins_136 : decode cX12_joins 136 = .ok (.getfield 65, 3) := by decide +kernel
theorem dX12_joins_139 : decode cX12_joins 139 = .ok (.bipush 10, 2) := by decide +kernel
theorem dX12_joins_141 : decode cX12_joins 141 = .ok (.iload 5, 2) := by decide +kernel
theorem dX12_joins_143 : decode cX12_joins 143 = .ok (.imul, 1) := by decide +kernel
theorem dX12_joins_144 : decode cX12_joins 144 = .ok (.iload 8, 2) := by decide +kernel
theorem dX12_joins_146 : decode cX12_joins 146 = .ok (.iadd, 1) := by decide +kernel
theorem dX12_joins_147 : decode cX12_joins 147 = .ok (.iaload, 1) := by decide +kernel
theorem dX12_joins_148 : decode cX12_joins 148 = .ok (.istore 9, 2) := by decide +kernel
theorem dX12_joins_150 : decode cX12_joins 150 = .ok (.iconst 1, 1) := by decide +kernel
theorem dX12_joins_151 : decode cX12_joins 151 = .ok (.istore 10, 2) := by decide +kernel
theorem dX12_joins_153 : decode cX12_joins 153 = .ok (.iconst 2, 1) := by decide +kernel
theorem dX12_joins_154 : decode cX12_joins 154 = .ok (.iload 10, 2) := by decide +kernel
theorem dX12_joins_156 : decode cX12_joins 156 = .ok (.imul, 1) := by decide +kernel
theorem dX12_joins_157 : decode cX12_joins 157 = .ok (.iload 9, 2) := by decide +kernel
theorem dX12_joins_159 : decode cX12_joins 159 = .ok (.if_icmp .gt 53, 3) := by decide +kernel
theorem dX12_joins_162 : decode cX12_joins 162 = .ok (.lload 6, 2) := by decide +kernel
theorem dX12_joins_164 : decode cX12_joins 164 = .ok (.iconst 2, 1) := by decide +kernel
theorem dX12_joins_165 : decode cX12_joins 165 = .ok (.iload 10, 2) := by decide +kernel
theorem dX12_joins_167 : decode cX12_joins 167 = .ok (.imul, 1) := by decide +kernel
theorem dX12_joins_168 : decode cX12_joins 168 = .ok (.iload 9, 2) := by decide +kernel
theorem dX12_joins_170 : decode cX12_joins 170 = .ok (.if_icmp .ne 8, 3) := by decide +kernel
theorem dX12_joins_173 : decode cX12_joins 173 = .ok (.iload 10, 2) := by decide +kernel
theorem dX12_joins_175 : decode cX12_joins 175 = .ok (.goto 5, 3) := by decide +kernel
theorem dX12_joins_178 : decode cX12_joins 178 = .ok (.iload 9, 2) := by decide +kernel
theorem dX12_joins_180 : decode cX12_joins 180 = .ok (.i2l, 1) := by decide +kernel
theorem dX12_joins_181 : decode cX12_joins 181 = .ok (.aload_n 0, 1) := by decide +kernel
theorem dX12_joins_182 : decode cX12_joins 182 = .ok (.getfield 71, 3) := by decide +kernel
theorem dX12_joins_185 : decode cX12_joins 185 = .ok (.aload_n 0, 1) := by decide +kernel
theorem dX12_joins_186 : decode cX12_joins 186 = .ok (.iload 5, 2) := by decide +kernel
theorem dX12_joins_188 : decode cX12_joins 188 = .ok (.iload 9, 2) := by decide +kernel
theorem dX12_joins_190 : decode cX12_joins 190 = .ok (.iconst 0, 1) := by decide +kernel
theorem dX12_joins_191 : decode cX12_joins 191 = .ok (.iload 9, 2) := by decide +kernel
theorem dX12_joins_193 : decode cX12_joins 193 = .ok (.iload 10, 2) := by decide +kernel
theorem dX12_joins_195 : decode cX12_joins 195 = .ok (.isub, 1) := by decide +kernel
theorem dX12_joins_196 : decode cX12_joins 196 = .ok (.iload 10, 2) := by decide +kernel
theorem dX12_joins_198 : decode cX12_joins 198 = .ok (.invokevirtual 210, 3) := by decide +kernel
theorem dX12_joins_201 : decode cX12_joins 201 = .ok (.laload, 1) := by decide +kernel
theorem dX12_joins_202 : decode cX12_joins 202 = .ok (.lmul, 1) := by decide +kernel
theorem dX12_joins_203 : decode cX12_joins 203 = .ok (.ladd, 1) := by decide +kernel
theorem dX12_joins_204 : decode cX12_joins 204 = .ok (.lstore 6, 2) := by decide +kernel
theorem dX12_joins_206 : decode cX12_joins 206 = .ok (.iinc 10 1, 3) := by decide +kernel
theorem dX12_joins_209 : decode cX12_joins 209 = .ok (.goto (-56), 3) := by decide +kernel
theorem dX12_joins_212 : decode cX12_joins 212 = .ok (.iload 8, 2) := by decide +kernel
theorem dX12_joins_214 : decode cX12_joins 214 = .ok (.iconst 1, 1) := by decide +kernel
theorem dX12_joins_215 : decode cX12_joins 215 = .ok (.iadd, 1) := by decide +kernel
theorem dX12_joins_216 : decode cX12_joins 216 = .ok (.istore 10, 2) := by decide +kernel
theorem dX12_joins_218 : decode cX12_joins 218 = .ok (.iload 10, 2) := by decide +kernel
theorem dX12_joins_220 : decode cX12_joins 220 = .ok (.bipush 10, 2) := by decide +kernel
theorem dX12_joins_222 : decode cX12_joins 222 = .ok (.if_icmp .ge 72, 3) := by decide +kernel
theorem dX12_joins_225 : decode cX12_joins 225 = .ok (.aload_n 0, 1) := by decide +kernel
theorem dX12_joins_226 : decode cX12_joins 226 = .ok (.getfield 65, 3) := by decide +kernel
theorem dX12_joins_229 : decode cX12_joins 229 = .ok (.bipush 10, 2) := by decide +kernel
theorem dX12_joins_231 : decode cX12_joins 231 = .ok (.iload 5, 2) := by decide +kernel
theorem dX12_joins_233 : decode cX12_joins 233 = .ok (.imul, 1) := by decide +kernel
theorem dX12_joins_234 : decode cX12_joins 234 = .ok (.iload 10, 2) := by decide +kernel
theorem dX12_joins_236 : decode cX12_joins 236 = .ok (.iadd, 1) := by decide +kernel
theorem dX12_joins_237 : decode cX12_joins 237 = .ok (.iaload, 1) := by decide +kernel
theorem dX12_joins_238 : decode cX12_joins 238 = .ok (.istore 11, 2) := by decide +kernel
theorem dX12_joins_240 : decode cX12_joins 240 = .ok (.lload 6, 2) := by decide +kernel
theorem dX12_joins_242 : decode cX12_joins 242 = .ok (.iload 9, 2) := by decide +kernel
theorem dX12_joins_244 : decode cX12_joins 244 = .ok (.ifCond .le 40, 3) := by decide +kernel
theorem dX12_joins_247 : decode cX12_joins 247 = .ok (.iload 11, 2) := by decide +kernel
theorem dX12_joins_249 : decode cX12_joins 249 = .ok (.ifCond .le 35, 3) := by decide +kernel
theorem dX12_joins_252 : decode cX12_joins 252 = .ok (.iload 9, 2) := by decide +kernel
theorem dX12_joins_254 : decode cX12_joins 254 = .ok (.i2l, 1) := by decide +kernel
theorem dX12_joins_255 : decode cX12_joins 255 = .ok (.iload 11, 2) := by decide +kernel
theorem dX12_joins_257 : decode cX12_joins 257 = .ok (.i2l, 1) := by decide +kernel
theorem dX12_joins_258 : decode cX12_joins 258 = .ok (.lmul, 1) := by decide +kernel
theorem dX12_joins_259 : decode cX12_joins 259 = .ok (.aload_n 0, 1) := by decide +kernel
theorem dX12_joins_260 : decode cX12_joins 260 = .ok (.getfield 71, 3) := by decide +kernel
theorem dX12_joins_263 : decode cX12_joins 263 = .ok (.aload_n 0, 1) := by decide +kernel
theorem dX12_joins_264 : decode cX12_joins 264 = .ok (.iload 5, 2) := by decide +kernel
theorem dX12_joins_266 : decode cX12_joins 266 = .ok (.iload 9, 2) := by decide +kernel
theorem dX12_joins_268 : decode cX12_joins 268 = .ok (.iload 11, 2) := by decide +kernel
theorem dX12_joins_270 : decode cX12_joins 270 = .ok (.iload 9, 2) := by decide +kernel
theorem dX12_joins_272 : decode cX12_joins 272 = .ok (.iload 11, 2) := by decide +kernel
theorem dX12_joins_274 : decode cX12_joins 274 = .ok (.iadd, 1) := by decide +kernel
theorem dX12_joins_275 : decode cX12_joins 275 = .ok (.iconst 0, 1) := by decide +kernel
theorem dX12_joins_276 : decode cX12_joins 276 = .ok (.invokevirtual 210, 3) := by decide +kernel
theorem dX12_joins_279 : decode cX12_joins 279 = .ok (.laload, 1) := by decide +kernel
theorem dX12_joins_280 : decode cX12_joins 280 = .ok (.lmul, 1) := by decide +kernel
theorem dX12_joins_281 : decode cX12_joins 281 = .ok (.goto 4, 3) := by decide +kernel
theorem dX12_joins_284 : decode cX12_joins 284 = .ok (.lconst 0, 1) := by decide +kernel
theorem dX12_joins_285 : decode cX12_joins 285 = .ok (.ladd, 1) := by decide +kernel
theorem dX12_joins_286 : decode cX12_joins 286 = .ok (.lstore 6, 2) := by decide +kernel
theorem dX12_joins_288 : decode cX12_joins 288 = .ok (.iinc 10 1, 3) := by decide +kernel
theorem dX12_joins_291 : decode cX12_joins 291 = .ok (.goto (-73), 3) := by decide +kernel
theorem dX12_joins_294 : decode cX12_joins 294 = .ok (.iinc 8 1, 3) := by decide +kernel
theorem dX12_joins_297 : decode cX12_joins 297 = .ok (.goto (-169), 3) := by decide +kernel
theorem dX12_joins_300 : decode cX12_joins 300 = .ok (.aload_n 0, 1) := by decide +kernel
theorem dX12_joins_301 : decode cX12_joins 301 = .ok (.getfield 75, 3) := by decide +kernel
theorem dX12_joins_304 : decode cX12_joins 304 = .ok (.iload 5, 2) := by decide +kernel
theorem dX12_joins_306 : decode cX12_joins 306 = .ok (.lload 6, 2) := by decide +kernel
theorem dX12_joins_308 : decode cX12_joins 308 = .ok (.lastore, 1) := by decide +kernel
theorem dX12_joins_309 : decode cX12_joins 309 = .ok (.iinc 5 1, 3) := by decide +kernel
theorem dX12_joins_312 : decode cX12_joins 312 = .ok (.goto (-199), 3) := by decide +kernel
theorem dX12_joins_315 : decode cX12_joins 315 = .ok (.iconst 0, 1) := by decide +kernel
theorem dX12_joins_316 : decode cX12_joins 316 = .ok (.istore 5, 2) := by decide +kernel
theorem dX12_joins_318 : decode cX12_joins 318 = .ok (.iload 5, 2) := by decide +kernel
theorem dX12_joins_320 : decode cX12_joins 320 = .ok (.aload_n 0, 1) := by decide +kernel
theorem dX12_joins_321 : decode cX12_joins 321 = .ok (.getfield 200, 3) := by decide +kernel
theorem dX12_joins_324 : decode cX12_joins 324 = .ok (.if_icmp .ge 23, 3) := by decide +kernel
theorem dX12_joins_327 : decode cX12_joins 327 = .ok (.aload_n 0, 1) := by decide +kernel
theorem dX12_joins_328 : decode cX12_joins 328 = .ok (.getfield 71, 3) := by decide +kernel
theorem dX12_joins_331 : decode cX12_joins 331 = .ok (.iload 5, 2) := by decide +kernel
theorem dX12_joins_333 : decode cX12_joins 333 = .ok (.aload_n 0, 1) := by decide +kernel
theorem dX12_joins_334 : decode cX12_joins 334 = .ok (.getfield 75, 3) := by decide +kernel
theorem dX12_joins_337 : decode cX12_joins 337 = .ok (.iload 5, 2) := by decide +kernel
theorem dX12_joins_339 : decode cX12_joins 339 = .ok (.laload, 1) := by decide +kernel
theorem dX12_joins_340 : decode cX12_joins 340 = .ok (.lastore, 1) := by decide +kernel
theorem dX12_joins_341 : decode cX12_joins 341 = .ok (.iinc 5 1, 3) := by decide +kernel
theorem dX12_joins_344 : decode cX12_joins 344 = .ok (.goto (-26), 3) := by decide +kernel
theorem dX12_joins_347 : decode cX12_joins 347 = .ok (.iinc 4 1, 3) := by decide +kernel
theorem dX12_joins_350 : decode cX12_joins 350 = .ok (.goto (-246), 3) := by decide +kernel
theorem dX12_joins_353 : decode cX12_joins 353 = .ok (.aload_n 0, 1) := by decide +kernel
theorem dX12_joins_354 : decode cX12_joins 354 = .ok (.getfield 71, 3) := by decide +kernel
theorem dX12_joins_357 : decode cX12_joins 357 = .ok (.iload_n 3, 1) := by decide +kernel
theorem dX12_joins_358 : decode cX12_joins 358 = .ok (.laload, 1) := by decide +kernel
theorem dX12_joins_359 : decode cX12_joins 359 = .ok (.lreturn, 1) := by decide +kernel
theorem dX12_shapes_0 : decode cX12_shapes 0 = .ok (.aload_n 0, 1) := by decide +kernel
theorem dX12_shapes_1 : decode cX12_shapes 1 = .ok (.iconst 0, 1) := by decide +kernel
theorem dX12_shapes_2 : decode cX12_shapes 2 = .ok (.putfield 78, 3) := by decide +kernel
theorem dX12_shapes_5 : decode cX12_shapes 5 = .ok (.iload_n 1, 1) := by decide +kernel
theorem dX12_shapes_6 : decode cX12_shapes 6 = .ok (.i2l, 1) := by decide +kernel
theorem dX12_shapes_7 : decode cX12_shapes 7 = .ok (.lconst 1, 1) := by decide +kernel
theorem dX12_shapes_8 : decode cX12_shapes 8 = .ok (.ldc2_w 203, 3) := by decide +kernel
theorem dX12_shapes_11 : decode cX12_shapes 11 = .ok (.invokestatic 88, 3) := by decide +kernel
theorem dX12_shapes_14 : decode cX12_shapes 14 = .ok (.ifCond .ne 6, 3) := by decide +kernel
theorem dX12_shapes_17 : decode cX12_shapes 17 = .ok (.ldc 98, 2) := by decide +kernel
theorem dX12_shapes_19 : decode cX12_shapes 19 = .ok (.ireturn, 1) := by decide +kernel
theorem dX12_shapes_20 : decode cX12_shapes 20 = .ok (.aload_n 0, 1) := by decide +kernel
theorem dX12_shapes_21 : decode cX12_shapes 21 = .ok (.iload_n 1, 1) := by decide +kernel
theorem dX12_shapes_22 : decode cX12_shapes 22 = .ok (.invokevirtual 207, 3) := by decide +kernel
theorem dX12_shapes_25 : decode cX12_shapes 25 = .ok (.iload_n 2, 1) := by decide +kernel
theorem dX12_shapes_26 : decode cX12_shapes 26 = .ok (.ldc 176, 2) := by decide +kernel
theorem dX12_shapes_28 : decode cX12_shapes 28 = .ok (.if_icmp .ne 8, 3) := by decide +kernel
theorem dX12_shapes_31 : decode cX12_shapes 31 = .ok (.aload_n 0, 1) := by decide +kernel
theorem dX12_shapes_32 : decode cX12_shapes 32 = .ok (.getfield 200, 3) := by decide +kernel
theorem dX12_shapes_35 : decode cX12_shapes 35 = .ok (.ireturn, 1) := by decide +kernel
theorem dX12_shapes_36 : decode cX12_shapes 36 = .ok (.iload_n 2, 1) := by decide +kernel
theorem dX12_shapes_37 : decode cX12_shapes 37 = .ok (.i2l, 1) := by decide +kernel
theorem dX12_shapes_38 : decode cX12_shapes 38 = .ok (.lconst 0, 1) := by decide +kernel
theorem dX12_shapes_39 : decode cX12_shapes 39 = .ok (.aload_n 0, 1) := by decide +kernel
theorem dX12_shapes_40 : decode cX12_shapes 40 = .ok (.getfield 200, 3) := by decide +kernel
theorem dX12_shapes_43 : decode cX12_shapes 43 = .ok (.iconst 1, 1) := by decide +kernel
theorem dX12_shapes_44 : decode cX12_shapes 44 = .ok (.isub, 1) := by decide +kernel
theorem dX12_shapes_45 : decode cX12_shapes 45 = .ok (.i2l, 1) := by decide +kernel
theorem dX12_shapes_46 : decode cX12_shapes 46 = .ok (.invokestatic 88, 3) := by decide +kernel
theorem dX12_shapes_49 : decode cX12_shapes 49 = .ok (.ifCond .ne 6, 3) := by decide +kernel
theorem dX12_shapes_52 : decode cX12_shapes 52 = .ok (.ldc 98, 2) := by decide +kernel
theorem dX12_shapes_54 : decode cX12_shapes 54 = .ok (.ireturn, 1) := by decide +kernel
theorem dX12_shapes_55 : decode cX12_shapes 55 = .ok (.iload_n 3, 1) := by decide +kernel
theorem dX12_shapes_56 : decode cX12_shapes 56 = .ok (.i2l, 1) := by decide +kernel
theorem dX12_shapes_57 : decode cX12_shapes 57 = .ok (.lconst 0, 1) := by decide +kernel
theorem dX12_shapes_58 : decode cX12_shapes 58 = .ok (.ldc2_w 103, 3) := by decide +kernel
theorem dX12_shapes_61 : decode cX12_shapes 61 = .ok (.invokestatic 88, 3) := by decide +kernel
theorem dX12_shapes_64 : decode cX12_shapes 64 = .ok (.ifCond .eq 31, 3) := by decide +kernel
theorem dX12_shapes_67 : decode cX12_shapes 67 = .ok (.aload_n 0, 1) := by decide +kernel
theorem dX12_shapes_68 : decode cX12_shapes 68 = .ok (.getfield 65, 3) := by decide +kernel
theorem dX12_shapes_71 : decode cX12_shapes 71 = .ok (.bipush 10, 2) := by decide +kernel
theorem dX12_shapes_73 : decode cX12_shapes 73 = .ok (.iload_n 2, 1) := by decide +kernel
theorem dX12_shapes_74 : decode cX12_shapes 74 = .ok (.imul, 1) := by decide +kernel
theorem dX12_shapes_75 : decode cX12_shapes 75 = .ok (.iload_n 3, 1) := by decide +kernel
theorem dX12_shapes_76 : decode cX12_shapes 76 = .ok (.iadd, 1) := by decide +kernel
theorem dX12_shapes_77 : decode cX12_shapes 77 = .ok (.iaload, 1) := by decide +kernel
theorem dX12_shapes_78 : decode cX12_shapes 78 = .ok (.ifCond .le 17, 3) := by decide +kernel
theorem dX12_shapes_81 : decode cX12_shapes 81 = .ok (.aload_n 0, 1) := by decide +kernel
theorem dX12_shapes_82 : decode cX12_shapes 82 = .ok (.getfield 65, 3) := by decide +kernel
theorem dX12_shapes_85 : decode cX12_shapes 85 = .ok (.bipush 10, 2) := by decide +kernel
theorem dX12_shapes_87 : decode cX12_shapes 87 = .ok (.iload_n 2, 1) := by decide +kernel
theorem dX12_shapes_88 : decode cX12_shapes 88 = .ok (.imul, 1) := by decide +kernel
theorem dX12_shapes_89 : decode cX12_shapes 89 = .ok (.iload_n 3, 1) := by decide +kernel
theorem dX12_shapes_90 : decode cX12_shapes 90 = .ok (.iadd, 1) := by decide +kernel
theorem dX12_shapes_91 : decode cX12_shapes 91 = .ok (.iaload, 1) := by decide +kernel
theorem dX12_shapes_92 : decode cX12_shapes 92 = .ok (.goto 5, 3) := by decide +kernel
theorem dX12_shapes_95 : decode cX12_shapes 95 = .ok (.ldc 176, 2) := by decide +kernel
theorem dX12_shapes_97 : decode cX12_shapes 97 = .ok (.ireturn, 1) := by decide +kernel
theorem dX12_count_0 : decode cX12_count 0 = .ok (.aload_n 0, 1) := by decide +kernel
theorem dX12_count_1 : decode cX12_count 1 = .ok (.iconst 0, 1) := by decide +kernel
theorem dX12_count_2 : decode cX12_count 2 = .ok (.putfield 78, 3) := by decide +kernel
theorem dX12_count_5 : decode cX12_count 5 = .ok (.iconst 0, 1) := by decide +kernel
theorem dX12_count_6 : decode cX12_count 6 = .ok (.istore_n 2, 1) := by decide +kernel
theorem dX12_count_7 : decode cX12_count 7 = .ok (.iload_n 1, 1) := by decide +kernel
theorem dX12_count_8 : decode cX12_count 8 = .ok (.tableswitch 166 0 6 #[44, 77, 77, 77, 77, 77, 124], 44) := by decide +kernel
theorem dX12_count_52 : decode cX12_count 52 = .ok (.iconst 0, 1) := by decide +kernel
theorem dX12_count_53 : decode cX12_count 53 = .ok (.istore_n 3, 1) := by decide +kernel
theorem dX12_count_54 : decode cX12_count 54 = .ok (.iload_n 3, 1) := by decide +kernel
theorem dX12_count_55 : decode cX12_count 55 = .ok (.bipush 8, 2) := by decide +kernel
theorem dX12_count_57 : decode cX12_count 57 = .ok (.if_icmp .ge 26, 3) := by decide +kernel
theorem dX12_count_60 : decode cX12_count 60 = .ok (.iload_n 2, 1) := by decide +kernel
theorem dX12_count_61 : decode cX12_count 61 = .ok (.aload_n 0, 1) := by decide +kernel
theorem dX12_count_62 : decode cX12_count 62 = .ok (.getfield 7, 3) := by decide +kernel
theorem dX12_count_65 : decode cX12_count 65 = .ok (.iload_n 3, 1) := by decide +kernel
theorem dX12_count_66 : decode cX12_count 66 = .ok (.iaload, 1) := by decide +kernel
theorem dX12_count_67 : decode cX12_count 67 = .ok (.ifCond .lt 7, 3) := by decide +kernel
theorem dX12_count_70 : decode cX12_count 70 = .ok (.iconst 1, 1) := by decide +kernel
theorem dX12_count_71 : decode cX12_count 71 = .ok (.goto 4, 3) := by decide +kernel
theorem dX12_count_74 : decode cX12_count 74 = .ok (.iconst 0, 1) := by decide +kernel
theorem dX12_count_75 : decode cX12_count 75 = .ok (.iadd, 1) := by decide +kernel
theorem dX12_count_76 : decode cX12_count 76 = .ok (.istore_n 2, 1) := by decide +kernel
theorem dX12_count_77 : decode cX12_count 77 = .ok (.iinc 3 1, 3) := by decide +kernel
theorem dX12_count_80 : decode cX12_count 80 = .ok (.goto (-26), 3) := by decide +kernel
theorem dX12_count_83 : decode cX12_count 83 = .ok (.iload_n 2, 1) := by decide +kernel
theorem dX12_count_84 : decode cX12_count 84 = .ok (.ireturn, 1) := by decide +kernel
theorem dX12_count_85 : decode cX12_count 85 = .ok (.iconst 0, 1) := by decide +kernel
theorem dX12_count_86 : decode cX12_count 86 = .ok (.istore_n 3, 1) := by decide +kernel
theorem dX12_count_87 : decode cX12_count 87 = .ok (.iload_n 3, 1) := by decide +kernel
theorem dX12_count_88 : decode cX12_count 88 = .ok (.bipush 10, 2) := by decide +kernel
theorem dX12_count_90 : decode cX12_count 90 = .ok (.if_icmp .ge 40, 3) := by decide +kernel
theorem dX12_count_93 : decode cX12_count 93 = .ok (.iload_n 2, 1) := by decide +kernel
theorem dX12_count_94 : decode cX12_count 94 = .ok (.aload_n 0, 1) := by decide +kernel
theorem dX12_count_95 : decode cX12_count 95 = .ok (.getfield 19, 3) := by decide +kernel
theorem dX12_count_98 : decode cX12_count 98 = .ok (.iload_n 3, 1) := by decide +kernel
theorem dX12_count_99 : decode cX12_count 99 = .ok (.iaload, 1) := by decide +kernel
theorem dX12_count_100 : decode cX12_count 100 = .ok (.ifCond .le 21, 3) := by decide +kernel
theorem dX12_count_103 : decode cX12_count 103 = .ok (.aload_n 0, 1) := by decide +kernel
theorem dX12_count_104 : decode cX12_count 104 = .ok (.iload_n 3, 1) := by decide +kernel
theorem dX12_count_105 : decode cX12_count 105 = .ok (.invokevirtual 117, 3) := by decide +kernel
theorem dX12_count_108 : decode cX12_count 108 = .ok (.iload_n 1, 1) := by decide +kernel
theorem dX12_count_109 : decode cX12_count 109 = .ok (.iconst 1, 1) := by decide +kernel
theorem dX12_count_110 : decode cX12_count 110 = .ok (.isub, 1) := by decide +kernel
theorem dX12_count_111 : decode cX12_count 111 = .ok (.invokestatic 184, 3) := by decide +kernel
theorem dX12_count_114 : decode cX12_count 114 = .ok (.ifCond .eq 7, 3) := by decide +kernel
theorem dX12_count_117 : decode cX12_count 117 = .ok (.iconst 1, 1) := by decide +kernel
theorem dX12_count_118 : decode cX12_count 118 = .ok (.goto 4, 3) := by decide +kernel
theorem dX12_count_121 : decode cX12_count 121 = .ok (.iconst 0, 1) := by decide +kernel
theorem dX12_count_122 : decode cX12_count 122 = .ok (.iadd, 1) := by decide +kernel
theorem dX12_count_123 : decode cX12_count 123 = .ok (.istore_n 2, 1) := by decide +kernel
theorem dX12_count_124 : decode cX12_count 124 = .ok (.iinc 3 1, 3) := by decide +kernel
theorem dX12_count_127 : decode cX12_count 127 = .ok (.goto (-40), 3) := by decide +kernel
theorem dX12_count_130 : decode cX12_count 130 = .ok (.iload_n 2, 1) := by decide +kernel
theorem dX12_count_131 : decode cX12_count 131 = .ok (.ireturn, 1) := by decide +kernel
theorem dX12_count_132 : decode cX12_count 132 = .ok (.iconst 0, 1) := by decide +kernel
theorem dX12_count_133 : decode cX12_count 133 = .ok (.istore_n 3, 1) := by decide +kernel
theorem dX12_count_134 : decode cX12_count 134 = .ok (.iload_n 3, 1) := by decide +kernel
end
section
theorem dX12_count_135 : decode cX12_count 135 = .ok (.bipush 10, 2) := by decide +kernel
theorem dX12_count_137 : decode cX12_count 137 = .ok (.if_icmp .ge 35, 3) := by decide +kernel
theorem dX12_count_140 : decode cX12_count 140 = .ok (.iload_n 2, 1) := by decide +kernel
theorem dX12_count_141 : decode cX12_count 141 = .ok (.aload_n 0, 1) := by decide +kernel
theorem dX12_count_142 : decode cX12_count 142 = .ok (.getfield 19, 3) := by decide +kernel
theorem dX12_count_145 : decode cX12_count 145 = .ok (.iload_n 3, 1) := by decide +kernel
theorem dX12_count_146 : decode cX12_count 146 = .ok (.iaload, 1) := by decide +kernel
theorem dX12_count_147 : decode cX12_count 147 = .ok (.ifCond .le 16, 3) := by decide +kernel
theorem dX12_count_150 : decode cX12_count 150 = .ok (.aload_n 0, 1) := by decide +kernel
theorem dX12_count_151 : decode cX12_count 151 = .ok (.iload_n 3, 1) := by decide +kernel
theorem dX12_count_152 : decode cX12_count 152 = .ok (.invokevirtual 134, 3) := by decide +kernel
theorem dX12_count_155 : decode cX12_count 155 = .ok (.iconst 1, 1) := by decide +kernel
theorem dX12_count_156 : decode cX12_count 156 = .ok (.if_icmp .ne 7, 3) := by decide +kernel
theorem dX12_count_159 : decode cX12_count 159 = .ok (.iconst 1, 1) := by decide +kernel
theorem dX12_count_160 : decode cX12_count 160 = .ok (.goto 4, 3) := by decide +kernel
theorem dX12_count_163 : decode cX12_count 163 = .ok (.iconst 0, 1) := by decide +kernel
theorem dX12_count_164 : decode cX12_count 164 = .ok (.iadd, 1) := by decide +kernel
theorem dX12_count_165 : decode cX12_count 165 = .ok (.istore_n 2, 1) := by decide +kernel
theorem dX12_count_166 : decode cX12_count 166 = .ok (.iinc 3 1, 3) := by decide +kernel
theorem dX12_count_169 : decode cX12_count 169 = .ok (.goto (-35), 3) := by decide +kernel
theorem dX12_count_172 : decode cX12_count 172 = .ok (.iload_n 2, 1) := by decide +kernel
theorem dX12_count_173 : decode cX12_count 173 = .ok (.ireturn, 1) := by decide +kernel
theorem dX12_count_174 : decode cX12_count 174 = .ok (.ldc 98, 2) := by decide +kernel
theorem dX12_count_176 : decode cX12_count 176 = .ok (.ireturn, 1) := by decide +kernel
theorem dX12_status_0 : decode cX12_status 0 = .ok (.aload_n 0, 1) := by decide +kernel
theorem dX12_status_1 : decode cX12_status 1 = .ok (.iconst 0, 1) := by decide +kernel
theorem dX12_status_2 : decode cX12_status 2 = .ok (.putfield 78, 3) := by decide +kernel
theorem dX12_status_5 : decode cX12_status 5 = .ok (.aload_n 0, 1) := by decide +kernel
theorem dX12_status_6 : decode cX12_status 6 = .ok (.getfield 82, 3) := by decide +kernel
theorem dX12_status_9 : decode cX12_status 9 = .ok (.ireturn, 1) := by decide +kernel
theorem dJ6_bitCount_0f7a4_0 : decode cJ6_bitCount_0f7a4 0 = .ok (.iload_n 0, 1) := by decide +kernel
theorem dJ6_bitCount_0f7a4_1 : decode cJ6_bitCount_0f7a4 1 = .ok (.iload_n 0, 1) := by decide +kernel
theorem dJ6_bitCount_0f7a4_2 : decode cJ6_bitCount_0f7a4 2 = .ok (.iconst 1, 1) := by decide +kernel
theorem dJ6_bitCount_0f7a4_3 : decode cJ6_bitCount_0f7a4 3 = .ok (.iushr, 1) := by decide +kernel
theorem dJ6_bitCount_0f7a4_4 : decode cJ6_bitCount_0f7a4 4 = .ok (.ldc_w 265, 3) := by decide +kernel
theorem dJ6_bitCount_0f7a4_7 : decode cJ6_bitCount_0f7a4 7 = .ok (.iand, 1) := by decide +kernel
theorem dJ6_bitCount_0f7a4_8 : decode cJ6_bitCount_0f7a4 8 = .ok (.isub, 1) := by decide +kernel
theorem dJ6_bitCount_0f7a4_9 : decode cJ6_bitCount_0f7a4 9 = .ok (.istore_n 0, 1) := by decide +kernel
theorem dJ6_bitCount_0f7a4_10 : decode cJ6_bitCount_0f7a4 10 = .ok (.iload_n 0, 1) := by decide +kernel
theorem dJ6_bitCount_0f7a4_11 : decode cJ6_bitCount_0f7a4 11 = .ok (.ldc_w 266, 3) := by decide +kernel
theorem dJ6_bitCount_0f7a4_14 : decode cJ6_bitCount_0f7a4 14 = .ok (.iand, 1) := by decide +kernel
theorem dJ6_bitCount_0f7a4_15 : decode cJ6_bitCount_0f7a4 15 = .ok (.iload_n 0, 1) := by decide +kernel
theorem dJ6_bitCount_0f7a4_16 : decode cJ6_bitCount_0f7a4 16 = .ok (.iconst 2, 1) := by decide +kernel
theorem dJ6_bitCount_0f7a4_17 : decode cJ6_bitCount_0f7a4 17 = .ok (.iushr, 1) := by decide +kernel
theorem dJ6_bitCount_0f7a4_18 : decode cJ6_bitCount_0f7a4 18 = .ok (.ldc_w 266, 3) := by decide +kernel
theorem dJ6_bitCount_0f7a4_21 : decode cJ6_bitCount_0f7a4 21 = .ok (.iand, 1) := by decide +kernel
theorem dJ6_bitCount_0f7a4_22 : decode cJ6_bitCount_0f7a4 22 = .ok (.iadd, 1) := by decide +kernel
theorem dJ6_bitCount_0f7a4_23 : decode cJ6_bitCount_0f7a4 23 = .ok (.istore_n 0, 1) := by decide +kernel
theorem dJ6_bitCount_0f7a4_24 : decode cJ6_bitCount_0f7a4 24 = .ok (.iload_n 0, 1) := by decide +kernel
theorem dJ6_bitCount_0f7a4_25 : decode cJ6_bitCount_0f7a4 25 = .ok (.iload_n 0, 1) := by decide +kernel
theorem dJ6_bitCount_0f7a4_26 : decode cJ6_bitCount_0f7a4 26 = .ok (.iconst 4, 1) := by decide +kernel
theorem dJ6_bitCount_0f7a4_27 : decode cJ6_bitCount_0f7a4 27 = .ok (.iushr, 1) := by decide +kernel
theorem dJ6_bitCount_0f7a4_28 : decode cJ6_bitCount_0f7a4 28 = .ok (.iadd, 1) := by decide +kernel
theorem dJ6_bitCount_0f7a4_29 : decode cJ6_bitCount_0f7a4 29 = .ok (.ldc_w 267, 3) := by decide +kernel
theorem dJ6_bitCount_0f7a4_32 : decode cJ6_bitCount_0f7a4 32 = .ok (.iand, 1) := by decide +kernel
theorem dJ6_bitCount_0f7a4_33 : decode cJ6_bitCount_0f7a4 33 = .ok (.istore_n 0, 1) := by decide +kernel
theorem dJ6_bitCount_0f7a4_34 : decode cJ6_bitCount_0f7a4 34 = .ok (.iload_n 0, 1) := by decide +kernel
theorem dJ6_bitCount_0f7a4_35 : decode cJ6_bitCount_0f7a4 35 = .ok (.iload_n 0, 1) := by decide +kernel
theorem dJ6_bitCount_0f7a4_36 : decode cJ6_bitCount_0f7a4 36 = .ok (.bipush 8, 2) := by decide +kernel
theorem dJ6_bitCount_0f7a4_38 : decode cJ6_bitCount_0f7a4 38 = .ok (.iushr, 1) := by decide +kernel
theorem dJ6_bitCount_0f7a4_39 : decode cJ6_bitCount_0f7a4 39 = .ok (.iadd, 1) := by decide +kernel
theorem dJ6_bitCount_0f7a4_40 : decode cJ6_bitCount_0f7a4 40 = .ok (.istore_n 0, 1) := by decide +kernel
theorem dJ6_bitCount_0f7a4_41 : decode cJ6_bitCount_0f7a4 41 = .ok (.iload_n 0, 1) := by decide +kernel
theorem dJ6_bitCount_0f7a4_42 : decode cJ6_bitCount_0f7a4 42 = .ok (.iload_n 0, 1) := by decide +kernel
theorem dJ6_bitCount_0f7a4_43 : decode cJ6_bitCount_0f7a4 43 = .ok (.bipush 16, 2) := by decide +kernel
theorem dJ6_bitCount_0f7a4_45 : decode cJ6_bitCount_0f7a4 45 = .ok (.iushr, 1) := by decide +kernel
theorem dJ6_bitCount_0f7a4_46 : decode cJ6_bitCount_0f7a4 46 = .ok (.iadd, 1) := by decide +kernel
theorem dJ6_bitCount_0f7a4_47 : decode cJ6_bitCount_0f7a4 47 = .ok (.istore_n 0, 1) := by decide +kernel
theorem dJ6_bitCount_0f7a4_48 : decode cJ6_bitCount_0f7a4 48 = .ok (.iload_n 0, 1) := by decide +kernel
theorem dJ6_bitCount_0f7a4_49 : decode cJ6_bitCount_0f7a4 49 = .ok (.bipush 63, 2) := by decide +kernel
theorem dJ6_bitCount_0f7a4_51 : decode cJ6_bitCount_0f7a4 51 = .ok (.iand, 1) := by decide +kernel
theorem dJ6_bitCount_0f7a4_52 : decode cJ6_bitCount_0f7a4 52 = .ok (.ireturn, 1) := by decide +kernel
theorem dJ13_compare_74951_0 : decode cJ13_compare_74951 0 = .ok (.lload_n 0, 1) := by decide +kernel
theorem dJ13_compare_74951_1 : decode cJ13_compare_74951 1 = .ok (.lload_n 2, 1) := by decide +kernel
theorem dJ13_compare_74951_2 : decode cJ13_compare_74951 2 = .ok (.lcmp, 1) := by decide +kernel
theorem dJ13_compare_74951_3 : decode cJ13_compare_74951 3 = .ok (.ifCond .ge 7, 3) := by decide +kernel
theorem dJ13_compare_74951_6 : decode cJ13_compare_74951 6 = .ok (.iconst (-1), 1) := by decide +kernel
theorem dJ13_compare_74951_7 : decode cJ13_compare_74951 7 = .ok (.goto 14, 3) := by decide +kernel
theorem dJ13_compare_74951_10 : decode cJ13_compare_74951 10 = .ok (.lload_n 0, 1) := by decide +kernel
theorem dJ13_compare_74951_11 : decode cJ13_compare_74951 11 = .ok (.lload_n 2, 1) := by decide +kernel
theorem dJ13_compare_74951_12 : decode cJ13_compare_74951 12 = .ok (.lcmp, 1) := by decide +kernel
theorem dJ13_compare_74951_13 : decode cJ13_compare_74951 13 = .ok (.ifCond .ne 7, 3) := by decide +kernel
theorem dJ13_compare_74951_16 : decode cJ13_compare_74951 16 = .ok (.iconst 0, 1) := by decide +kernel
theorem dJ13_compare_74951_17 : decode cJ13_compare_74951 17 = .ok (.goto 4, 3) := by decide +kernel
theorem dJ13_compare_74951_20 : decode cJ13_compare_74951 20 = .ok (.iconst 1, 1) := by decide +kernel
theorem dJ13_compare_74951_21 : decode cJ13_compare_74951 21 = .ok (.ireturn, 1) := by decide +kernel
theorem dJ9_max_7cf53_0 : decode cJ9_max_7cf53 0 = .ok (.iload_n 0, 1) := by decide +kernel
theorem dJ9_max_7cf53_1 : decode cJ9_max_7cf53 1 = .ok (.iload_n 1, 1) := by decide +kernel
theorem dJ9_max_7cf53_2 : decode cJ9_max_7cf53 2 = .ok (.if_icmp .lt 7, 3) := by decide +kernel
theorem dJ9_max_7cf53_5 : decode cJ9_max_7cf53 5 = .ok (.iload_n 0, 1) := by decide +kernel
theorem dJ9_max_7cf53_6 : decode cJ9_max_7cf53 6 = .ok (.goto 4, 3) := by decide +kernel
theorem dJ9_max_7cf53_9 : decode cJ9_max_7cf53 9 = .ok (.iload_n 1, 1) := by decide +kernel
theorem dJ9_max_7cf53_10 : decode cJ9_max_7cf53 10 = .ok (.ireturn, 1) := by decide +kernel
theorem dJ9_min_7cf53_0 : decode cJ9_min_7cf53 0 = .ok (.iload_n 0, 1) := by decide +kernel
theorem dJ9_min_7cf53_1 : decode cJ9_min_7cf53 1 = .ok (.iload_n 1, 1) := by decide +kernel
theorem dJ9_min_7cf53_2 : decode cJ9_min_7cf53 2 = .ok (.if_icmp .gt 7, 3) := by decide +kernel
theorem dJ9_min_7cf53_5 : decode cJ9_min_7cf53 5 = .ok (.iload_n 0, 1) := by decide +kernel
theorem dJ9_min_7cf53_6 : decode cJ9_min_7cf53 6 = .ok (.goto 4, 3) := by decide +kernel
theorem dJ9_min_7cf53_9 : decode cJ9_min_7cf53 9 = .ok (.iload_n 1, 1) := by decide +kernel
theorem dJ9_min_7cf53_10 : decode cJ9_min_7cf53 10 = .ok (.ireturn, 1) := by decide +kernel
theorem dJ7_fill_d0a16_0 : decode cJ7_fill_d0a16 0 = .ok (.iconst 0, 1) := by decide +kernel
theorem dJ7_fill_d0a16_1 : decode cJ7_fill_d0a16 1 = .ok (.istore_n 3, 1) := by decide +kernel
theorem dJ7_fill_d0a16_2 : decode cJ7_fill_d0a16 2 = .ok (.aload_n 0, 1) := by decide +kernel
theorem dJ7_fill_d0a16_3 : decode cJ7_fill_d0a16 3 = .ok (.arraylength, 1) := by decide +kernel
theorem dJ7_fill_d0a16_4 : decode cJ7_fill_d0a16 4 = .ok (.istore 4, 2) := by decide +kernel
theorem dJ7_fill_d0a16_6 : decode cJ7_fill_d0a16 6 = .ok (.iload_n 3, 1) := by decide +kernel
theorem dJ7_fill_d0a16_7 : decode cJ7_fill_d0a16 7 = .ok (.iload 4, 2) := by decide +kernel
theorem dJ7_fill_d0a16_9 : decode cJ7_fill_d0a16 9 = .ok (.if_icmp .ge 13, 3) := by decide +kernel
theorem dJ7_fill_d0a16_12 : decode cJ7_fill_d0a16 12 = .ok (.aload_n 0, 1) := by decide +kernel
theorem dJ7_fill_d0a16_13 : decode cJ7_fill_d0a16 13 = .ok (.iload_n 3, 1) := by decide +kernel
theorem dJ7_fill_d0a16_14 : decode cJ7_fill_d0a16 14 = .ok (.lload_n 1, 1) := by decide +kernel
theorem dJ7_fill_d0a16_15 : decode cJ7_fill_d0a16 15 = .ok (.lastore, 1) := by decide +kernel
theorem dJ7_fill_d0a16_16 : decode cJ7_fill_d0a16 16 = .ok (.iinc 3 1, 3) := by decide +kernel
theorem dJ7_fill_d0a16_19 : decode cJ7_fill_d0a16 19 = .ok (.goto (-13), 3) := by decide +kernel
theorem dJ7_fill_d0a16_22 : decode cJ7_fill_d0a16 22 = .ok (.return_, 1) := by decide +kernel
theorem dJ7_fill_53178_0 : decode cJ7_fill_53178 0 = .ok (.iconst 0, 1) := by decide +kernel
theorem dJ7_fill_53178_1 : decode cJ7_fill_53178 1 = .ok (.istore_n 2, 1) := by decide +kernel
theorem dJ7_fill_53178_2 : decode cJ7_fill_53178 2 = .ok (.aload_n 0, 1) := by decide +kernel
theorem dJ7_fill_53178_3 : decode cJ7_fill_53178 3 = .ok (.arraylength, 1) := by decide +kernel
theorem dJ7_fill_53178_4 : decode cJ7_fill_53178 4 = .ok (.istore_n 3, 1) := by decide +kernel
theorem dJ7_fill_53178_5 : decode cJ7_fill_53178 5 = .ok (.iload_n 2, 1) := by decide +kernel
theorem dJ7_fill_53178_6 : decode cJ7_fill_53178 6 = .ok (.iload_n 3, 1) := by decide +kernel
theorem dJ7_fill_53178_7 : decode cJ7_fill_53178 7 = .ok (.if_icmp .ge 13, 3) := by decide +kernel
theorem dJ7_fill_53178_10 : decode cJ7_fill_53178 10 = .ok (.aload_n 0, 1) := by decide +kernel
theorem dJ7_fill_53178_11 : decode cJ7_fill_53178 11 = .ok (.iload_n 2, 1) := by decide +kernel
theorem dJ7_fill_53178_12 : decode cJ7_fill_53178 12 = .ok (.iload_n 1, 1) := by decide +kernel
theorem dJ7_fill_53178_13 : decode cJ7_fill_53178 13 = .ok (.iastore, 1) := by decide +kernel
theorem dJ7_fill_53178_14 : decode cJ7_fill_53178 14 = .ok (.iinc 2 1, 3) := by decide +kernel
theorem dJ7_fill_53178_17 : decode cJ7_fill_53178 17 = .ok (.goto (-12), 3) := by decide +kernel
theorem dJ7_fill_53178_20 : decode cJ7_fill_53178 20 = .ok (.return_, 1) := by decide +kernel
theorem dJ7_copyOf_c38d5_0 : decode cJ7_copyOf_c38d5 0 = .ok (.iload_n 1, 1) := by decide +kernel
theorem dJ7_copyOf_c38d5_1 : decode cJ7_copyOf_c38d5 1 = .ok (.aload_n 0, 1) := by decide +kernel
theorem dJ7_copyOf_c38d5_2 : decode cJ7_copyOf_c38d5 2 = .ok (.arraylength, 1) := by decide +kernel
theorem dJ7_copyOf_c38d5_3 : decode cJ7_copyOf_c38d5 3 = .ok (.if_icmp .ne 11, 3) := by decide +kernel
theorem dJ7_copyOf_c38d5_6 : decode cJ7_copyOf_c38d5 6 = .ok (.aload_n 0, 1) := by decide +kernel
theorem dJ7_copyOf_c38d5_7 : decode cJ7_copyOf_c38d5 7 = .ok (.invokevirtual 319, 3) := by decide +kernel
theorem dJ7_copyOf_c38d5_10 : decode cJ7_copyOf_c38d5 10 = .ok (.checkcast 320, 3) := by decide +kernel
theorem dJ7_copyOf_c38d5_13 : decode cJ7_copyOf_c38d5 13 = .ok (.areturn, 1) := by decide +kernel
theorem dJ7_copyOf_c38d5_14 : decode cJ7_copyOf_c38d5 14 = .ok (.iload_n 1, 1) := by decide +kernel
theorem dJ7_copyOf_c38d5_15 : decode cJ7_copyOf_c38d5 15 = .ok (.newarray .long, 2) := by decide +kernel
theorem dJ7_copyOf_c38d5_17 : decode cJ7_copyOf_c38d5 17 = .ok (.astore_n 2, 1) := by decide +kernel
theorem dJ7_copyOf_c38d5_18 : decode cJ7_copyOf_c38d5 18 = .ok (.aload_n 0, 1) := by decide +kernel
theorem dJ7_copyOf_c38d5_19 : decode cJ7_copyOf_c38d5 19 = .ok (.iconst 0, 1) := by decide +kernel
theorem dJ7_copyOf_c38d5_20 : decode cJ7_copyOf_c38d5 20 = .ok (.aload_n 2, 1) := by decide +kernel
theorem dJ7_copyOf_c38d5_21 : decode cJ7_copyOf_c38d5 21 = .ok (.iconst 0, 1) := by decide +kernel
theorem dJ7_copyOf_c38d5_22 : decode cJ7_copyOf_c38d5 22 = .ok (.aload_n 0, 1) := by decide +kernel
theorem dJ7_copyOf_c38d5_23 : decode cJ7_copyOf_c38d5 23 = .ok (.arraylength, 1) := by decide +kernel
theorem dJ7_copyOf_c38d5_24 : decode cJ7_copyOf_c38d5 24 = .ok (.iload_n 1, 1) := by decide +kernel
theorem dJ7_copyOf_c38d5_25 : decode cJ7_copyOf_c38d5 25 = .ok (.invokestatic 304, 3) := by decide +kernel
theorem dJ7_copyOf_c38d5_28 : decode cJ7_copyOf_c38d5 28 = .ok (.invokestatic 150, 3) := by decide +kernel
theorem dJ7_copyOf_c38d5_31 : decode cJ7_copyOf_c38d5 31 = .ok (.aload_n 2, 1) := by decide +kernel
theorem dJ7_copyOf_c38d5_32 : decode cJ7_copyOf_c38d5 32 = .ok (.areturn, 1) := by decide +kernel
theorem dL_law_0 : decode cL_law 0 = .ok (.new 7, 3) := by decide +kernel
theorem dL_law_3 : decode cL_law 3 = .ok (.dup, 1) := by decide +kernel
theorem dL_law_4 : decode cL_law 4 = .ok (.invokespecial 9, 3) := by decide +kernel
theorem dL_law_7 : decode cL_law 7 = .ok (.astore_n 1, 1) := by decide +kernel
theorem dL_law_8 : decode cL_law 8 = .ok (.new 10, 3) := by decide +kernel
theorem dL_law_11 : decode cL_law 11 = .ok (.dup, 1) := by decide +kernel
theorem dL_law_12 : decode cL_law 12 = .ok (.invokespecial 12, 3) := by decide +kernel
theorem dL_law_15 : decode cL_law 15 = .ok (.astore_n 2, 1) := by decide +kernel
theorem dL_law_16 : decode cL_law 16 = .ok (.iconst 0, 1) := by decide +kernel
theorem dL_law_17 : decode cL_law 17 = .ok (.istore_n 3, 1) := by decide +kernel
theorem dL_law_18 : decode cL_law 18 = .ok (.iload_n 3, 1) := by decide +kernel
theorem dL_law_19 : decode cL_law 19 = .ok (.aload_n 0, 1) := by decide +kernel
theorem dL_law_20 : decode cL_law 20 = .ok (.arraylength, 1) := by decide +kernel
theorem dL_law_21 : decode cL_law 21 = .ok (.bipush 6, 2) := by decide +kernel
theorem dL_law_23 : decode cL_law 23 = .ok (.isub, 1) := by decide +kernel
theorem dL_law_24 : decode cL_law 24 = .ok (.if_icmp .gt 1227, 3) := by decide +kernel
theorem dL_law_27 : decode cL_law 27 = .ok (.aload_n 0, 1) := by decide +kernel
theorem dL_law_28 : decode cL_law 28 = .ok (.iload_n 3, 1) := by decide +kernel
theorem dL_law_29 : decode cL_law 29 = .ok (.iaload, 1) := by decide +kernel
theorem dL_law_30 : decode cL_law 30 = .ok (.bipush 31, 2) := by decide +kernel
theorem dL_law_32 : decode cL_law 32 = .ok (.iand, 1) := by decide +kernel
theorem dL_law_33 : decode cL_law 33 = .ok (.tableswitch 1212 0 27 #[127, 170, 213, 276, 299, 362, 405, 438, 491, 544, 587, 630, 653, 686, 729, 772, 825, 858, 881, 944, 967, 1000, 1033, 1066, 1089, 1133, 1176, 1199], 127) := by decide +kernel
theorem dL_law_160 : decode cL_law 160 = .ok (.aload_n 1, 1) := by decide +kernel
theorem dL_law_161 : decode cL_law 161 = .ok (.aload_n 0, 1) := by decide +kernel
theorem dL_law_162 : decode cL_law 162 = .ok (.iload_n 3, 1) := by decide +kernel
theorem dL_law_163 : decode cL_law 163 = .ok (.iconst 1, 1) := by decide +kernel
theorem dL_law_164 : decode cL_law 164 = .ok (.iadd, 1) := by decide +kernel
theorem dL_law_165 : decode cL_law 165 = .ok (.iaload, 1) := by decide +kernel
theorem dL_law_166 : decode cL_law 166 = .ok (.aload_n 0, 1) := by decide +kernel
theorem dL_law_167 : decode cL_law 167 = .ok (.iload_n 3, 1) := by decide +kernel
theorem dL_law_168 : decode cL_law 168 = .ok (.iconst 2, 1) := by decide +kernel
theorem dL_law_169 : decode cL_law 169 = .ok (.iadd, 1) := by decide +kernel
theorem dL_law_170 : decode cL_law 170 = .ok (.iaload, 1) := by decide +kernel
theorem dL_law_171 : decode cL_law 171 = .ok (.aload_n 0, 1) := by decide +kernel
theorem dL_law_172 : decode cL_law 172 = .ok (.iload_n 3, 1) := by decide +kernel
theorem dL_law_173 : decode cL_law 173 = .ok (.iconst 3, 1) := by decide +kernel
theorem dL_law_174 : decode cL_law 174 = .ok (.iadd, 1) := by decide +kernel
theorem dL_law_175 : decode cL_law 175 = .ok (.iaload, 1) := by decide +kernel
theorem dL_law_176 : decode cL_law 176 = .ok (.invokevirtual 13, 3) := by decide +kernel
theorem dL_law_179 : decode cL_law 179 = .ok (.aload_n 2, 1) := by decide +kernel
theorem dL_law_180 : decode cL_law 180 = .ok (.aload_n 0, 1) := by decide +kernel
theorem dL_law_181 : decode cL_law 181 = .ok (.iload_n 3, 1) := by decide +kernel
theorem dL_law_182 : decode cL_law 182 = .ok (.iconst 1, 1) := by decide +kernel
theorem dL_law_183 : decode cL_law 183 = .ok (.iadd, 1) := by decide +kernel
theorem dL_law_184 : decode cL_law 184 = .ok (.iaload, 1) := by decide +kernel
theorem dL_law_185 : decode cL_law 185 = .ok (.aload_n 0, 1) := by decide +kernel
theorem dL_law_186 : decode cL_law 186 = .ok (.iload_n 3, 1) := by decide +kernel
theorem dL_law_187 : decode cL_law 187 = .ok (.iconst 2, 1) := by decide +kernel
theorem dL_law_188 : decode cL_law 188 = .ok (.iadd, 1) := by decide +kernel
theorem dL_law_189 : decode cL_law 189 = .ok (.iaload, 1) := by decide +kernel
theorem dL_law_190 : decode cL_law 190 = .ok (.aload_n 0, 1) := by decide +kernel
theorem dL_law_191 : decode cL_law 191 = .ok (.iload_n 3, 1) := by decide +kernel
theorem dL_law_192 : decode cL_law 192 = .ok (.iconst 3, 1) := by decide +kernel
theorem dL_law_193 : decode cL_law 193 = .ok (.iadd, 1) := by decide +kernel
theorem dL_law_194 : decode cL_law 194 = .ok (.iaload, 1) := by decide +kernel
theorem dL_law_195 : decode cL_law 195 = .ok (.invokevirtual 17, 3) := by decide +kernel
theorem dL_law_198 : decode cL_law 198 = .ok (.if_icmp .eq 1047, 3) := by decide +kernel
theorem dL_law_201 : decode cL_law 201 = .ok (.iconst 0, 1) := by decide +kernel
theorem dL_law_202 : decode cL_law 202 = .ok (.ireturn, 1) := by decide +kernel
theorem dL_law_203 : decode cL_law 203 = .ok (.aload_n 1, 1) := by decide +kernel
theorem dL_law_204 : decode cL_law 204 = .ok (.aload_n 0, 1) := by decide +kernel
theorem dL_law_205 : decode cL_law 205 = .ok (.iload_n 3, 1) := by decide +kernel
theorem dL_law_206 : decode cL_law 206 = .ok (.iconst 1, 1) := by decide +kernel
theorem dL_law_207 : decode cL_law 207 = .ok (.iadd, 1) := by decide +kernel
theorem dL_law_208 : decode cL_law 208 = .ok (.iaload, 1) := by decide +kernel
theorem dL_law_209 : decode cL_law 209 = .ok (.aload_n 0, 1) := by decide +kernel
theorem dL_law_210 : decode cL_law 210 = .ok (.iload_n 3, 1) := by decide +kernel
theorem dL_law_211 : decode cL_law 211 = .ok (.iconst 2, 1) := by decide +kernel
theorem dL_law_212 : decode cL_law 212 = .ok (.iadd, 1) := by decide +kernel
theorem dL_law_213 : decode cL_law 213 = .ok (.iaload, 1) := by decide +kernel
theorem dL_law_214 : decode cL_law 214 = .ok (.aload_n 0, 1) := by decide +kernel
theorem dL_law_215 : decode cL_law 215 = .ok (.iload_n 3, 1) := by decide +kernel
theorem dL_law_216 : decode cL_law 216 = .ok (.iconst 3, 1) := by decide +kernel
theorem dL_law_217 : decode cL_law 217 = .ok (.iadd, 1) := by decide +kernel
theorem dL_law_218 : decode cL_law 218 = .ok (.iaload, 1) := by decide +kernel
theorem dL_law_219 : decode cL_law 219 = .ok (.invokevirtual 18, 3) := by decide +kernel
theorem dL_law_222 : decode cL_law 222 = .ok (.aload_n 2, 1) := by decide +kernel
theorem dL_law_223 : decode cL_law 223 = .ok (.aload_n 0, 1) := by decide +kernel
theorem dL_law_224 : decode cL_law 224 = .ok (.iload_n 3, 1) := by decide +kernel
theorem dL_law_225 : decode cL_law 225 = .ok (.iconst 1, 1) := by decide +kernel
theorem dL_law_226 : decode cL_law 226 = .ok (.iadd, 1) := by decide +kernel
theorem dL_law_227 : decode cL_law 227 = .ok (.iaload, 1) := by decide +kernel
theorem dL_law_228 : decode cL_law 228 = .ok (.aload_n 0, 1) := by decide +kernel
theorem dL_law_229 : decode cL_law 229 = .ok (.iload_n 3, 1) := by decide +kernel
theorem dL_law_230 : decode cL_law 230 = .ok (.iconst 2, 1) := by decide +kernel
theorem dL_law_231 : decode cL_law 231 = .ok (.iadd, 1) := by decide +kernel
theorem dL_law_232 : decode cL_law 232 = .ok (.iaload, 1) := by decide +kernel
theorem dL_law_233 : decode cL_law 233 = .ok (.aload_n 0, 1) := by decide +kernel
theorem dL_law_234 : decode cL_law 234 = .ok (.iload_n 3, 1) := by decide +kernel
theorem dL_law_235 : decode cL_law 235 = .ok (.iconst 3, 1) := by decide +kernel
theorem dL_law_236 : decode cL_law 236 = .ok (.iadd, 1) := by decide +kernel
theorem dL_law_237 : decode cL_law 237 = .ok (.iaload, 1) := by decide +kernel
theorem dL_law_238 : decode cL_law 238 = .ok (.invokevirtual 21, 3) := by decide +kernel
theorem dL_law_241 : decode cL_law 241 = .ok (.if_icmp .eq 1004, 3) := by decide +kernel
theorem dL_law_244 : decode cL_law 244 = .ok (.iconst 0, 1) := by decide +kernel
theorem dL_law_245 : decode cL_law 245 = .ok (.ireturn, 1) := by decide +kernel
theorem dL_law_246 : decode cL_law 246 = .ok (.aload_n 1, 1) := by decide +kernel
theorem dL_law_247 : decode cL_law 247 = .ok (.aload_n 0, 1) := by decide +kernel
theorem dL_law_248 : decode cL_law 248 = .ok (.iload_n 3, 1) := by decide +kernel
theorem dL_law_249 : decode cL_law 249 = .ok (.iconst 1, 1) := by decide +kernel
theorem dL_law_250 : decode cL_law 250 = .ok (.iadd, 1) := by decide +kernel
theorem dL_law_251 : decode cL_law 251 = .ok (.iaload, 1) := by decide +kernel
theorem dL_law_252 : decode cL_law 252 = .ok (.aload_n 0, 1) := by decide +kernel
theorem dL_law_253 : decode cL_law 253 = .ok (.iload_n 3, 1) := by decide +kernel
theorem dL_law_254 : decode cL_law 254 = .ok (.iconst 2, 1) := by decide +kernel
theorem dL_law_255 : decode cL_law 255 = .ok (.iadd, 1) := by decide +kernel
theorem dL_law_256 : decode cL_law 256 = .ok (.iaload, 1) := by decide +kernel
theorem dL_law_257 : decode cL_law 257 = .ok (.aload_n 0, 1) := by decide +kernel
theorem dL_law_258 : decode cL_law 258 = .ok (.iload_n 3, 1) := by decide +kernel
theorem dL_law_259 : decode cL_law 259 = .ok (.iconst 3, 1) := by decide +kernel
theorem dL_law_260 : decode cL_law 260 = .ok (.iadd, 1) := by decide +kernel
theorem dL_law_261 : decode cL_law 261 = .ok (.iaload, 1) := by decide +kernel
theorem dL_law_262 : decode cL_law 262 = .ok (.aload_n 0, 1) := by decide +kernel
theorem dL_law_263 : decode cL_law 263 = .ok (.iload_n 3, 1) := by decide +kernel
theorem dL_law_264 : decode cL_law 264 = .ok (.iconst 4, 1) := by decide +kernel
theorem dL_law_265 : decode cL_law 265 = .ok (.iadd, 1) := by decide +kernel
theorem dL_law_266 : decode cL_law 266 = .ok (.iaload, 1) := by decide +kernel
theorem dL_law_267 : decode cL_law 267 = .ok (.aload_n 0, 1) := by decide +kernel
theorem dL_law_268 : decode cL_law 268 = .ok (.iload_n 3, 1) := by decide +kernel
theorem dL_law_269 : decode cL_law 269 = .ok (.iconst 5, 1) := by decide +kernel
theorem dL_law_270 : decode cL_law 270 = .ok (.iadd, 1) := by decide +kernel
theorem dL_law_271 : decode cL_law 271 = .ok (.iaload, 1) := by decide +kernel
theorem dL_law_272 : decode cL_law 272 = .ok (.invokevirtual 22, 3) := by decide +kernel
theorem dL_law_275 : decode cL_law 275 = .ok (.aload_n 2, 1) := by decide +kernel
theorem dL_law_276 : decode cL_law 276 = .ok (.aload_n 0, 1) := by decide +kernel
theorem dL_law_277 : decode cL_law 277 = .ok (.iload_n 3, 1) := by decide +kernel
theorem dL_law_278 : decode cL_law 278 = .ok (.iconst 1, 1) := by decide +kernel
theorem dL_law_279 : decode cL_law 279 = .ok (.iadd, 1) := by decide +kernel
theorem dL_law_280 : decode cL_law 280 = .ok (.iaload, 1) := by decide +kernel
theorem dL_law_281 : decode cL_law 281 = .ok (.aload_n 0, 1) := by decide +kernel
theorem dL_law_282 : decode cL_law 282 = .ok (.iload_n 3, 1) := by decide +kernel
theorem dL_law_283 : decode cL_law 283 = .ok (.iconst 2, 1) := by decide +kernel
theorem dL_law_284 : decode cL_law 284 = .ok (.iadd, 1) := by decide +kernel
theorem dL_law_285 : decode cL_law 285 = .ok (.iaload, 1) := by decide +kernel
theorem dL_law_286 : decode cL_law 286 = .ok (.aload_n 0, 1) := by decide +kernel
theorem dL_law_287 : decode cL_law 287 = .ok (.iload_n 3, 1) := by decide +kernel
theorem dL_law_288 : decode cL_law 288 = .ok (.iconst 3, 1) := by decide +kernel
theorem dL_law_289 : decode cL_law 289 = .ok (.iadd, 1) := by decide +kernel
theorem dL_law_290 : decode cL_law 290 = .ok (.iaload, 1) := by decide +kernel
theorem dL_law_291 : decode cL_law 291 = .ok (.aload_n 0, 1) := by decide +kernel
theorem dL_law_292 : decode cL_law 292 = .ok (.iload_n 3, 1) := by decide +kernel
theorem dL_law_293 : decode cL_law 293 = .ok (.iconst 4, 1) := by decide +kernel
theorem dL_law_294 : decode cL_law 294 = .ok (.iadd, 1) := by decide +kernel
theorem dL_law_295 : decode cL_law 295 = .ok (.iaload, 1) := by decide +kernel
theorem dL_law_296 : decode cL_law 296 = .ok (.aload_n 0, 1) := by decide +kernel
theorem dL_law_297 : decode cL_law 297 = .ok (.iload_n 3, 1) := by decide +kernel
theorem dL_law_298 : decode cL_law 298 = .ok (.iconst 5, 1) := by decide +kernel
theorem dL_law_299 : decode cL_law 299 = .ok (.iadd, 1) := by decide +kernel
theorem dL_law_300 : decode cL_law 300 = .ok (.iaload, 1) := by decide +kernel
theorem dL_law_301 : decode cL_law 301 = .ok (.invokevirtual 26, 3) := by decide +kernel
theorem dL_law_304 : decode cL_law 304 = .ok (.if_icmp .eq 941, 3) := by decide +kernel
theorem dL_law_307 : decode cL_law 307 = .ok (.iconst 0, 1) := by decide +kernel
theorem dL_law_308 : decode cL_law 308 = .ok (.ireturn, 1) := by decide +kernel
theorem dL_law_309 : decode cL_law 309 = .ok (.aload_n 1, 1) := by decide +kernel
theorem dL_law_310 : decode cL_law 310 = .ok (.aload_n 0, 1) := by decide +kernel
theorem dL_law_311 : decode cL_law 311 = .ok (.iload_n 3, 1) := by decide +kernel
theorem dL_law_312 : decode cL_law 312 = .ok (.iconst 1, 1) := by decide +kernel
theorem dL_law_313 : decode cL_law 313 = .ok (.iadd, 1) := by decide +kernel
theorem dL_law_314 : decode cL_law 314 = .ok (.iaload, 1) := by decide +kernel
theorem dL_law_315 : decode cL_law 315 = .ok (.invokevirtual 27, 3) := by decide +kernel
theorem dL_law_318 : decode cL_law 318 = .ok (.aload_n 2, 1) := by decide +kernel
theorem dL_law_319 : decode cL_law 319 = .ok (.aload_n 0, 1) := by decide +kernel
theorem dL_law_320 : decode cL_law 320 = .ok (.iload_n 3, 1) := by decide +kernel
theorem dL_law_321 : decode cL_law 321 = .ok (.iconst 1, 1) := by decide +kernel
theorem dL_law_322 : decode cL_law 322 = .ok (.iadd, 1) := by decide +kernel
theorem dL_law_323 : decode cL_law 323 = .ok (.iaload, 1) := by decide +kernel
theorem dL_law_324 : decode cL_law 324 = .ok (.invokevirtual 31, 3) := by decide +kernel
theorem dL_law_327 : decode cL_law 327 = .ok (.if_icmp .eq 918, 3) := by decide +kernel
theorem dL_law_330 : decode cL_law 330 = .ok (.iconst 0, 1) := by decide +kernel
theorem dL_law_331 : decode cL_law 331 = .ok (.ireturn, 1) := by decide +kernel
theorem dL_law_332 : decode cL_law 332 = .ok (.aload_n 1, 1) := by decide +kernel
theorem dL_law_333 : decode cL_law 333 = .ok (.aload_n 0, 1) := by decide +kernel
theorem dL_law_334 : decode cL_law 334 = .ok (.iload_n 3, 1) := by decide +kernel
theorem dL_law_335 : decode cL_law 335 = .ok (.iconst 1, 1) := by decide +kernel
theorem dL_law_336 : decode cL_law 336 = .ok (.iadd, 1) := by decide +kernel
theorem dL_law_337 : decode cL_law 337 = .ok (.iaload, 1) := by decide +kernel
theorem dL_law_338 : decode cL_law 338 = .ok (.aload_n 0, 1) := by decide +kernel
theorem dL_law_339 : decode cL_law 339 = .ok (.iload_n 3, 1) := by decide +kernel
theorem dL_law_340 : decode cL_law 340 = .ok (.iconst 2, 1) := by decide +kernel
theorem dL_law_341 : decode cL_law 341 = .ok (.iadd, 1) := by decide +kernel
theorem dL_law_342 : decode cL_law 342 = .ok (.iaload, 1) := by decide +kernel
theorem dL_law_343 : decode cL_law 343 = .ok (.aload_n 0, 1) := by decide +kernel
theorem dL_law_344 : decode cL_law 344 = .ok (.iload_n 3, 1) := by decide +kernel
theorem dL_law_345 : decode cL_law 345 = .ok (.iconst 3, 1) := by decide +kernel
theorem dL_law_346 : decode cL_law 346 = .ok (.iadd, 1) := by decide +kernel
theorem dL_law_347 : decode cL_law 347 = .ok (.iaload, 1) := by decide +kernel
theorem dL_law_348 : decode cL_law 348 = .ok (.aload_n 0, 1) := by decide +kernel
theorem dL_law_349 : decode cL_law 349 = .ok (.iload_n 3, 1) := by decide +kernel
theorem dL_law_350 : decode cL_law 350 = .ok (.iconst 4, 1) := by decide +kernel
theorem dL_law_351 : decode cL_law 351 = .ok (.iadd, 1) := by decide +kernel
theorem dL_law_352 : decode cL_law 352 = .ok (.iaload, 1) := by decide +kernel
theorem dL_law_353 : decode cL_law 353 = .ok (.aload_n 0, 1) := by decide +kernel
theorem dL_law_354 : decode cL_law 354 = .ok (.iload_n 3, 1) := by decide +kernel
theorem dL_law_355 : decode cL_law 355 = .ok (.iconst 5, 1) := by decide +kernel
theorem dL_law_356 : decode cL_law 356 = .ok (.iadd, 1) := by decide +kernel
theorem dL_law_357 : decode cL_law 357 = .ok (.iaload, 1) := by decide +kernel
theorem dL_law_358 : decode cL_law 358 = .ok (.invokevirtual 32, 3) := by decide +kernel
theorem dL_law_361 : decode cL_law 361 = .ok (.aload_n 2, 1) := by decide +kernel
theorem dL_law_362 : decode cL_law 362 = .ok (.aload_n 0, 1) := by decide +kernel
theorem dL_law_363 : decode cL_law 363 = .ok (.iload_n 3, 1) := by decide +kernel
theorem dL_law_364 : decode cL_law 364 = .ok (.iconst 1, 1) := by decide +kernel
theorem dL_law_365 : decode cL_law 365 = .ok (.iadd, 1) := by decide +kernel
theorem dL_law_366 : decode cL_law 366 = .ok (.iaload, 1) := by decide +kernel
theorem dL_law_367 : decode cL_law 367 = .ok (.aload_n 0, 1) := by decide +kernel
theorem dL_law_368 : decode cL_law 368 = .ok (.iload_n 3, 1) := by decide +kernel
theorem dL_law_369 : decode cL_law 369 = .ok (.iconst 2, 1) := by decide +kernel
theorem dL_law_370 : decode cL_law 370 = .ok (.iadd, 1) := by decide +kernel
theorem dL_law_371 : decode cL_law 371 = .ok (.iaload, 1) := by decide +kernel
theorem dL_law_372 : decode cL_law 372 = .ok (.aload_n 0, 1) := by decide +kernel
theorem dL_law_373 : decode cL_law 373 = .ok (.iload_n 3, 1) := by decide +kernel
theorem dL_law_374 : decode cL_law 374 = .ok (.iconst 3, 1) := by decide +kernel
theorem dL_law_375 : decode cL_law 375 = .ok (.iadd, 1) := by decide +kernel
theorem dL_law_376 : decode cL_law 376 = .ok (.iaload, 1) := by decide +kernel
theorem dL_law_377 : decode cL_law 377 = .ok (.aload_n 0, 1) := by decide +kernel
theorem dL_law_378 : decode cL_law 378 = .ok (.iload_n 3, 1) := by decide +kernel
theorem dL_law_379 : decode cL_law 379 = .ok (.iconst 4, 1) := by decide +kernel
theorem dL_law_380 : decode cL_law 380 = .ok (.iadd, 1) := by decide +kernel
theorem dL_law_381 : decode cL_law 381 = .ok (.iaload, 1) := by decide +kernel
theorem dL_law_382 : decode cL_law 382 = .ok (.aload_n 0, 1) := by decide +kernel
theorem dL_law_383 : decode cL_law 383 = .ok (.iload_n 3, 1) := by decide +kernel
theorem dL_law_384 : decode cL_law 384 = .ok (.iconst 5, 1) := by decide +kernel
theorem dL_law_385 : decode cL_law 385 = .ok (.iadd, 1) := by decide +kernel
theorem dL_law_386 : decode cL_law 386 = .ok (.iaload, 1) := by decide +kernel
theorem dL_law_387 : decode cL_law 387 = .ok (.invokevirtual 35, 3) := by decide +kernel
theorem dL_law_390 : decode cL_law 390 = .ok (.if_icmp .eq 855, 3) := by decide +kernel
theorem dL_law_393 : decode cL_law 393 = .ok (.iconst 0, 1) := by decide +kernel
theorem dL_law_394 : decode cL_law 394 = .ok (.ireturn, 1) := by decide +kernel
theorem dL_law_395 : decode cL_law 395 = .ok (.aload_n 1, 1) := by decide +kernel
theorem dL_law_396 : decode cL_law 396 = .ok (.aload_n 0, 1) := by decide +kernel
theorem dL_law_397 : decode cL_law 397 = .ok (.iload_n 3, 1) := by decide +kernel
theorem dL_law_398 : decode cL_law 398 = .ok (.iconst 1, 1) := by decide +kernel
theorem dL_law_399 : decode cL_law 399 = .ok (.iadd, 1) := by decide +kernel
theorem dL_law_400 : decode cL_law 400 = .ok (.iaload, 1) := by decide +kernel
theorem dL_law_401 : decode cL_law 401 = .ok (.aload_n 0, 1) := by decide +kernel
theorem dL_law_402 : decode cL_law 402 = .ok (.iload_n 3, 1) := by decide +kernel
theorem dL_law_403 : decode cL_law 403 = .ok (.iconst 2, 1) := by decide +kernel
theorem dL_law_404 : decode cL_law 404 = .ok (.iadd, 1) := by decide +kernel
theorem dL_law_405 : decode cL_law 405 = .ok (.iaload, 1) := by decide +kernel
theorem dL_law_406 : decode cL_law 406 = .ok (.aload_n 0, 1) := by decide +kernel
theorem dL_law_407 : decode cL_law 407 = .ok (.iload_n 3, 1) := by decide +kernel
theorem dL_law_408 : decode cL_law 408 = .ok (.iconst 3, 1) := by decide +kernel
theorem dL_law_409 : decode cL_law 409 = .ok (.iadd, 1) := by decide +kernel
theorem dL_law_410 : decode cL_law 410 = .ok (.iaload, 1) := by decide +kernel
theorem dL_law_411 : decode cL_law 411 = .ok (.invokevirtual 36, 3) := by decide +kernel
theorem dL_law_414 : decode cL_law 414 = .ok (.aload_n 2, 1) := by decide +kernel
theorem dL_law_415 : decode cL_law 415 = .ok (.aload_n 0, 1) := by decide +kernel
theorem dL_law_416 : decode cL_law 416 = .ok (.iload_n 3, 1) := by decide +kernel
theorem dL_law_417 : decode cL_law 417 = .ok (.iconst 1, 1) := by decide +kernel
theorem dL_law_418 : decode cL_law 418 = .ok (.iadd, 1) := by decide +kernel
theorem dL_law_419 : decode cL_law 419 = .ok (.iaload, 1) := by decide +kernel
theorem dL_law_420 : decode cL_law 420 = .ok (.aload_n 0, 1) := by decide +kernel
theorem dL_law_421 : decode cL_law 421 = .ok (.iload_n 3, 1) := by decide +kernel
theorem dL_law_422 : decode cL_law 422 = .ok (.iconst 2, 1) := by decide +kernel
theorem dL_law_423 : decode cL_law 423 = .ok (.iadd, 1) := by decide +kernel
theorem dL_law_424 : decode cL_law 424 = .ok (.iaload, 1) := by decide +kernel
theorem dL_law_425 : decode cL_law 425 = .ok (.aload_n 0, 1) := by decide +kernel
theorem dL_law_426 : decode cL_law 426 = .ok (.iload_n 3, 1) := by decide +kernel
theorem dL_law_427 : decode cL_law 427 = .ok (.iconst 3, 1) := by decide +kernel
theorem dL_law_428 : decode cL_law 428 = .ok (.iadd, 1) := by decide +kernel
theorem dL_law_429 : decode cL_law 429 = .ok (.iaload, 1) := by decide +kernel
theorem dL_law_430 : decode cL_law 430 = .ok (.invokevirtual 39, 3) := by decide +kernel
theorem dL_law_433 : decode cL_law 433 = .ok (.if_icmp .eq 812, 3) := by decide +kernel
theorem dL_law_436 : decode cL_law 436 = .ok (.iconst 0, 1) := by decide +kernel
theorem dL_law_437 : decode cL_law 437 = .ok (.ireturn, 1) := by decide +kernel
theorem dL_law_438 : decode cL_law 438 = .ok (.aload_n 1, 1) := by decide +kernel
theorem dL_law_439 : decode cL_law 439 = .ok (.aload_n 0, 1) := by decide +kernel
theorem dL_law_440 : decode cL_law 440 = .ok (.iload_n 3, 1) := by decide +kernel
theorem dL_law_441 : decode cL_law 441 = .ok (.iconst 1, 1) := by decide +kernel
theorem dL_law_442 : decode cL_law 442 = .ok (.iadd, 1) := by decide +kernel
theorem dL_law_443 : decode cL_law 443 = .ok (.iaload, 1) := by decide +kernel
theorem dL_law_444 : decode cL_law 444 = .ok (.aload_n 0, 1) := by decide +kernel
theorem dL_law_445 : decode cL_law 445 = .ok (.iload_n 3, 1) := by decide +kernel
theorem dL_law_446 : decode cL_law 446 = .ok (.iconst 2, 1) := by decide +kernel
theorem dL_law_447 : decode cL_law 447 = .ok (.iadd, 1) := by decide +kernel
theorem dL_law_448 : decode cL_law 448 = .ok (.iaload, 1) := by decide +kernel
theorem dL_law_449 : decode cL_law 449 = .ok (.invokevirtual 40, 3) := by decide +kernel
theorem dL_law_452 : decode cL_law 452 = .ok (.aload_n 2, 1) := by decide +kernel
theorem dL_law_453 : decode cL_law 453 = .ok (.aload_n 0, 1) := by decide +kernel
theorem dL_law_454 : decode cL_law 454 = .ok (.iload_n 3, 1) := by decide +kernel
theorem dL_law_455 : decode cL_law 455 = .ok (.iconst 1, 1) := by decide +kernel
theorem dL_law_456 : decode cL_law 456 = .ok (.iadd, 1) := by decide +kernel
theorem dL_law_457 : decode cL_law 457 = .ok (.iaload, 1) := by decide +kernel
theorem dL_law_458 : decode cL_law 458 = .ok (.aload_n 0, 1) := by decide +kernel
theorem dL_law_459 : decode cL_law 459 = .ok (.iload_n 3, 1) := by decide +kernel
theorem dL_law_460 : decode cL_law 460 = .ok (.iconst 2, 1) := by decide +kernel
theorem dL_law_461 : decode cL_law 461 = .ok (.iadd, 1) := by decide +kernel
theorem dL_law_462 : decode cL_law 462 = .ok (.iaload, 1) := by decide +kernel
theorem dL_law_463 : decode cL_law 463 = .ok (.invokevirtual 44, 3) := by decide +kernel
theorem dL_law_466 : decode cL_law 466 = .ok (.if_icmp .eq 779, 3) := by decide +kernel
theorem dL_law_469 : decode cL_law 469 = .ok (.iconst 0, 1) := by decide +kernel
theorem dL_law_470 : decode cL_law 470 = .ok (.ireturn, 1) := by decide +kernel
theorem dL_law_471 : decode cL_law 471 = .ok (.aload_n 1, 1) := by decide +kernel
theorem dL_law_472 : decode cL_law 472 = .ok (.aload_n 0, 1) := by decide +kernel
theorem dL_law_473 : decode cL_law 473 = .ok (.iload_n 3, 1) := by decide +kernel
theorem dL_law_474 : decode cL_law 474 = .ok (.iconst 1, 1) := by decide +kernel
theorem dL_law_475 : decode cL_law 475 = .ok (.iadd, 1) := by decide +kernel
theorem dL_law_476 : decode cL_law 476 = .ok (.iaload, 1) := by decide +kernel
theorem dL_law_477 : decode cL_law 477 = .ok (.aload_n 0, 1) := by decide +kernel
theorem dL_law_478 : decode cL_law 478 = .ok (.iload_n 3, 1) := by decide +kernel
theorem dL_law_479 : decode cL_law 479 = .ok (.iconst 2, 1) := by decide +kernel
theorem dL_law_480 : decode cL_law 480 = .ok (.iadd, 1) := by decide +kernel
theorem dL_law_481 : decode cL_law 481 = .ok (.iaload, 1) := by decide +kernel
theorem dL_law_482 : decode cL_law 482 = .ok (.aload_n 0, 1) := by decide +kernel
theorem dL_law_483 : decode cL_law 483 = .ok (.iload_n 3, 1) := by decide +kernel
theorem dL_law_484 : decode cL_law 484 = .ok (.iconst 3, 1) := by decide +kernel
theorem dL_law_485 : decode cL_law 485 = .ok (.iadd, 1) := by decide +kernel
theorem dL_law_486 : decode cL_law 486 = .ok (.iaload, 1) := by decide +kernel
theorem dL_law_487 : decode cL_law 487 = .ok (.aload_n 0, 1) := by decide +kernel
theorem dL_law_488 : decode cL_law 488 = .ok (.iload_n 3, 1) := by decide +kernel
theorem dL_law_489 : decode cL_law 489 = .ok (.iconst 4, 1) := by decide +kernel
theorem dL_law_490 : decode cL_law 490 = .ok (.iadd, 1) := by decide +kernel
theorem dL_law_491 : decode cL_law 491 = .ok (.iaload, 1) := by decide +kernel
theorem dL_law_492 : decode cL_law 492 = .ok (.invokevirtual 45, 3) := by decide +kernel
theorem dL_law_495 : decode cL_law 495 = .ok (.aload_n 2, 1) := by decide +kernel
theorem dL_law_496 : decode cL_law 496 = .ok (.aload_n 0, 1) := by decide +kernel
theorem dL_law_497 : decode cL_law 497 = .ok (.iload_n 3, 1) := by decide +kernel
theorem dL_law_498 : decode cL_law 498 = .ok (.iconst 1, 1) := by decide +kernel
theorem dL_law_499 : decode cL_law 499 = .ok (.iadd, 1) := by decide +kernel
theorem dL_law_500 : decode cL_law 500 = .ok (.iaload, 1) := by decide +kernel
theorem dL_law_501 : decode cL_law 501 = .ok (.aload_n 0, 1) := by decide +kernel
theorem dL_law_502 : decode cL_law 502 = .ok (.iload_n 3, 1) := by decide +kernel
theorem dL_law_503 : decode cL_law 503 = .ok (.iconst 2, 1) := by decide +kernel
theorem dL_law_504 : decode cL_law 504 = .ok (.iadd, 1) := by decide +kernel
theorem dL_law_505 : decode cL_law 505 = .ok (.iaload, 1) := by decide +kernel
theorem dL_law_506 : decode cL_law 506 = .ok (.aload_n 0, 1) := by decide +kernel
theorem dL_law_507 : decode cL_law 507 = .ok (.iload_n 3, 1) := by decide +kernel
theorem dL_law_508 : decode cL_law 508 = .ok (.iconst 3, 1) := by decide +kernel
theorem dL_law_509 : decode cL_law 509 = .ok (.iadd, 1) := by decide +kernel
theorem dL_law_510 : decode cL_law 510 = .ok (.iaload, 1) := by decide +kernel
theorem dL_law_511 : decode cL_law 511 = .ok (.aload_n 0, 1) := by decide +kernel
theorem dL_law_512 : decode cL_law 512 = .ok (.iload_n 3, 1) := by decide +kernel
theorem dL_law_513 : decode cL_law 513 = .ok (.iconst 4, 1) := by decide +kernel
theorem dL_law_514 : decode cL_law 514 = .ok (.iadd, 1) := by decide +kernel
theorem dL_law_515 : decode cL_law 515 = .ok (.iaload, 1) := by decide +kernel
theorem dL_law_516 : decode cL_law 516 = .ok (.invokevirtual 49, 3) := by decide +kernel
theorem dL_law_519 : decode cL_law 519 = .ok (.if_icmp .eq 726, 3) := by decide +kernel
theorem dL_law_522 : decode cL_law 522 = .ok (.iconst 0, 1) := by decide +kernel
theorem dL_law_523 : decode cL_law 523 = .ok (.ireturn, 1) := by decide +kernel
theorem dL_law_524 : decode cL_law 524 = .ok (.aload_n 1, 1) := by decide +kernel
theorem dL_law_525 : decode cL_law 525 = .ok (.aload_n 0, 1) := by decide +kernel
theorem dL_law_526 : decode cL_law 526 = .ok (.iload_n 3, 1) := by decide +kernel
theorem dL_law_527 : decode cL_law 527 = .ok (.iconst 1, 1) := by decide +kernel
theorem dL_law_528 : decode cL_law 528 = .ok (.iadd, 1) := by decide +kernel
theorem dL_law_529 : decode cL_law 529 = .ok (.iaload, 1) := by decide +kernel
theorem dL_law_530 : decode cL_law 530 = .ok (.aload_n 0, 1) := by decide +kernel
theorem dL_law_531 : decode cL_law 531 = .ok (.iload_n 3, 1) := by decide +kernel
theorem dL_law_532 : decode cL_law 532 = .ok (.iconst 2, 1) := by decide +kernel
theorem dL_law_533 : decode cL_law 533 = .ok (.iadd, 1) := by decide +kernel
theorem dL_law_534 : decode cL_law 534 = .ok (.iaload, 1) := by decide +kernel
theorem dL_law_535 : decode cL_law 535 = .ok (.aload_n 0, 1) := by decide +kernel
theorem dL_law_536 : decode cL_law 536 = .ok (.iload_n 3, 1) := by decide +kernel
theorem dL_law_537 : decode cL_law 537 = .ok (.iconst 3, 1) := by decide +kernel
theorem dL_law_538 : decode cL_law 538 = .ok (.iadd, 1) := by decide +kernel
theorem dL_law_539 : decode cL_law 539 = .ok (.iaload, 1) := by decide +kernel
theorem dL_law_540 : decode cL_law 540 = .ok (.aload_n 0, 1) := by decide +kernel
theorem dL_law_541 : decode cL_law 541 = .ok (.iload_n 3, 1) := by decide +kernel
theorem dL_law_542 : decode cL_law 542 = .ok (.iconst 4, 1) := by decide +kernel
theorem dL_law_543 : decode cL_law 543 = .ok (.iadd, 1) := by decide +kernel
theorem dL_law_544 : decode cL_law 544 = .ok (.iaload, 1) := by decide +kernel
theorem dL_law_545 : decode cL_law 545 = .ok (.invokevirtual 50, 3) := by decide +kernel
theorem dL_law_548 : decode cL_law 548 = .ok (.aload_n 2, 1) := by decide +kernel
theorem dL_law_549 : decode cL_law 549 = .ok (.aload_n 0, 1) := by decide +kernel
theorem dL_law_550 : decode cL_law 550 = .ok (.iload_n 3, 1) := by decide +kernel
theorem dL_law_551 : decode cL_law 551 = .ok (.iconst 1, 1) := by decide +kernel
theorem dL_law_552 : decode cL_law 552 = .ok (.iadd, 1) := by decide +kernel
theorem dL_law_553 : decode cL_law 553 = .ok (.iaload, 1) := by decide +kernel
theorem dL_law_554 : decode cL_law 554 = .ok (.aload_n 0, 1) := by decide +kernel
theorem dL_law_555 : decode cL_law 555 = .ok (.iload_n 3, 1) := by decide +kernel
theorem dL_law_556 : decode cL_law 556 = .ok (.iconst 2, 1) := by decide +kernel
theorem dL_law_557 : decode cL_law 557 = .ok (.iadd, 1) := by decide +kernel
theorem dL_law_558 : decode cL_law 558 = .ok (.iaload, 1) := by decide +kernel
theorem dL_law_559 : decode cL_law 559 = .ok (.aload_n 0, 1) := by decide +kernel
theorem dL_law_560 : decode cL_law 560 = .ok (.iload_n 3, 1) := by decide +kernel
theorem dL_law_561 : decode cL_law 561 = .ok (.iconst 3, 1) := by decide +kernel
theorem dL_law_562 : decode cL_law 562 = .ok (.iadd, 1) := by decide +kernel
theorem dL_law_563 : decode cL_law 563 = .ok (.iaload, 1) := by decide +kernel
theorem dL_law_564 : decode cL_law 564 = .ok (.aload_n 0, 1) := by decide +kernel
theorem dL_law_565 : decode cL_law 565 = .ok (.iload_n 3, 1) := by decide +kernel
theorem dL_law_566 : decode cL_law 566 = .ok (.iconst 4, 1) := by decide +kernel
theorem dL_law_567 : decode cL_law 567 = .ok (.iadd, 1) := by decide +kernel
theorem dL_law_568 : decode cL_law 568 = .ok (.iaload, 1) := by decide +kernel
theorem dL_law_569 : decode cL_law 569 = .ok (.invokevirtual 53, 3) := by decide +kernel
theorem dL_law_572 : decode cL_law 572 = .ok (.if_icmp .eq 673, 3) := by decide +kernel
theorem dL_law_575 : decode cL_law 575 = .ok (.iconst 0, 1) := by decide +kernel
theorem dL_law_576 : decode cL_law 576 = .ok (.ireturn, 1) := by decide +kernel
theorem dL_law_577 : decode cL_law 577 = .ok (.aload_n 1, 1) := by decide +kernel
theorem dL_law_578 : decode cL_law 578 = .ok (.aload_n 0, 1) := by decide +kernel
theorem dL_law_579 : decode cL_law 579 = .ok (.iload_n 3, 1) := by decide +kernel
theorem dL_law_580 : decode cL_law 580 = .ok (.iconst 1, 1) := by decide +kernel
theorem dL_law_581 : decode cL_law 581 = .ok (.iadd, 1) := by decide +kernel
theorem dL_law_582 : decode cL_law 582 = .ok (.iaload, 1) := by decide +kernel
theorem dL_law_583 : decode cL_law 583 = .ok (.aload_n 0, 1) := by decide +kernel
theorem dL_law_584 : decode cL_law 584 = .ok (.iload_n 3, 1) := by decide +kernel
theorem dL_law_585 : decode cL_law 585 = .ok (.iconst 2, 1) := by decide +kernel
theorem dL_law_586 : decode cL_law 586 = .ok (.iadd, 1) := by decide +kernel
theorem dL_law_587 : decode cL_law 587 = .ok (.iaload, 1) := by decide +kernel
theorem dL_law_588 : decode cL_law 588 = .ok (.aload_n 0, 1) := by decide +kernel
theorem dL_law_589 : decode cL_law 589 = .ok (.iload_n 3, 1) := by decide +kernel
theorem dL_law_590 : decode cL_law 590 = .ok (.iconst 3, 1) := by decide +kernel
theorem dL_law_591 : decode cL_law 591 = .ok (.iadd, 1) := by decide +kernel
theorem dL_law_592 : decode cL_law 592 = .ok (.iaload, 1) := by decide +kernel
theorem dL_law_593 : decode cL_law 593 = .ok (.invokevirtual 54, 3) := by decide +kernel
theorem dL_law_596 : decode cL_law 596 = .ok (.aload_n 2, 1) := by decide +kernel
theorem dL_law_597 : decode cL_law 597 = .ok (.aload_n 0, 1) := by decide +kernel
theorem dL_law_598 : decode cL_law 598 = .ok (.iload_n 3, 1) := by decide +kernel
theorem dL_law_599 : decode cL_law 599 = .ok (.iconst 1, 1) := by decide +kernel
theorem dL_law_600 : decode cL_law 600 = .ok (.iadd, 1) := by decide +kernel
theorem dL_law_601 : decode cL_law 601 = .ok (.iaload, 1) := by decide +kernel
theorem dL_law_602 : decode cL_law 602 = .ok (.aload_n 0, 1) := by decide +kernel
theorem dL_law_603 : decode cL_law 603 = .ok (.iload_n 3, 1) := by decide +kernel
theorem dL_law_604 : decode cL_law 604 = .ok (.iconst 2, 1) := by decide +kernel
theorem dL_law_605 : decode cL_law 605 = .ok (.iadd, 1) := by decide +kernel
theorem dL_law_606 : decode cL_law 606 = .ok (.iaload, 1) := by decide +kernel
theorem dL_law_607 : decode cL_law 607 = .ok (.aload_n 0, 1) := by decide +kernel
theorem dL_law_608 : decode cL_law 608 = .ok (.iload_n 3, 1) := by decide +kernel
theorem dL_law_609 : decode cL_law 609 = .ok (.iconst 3, 1) := by decide +kernel
theorem dL_law_610 : decode cL_law 610 = .ok (.iadd, 1) := by decide +kernel
theorem dL_law_611 : decode cL_law 611 = .ok (.iaload, 1) := by decide +kernel
theorem dL_law_612 : decode cL_law 612 = .ok (.invokevirtual 57, 3) := by decide +kernel
theorem dL_law_615 : decode cL_law 615 = .ok (.if_icmp .eq 630, 3) := by decide +kernel
theorem dL_law_618 : decode cL_law 618 = .ok (.iconst 0, 1) := by decide +kernel
theorem dL_law_619 : decode cL_law 619 = .ok (.ireturn, 1) := by decide +kernel
theorem dL_law_620 : decode cL_law 620 = .ok (.aload_n 1, 1) := by decide +kernel
theorem dL_law_621 : decode cL_law 621 = .ok (.aload_n 0, 1) := by decide +kernel
theorem dL_law_622 : decode cL_law 622 = .ok (.iload_n 3, 1) := by decide +kernel
theorem dL_law_623 : decode cL_law 623 = .ok (.iconst 1, 1) := by decide +kernel
theorem dL_law_624 : decode cL_law 624 = .ok (.iadd, 1) := by decide +kernel
theorem dL_law_625 : decode cL_law 625 = .ok (.iaload, 1) := by decide +kernel
theorem dL_law_626 : decode cL_law 626 = .ok (.aload_n 0, 1) := by decide +kernel
theorem dL_law_627 : decode cL_law 627 = .ok (.iload_n 3, 1) := by decide +kernel
theorem dL_law_628 : decode cL_law 628 = .ok (.iconst 2, 1) := by decide +kernel
theorem dL_law_629 : decode cL_law 629 = .ok (.iadd, 1) := by decide +kernel
theorem dL_law_630 : decode cL_law 630 = .ok (.iaload, 1) := by decide +kernel
theorem dL_law_631 : decode cL_law 631 = .ok (.aload_n 0, 1) := by decide +kernel
theorem dL_law_632 : decode cL_law 632 = .ok (.iload_n 3, 1) := by decide +kernel
theorem dL_law_633 : decode cL_law 633 = .ok (.iconst 3, 1) := by decide +kernel
theorem dL_law_634 : decode cL_law 634 = .ok (.iadd, 1) := by decide +kernel
theorem dL_law_635 : decode cL_law 635 = .ok (.iaload, 1) := by decide +kernel
theorem dL_law_636 : decode cL_law 636 = .ok (.invokevirtual 58, 3) := by decide +kernel
theorem dL_law_639 : decode cL_law 639 = .ok (.aload_n 2, 1) := by decide +kernel
theorem dL_law_640 : decode cL_law 640 = .ok (.aload_n 0, 1) := by decide +kernel
theorem dL_law_641 : decode cL_law 641 = .ok (.iload_n 3, 1) := by decide +kernel
theorem dL_law_642 : decode cL_law 642 = .ok (.iconst 1, 1) := by decide +kernel
theorem dL_law_643 : decode cL_law 643 = .ok (.iadd, 1) := by decide +kernel
theorem dL_law_644 : decode cL_law 644 = .ok (.iaload, 1) := by decide +kernel
theorem dL_law_645 : decode cL_law 645 = .ok (.aload_n 0, 1) := by decide +kernel
theorem dL_law_646 : decode cL_law 646 = .ok (.iload_n 3, 1) := by decide +kernel
theorem dL_law_647 : decode cL_law 647 = .ok (.iconst 2, 1) := by decide +kernel
theorem dL_law_648 : decode cL_law 648 = .ok (.iadd, 1) := by decide +kernel
theorem dL_law_649 : decode cL_law 649 = .ok (.iaload, 1) := by decide +kernel
theorem dL_law_650 : decode cL_law 650 = .ok (.aload_n 0, 1) := by decide +kernel
theorem dL_law_651 : decode cL_law 651 = .ok (.iload_n 3, 1) := by decide +kernel
theorem dL_law_652 : decode cL_law 652 = .ok (.iconst 3, 1) := by decide +kernel
theorem dL_law_653 : decode cL_law 653 = .ok (.iadd, 1) := by decide +kernel
theorem dL_law_654 : decode cL_law 654 = .ok (.iaload, 1) := by decide +kernel
theorem dL_law_655 : decode cL_law 655 = .ok (.invokevirtual 61, 3) := by decide +kernel
theorem dL_law_658 : decode cL_law 658 = .ok (.if_icmp .eq 587, 3) := by decide +kernel
theorem dL_law_661 : decode cL_law 661 = .ok (.iconst 0, 1) := by decide +kernel
theorem dL_law_662 : decode cL_law 662 = .ok (.ireturn, 1) := by decide +kernel
theorem dL_law_663 : decode cL_law 663 = .ok (.aload_n 1, 1) := by decide +kernel
theorem dL_law_664 : decode cL_law 664 = .ok (.aload_n 0, 1) := by decide +kernel
theorem dL_law_665 : decode cL_law 665 = .ok (.iload_n 3, 1) := by decide +kernel
theorem dL_law_666 : decode cL_law 666 = .ok (.iconst 1, 1) := by decide +kernel
theorem dL_law_667 : decode cL_law 667 = .ok (.iadd, 1) := by decide +kernel
theorem dL_law_668 : decode cL_law 668 = .ok (.iaload, 1) := by decide +kernel
theorem dL_law_669 : decode cL_law 669 = .ok (.invokevirtual 62, 3) := by decide +kernel
theorem dL_law_672 : decode cL_law 672 = .ok (.aload_n 2, 1) := by decide +kernel
theorem dL_law_673 : decode cL_law 673 = .ok (.aload_n 0, 1) := by decide +kernel
theorem dL_law_674 : decode cL_law 674 = .ok (.iload_n 3, 1) := by decide +kernel
theorem dL_law_675 : decode cL_law 675 = .ok (.iconst 1, 1) := by decide +kernel
theorem dL_law_676 : decode cL_law 676 = .ok (.iadd, 1) := by decide +kernel
theorem dL_law_677 : decode cL_law 677 = .ok (.iaload, 1) := by decide +kernel
theorem dL_law_678 : decode cL_law 678 = .ok (.invokevirtual 65, 3) := by decide +kernel
theorem dL_law_681 : decode cL_law 681 = .ok (.if_icmp .eq 564, 3) := by decide +kernel
theorem dL_law_684 : decode cL_law 684 = .ok (.iconst 0, 1) := by decide +kernel
theorem dL_law_685 : decode cL_law 685 = .ok (.ireturn, 1) := by decide +kernel
theorem dL_law_686 : decode cL_law 686 = .ok (.aload_n 1, 1) := by decide +kernel
theorem dL_law_687 : decode cL_law 687 = .ok (.aload_n 0, 1) := by decide +kernel
theorem dL_law_688 : decode cL_law 688 = .ok (.iload_n 3, 1) := by decide +kernel
theorem dL_law_689 : decode cL_law 689 = .ok (.iconst 1, 1) := by decide +kernel
theorem dL_law_690 : decode cL_law 690 = .ok (.iadd, 1) := by decide +kernel
theorem dL_law_691 : decode cL_law 691 = .ok (.iaload, 1) := by decide +kernel
theorem dL_law_692 : decode cL_law 692 = .ok (.aload_n 0, 1) := by decide +kernel
theorem dL_law_693 : decode cL_law 693 = .ok (.iload_n 3, 1) := by decide +kernel
theorem dL_law_694 : decode cL_law 694 = .ok (.iconst 2, 1) := by decide +kernel
theorem dL_law_695 : decode cL_law 695 = .ok (.iadd, 1) := by decide +kernel
theorem dL_law_696 : decode cL_law 696 = .ok (.iaload, 1) := by decide +kernel
theorem dL_law_697 : decode cL_law 697 = .ok (.invokevirtual 66, 3) := by decide +kernel
theorem dL_law_700 : decode cL_law 700 = .ok (.aload_n 2, 1) := by decide +kernel
theorem dL_law_701 : decode cL_law 701 = .ok (.aload_n 0, 1) := by decide +kernel
theorem dL_law_702 : decode cL_law 702 = .ok (.iload_n 3, 1) := by decide +kernel
theorem dL_law_703 : decode cL_law 703 = .ok (.iconst 1, 1) := by decide +kernel
theorem dL_law_704 : decode cL_law 704 = .ok (.iadd, 1) := by decide +kernel
theorem dL_law_705 : decode cL_law 705 = .ok (.iaload, 1) := by decide +kernel
theorem dL_law_706 : decode cL_law 706 = .ok (.aload_n 0, 1) := by decide +kernel
theorem dL_law_707 : decode cL_law 707 = .ok (.iload_n 3, 1) := by decide +kernel
theorem dL_law_708 : decode cL_law 708 = .ok (.iconst 2, 1) := by decide +kernel
theorem dL_law_709 : decode cL_law 709 = .ok (.iadd, 1) := by decide +kernel
theorem dL_law_710 : decode cL_law 710 = .ok (.iaload, 1) := by decide +kernel
theorem dL_law_711 : decode cL_law 711 = .ok (.invokevirtual 69, 3) := by decide +kernel
theorem dL_law_714 : decode cL_law 714 = .ok (.if_icmp .eq 531, 3) := by decide +kernel
theorem dL_law_717 : decode cL_law 717 = .ok (.iconst 0, 1) := by decide +kernel
theorem dL_law_718 : decode cL_law 718 = .ok (.ireturn, 1) := by decide +kernel
theorem dL_law_719 : decode cL_law 719 = .ok (.aload_n 1, 1) := by decide +kernel
theorem dL_law_720 : decode cL_law 720 = .ok (.aload_n 0, 1) := by decide +kernel
theorem dL_law_721 : decode cL_law 721 = .ok (.iload_n 3, 1) := by decide +kernel
theorem dL_law_722 : decode cL_law 722 = .ok (.iconst 1, 1) := by decide +kernel
theorem dL_law_723 : decode cL_law 723 = .ok (.iadd, 1) := by decide +kernel
theorem dL_law_724 : decode cL_law 724 = .ok (.iaload, 1) := by decide +kernel
theorem dL_law_725 : decode cL_law 725 = .ok (.aload_n 0, 1) := by decide +kernel
theorem dL_law_726 : decode cL_law 726 = .ok (.iload_n 3, 1) := by decide +kernel
theorem dL_law_727 : decode cL_law 727 = .ok (.iconst 2, 1) := by decide +kernel
theorem dL_law_728 : decode cL_law 728 = .ok (.iadd, 1) := by decide +kernel
theorem dL_law_729 : decode cL_law 729 = .ok (.iaload, 1) := by decide +kernel
theorem dL_law_730 : decode cL_law 730 = .ok (.aload_n 0, 1) := by decide +kernel
theorem dL_law_731 : decode cL_law 731 = .ok (.iload_n 3, 1) := by decide +kernel
theorem dL_law_732 : decode cL_law 732 = .ok (.iconst 3, 1) := by decide +kernel
theorem dL_law_733 : decode cL_law 733 = .ok (.iadd, 1) := by decide +kernel
theorem dL_law_734 : decode cL_law 734 = .ok (.iaload, 1) := by decide +kernel
theorem dL_law_735 : decode cL_law 735 = .ok (.invokevirtual 70, 3) := by decide +kernel
theorem dL_law_738 : decode cL_law 738 = .ok (.aload_n 2, 1) := by decide +kernel
theorem dL_law_739 : decode cL_law 739 = .ok (.aload_n 0, 1) := by decide +kernel
theorem dL_law_740 : decode cL_law 740 = .ok (.iload_n 3, 1) := by decide +kernel
theorem dL_law_741 : decode cL_law 741 = .ok (.iconst 1, 1) := by decide +kernel
theorem dL_law_742 : decode cL_law 742 = .ok (.iadd, 1) := by decide +kernel
theorem dL_law_743 : decode cL_law 743 = .ok (.iaload, 1) := by decide +kernel
theorem dL_law_744 : decode cL_law 744 = .ok (.aload_n 0, 1) := by decide +kernel
theorem dL_law_745 : decode cL_law 745 = .ok (.iload_n 3, 1) := by decide +kernel
theorem dL_law_746 : decode cL_law 746 = .ok (.iconst 2, 1) := by decide +kernel
theorem dL_law_747 : decode cL_law 747 = .ok (.iadd, 1) := by decide +kernel
theorem dL_law_748 : decode cL_law 748 = .ok (.iaload, 1) := by decide +kernel
theorem dL_law_749 : decode cL_law 749 = .ok (.aload_n 0, 1) := by decide +kernel
theorem dL_law_750 : decode cL_law 750 = .ok (.iload_n 3, 1) := by decide +kernel
theorem dL_law_751 : decode cL_law 751 = .ok (.iconst 3, 1) := by decide +kernel
theorem dL_law_752 : decode cL_law 752 = .ok (.iadd, 1) := by decide +kernel
theorem dL_law_753 : decode cL_law 753 = .ok (.iaload, 1) := by decide +kernel
theorem dL_law_754 : decode cL_law 754 = .ok (.invokevirtual 73, 3) := by decide +kernel
theorem dL_law_757 : decode cL_law 757 = .ok (.if_icmp .eq 488, 3) := by decide +kernel
theorem dL_law_760 : decode cL_law 760 = .ok (.iconst 0, 1) := by decide +kernel
theorem dL_law_761 : decode cL_law 761 = .ok (.ireturn, 1) := by decide +kernel
theorem dL_law_762 : decode cL_law 762 = .ok (.aload_n 1, 1) := by decide +kernel
theorem dL_law_763 : decode cL_law 763 = .ok (.aload_n 0, 1) := by decide +kernel
theorem dL_law_764 : decode cL_law 764 = .ok (.iload_n 3, 1) := by decide +kernel
theorem dL_law_765 : decode cL_law 765 = .ok (.iconst 1, 1) := by decide +kernel
theorem dL_law_766 : decode cL_law 766 = .ok (.iadd, 1) := by decide +kernel
theorem dL_law_767 : decode cL_law 767 = .ok (.iaload, 1) := by decide +kernel
theorem dL_law_768 : decode cL_law 768 = .ok (.aload_n 0, 1) := by decide +kernel
theorem dL_law_769 : decode cL_law 769 = .ok (.iload_n 3, 1) := by decide +kernel
theorem dL_law_770 : decode cL_law 770 = .ok (.iconst 2, 1) := by decide +kernel
theorem dL_law_771 : decode cL_law 771 = .ok (.iadd, 1) := by decide +kernel
theorem dL_law_772 : decode cL_law 772 = .ok (.iaload, 1) := by decide +kernel
theorem dL_law_773 : decode cL_law 773 = .ok (.aload_n 0, 1) := by decide +kernel
theorem dL_law_774 : decode cL_law 774 = .ok (.iload_n 3, 1) := by decide +kernel
theorem dL_law_775 : decode cL_law 775 = .ok (.iconst 3, 1) := by decide +kernel
theorem dL_law_776 : decode cL_law 776 = .ok (.iadd, 1) := by decide +kernel
theorem dL_law_777 : decode cL_law 777 = .ok (.iaload, 1) := by decide +kernel
theorem dL_law_778 : decode cL_law 778 = .ok (.invokevirtual 74, 3) := by decide +kernel
theorem dL_law_781 : decode cL_law 781 = .ok (.aload_n 2, 1) := by decide +kernel
theorem dL_law_782 : decode cL_law 782 = .ok (.aload_n 0, 1) := by decide +kernel
theorem dL_law_783 : decode cL_law 783 = .ok (.iload_n 3, 1) := by decide +kernel
theorem dL_law_784 : decode cL_law 784 = .ok (.iconst 1, 1) := by decide +kernel
theorem dL_law_785 : decode cL_law 785 = .ok (.iadd, 1) := by decide +kernel
theorem dL_law_786 : decode cL_law 786 = .ok (.iaload, 1) := by decide +kernel
theorem dL_law_787 : decode cL_law 787 = .ok (.aload_n 0, 1) := by decide +kernel
theorem dL_law_788 : decode cL_law 788 = .ok (.iload_n 3, 1) := by decide +kernel
theorem dL_law_789 : decode cL_law 789 = .ok (.iconst 2, 1) := by decide +kernel
theorem dL_law_790 : decode cL_law 790 = .ok (.iadd, 1) := by decide +kernel
theorem dL_law_791 : decode cL_law 791 = .ok (.iaload, 1) := by decide +kernel
theorem dL_law_792 : decode cL_law 792 = .ok (.aload_n 0, 1) := by decide +kernel
theorem dL_law_793 : decode cL_law 793 = .ok (.iload_n 3, 1) := by decide +kernel
theorem dL_law_794 : decode cL_law 794 = .ok (.iconst 3, 1) := by decide +kernel
theorem dL_law_795 : decode cL_law 795 = .ok (.iadd, 1) := by decide +kernel
theorem dL_law_796 : decode cL_law 796 = .ok (.iaload, 1) := by decide +kernel
theorem dL_law_797 : decode cL_law 797 = .ok (.invokevirtual 77, 3) := by decide +kernel
theorem dL_law_800 : decode cL_law 800 = .ok (.if_icmp .eq 445, 3) := by decide +kernel
theorem dL_law_803 : decode cL_law 803 = .ok (.iconst 0, 1) := by decide +kernel
theorem dL_law_804 : decode cL_law 804 = .ok (.ireturn, 1) := by decide +kernel
theorem dL_law_805 : decode cL_law 805 = .ok (.aload_n 1, 1) := by decide +kernel
theorem dL_law_806 : decode cL_law 806 = .ok (.aload_n 0, 1) := by decide +kernel
theorem dL_law_807 : decode cL_law 807 = .ok (.iload_n 3, 1) := by decide +kernel
theorem dL_law_808 : decode cL_law 808 = .ok (.iconst 1, 1) := by decide +kernel
theorem dL_law_809 : decode cL_law 809 = .ok (.iadd, 1) := by decide +kernel
theorem dL_law_810 : decode cL_law 810 = .ok (.iaload, 1) := by decide +kernel
theorem dL_law_811 : decode cL_law 811 = .ok (.aload_n 0, 1) := by decide +kernel
theorem dL_law_812 : decode cL_law 812 = .ok (.iload_n 3, 1) := by decide +kernel
theorem dL_law_813 : decode cL_law 813 = .ok (.iconst 2, 1) := by decide +kernel
theorem dL_law_814 : decode cL_law 814 = .ok (.iadd, 1) := by decide +kernel
theorem dL_law_815 : decode cL_law 815 = .ok (.iaload, 1) := by decide +kernel
theorem dL_law_816 : decode cL_law 816 = .ok (.aload_n 0, 1) := by decide +kernel
theorem dL_law_817 : decode cL_law 817 = .ok (.iload_n 3, 1) := by decide +kernel
theorem dL_law_818 : decode cL_law 818 = .ok (.iconst 3, 1) := by decide +kernel
theorem dL_law_819 : decode cL_law 819 = .ok (.iadd, 1) := by decide +kernel
theorem dL_law_820 : decode cL_law 820 = .ok (.iaload, 1) := by decide +kernel
theorem dL_law_821 : decode cL_law 821 = .ok (.aload_n 0, 1) := by decide +kernel
theorem dL_law_822 : decode cL_law 822 = .ok (.iload_n 3, 1) := by decide +kernel
theorem dL_law_823 : decode cL_law 823 = .ok (.iconst 4, 1) := by decide +kernel
theorem dL_law_824 : decode cL_law 824 = .ok (.iadd, 1) := by decide +kernel
theorem dL_law_825 : decode cL_law 825 = .ok (.iaload, 1) := by decide +kernel
theorem dL_law_826 : decode cL_law 826 = .ok (.invokevirtual 78, 3) := by decide +kernel
theorem dL_law_829 : decode cL_law 829 = .ok (.aload_n 2, 1) := by decide +kernel
theorem dL_law_830 : decode cL_law 830 = .ok (.aload_n 0, 1) := by decide +kernel
theorem dL_law_831 : decode cL_law 831 = .ok (.iload_n 3, 1) := by decide +kernel
theorem dL_law_832 : decode cL_law 832 = .ok (.iconst 1, 1) := by decide +kernel
theorem dL_law_833 : decode cL_law 833 = .ok (.iadd, 1) := by decide +kernel
theorem dL_law_834 : decode cL_law 834 = .ok (.iaload, 1) := by decide +kernel
theorem dL_law_835 : decode cL_law 835 = .ok (.aload_n 0, 1) := by decide +kernel
theorem dL_law_836 : decode cL_law 836 = .ok (.iload_n 3, 1) := by decide +kernel
theorem dL_law_837 : decode cL_law 837 = .ok (.iconst 2, 1) := by decide +kernel
theorem dL_law_838 : decode cL_law 838 = .ok (.iadd, 1) := by decide +kernel
theorem dL_law_839 : decode cL_law 839 = .ok (.iaload, 1) := by decide +kernel
theorem dL_law_840 : decode cL_law 840 = .ok (.aload_n 0, 1) := by decide +kernel
theorem dL_law_841 : decode cL_law 841 = .ok (.iload_n 3, 1) := by decide +kernel
theorem dL_law_842 : decode cL_law 842 = .ok (.iconst 3, 1) := by decide +kernel
theorem dL_law_843 : decode cL_law 843 = .ok (.iadd, 1) := by decide +kernel
theorem dL_law_844 : decode cL_law 844 = .ok (.iaload, 1) := by decide +kernel
theorem dL_law_845 : decode cL_law 845 = .ok (.aload_n 0, 1) := by decide +kernel
theorem dL_law_846 : decode cL_law 846 = .ok (.iload_n 3, 1) := by decide +kernel
theorem dL_law_847 : decode cL_law 847 = .ok (.iconst 4, 1) := by decide +kernel
theorem dL_law_848 : decode cL_law 848 = .ok (.iadd, 1) := by decide +kernel
theorem dL_law_849 : decode cL_law 849 = .ok (.iaload, 1) := by decide +kernel
theorem dL_law_850 : decode cL_law 850 = .ok (.invokevirtual 81, 3) := by decide +kernel
theorem dL_law_853 : decode cL_law 853 = .ok (.if_icmp .eq 392, 3) := by decide +kernel
theorem dL_law_856 : decode cL_law 856 = .ok (.iconst 0, 1) := by decide +kernel
theorem dL_law_857 : decode cL_law 857 = .ok (.ireturn, 1) := by decide +kernel
theorem dL_law_858 : decode cL_law 858 = .ok (.aload_n 1, 1) := by decide +kernel
theorem dL_law_859 : decode cL_law 859 = .ok (.aload_n 0, 1) := by decide +kernel
theorem dL_law_860 : decode cL_law 860 = .ok (.iload_n 3, 1) := by decide +kernel
theorem dL_law_861 : decode cL_law 861 = .ok (.iconst 1, 1) := by decide +kernel
theorem dL_law_862 : decode cL_law 862 = .ok (.iadd, 1) := by decide +kernel
theorem dL_law_863 : decode cL_law 863 = .ok (.iaload, 1) := by decide +kernel
theorem dL_law_864 : decode cL_law 864 = .ok (.aload_n 0, 1) := by decide +kernel
theorem dL_law_865 : decode cL_law 865 = .ok (.iload_n 3, 1) := by decide +kernel
theorem dL_law_866 : decode cL_law 866 = .ok (.iconst 2, 1) := by decide +kernel
theorem dL_law_867 : decode cL_law 867 = .ok (.iadd, 1) := by decide +kernel
theorem dL_law_868 : decode cL_law 868 = .ok (.iaload, 1) := by decide +kernel
theorem dL_law_869 : decode cL_law 869 = .ok (.invokevirtual 82, 3) := by decide +kernel
theorem dL_law_872 : decode cL_law 872 = .ok (.aload_n 2, 1) := by decide +kernel
theorem dL_law_873 : decode cL_law 873 = .ok (.aload_n 0, 1) := by decide +kernel
theorem dL_law_874 : decode cL_law 874 = .ok (.iload_n 3, 1) := by decide +kernel
theorem dL_law_875 : decode cL_law 875 = .ok (.iconst 1, 1) := by decide +kernel
theorem dL_law_876 : decode cL_law 876 = .ok (.iadd, 1) := by decide +kernel
theorem dL_law_877 : decode cL_law 877 = .ok (.iaload, 1) := by decide +kernel
theorem dL_law_878 : decode cL_law 878 = .ok (.aload_n 0, 1) := by decide +kernel
theorem dL_law_879 : decode cL_law 879 = .ok (.iload_n 3, 1) := by decide +kernel
theorem dL_law_880 : decode cL_law 880 = .ok (.iconst 2, 1) := by decide +kernel
theorem dL_law_881 : decode cL_law 881 = .ok (.iadd, 1) := by decide +kernel
theorem dL_law_882 : decode cL_law 882 = .ok (.iaload, 1) := by decide +kernel
theorem dL_law_883 : decode cL_law 883 = .ok (.invokevirtual 85, 3) := by decide +kernel
theorem dL_law_886 : decode cL_law 886 = .ok (.if_icmp .eq 359, 3) := by decide +kernel
theorem dL_law_889 : decode cL_law 889 = .ok (.iconst 0, 1) := by decide +kernel
theorem dL_law_890 : decode cL_law 890 = .ok (.ireturn, 1) := by decide +kernel
theorem dL_law_891 : decode cL_law 891 = .ok (.aload_n 1, 1) := by decide +kernel
theorem dL_law_892 : decode cL_law 892 = .ok (.aload_n 0, 1) := by decide +kernel
theorem dL_law_893 : decode cL_law 893 = .ok (.iload_n 3, 1) := by decide +kernel
theorem dL_law_894 : decode cL_law 894 = .ok (.iconst 1, 1) := by decide +kernel
theorem dL_law_895 : decode cL_law 895 = .ok (.iadd, 1) := by decide +kernel
theorem dL_law_896 : decode cL_law 896 = .ok (.iaload, 1) := by decide +kernel
theorem dL_law_897 : decode cL_law 897 = .ok (.invokevirtual 86, 3) := by decide +kernel
theorem dL_law_900 : decode cL_law 900 = .ok (.aload_n 2, 1) := by decide +kernel
theorem dL_law_901 : decode cL_law 901 = .ok (.aload_n 0, 1) := by decide +kernel
theorem dL_law_902 : decode cL_law 902 = .ok (.iload_n 3, 1) := by decide +kernel
theorem dL_law_903 : decode cL_law 903 = .ok (.iconst 1, 1) := by decide +kernel
theorem dL_law_904 : decode cL_law 904 = .ok (.iadd, 1) := by decide +kernel
theorem dL_law_905 : decode cL_law 905 = .ok (.iaload, 1) := by decide +kernel
theorem dL_law_906 : decode cL_law 906 = .ok (.invokevirtual 89, 3) := by decide +kernel
theorem dL_law_909 : decode cL_law 909 = .ok (.if_icmp .eq 336, 3) := by decide +kernel
theorem dL_law_912 : decode cL_law 912 = .ok (.iconst 0, 1) := by decide +kernel
theorem dL_law_913 : decode cL_law 913 = .ok (.ireturn, 1) := by decide +kernel
theorem dL_law_914 : decode cL_law 914 = .ok (.aload_n 1, 1) := by decide +kernel
theorem dL_law_915 : decode cL_law 915 = .ok (.aload_n 0, 1) := by decide +kernel
theorem dL_law_916 : decode cL_law 916 = .ok (.iload_n 3, 1) := by decide +kernel
theorem dL_law_917 : decode cL_law 917 = .ok (.iconst 1, 1) := by decide +kernel
theorem dL_law_918 : decode cL_law 918 = .ok (.iadd, 1) := by decide +kernel
theorem dL_law_919 : decode cL_law 919 = .ok (.iaload, 1) := by decide +kernel
theorem dL_law_920 : decode cL_law 920 = .ok (.aload_n 0, 1) := by decide +kernel
theorem dL_law_921 : decode cL_law 921 = .ok (.iload_n 3, 1) := by decide +kernel
theorem dL_law_922 : decode cL_law 922 = .ok (.iconst 2, 1) := by decide +kernel
theorem dL_law_923 : decode cL_law 923 = .ok (.iadd, 1) := by decide +kernel
theorem dL_law_924 : decode cL_law 924 = .ok (.iaload, 1) := by decide +kernel
theorem dL_law_925 : decode cL_law 925 = .ok (.aload_n 0, 1) := by decide +kernel
theorem dL_law_926 : decode cL_law 926 = .ok (.iload_n 3, 1) := by decide +kernel
theorem dL_law_927 : decode cL_law 927 = .ok (.iconst 3, 1) := by decide +kernel
theorem dL_law_928 : decode cL_law 928 = .ok (.iadd, 1) := by decide +kernel
theorem dL_law_929 : decode cL_law 929 = .ok (.iaload, 1) := by decide +kernel
theorem dL_law_930 : decode cL_law 930 = .ok (.aload_n 0, 1) := by decide +kernel
theorem dL_law_931 : decode cL_law 931 = .ok (.iload_n 3, 1) := by decide +kernel
theorem dL_law_932 : decode cL_law 932 = .ok (.iconst 4, 1) := by decide +kernel
theorem dL_law_933 : decode cL_law 933 = .ok (.iadd, 1) := by decide +kernel
theorem dL_law_934 : decode cL_law 934 = .ok (.iaload, 1) := by decide +kernel
theorem dL_law_935 : decode cL_law 935 = .ok (.aload_n 0, 1) := by decide +kernel
theorem dL_law_936 : decode cL_law 936 = .ok (.iload_n 3, 1) := by decide +kernel
theorem dL_law_937 : decode cL_law 937 = .ok (.iconst 5, 1) := by decide +kernel
theorem dL_law_938 : decode cL_law 938 = .ok (.iadd, 1) := by decide +kernel
theorem dL_law_939 : decode cL_law 939 = .ok (.iaload, 1) := by decide +kernel
theorem dL_law_940 : decode cL_law 940 = .ok (.invokevirtual 90, 3) := by decide +kernel
theorem dL_law_943 : decode cL_law 943 = .ok (.aload_n 2, 1) := by decide +kernel
theorem dL_law_944 : decode cL_law 944 = .ok (.aload_n 0, 1) := by decide +kernel
theorem dL_law_945 : decode cL_law 945 = .ok (.iload_n 3, 1) := by decide +kernel
theorem dL_law_946 : decode cL_law 946 = .ok (.iconst 1, 1) := by decide +kernel
theorem dL_law_947 : decode cL_law 947 = .ok (.iadd, 1) := by decide +kernel
theorem dL_law_948 : decode cL_law 948 = .ok (.iaload, 1) := by decide +kernel
theorem dL_law_949 : decode cL_law 949 = .ok (.aload_n 0, 1) := by decide +kernel
theorem dL_law_950 : decode cL_law 950 = .ok (.iload_n 3, 1) := by decide +kernel
theorem dL_law_951 : decode cL_law 951 = .ok (.iconst 2, 1) := by decide +kernel
theorem dL_law_952 : decode cL_law 952 = .ok (.iadd, 1) := by decide +kernel
theorem dL_law_953 : decode cL_law 953 = .ok (.iaload, 1) := by decide +kernel
theorem dL_law_954 : decode cL_law 954 = .ok (.aload_n 0, 1) := by decide +kernel
theorem dL_law_955 : decode cL_law 955 = .ok (.iload_n 3, 1) := by decide +kernel
theorem dL_law_956 : decode cL_law 956 = .ok (.iconst 3, 1) := by decide +kernel
theorem dL_law_957 : decode cL_law 957 = .ok (.iadd, 1) := by decide +kernel
theorem dL_law_958 : decode cL_law 958 = .ok (.iaload, 1) := by decide +kernel
theorem dL_law_959 : decode cL_law 959 = .ok (.aload_n 0, 1) := by decide +kernel
theorem dL_law_960 : decode cL_law 960 = .ok (.iload_n 3, 1) := by decide +kernel
theorem dL_law_961 : decode cL_law 961 = .ok (.iconst 4, 1) := by decide +kernel
theorem dL_law_962 : decode cL_law 962 = .ok (.iadd, 1) := by decide +kernel
theorem dL_law_963 : decode cL_law 963 = .ok (.iaload, 1) := by decide +kernel
theorem dL_law_964 : decode cL_law 964 = .ok (.aload_n 0, 1) := by decide +kernel
theorem dL_law_965 : decode cL_law 965 = .ok (.iload_n 3, 1) := by decide +kernel
theorem dL_law_966 : decode cL_law 966 = .ok (.iconst 5, 1) := by decide +kernel
theorem dL_law_967 : decode cL_law 967 = .ok (.iadd, 1) := by decide +kernel
theorem dL_law_968 : decode cL_law 968 = .ok (.iaload, 1) := by decide +kernel
theorem dL_law_969 : decode cL_law 969 = .ok (.invokevirtual 93, 3) := by decide +kernel
theorem dL_law_972 : decode cL_law 972 = .ok (.if_icmp .eq 273, 3) := by decide +kernel
theorem dL_law_975 : decode cL_law 975 = .ok (.iconst 0, 1) := by decide +kernel
theorem dL_law_976 : decode cL_law 976 = .ok (.ireturn, 1) := by decide +kernel
theorem dL_law_977 : decode cL_law 977 = .ok (.aload_n 1, 1) := by decide +kernel
theorem dL_law_978 : decode cL_law 978 = .ok (.aload_n 0, 1) := by decide +kernel
theorem dL_law_979 : decode cL_law 979 = .ok (.iload_n 3, 1) := by decide +kernel
theorem dL_law_980 : decode cL_law 980 = .ok (.iconst 1, 1) := by decide +kernel
theorem dL_law_981 : decode cL_law 981 = .ok (.iadd, 1) := by decide +kernel
theorem dL_law_982 : decode cL_law 982 = .ok (.iaload, 1) := by decide +kernel
theorem dL_law_983 : decode cL_law 983 = .ok (.invokevirtual 94, 3) := by decide +kernel
theorem dL_law_986 : decode cL_law 986 = .ok (.aload_n 2, 1) := by decide +kernel
theorem dL_law_987 : decode cL_law 987 = .ok (.aload_n 0, 1) := by decide +kernel
theorem dL_law_988 : decode cL_law 988 = .ok (.iload_n 3, 1) := by decide +kernel
theorem dL_law_989 : decode cL_law 989 = .ok (.iconst 1, 1) := by decide +kernel
theorem dL_law_990 : decode cL_law 990 = .ok (.iadd, 1) := by decide +kernel
theorem dL_law_991 : decode cL_law 991 = .ok (.iaload, 1) := by decide +kernel
theorem dL_law_992 : decode cL_law 992 = .ok (.invokevirtual 97, 3) := by decide +kernel
theorem dL_law_995 : decode cL_law 995 = .ok (.if_icmp .eq 250, 3) := by decide +kernel
theorem dL_law_998 : decode cL_law 998 = .ok (.iconst 0, 1) := by decide +kernel
theorem dL_law_999 : decode cL_law 999 = .ok (.ireturn, 1) := by decide +kernel
theorem dL_law_1000 : decode cL_law 1000 = .ok (.aload_n 1, 1) := by decide +kernel
theorem dL_law_1001 : decode cL_law 1001 = .ok (.aload_n 0, 1) := by decide +kernel
theorem dL_law_1002 : decode cL_law 1002 = .ok (.iload_n 3, 1) := by decide +kernel
theorem dL_law_1003 : decode cL_law 1003 = .ok (.iconst 1, 1) := by decide +kernel
theorem dL_law_1004 : decode cL_law 1004 = .ok (.iadd, 1) := by decide +kernel
theorem dL_law_1005 : decode cL_law 1005 = .ok (.iaload, 1) := by decide +kernel
theorem dL_law_1006 : decode cL_law 1006 = .ok (.aload_n 0, 1) := by decide +kernel
theorem dL_law_1007 : decode cL_law 1007 = .ok (.iload_n 3, 1) := by decide +kernel
theorem dL_law_1008 : decode cL_law 1008 = .ok (.iconst 2, 1) := by decide +kernel
theorem dL_law_1009 : decode cL_law 1009 = .ok (.iadd, 1) := by decide +kernel
theorem dL_law_1010 : decode cL_law 1010 = .ok (.iaload, 1) := by decide +kernel
theorem dL_law_1011 : decode cL_law 1011 = .ok (.invokevirtual 98, 3) := by decide +kernel
theorem dL_law_1014 : decode cL_law 1014 = .ok (.aload_n 2, 1) := by decide +kernel
theorem dL_law_1015 : decode cL_law 1015 = .ok (.aload_n 0, 1) := by decide +kernel
theorem dL_law_1016 : decode cL_law 1016 = .ok (.iload_n 3, 1) := by decide +kernel
theorem dL_law_1017 : decode cL_law 1017 = .ok (.iconst 1, 1) := by decide +kernel
theorem dL_law_1018 : decode cL_law 1018 = .ok (.iadd, 1) := by decide +kernel
theorem dL_law_1019 : decode cL_law 1019 = .ok (.iaload, 1) := by decide +kernel
theorem dL_law_1020 : decode cL_law 1020 = .ok (.aload_n 0, 1) := by decide +kernel
theorem dL_law_1021 : decode cL_law 1021 = .ok (.iload_n 3, 1) := by decide +kernel
theorem dL_law_1022 : decode cL_law 1022 = .ok (.iconst 2, 1) := by decide +kernel
theorem dL_law_1023 : decode cL_law 1023 = .ok (.iadd, 1) := by decide +kernel
theorem dL_law_1024 : decode cL_law 1024 = .ok (.iaload, 1) := by decide +kernel
theorem dL_law_1025 : decode cL_law 1025 = .ok (.invokevirtual 101, 3) := by decide +kernel
theorem dL_law_1028 : decode cL_law 1028 = .ok (.if_icmp .eq 217, 3) := by decide +kernel
theorem dL_law_1031 : decode cL_law 1031 = .ok (.iconst 0, 1) := by decide +kernel
theorem dL_law_1032 : decode cL_law 1032 = .ok (.ireturn, 1) := by decide +kernel
theorem dL_law_1033 : decode cL_law 1033 = .ok (.aload_n 1, 1) := by decide +kernel
theorem dL_law_1034 : decode cL_law 1034 = .ok (.aload_n 0, 1) := by decide +kernel
theorem dL_law_1035 : decode cL_law 1035 = .ok (.iload_n 3, 1) := by decide +kernel
theorem dL_law_1036 : decode cL_law 1036 = .ok (.iconst 1, 1) := by decide +kernel
theorem dL_law_1037 : decode cL_law 1037 = .ok (.iadd, 1) := by decide +kernel
theorem dL_law_1038 : decode cL_law 1038 = .ok (.iaload, 1) := by decide +kernel
theorem dL_law_1039 : decode cL_law 1039 = .ok (.aload_n 0, 1) := by decide +kernel
theorem dL_law_1040 : decode cL_law 1040 = .ok (.iload_n 3, 1) := by decide +kernel
theorem dL_law_1041 : decode cL_law 1041 = .ok (.iconst 2, 1) := by decide +kernel
theorem dL_law_1042 : decode cL_law 1042 = .ok (.iadd, 1) := by decide +kernel
theorem dL_law_1043 : decode cL_law 1043 = .ok (.iaload, 1) := by decide +kernel
theorem dL_law_1044 : decode cL_law 1044 = .ok (.invokevirtual 102, 3) := by decide +kernel
theorem dL_law_1047 : decode cL_law 1047 = .ok (.aload_n 2, 1) := by decide +kernel
theorem dL_law_1048 : decode cL_law 1048 = .ok (.aload_n 0, 1) := by decide +kernel
theorem dL_law_1049 : decode cL_law 1049 = .ok (.iload_n 3, 1) := by decide +kernel
theorem dL_law_1050 : decode cL_law 1050 = .ok (.iconst 1, 1) := by decide +kernel
theorem dL_law_1051 : decode cL_law 1051 = .ok (.iadd, 1) := by decide +kernel
theorem dL_law_1052 : decode cL_law 1052 = .ok (.iaload, 1) := by decide +kernel
theorem dL_law_1053 : decode cL_law 1053 = .ok (.aload_n 0, 1) := by decide +kernel
theorem dL_law_1054 : decode cL_law 1054 = .ok (.iload_n 3, 1) := by decide +kernel
theorem dL_law_1055 : decode cL_law 1055 = .ok (.iconst 2, 1) := by decide +kernel
theorem dL_law_1056 : decode cL_law 1056 = .ok (.iadd, 1) := by decide +kernel
theorem dL_law_1057 : decode cL_law 1057 = .ok (.iaload, 1) := by decide +kernel
theorem dL_law_1058 : decode cL_law 1058 = .ok (.invokevirtual 105, 3) := by decide +kernel
theorem dL_law_1061 : decode cL_law 1061 = .ok (.if_icmp .eq 184, 3) := by decide +kernel
theorem dL_law_1064 : decode cL_law 1064 = .ok (.iconst 0, 1) := by decide +kernel
theorem dL_law_1065 : decode cL_law 1065 = .ok (.ireturn, 1) := by decide +kernel
theorem dL_law_1066 : decode cL_law 1066 = .ok (.aload_n 1, 1) := by decide +kernel
theorem dL_law_1067 : decode cL_law 1067 = .ok (.aload_n 0, 1) := by decide +kernel
theorem dL_law_1068 : decode cL_law 1068 = .ok (.iload_n 3, 1) := by decide +kernel
theorem dL_law_1069 : decode cL_law 1069 = .ok (.iconst 1, 1) := by decide +kernel
theorem dL_law_1070 : decode cL_law 1070 = .ok (.iadd, 1) := by decide +kernel
theorem dL_law_1071 : decode cL_law 1071 = .ok (.iaload, 1) := by decide +kernel
theorem dL_law_1072 : decode cL_law 1072 = .ok (.aload_n 0, 1) := by decide +kernel
theorem dL_law_1073 : decode cL_law 1073 = .ok (.iload_n 3, 1) := by decide +kernel
theorem dL_law_1074 : decode cL_law 1074 = .ok (.iconst 2, 1) := by decide +kernel
theorem dL_law_1075 : decode cL_law 1075 = .ok (.iadd, 1) := by decide +kernel
theorem dL_law_1076 : decode cL_law 1076 = .ok (.iaload, 1) := by decide +kernel
theorem dL_law_1077 : decode cL_law 1077 = .ok (.invokevirtual 106, 3) := by decide +kernel
theorem dL_law_1080 : decode cL_law 1080 = .ok (.aload_n 2, 1) := by decide +kernel
theorem dL_law_1081 : decode cL_law 1081 = .ok (.aload_n 0, 1) := by decide +kernel
theorem dL_law_1082 : decode cL_law 1082 = .ok (.iload_n 3, 1) := by decide +kernel
theorem dL_law_1083 : decode cL_law 1083 = .ok (.iconst 1, 1) := by decide +kernel
theorem dL_law_1084 : decode cL_law 1084 = .ok (.iadd, 1) := by decide +kernel
theorem dL_law_1085 : decode cL_law 1085 = .ok (.iaload, 1) := by decide +kernel
theorem dL_law_1086 : decode cL_law 1086 = .ok (.aload_n 0, 1) := by decide +kernel
theorem dL_law_1087 : decode cL_law 1087 = .ok (.iload_n 3, 1) := by decide +kernel
theorem dL_law_1088 : decode cL_law 1088 = .ok (.iconst 2, 1) := by decide +kernel
theorem dL_law_1089 : decode cL_law 1089 = .ok (.iadd, 1) := by decide +kernel
theorem dL_law_1090 : decode cL_law 1090 = .ok (.iaload, 1) := by decide +kernel
theorem dL_law_1091 : decode cL_law 1091 = .ok (.invokevirtual 109, 3) := by decide +kernel
theorem dL_law_1094 : decode cL_law 1094 = .ok (.if_icmp .eq 151, 3) := by decide +kernel
theorem dL_law_1097 : decode cL_law 1097 = .ok (.iconst 0, 1) := by decide +kernel
theorem dL_law_1098 : decode cL_law 1098 = .ok (.ireturn, 1) := by decide +kernel
theorem dL_law_1099 : decode cL_law 1099 = .ok (.aload_n 1, 1) := by decide +kernel
theorem dL_law_1100 : decode cL_law 1100 = .ok (.aload_n 0, 1) := by decide +kernel
theorem dL_law_1101 : decode cL_law 1101 = .ok (.iload_n 3, 1) := by decide +kernel
theorem dL_law_1102 : decode cL_law 1102 = .ok (.iconst 1, 1) := by decide +kernel
theorem dL_law_1103 : decode cL_law 1103 = .ok (.iadd, 1) := by decide +kernel
theorem dL_law_1104 : decode cL_law 1104 = .ok (.iaload, 1) := by decide +kernel
theorem dL_law_1105 : decode cL_law 1105 = .ok (.invokevirtual 110, 3) := by decide +kernel
theorem dL_law_1108 : decode cL_law 1108 = .ok (.aload_n 2, 1) := by decide +kernel
theorem dL_law_1109 : decode cL_law 1109 = .ok (.aload_n 0, 1) := by decide +kernel
theorem dL_law_1110 : decode cL_law 1110 = .ok (.iload_n 3, 1) := by decide +kernel
theorem dL_law_1111 : decode cL_law 1111 = .ok (.iconst 1, 1) := by decide +kernel
theorem dL_law_1112 : decode cL_law 1112 = .ok (.iadd, 1) := by decide +kernel
theorem dL_law_1113 : decode cL_law 1113 = .ok (.iaload, 1) := by decide +kernel
theorem dL_law_1114 : decode cL_law 1114 = .ok (.invokevirtual 113, 3) := by decide +kernel
theorem dL_law_1117 : decode cL_law 1117 = .ok (.if_icmp .eq 128, 3) := by decide +kernel
theorem dL_law_1120 : decode cL_law 1120 = .ok (.iconst 0, 1) := by decide +kernel
theorem dL_law_1121 : decode cL_law 1121 = .ok (.ireturn, 1) := by decide +kernel
theorem dL_law_1122 : decode cL_law 1122 = .ok (.aload_n 1, 1) := by decide +kernel
theorem dL_law_1123 : decode cL_law 1123 = .ok (.aload_n 0, 1) := by decide +kernel
theorem dL_law_1124 : decode cL_law 1124 = .ok (.iload_n 3, 1) := by decide +kernel
theorem dL_law_1125 : decode cL_law 1125 = .ok (.iconst 1, 1) := by decide +kernel
theorem dL_law_1126 : decode cL_law 1126 = .ok (.iadd, 1) := by decide +kernel
theorem dL_law_1127 : decode cL_law 1127 = .ok (.iaload, 1) := by decide +kernel
theorem dL_law_1128 : decode cL_law 1128 = .ok (.aload_n 0, 1) := by decide +kernel
theorem dL_law_1129 : decode cL_law 1129 = .ok (.iload_n 3, 1) := by decide +kernel
theorem dL_law_1130 : decode cL_law 1130 = .ok (.iconst 2, 1) := by decide +kernel
theorem dL_law_1131 : decode cL_law 1131 = .ok (.iadd, 1) := by decide +kernel
theorem dL_law_1132 : decode cL_law 1132 = .ok (.iaload, 1) := by decide +kernel
theorem dL_law_1133 : decode cL_law 1133 = .ok (.aload_n 0, 1) := by decide +kernel
theorem dL_law_1134 : decode cL_law 1134 = .ok (.iload_n 3, 1) := by decide +kernel
theorem dL_law_1135 : decode cL_law 1135 = .ok (.iconst 3, 1) := by decide +kernel
theorem dL_law_1136 : decode cL_law 1136 = .ok (.iadd, 1) := by decide +kernel
theorem dL_law_1137 : decode cL_law 1137 = .ok (.iaload, 1) := by decide +kernel
theorem dL_law_1138 : decode cL_law 1138 = .ok (.invokevirtual 114, 3) := by decide +kernel
theorem dL_law_1141 : decode cL_law 1141 = .ok (.aload_n 2, 1) := by decide +kernel
theorem dL_law_1142 : decode cL_law 1142 = .ok (.aload_n 0, 1) := by decide +kernel
theorem dL_law_1143 : decode cL_law 1143 = .ok (.iload_n 3, 1) := by decide +kernel
theorem dL_law_1144 : decode cL_law 1144 = .ok (.iconst 1, 1) := by decide +kernel
theorem dL_law_1145 : decode cL_law 1145 = .ok (.iadd, 1) := by decide +kernel
theorem dL_law_1146 : decode cL_law 1146 = .ok (.iaload, 1) := by decide +kernel
theorem dL_law_1147 : decode cL_law 1147 = .ok (.aload_n 0, 1) := by decide +kernel
theorem dL_law_1148 : decode cL_law 1148 = .ok (.iload_n 3, 1) := by decide +kernel
theorem dL_law_1149 : decode cL_law 1149 = .ok (.iconst 2, 1) := by decide +kernel
theorem dL_law_1150 : decode cL_law 1150 = .ok (.iadd, 1) := by decide +kernel
theorem dL_law_1151 : decode cL_law 1151 = .ok (.iaload, 1) := by decide +kernel
theorem dL_law_1152 : decode cL_law 1152 = .ok (.aload_n 0, 1) := by decide +kernel
theorem dL_law_1153 : decode cL_law 1153 = .ok (.iload_n 3, 1) := by decide +kernel
theorem dL_law_1154 : decode cL_law 1154 = .ok (.iconst 3, 1) := by decide +kernel
theorem dL_law_1155 : decode cL_law 1155 = .ok (.iadd, 1) := by decide +kernel
theorem dL_law_1156 : decode cL_law 1156 = .ok (.iaload, 1) := by decide +kernel
theorem dL_law_1157 : decode cL_law 1157 = .ok (.invokevirtual 118, 3) := by decide +kernel
theorem dL_law_1160 : decode cL_law 1160 = .ok (.lcmp, 1) := by decide +kernel
theorem dL_law_1161 : decode cL_law 1161 = .ok (.ifCond .eq 84, 3) := by decide +kernel
theorem dL_law_1164 : decode cL_law 1164 = .ok (.iconst 0, 1) := by decide +kernel
theorem dL_law_1165 : decode cL_law 1165 = .ok (.ireturn, 1) := by decide +kernel
theorem dL_law_1166 : decode cL_law 1166 = .ok (.aload_n 1, 1) := by decide +kernel
theorem dL_law_1167 : decode cL_law 1167 = .ok (.aload_n 0, 1) := by decide +kernel
theorem dL_law_1168 : decode cL_law 1168 = .ok (.iload_n 3, 1) := by decide +kernel
theorem dL_law_1169 : decode cL_law 1169 = .ok (.iconst 1, 1) := by decide +kernel
theorem dL_law_1170 : decode cL_law 1170 = .ok (.iadd, 1) := by decide +kernel
theorem dL_law_1171 : decode cL_law 1171 = .ok (.iaload, 1) := by decide +kernel
theorem dL_law_1172 : decode cL_law 1172 = .ok (.aload_n 0, 1) := by decide +kernel
theorem dL_law_1173 : decode cL_law 1173 = .ok (.iload_n 3, 1) := by decide +kernel
theorem dL_law_1174 : decode cL_law 1174 = .ok (.iconst 2, 1) := by decide +kernel
theorem dL_law_1175 : decode cL_law 1175 = .ok (.iadd, 1) := by decide +kernel
theorem dL_law_1176 : decode cL_law 1176 = .ok (.iaload, 1) := by decide +kernel
theorem dL_law_1177 : decode cL_law 1177 = .ok (.aload_n 0, 1) := by decide +kernel
theorem dL_law_1178 : decode cL_law 1178 = .ok (.iload_n 3, 1) := by decide +kernel
theorem dL_law_1179 : decode cL_law 1179 = .ok (.iconst 3, 1) := by decide +kernel
theorem dL_law_1180 : decode cL_law 1180 = .ok (.iadd, 1) := by decide +kernel
theorem dL_law_1181 : decode cL_law 1181 = .ok (.iaload, 1) := by decide +kernel
theorem dL_law_1182 : decode cL_law 1182 = .ok (.invokevirtual 119, 3) := by decide +kernel
theorem dL_law_1185 : decode cL_law 1185 = .ok (.aload_n 2, 1) := by decide +kernel
theorem dL_law_1186 : decode cL_law 1186 = .ok (.aload_n 0, 1) := by decide +kernel
theorem dL_law_1187 : decode cL_law 1187 = .ok (.iload_n 3, 1) := by decide +kernel
theorem dL_law_1188 : decode cL_law 1188 = .ok (.iconst 1, 1) := by decide +kernel
theorem dL_law_1189 : decode cL_law 1189 = .ok (.iadd, 1) := by decide +kernel
theorem dL_law_1190 : decode cL_law 1190 = .ok (.iaload, 1) := by decide +kernel
theorem dL_law_1191 : decode cL_law 1191 = .ok (.aload_n 0, 1) := by decide +kernel
theorem dL_law_1192 : decode cL_law 1192 = .ok (.iload_n 3, 1) := by decide +kernel
theorem dL_law_1193 : decode cL_law 1193 = .ok (.iconst 2, 1) := by decide +kernel
theorem dL_law_1194 : decode cL_law 1194 = .ok (.iadd, 1) := by decide +kernel
theorem dL_law_1195 : decode cL_law 1195 = .ok (.iaload, 1) := by decide +kernel
theorem dL_law_1196 : decode cL_law 1196 = .ok (.aload_n 0, 1) := by decide +kernel
theorem dL_law_1197 : decode cL_law 1197 = .ok (.iload_n 3, 1) := by decide +kernel
theorem dL_law_1198 : decode cL_law 1198 = .ok (.iconst 3, 1) := by decide +kernel
theorem dL_law_1199 : decode cL_law 1199 = .ok (.iadd, 1) := by decide +kernel
theorem dL_law_1200 : decode cL_law 1200 = .ok (.iaload, 1) := by decide +kernel
theorem dL_law_1201 : decode cL_law 1201 = .ok (.invokevirtual 122, 3) := by decide +kernel
theorem dL_law_1204 : decode cL_law 1204 = .ok (.if_icmp .eq 41, 3) := by decide +kernel
theorem dL_law_1207 : decode cL_law 1207 = .ok (.iconst 0, 1) := by decide +kernel
theorem dL_law_1208 : decode cL_law 1208 = .ok (.ireturn, 1) := by decide +kernel
theorem dL_law_1209 : decode cL_law 1209 = .ok (.aload_n 1, 1) := by decide +kernel
theorem dL_law_1210 : decode cL_law 1210 = .ok (.aload_n 0, 1) := by decide +kernel
theorem dL_law_1211 : decode cL_law 1211 = .ok (.iload_n 3, 1) := by decide +kernel
theorem dL_law_1212 : decode cL_law 1212 = .ok (.iconst 1, 1) := by decide +kernel
theorem dL_law_1213 : decode cL_law 1213 = .ok (.iadd, 1) := by decide +kernel
theorem dL_law_1214 : decode cL_law 1214 = .ok (.iaload, 1) := by decide +kernel
theorem dL_law_1215 : decode cL_law 1215 = .ok (.invokevirtual 123, 3) := by decide +kernel
theorem dL_law_1218 : decode cL_law 1218 = .ok (.aload_n 2, 1) := by decide +kernel
theorem dL_law_1219 : decode cL_law 1219 = .ok (.aload_n 0, 1) := by decide +kernel
theorem dL_law_1220 : decode cL_law 1220 = .ok (.iload_n 3, 1) := by decide +kernel
theorem dL_law_1221 : decode cL_law 1221 = .ok (.iconst 1, 1) := by decide +kernel
theorem dL_law_1222 : decode cL_law 1222 = .ok (.iadd, 1) := by decide +kernel
theorem dL_law_1223 : decode cL_law 1223 = .ok (.iaload, 1) := by decide +kernel
theorem dL_law_1224 : decode cL_law 1224 = .ok (.invokevirtual 126, 3) := by decide +kernel
theorem dL_law_1227 : decode cL_law 1227 = .ok (.if_icmp .eq 18, 3) := by decide +kernel
theorem dL_law_1230 : decode cL_law 1230 = .ok (.iconst 0, 1) := by decide +kernel
theorem dL_law_1231 : decode cL_law 1231 = .ok (.ireturn, 1) := by decide +kernel
theorem dL_law_1232 : decode cL_law 1232 = .ok (.aload_n 1, 1) := by decide +kernel
theorem dL_law_1233 : decode cL_law 1233 = .ok (.invokevirtual 127, 3) := by decide +kernel
theorem dL_law_1236 : decode cL_law 1236 = .ok (.aload_n 2, 1) := by decide +kernel
theorem dL_law_1237 : decode cL_law 1237 = .ok (.invokevirtual 131, 3) := by decide +kernel
theorem dL_law_1240 : decode cL_law 1240 = .ok (.if_icmp .eq 5, 3) := by decide +kernel
theorem dL_law_1243 : decode cL_law 1243 = .ok (.iconst 0, 1) := by decide +kernel
theorem dL_law_1244 : decode cL_law 1244 = .ok (.ireturn, 1) := by decide +kernel
theorem dL_law_1245 : decode cL_law 1245 = .ok (.iinc 3 6, 3) := by decide +kernel
theorem dL_law_1248 : decode cL_law 1248 = .ok (.goto (-1230), 3) := by decide +kernel
theorem dL_law_1251 : decode cL_law 1251 = .ok (.iconst 1, 1) := by decide +kernel
theorem dL_law_1252 : decode cL_law 1252 = .ok (.ireturn, 1) := by decide +kernel
end
section
/-! MINI: the machine's heap and frames under small names. A cell: an array (kind: 0 int, 1 long, 2 boolean, 3 rows, 4 covers, 9 the script; length; contents) or an object (its class in vwCl, its fields). Addresses: 0 the script, k + 1 the k-th cell that was made since the law began. -/
abbrev mC : Type := (Nat × vp_A) ⊕ (Nat × List Value)
abbrev mH : Type := (Nat → mC) × Nat
/-- the machine's side of it: the first address, the script's, class ids and field slots, array classes -/
abbrev mG : Type := Nat × Nat × va_G × (Nat → ClassId)
def m_dead : mC := .inr (99, [])
def m_ad (g : mG) (k : Nat) : Nat := match k with
  | 0 => g.2.1
  | k + 1 => g.1 + k
def m_v (g : mG) (v : Value) : Value := match v with
  | .ref k => .ref (m_ad g k)
  | v => v
def m_arr (g : mG) (a : vp_A) : vp_A := match a with
  | (n, .inr (.inr (.inr (.inr f)))) => (n, .inr (.inr (.inr (.inr fun j => (f j).map (m_ad g)))))
  | a => a
def m_cell (g : mG) (c : mC) : va_E := match c with
  | .inl (t, a) => .inl (g.2.2.2 t, m_arr g a)
  | .inr (ci, fs) => .inr (ci, fs.map (m_v g))
def m_ws (g : mG) (h : mH) : va_W := (List.range (h.2 - 1)).map fun k => (g.1 + k, m_cell g (h.1 (k + 1)))
def m_tys (g : mG) : List (ClassId × FieldType) := [(g.2.2.2 0, .int), (g.2.2.2 1, .long), (g.2.2.2 2, .boolean), (g.2.2.2 3, .object "SphereSheets$Row"), (g.2.2.2 4, .object "SphereSheets$Cover")]
def m_up (f : Nat → mC) (a : Nat) (c : mC) : Nat → mC := fun k => if k = a then c else f k
theorem m_up_s (f : Nat → mC) (a : Nat) (c : mC) : m_up f a c a = c := by simp [m_up]
theorem m_up_n (f : Nat → mC) {a k : Nat} (c : mC) (h : k ≠ a) : m_up f a c k = f k := by simp [m_up, h]
theorem m_v_cat (g : mG) (v : Value) : (m_v g v).category = v.category := by cases v <;> rfl
theorem m_cats (g : mG) (st : List Value) : ((st.map (m_v g)).map fun v => v.category).sum = (st.map fun v => v.category).sum := by
  rw [List.map_map]
  congr 1
  exact List.map_congr_left fun v _ => m_v_cat g v
theorem m_ws_at (g : mG) (h : mH) {k : Nat} (hk : k + 1 < h.2) : (m_ws g h)[k]? = some (g.1 + k, m_cell g (h.1 (k + 1))) := by
  have h1 : k < h.2 - 1 := by omega
  simp [m_ws, List.getElem?_range h1]
theorem m_ws_in {g : mG} {h : mH} {k : Nat} {q : Nat × va_E} (hq : (m_ws g h)[k]? = some q) : k + 1 < h.2 ∧ q = (g.1 + k, m_cell g (h.1 (k + 1))) := by
  have hl : k < (m_ws g h).length := (List.getElem?_eq_some_iff.mp hq).1
  have hk : k + 1 < h.2 := by
    simp [m_ws] at hl
    omega
  rw [m_ws_at g h hk] at hq
  exact ⟨hk, (Option.some.inj hq).symm⟩
theorem m_ws_len (g : mG) (h : mH) : (m_ws g h).length = h.2 - 1 := by simp [m_ws]
theorem m_ws_set (g : mG) (h : mH) {k : Nat} (c : mC) (hk : k + 1 < h.2) : m_ws g (m_up h.1 (k + 1) c, h.2) = (m_ws g h).set k (g.1 + k, m_cell g c) := by
  apply List.ext_getElem?
  intro j
  by_cases hj : j + 1 < h.2
  · rw [m_ws_at g (m_up h.1 (k + 1) c, h.2) hj, List.getElem?_set]
    by_cases e : k = j
    · subst e
      have : k < (m_ws g h).length := by rw [m_ws_len]; omega
      simp [this, m_up_s]
    · have e2 : j + 1 ≠ k + 1 := by omega
      simp only [e, if_false]
      rw [m_ws_at g h hj, m_up_n _ _ e2]
  · rw [List.getElem?_eq_none (by rw [m_ws_len]; show h.2 - 1 ≤ j; omega), List.getElem?_eq_none (by rw [List.length_set, m_ws_len]; omega)]
theorem m_ws_push (g : mG) (h : mH) (c : mC) (h1 : 1 ≤ h.2) : m_ws g (m_up h.1 h.2 c, h.2 + 1) = m_ws g h ++ [(g.1 + (h.2 - 1), m_cell g c)] := by
  apply List.ext_getElem?
  intro j
  by_cases hj : j + 1 < h.2
  · rw [m_ws_at g (m_up h.1 h.2 c, h.2 + 1) (show j + 1 < h.2 + 1 by omega), List.getElem?_append_left (by rw [m_ws_len]; omega), m_ws_at g h hj]
    show some (g.1 + j, m_cell g (m_up h.1 h.2 c (j + 1))) = _
    rw [m_up_n _ _ (show j + 1 ≠ h.2 by omega)]
  · by_cases e : j + 1 = h.2
    · rw [m_ws_at g (m_up h.1 h.2 c, h.2 + 1) (show j + 1 < h.2 + 1 by omega), List.getElem?_append_right (by rw [m_ws_len]; omega), m_ws_len]
      have e1 : j - (h.2 - 1) = 0 := by omega
      have e2 : h.2 - 1 = j := by omega
      show some (g.1 + j, m_cell g (m_up h.1 h.2 c (j + 1))) = _
      rw [e1, e2, e, m_up_s]
      rfl
    · rw [List.getElem?_eq_none (by rw [m_ws_len]; show h.2 + 1 - 1 ≤ j; omega), List.getElem?_eq_none (by rw [List.length_append, m_ws_len]; show h.2 - 1 + 1 ≤ j; omega)]
theorem m_D (g : mG) (h : mH) : va_D (fun q => g.1 ≤ q) (m_ws g h) := by
  refine ⟨fun i j p q hp hq e => ?_, fun k q hq => ?_⟩
  · obtain ⟨-, rfl⟩ := m_ws_in hp
    obtain ⟨-, rfl⟩ := m_ws_in hq
    have e : g.1 + i = g.1 + j := e
    omega
  · obtain ⟨-, rfl⟩ := m_ws_in hq
    exact Nat.le_add_right _ _
-- the words that hold everywhere
def m_pm : List MethodName := [⟨"SphereSheets$Cover", "narrowed", "(IJ)[J"⟩]
/-- a private method is the one that is selected, whatever class below it the object is of -/
def mX : List Cond := (["SphereSheets$Bristled", "SphereSheets$One", "SphereSheets$Simple", "SphereSheets$Three"] : List String).flatMap fun C => m_pm.map fun y => Cond.selects C y y
theorem m_selects_private {C : String} {y : MethodName} {s : State} {args : Array Value} {n n' : Nat} (hy : y.cls ≠ "java/lang/invoke/MethodHandle" ∧ y.cls ≠ "java/lang/invoke/VarHandle")
    (hC : (Cond.instantiable C n').before args s = true) (hins : (Cond.instantiable y.cls n).before args s = true) (hpriv : (Cond.privateMethod y).before args s = true) (hinst : (Cond.instanceMethod y).before args s = true) :
    (Cond.selects C y y).before args s = true := by
  obtain ⟨c0, k0, hc0, -⟩ := Cond.instantiable_spec hC
  obtain ⟨c, k, hc, hk, -, hniab, -, -⟩ := Cond.instantiable_spec hins
  have hni : k.isInterface = false := (Bool.or_eq_false_iff.mp hniab).1
  obtain ⟨mk, methM, hnamed, hmethM, -, -⟩ := Cond.instanceMethod_spec hinst
  have hfound : s.methodFound? y.cls y.name y.desc = some mk := State.methodFound?_of_named hnamed hy
  have hcls : mk.cls = c := Option.some.inj ((findClass_of_methodNamed hnamed).symm.trans hc)
  have hsel : selectMethod {} s.vm c0 mk = .method mk := selectMethod_private hmethM (Cond.privateMethod_at hpriv mk methM hnamed hmethM)
  simp only [Cond.before, Cond.holds, Cond.value, hc0, hfound, hnamed, hsel, hcls, hk]
  simp; exact hni
def mTbl : List Cond := lw_tbl ++ mX
def mGood : List Cond := mTbl.filter goodWord
theorem m_hts {args : Array Value} {s : State} (hts : ∀ w ∈ lw_tbl, w.before args s = true) : ∀ w ∈ mGood, w.before args s = true := by
  intro w hw
  rcases List.mem_append.mp (List.mem_filter.mp hw).1 with h | h
  · exact hts w h
  · unfold mX at h
    obtain ⟨C, hC, h⟩ := List.mem_flatMap.mp h
    obtain ⟨y, hy, rfl⟩ := List.mem_map.mp h
    have k1 : ∀ C ∈ (["SphereSheets$Bristled", "SphereSheets$One", "SphereSheets$Simple", "SphereSheets$Three"] : List String), Cond.instantiable C 3 ∈ lw_tbl := by decide +kernel
    have k2 : ∀ y ∈ m_pm, (y.cls ≠ "java/lang/invoke/MethodHandle" ∧ y.cls ≠ "java/lang/invoke/VarHandle") ∧ Cond.instantiable y.cls 3 ∈ lw_tbl ∧ Cond.privateMethod y ∈ lw_tbl ∧ Cond.instanceMethod y ∈ lw_tbl := by decide +kernel
    obtain ⟨q1, q2, q3, q4⟩ := k2 y hy
    exact m_selects_private q1 (hts _ (k1 C hC)) (hts _ q2) (hts _ q3) (hts _ q4)
theorem m_mem (i : Nat) {w : Cond} (h : mTbl[i]? = some w) (hg : goodWord w = true) : w ∈ mGood := List.mem_filter.mpr ⟨List.mem_of_getElem? h, hg⟩
theorem mGood_good {w : Cond} (h : w ∈ mGood) : (w.onTables && w.keeps) = true ∨ ∃ ty, w = .arrayClass ty := good_of_word (List.mem_filter.mp h).2
-- what the classes are, at a state
def m_nc : List (String × String) := [("SphereSheets$Cover", "SphereSheets$Three"), ("SphereSheets$Cover", "SphereSheets$Simple"), ("SphereSheets$Cover", "SphereSheets$One"), ("SphereSheets$Cover", "SphereSheets$Bristled"), ("SphereSheets$Simple", "SphereSheets$Three"), ("SphereSheets$Simple", "SphereSheets$One"), ("SphereSheets$Simple", "SphereSheets$Bristled"), ("SphereSheets$Three", "SphereSheets$Simple"), ("SphereSheets$Three", "SphereSheets$One"), ("SphereSheets$Three", "SphereSheets$Bristled"), ("SphereSheets$Bristled", "SphereSheets$Simple"), ("SphereSheets$Bristled", "SphereSheets$One"), ("SphereSheets$One", "SphereSheets$Simple")]
def m_yc : List (String × String) := [("SphereSheets$Bristled", "SphereSheets$Three"), ("SphereSheets$One", "SphereSheets$Three"), ("SphereSheets$One", "SphereSheets$Bristled"), ("SphereSheets$Simple", "SphereSheets$Cover"), ("SphereSheets$Three", "SphereSheets$Cover"), ("SphereSheets$Bristled", "SphereSheets$Cover"), ("SphereSheets$One", "SphereSheets$Cover"), ("[J", "java/lang/Cloneable")]
def m_K (g : mG) (s : State) : Prop := va_K g.2.2.1 vwCl (m_tys g) s ∧ (∀ q ∈ m_nc, va_Nc q.1 q.2 s) ∧ (∀ q ∈ m_yc, va_Nw (.castable q.1 q.2) s) ∧ ∀ C ∈ (["SphereSheets$Row", "SphereSheets$Cover"] : List String), va_AO C s
theorem m_K_warm {g : mG} {s U : State} (hW : s.WarmedH U.vm) (h : m_K g s) : m_K g U := ⟨va_K.moved hW.alike h.1, fun q hq => (h.2.1 q hq).moved hW.alike, fun q hq => va_Nw.warmC hW (h.2.2.1 q hq), fun C hC => (h.2.2.2 C hC).moved hW.alike⟩
theorem m_K_call {g : mG} {U : State} {gf : JFrame} {mk : MethodId} {a : Array Value} (h : m_K g U) : m_K g (U.calling gf mk a) := ⟨va_K.moved (u := U) (U := U.calling gf mk a) (Vm.Alike.refl U.vm) h.1, fun q hq => (h.2.1 q hq).moved (u := U) (U := U.calling gf mk a) (Vm.Alike.refl U.vm), fun q hq => va_Nw.same (u := U) (U := U.calling gf mk a) rfl rfl (h.2.2.1 q hq), fun C hC => va_AO.moved (u := U) (U := U.calling gf mk a) (Vm.Alike.refl U.vm) (h.2.2.2 C hC)⟩
/-- the heap H holds the picture h -/
def m_R0 (g : mG) (H : Heap) (h : mH) : Prop := va_P g.2.2.1 vwCl (m_ws g h) H ∧ H.size + 1 = g.1 + h.2 ∧ 1 ≤ h.2 ∧ (∀ k, h.2 ≤ k → h.1 k = m_dead) ∧ ∃ (L : Nat) (xs : Nat → Int32), h.1 0 = .inl (9, L, .inl xs)
/-- a class, its code, its locals, whether it is a constructor, what it returns -/
abbrev mJ : Type := String × ByteArray × Nat × Bool × Option FieldType
def m_RS (g : mG) (J : mJ) (s : State) (h : mH) : Prop := J.1 = RL → ∀ (L : Nat) (xs : Nat → Int32), h.1 0 = .inl (9, L, .inl xs) → va_X g.2.1 L xs s s.heap ∧ g.2.1 < s.heap.size ∧ g.2.1 < g.1
def m_Rel (g : mG) (J : mJ) (s : State) (H : Heap) (locs : List Loc) (h : mH) : Prop := m_R0 g H h ∧ va_S (fun q => g.1 ≤ q) s.heap H locs ∧ m_RS g J s h
/-- the locals -/
def m_L (g : mG) (nL : Nat) (ls : List (Option Value)) (lsm : Array Slot) : Prop := lsm.size = nL ∧ lv_wf lsm ∧ ∀ (i : Nat) (v : Value), ls[i]? = some (some v) → lsm[i]? = some (.val (m_v g v))
def m_kill (x : Option Value) : Option Value := match x with
  | some (.long _) => none
  | some (.double _) => none
  | x => x
def m_st1 (ls : List (Option Value)) (i : Nat) (v : Value) : List (Option Value) := match ls, i with
  | [], _ => []
  | _ :: r, 0 => some v :: r
  | x :: r, 1 => m_kill x :: r.set 0 (some v)
  | x :: r, i + 2 => x :: m_st1 r (i + 1) v
def m_st2 (ls : List (Option Value)) (i : Nat) (v : Value) : List (Option Value) := (m_st1 ls i v).set (i + 1) none
theorem m_kill_some {x : Option Value} {w : Value} (h : m_kill x = some w) : x = some w ∧ ¬ w.category = 2 := by
  unfold m_kill at h
  split at h
  · cases h
  · cases h
  · rename_i h1 h2
    refine ⟨h, fun hc => ?_⟩
    subst h
    cases w with
    | long z => exact h1 z rfl
    | double z => exact h2 z rfl
    | _ => cases hc
theorem m_st1_at : ∀ (ls : List (Option Value)) (i : Nat) (v : Value) (j : Nat) (w : Value), (m_st1 ls i v)[j]? = some (some w) → (j = i ∧ w = v) ∨ (j ≠ i ∧ ls[j]? = some (some w) ∧ ¬ (j + 1 = i ∧ w.category = 2))
  | [], i, v, j, w, h => by simp [m_st1] at h
  | x :: r, 0, v, 0, w, h => by
    simp [m_st1] at h
    exact Or.inl ⟨rfl, h.symm⟩
  | x :: r, 0, v, j + 1, w, h => by
    refine Or.inr ⟨by omega, h, by omega⟩
  | x :: r, 1, v, 0, w, h => by
    have h1 : m_kill x = some w := by simpa [m_st1] using h
    obtain ⟨h2, h3⟩ := m_kill_some h1
    exact Or.inr ⟨by omega, by simp [h2], fun q => h3 q.2⟩
  | x :: r, 1, v, j + 1, w, h => by
    have h1 : (r.set 0 (some v))[j]? = some (some w) := h
    rw [List.getElem?_set] at h1
    by_cases e : 0 = j
    · subst e
      simp at h1
      exact Or.inl ⟨rfl, h1.2.symm⟩
    · rw [if_neg e] at h1
      exact Or.inr ⟨by omega, h1, by omega⟩
  | x :: r, i + 2, v, 0, w, h => by
    have h1 : x = some w := by simpa [m_st1] using h
    exact Or.inr ⟨by omega, by simp [h1], by omega⟩
  | x :: r, i + 2, v, j + 1, w, h => by
    have h1 : (m_st1 r (i + 1) v)[j]? = some (some w) := h
    rcases m_st1_at r (i + 1) v j w h1 with ⟨e1, e2⟩ | ⟨e1, e2, e3⟩
    · exact Or.inl ⟨by omega, e2⟩
    · exact Or.inr ⟨by omega, e2, fun q => e3 ⟨by omega, q.2⟩⟩
theorem m_st2_at {ls : List (Option Value)} {i : Nat} {v : Value} {j : Nat} {w : Value} (h : (m_st2 ls i v)[j]? = some (some w)) : (j = i ∧ w = v) ∨ (j ≠ i ∧ j ≠ i + 1 ∧ ls[j]? = some (some w) ∧ ¬ (j + 1 = i ∧ w.category = 2)) := by
  unfold m_st2 at h
  rw [List.getElem?_set] at h
  by_cases e : i + 1 = j
  · rw [if_pos e] at h
    split at h <;> cases h
  · rw [if_neg e] at h
    rcases m_st1_at ls i v j w h with h1 | ⟨h1, h2, h3⟩
    · exact Or.inl h1
    · exact Or.inr ⟨h1, by omega, h2, h3⟩
/-- the picture's locals as the kit lists them -/
def m_al (g : mG) (ls : List (Option Value)) : List (Nat × Value) := (List.range ls.length).filterMap fun i => match ls[i]? with
  | some (some v) => some (i, m_v g v)
  | _ => none
theorem m_al_in {g : mG} {ls : List (Option Value)} {i : Nat} {v : Value} (h : ls[i]? = some (some v)) : (i, m_v g v) ∈ m_al g ls := by
  unfold m_al
  refine List.mem_filterMap.mpr ⟨i, List.mem_range.mpr (List.getElem?_eq_some_iff.mp h).1, ?_⟩
  rw [h]
theorem m_al_out {g : mG} {ls : List (Option Value)} {q : Nat × Value} (h : q ∈ m_al g ls) : ∃ v, ls[q.1]? = some (some v) ∧ q.2 = m_v g v := by
  unfold m_al at h
  obtain ⟨i, -, h1⟩ := List.mem_filterMap.mp h
  split at h1
  · rename_i v hv
    cases h1
    exact ⟨v, hv, rfl⟩
  · cases h1
theorem m_L_has {g : mG} {nL : Nat} {ls : List (Option Value)} {lsm : Array Slot} (h : m_L g nL ls lsm) : lv_has lsm nL (m_al g ls) := ⟨h.1, h.2.1, fun q hq => by
  obtain ⟨v, h1, h2⟩ := m_al_out hq
  rw [h2]
  exact h.2.2 q.1 v h1⟩
theorem m_L_st1 {g : mG} {nL : Nat} {ls : List (Option Value)} {lsm : Array Slot} {i : Nat} {v : Value} (h : lv_has lsm nL ((i, m_v g v) :: (m_al g ls).filter (fun q => !(q.1 == i) && !(q.1 + 1 == i && q.2.category == 2)))) : m_L g nL (m_st1 ls i v) lsm := by
  refine ⟨h.1, h.2.1, fun j w hj => ?_⟩
  rcases m_st1_at ls i v j w hj with ⟨e1, e2⟩ | ⟨e1, e2, e3⟩
  · subst e1; subst e2
    exact h.2.2 (j, m_v g w) List.mem_cons_self
  · refine h.2.2 (j, m_v g w) (List.mem_cons_of_mem _ (List.mem_filter.mpr ⟨m_al_in e2, ?_⟩))
    rw [m_v_cat]
    by_cases q : j + 1 = i
    · have q2 : ¬ w.category = 2 := fun q2 => e3 ⟨q, q2⟩
      simp [e1, q2]
    · simp [e1, q]
theorem m_L_st2 {g : mG} {nL : Nat} {ls : List (Option Value)} {lsm : Array Slot} {i : Nat} {v : Value} (h : lv_has lsm nL ((i, m_v g v) :: (m_al g ls).filter (fun q => !(q.1 == i) && (!(q.1 == i + 1) && !(q.1 + 1 == i && q.2.category == 2))))) : m_L g nL (m_st2 ls i v) lsm := by
  refine ⟨h.1, h.2.1, fun j w hj => ?_⟩
  rcases m_st2_at hj with ⟨e1, e2⟩ | ⟨e1, e0, e2, e3⟩
  · subst e1; subst e2
    exact h.2.2 (j, m_v g w) List.mem_cons_self
  · refine h.2.2 (j, m_v g w) (List.mem_cons_of_mem _ (List.mem_filter.mpr ⟨m_al_in e2, ?_⟩))
    rw [m_v_cat]
    by_cases q : j + 1 = i
    · have q2 : ¬ w.category = 2 := fun q2 => e3 ⟨q, q2⟩
      simp [e1, e0, q2]
    · simp [e1, e0, q]
/-- fewer locals -/
def m_drop (ls : List (Option Value)) (is : List Nat) : List (Option Value) := match is with
  | [] => ls
  | i :: r => m_drop (ls.set i none) r
theorem m_drop_at : ∀ (is : List Nat) (ls : List (Option Value)) (i : Nat) (v : Value), (m_drop ls is)[i]? = some (some v) → ls[i]? = some (some v)
  | [], _, _, _, h => h
  | k :: r, ls, i, v, h => by
    have h1 := m_drop_at r (ls.set k none) i v h
    rw [List.getElem?_set] at h1
    split at h1
    · split at h1 <;> cases h1
    · exact h1
-- entry
def m_entL (as : List Value) : List (Option Value) := match as with
  | [] => []
  | .long x :: r => some (.long x) :: none :: m_entL r
  | .double x :: r => some (.double x) :: none :: m_entL r
  | v :: r => some v :: m_entL r
def m_ent (nL : Nat) (as : List Value) : List (Option Value) := m_entL as ++ List.replicate (nL - (m_entL as).length) none
theorem m_entL_at (g : mG) : ∀ (as : List Value) (o i : Nat) (v : Value), (m_entL as)[i]? = some (some v) → (o + i, m_v g v) ∈ lv_args o (as.map (m_v g))
  | [], o, i, v, h => by simp [m_entL] at h
  | a :: r, o, i, v, h => by
    have key : ∀ (k : Nat), a.category = k → (k = 2 → m_entL (a :: r) = some a :: none :: m_entL r) ∧ (¬ k = 2 → m_entL (a :: r) = some a :: m_entL r) := by
      intro k hk
      cases a <;> simp [m_entL, Value.category] at hk ⊢ <;> omega
    show (o + i, m_v g v) ∈ (o, m_v g a) :: lv_args (if (m_v g a).category = 2 then o + 2 else o + 1) (r.map (m_v g))
    rw [m_v_cat]
    by_cases hc : a.category = 2
    · rw [(key 2 hc).1 rfl] at h
      rw [if_pos hc]
      match i, h with
      | 0, h =>
        simp at h
        subst h
        exact List.mem_cons_self
      | 1, h => simp at h
      | i + 2, h =>
        have h1 : (m_entL r)[i]? = some (some v) := h
        have := m_entL_at g r (o + 2) i v h1
        rw [show o + (i + 2) = o + 2 + i by omega]
        exact List.mem_cons_of_mem _ this
    · rw [(key _ rfl).2 hc] at h
      rw [if_neg hc]
      match i, h with
      | 0, h =>
        simp at h
        subst h
        exact List.mem_cons_self
      | i + 1, h =>
        have h1 : (m_entL r)[i]? = some (some v) := h
        have := m_entL_at g r (o + 1) i v h1
        rw [show o + (i + 1) = o + 1 + i by omega]
        exact List.mem_cons_of_mem _ this
theorem m_ent_L (g : mG) (nL : Nat) (as : List Value) {lsm : Array Slot} (h : lv_has lsm nL (lv_args 0 (as.map (m_v g)))) : m_L g nL (m_ent nL as) lsm := by
  refine ⟨h.1, h.2.1, fun i v hi => ?_⟩
  unfold m_ent at hi
  by_cases hl : i < (m_entL as).length
  · rw [List.getElem?_append_left hl] at hi
    have := h.2.2 _ (m_entL_at g as 0 i v hi)
    simpa using this
  · rw [List.getElem?_append_right (by omega), List.getElem?_replicate] at hi
    split at hi <;> cases hi
end
section
/-! MINI, the judgement and its plain rows -/
def m_Ctx (g : mG) (J : mJ) (d : Nat) (p : Program) (R : Room) (s : State) (m : MethodId) (args : Array Value) (meth : Method) (c : Code) : Prop :=
  p.tables.exec = Jvm.exec ∧ c.code = J.2.1 ∧ c.maxLocals = J.2.2.1 ∧ s.vm.findClass J.1 = some m.cls ∧ (∀ w ∈ mGood, w.before args s = true) ∧ R.frames = d ∧ 36 * d ≤ R.locals ∧ m_K g s ∧ g.1 ≤ s.heap.size ∧ (J.2.2.2.1 = true → meth.name = "<init>")
def m_ret (r : Option Value) : Instr := match r with
  | none => .return_
  | some (.int _) => .ireturn
  | some (.long _) => .lreturn
  | _ => .areturn
def m_rok (t : Option FieldType) (r : Option Value) : Prop := match t, r with
  | none, none => True
  | some .int, some (.int _) => True
  | some .boolean, some (.int v) => v = 0 ∨ v = 1
  | some .long, some (.long _) => True
  | some (.object _), some (.ref _) => True
  | some (.object _), some .null => True
  | some (.array _), some (.ref _) => True
  | _, _ => False
/-- from this place of the method J, with d frames and b cells and slots to spend, it comes to its end with the answer r and the heap h' -/
def m_W (d : Nat) (b : Nat × Nat) (J : mJ) (pc : Nat) (ls : List (Option Value)) (st : List Value) (h : mH) (r : Option Value) (h' : mH) : Prop :=
  ∀ (g : mG) (p : Program) (l : Launch) (e : Env) (R : Room) (s : State) (m : MethodId) (args : Array Value) (below : List Frame) (meth : Method) (c : Code) (H : Heap) (locs : List Loc) (cells slots : Nat) (Qk : State → Prop) (lsm : Array Slot),
    m_Ctx g J d p R s m args meth c → m_Rel g J s H locs h → m_L g J.2.2.1 ls lsm → cells + b.1 ≤ R.cells → slots + b.2 ≤ R.slots →
    (∀ (pc1 : Nat) (lsm1 : Array Slot) (H1 : Heap) (locs1 : List Loc) (cells1 slots1 : Nat), m_Rel g J s H1 locs1 h' → cells1 ≤ R.cells → slots1 ≤ R.slots → m_rok J.2.2.2.2 r → decode J.2.1 pc1 = .ok (m_ret r, 1) → W p l e R s m args below meth c H1 locs1 cells1 slots1 Qk (F0 m pc1 lsm1 (r.toList.map (m_v g)))) →
    W p l e R s m args below meth c H locs cells slots Qk (F0 m pc lsm (st.map (m_v g)))
def Wm (d : Nat) (b : Nat × Nat) (J : mJ) (pc : Nat) (ls : List (Option Value)) (st : List Value) (h : mH) (Q : Option Value → mH → Prop) : Prop := ∃ (r : Option Value) (h' : mH), Q r h' ∧ m_W d b J pc ls st h r h'
section Rows
variable {d : Nat} {b : Nat × Nat} {J : mJ} {pc : Nat} {ls : List (Option Value)} {st : List Value} {h : mH} {Q : Option Value → mH → Prop}
theorem Wm.mono {Q2 : Option Value → mH → Prop} (k : Wm d b J pc ls st h Q) (hq : ∀ r h', Q r h' → Q2 r h') : Wm d b J pc ls st h Q2 := by
  obtain ⟨r, h', q, w⟩ := k
  exact ⟨r, h', hq r h' q, w⟩
/-- a step that touches the stack alone -/
theorem m_step {pc2 : Nat} {st2 : List Value} (f : ∀ (g : mG) (p : Program) (l : Launch) (e : Env) (R : Room) (s : State) (m : MethodId) (args : Array Value) (below : List Frame) (meth : Method) (c : Code) (H : Heap) (locs : List Loc) (cells slots : Nat) (Qk : State → Prop) (lsm : Array Slot), p.tables.exec = Jvm.exec → c.code = J.2.1 → W p l e R s m args below meth c H locs cells slots Qk (F0 m pc2 lsm (st2.map (m_v g))) → W p l e R s m args below meth c H locs cells slots Qk (F0 m pc lsm (st.map (m_v g))))
    (k : Wm d b J pc2 ls st2 h Q) : Wm d b J pc ls st h Q := by
  obtain ⟨r, h', q, w⟩ := k
  refine ⟨r, h', q, ?_⟩
  intro g p l e R s m args below meth c H locs cells slots Qk lsm C hR hl hc1 hc2 he
  exact f g p l e R s m args below meth c H locs cells slots Qk lsm C.1 C.2.1 (w g p l e R s m args below meth c H locs cells slots Qk lsm C hR hl hc1 hc2 he)
/-- .. and reads a constant of the class's pool -/
theorem m_stepC {pc2 : Nat} {st2 : List Value} (f : ∀ (g : mG) (p : Program) (l : Launch) (e : Env) (R : Room) (s : State) (m : MethodId) (args : Array Value) (below : List Frame) (meth : Method) (c : Code) (H : Heap) (locs : List Loc) (cells slots : Nat) (Qk : State → Prop) (lsm : Array Slot), p.tables.exec = Jvm.exec → c.code = J.2.1 → s.vm.findClass J.1 = some m.cls → (∀ w ∈ mGood, w.before args s = true) → W p l e R s m args below meth c H locs cells slots Qk (F0 m pc2 lsm (st2.map (m_v g))) → W p l e R s m args below meth c H locs cells slots Qk (F0 m pc lsm (st.map (m_v g))))
    (k : Wm d b J pc2 ls st2 h Q) : Wm d b J pc ls st h Q := by
  obtain ⟨r, h', q, w⟩ := k
  refine ⟨r, h', q, ?_⟩
  intro g p l e R s m args below meth c H locs cells slots Qk lsm C hR hl hc1 hc2 he
  exact f g p l e R s m args below meth c H locs cells slots Qk lsm C.1 C.2.1 C.2.2.2.1 C.2.2.2.2.1 (w g p l e R s m args below meth c H locs cells slots Qk lsm C hR hl hc1 hc2 he)
/-- .. and reads a local -/
theorem m_load {pc2 i : Nat} {v : Value} (hl0 : ls[i]? = some (some v)) (f : ∀ (g : mG) (p : Program) (l : Launch) (e : Env) (R : Room) (s : State) (m : MethodId) (args : Array Value) (below : List Frame) (meth : Method) (c : Code) (H : Heap) (locs : List Loc) (cells slots : Nat) (Qk : State → Prop) (lsm : Array Slot), p.tables.exec = Jvm.exec → c.code = J.2.1 → lsm[i]? = some (.val (m_v g v)) → W p l e R s m args below meth c H locs cells slots Qk (F0 m pc2 lsm (m_v g v :: st.map (m_v g))) → W p l e R s m args below meth c H locs cells slots Qk (F0 m pc lsm (st.map (m_v g))))
    (k : Wm d b J pc2 ls (v :: st) h Q) : Wm d b J pc ls st h Q := by
  obtain ⟨r, h', q, w⟩ := k
  refine ⟨r, h', q, ?_⟩
  intro g p l e R s m args below meth c H locs cells slots Qk lsm C hR hl hc1 hc2 he
  exact f g p l e R s m args below meth c H locs cells slots Qk lsm C.1 C.2.1 (hl.2.2 i v hl0) (w g p l e R s m args below meth c H locs cells slots Qk lsm C hR hl hc1 hc2 he)
/-- .. and writes a local of one word -/
theorem m_store1 {pc2 i : Nat} {v : Value} {ls2 : List (Option Value)} (hls : m_st1 ls i v = ls2) (f : ∀ (g : mG) (p : Program) (l : Launch) (e : Env) (R : Room) (s : State) (m : MethodId) (args : Array Value) (below : List Frame) (meth : Method) (c : Code) (H : Heap) (locs : List Loc) (cells slots : Nat) (Qk : State → Prop) (lsm : Array Slot), p.tables.exec = Jvm.exec → c.code = J.2.1 → m_L g J.2.2.1 ls lsm → (∀ ls' : Array Slot, lv_has ls' J.2.2.1 ((i, m_v g v) :: (m_al g ls).filter (fun q => !(q.1 == i) && !(q.1 + 1 == i && q.2.category == 2))) → W p l e R s m args below meth c H locs cells slots Qk (F0 m pc2 ls' (st.map (m_v g)))) → W p l e R s m args below meth c H locs cells slots Qk (F0 m pc lsm (m_v g v :: st.map (m_v g))))
    (k : Wm d b J pc2 ls2 st h Q) : Wm d b J pc ls (v :: st) h Q := by
  obtain ⟨r, h', q, w⟩ := k
  refine ⟨r, h', q, ?_⟩
  intro g p l e R s m args below meth c H locs cells slots Qk lsm C hR hl hc1 hc2 he
  exact f g p l e R s m args below meth c H locs cells slots Qk lsm C.1 C.2.1 hl (fun ls' h2 => w g p l e R s m args below meth c H locs cells slots Qk ls' C hR (hls ▸ m_L_st1 h2) hc1 hc2 he)
theorem m_store2 {pc2 i : Nat} {v : Value} {ls2 : List (Option Value)} (hls : m_st2 ls i v = ls2) (f : ∀ (g : mG) (p : Program) (l : Launch) (e : Env) (R : Room) (s : State) (m : MethodId) (args : Array Value) (below : List Frame) (meth : Method) (c : Code) (H : Heap) (locs : List Loc) (cells slots : Nat) (Qk : State → Prop) (lsm : Array Slot), p.tables.exec = Jvm.exec → c.code = J.2.1 → m_L g J.2.2.1 ls lsm → (∀ ls' : Array Slot, lv_has ls' J.2.2.1 ((i, m_v g v) :: (m_al g ls).filter (fun q => !(q.1 == i) && (!(q.1 == i + 1) && !(q.1 + 1 == i && q.2.category == 2)))) → W p l e R s m args below meth c H locs cells slots Qk (F0 m pc2 ls' (st.map (m_v g)))) → W p l e R s m args below meth c H locs cells slots Qk (F0 m pc lsm (m_v g v :: st.map (m_v g))))
    (k : Wm d b J pc2 ls2 st h Q) : Wm d b J pc ls (v :: st) h Q := by
  obtain ⟨r, h', q, w⟩ := k
  refine ⟨r, h', q, ?_⟩
  intro g p l e R s m args below meth c H locs cells slots Qk lsm C hR hl hc1 hc2 he
  exact f g p l e R s m args below meth c H locs cells slots Qk lsm C.1 C.2.1 hl (fun ls' h2 => w g p l e R s m args below meth c H locs cells slots Qk ls' C hR (hls ▸ m_L_st2 h2) hc1 hc2 he)
/-- fewer locals are known -/
theorem m_wk (is : List Nat) {ls2 : List (Option Value)} (hls : m_drop ls is = ls2) (k : Wm d b J pc ls2 st h Q) : Wm d b J pc ls st h Q := by
  obtain ⟨r, h', q, w⟩ := k
  refine ⟨r, h', q, ?_⟩
  intro g p l e R s m args below meth c H locs cells slots Qk lsm C hR hl hc1 hc2 he
  refine w g p l e R s m args below meth c H locs cells slots Qk lsm C hR ⟨hl.1, hl.2.1, fun i v hi => hl.2.2 i v ?_⟩ hc1 hc2 he
  subst hls
  exact m_drop_at is ls i v hi
/-- less is spent than may be -/
theorem m_bud {b2 : Nat × Nat} (h1 : b2.1 ≤ b.1) (h2 : b2.2 ≤ b.2) (k : Wm d b2 J pc ls st h Q) : Wm d b J pc ls st h Q := by
  obtain ⟨r, h', q, w⟩ := k
  refine ⟨r, h', q, ?_⟩
  intro g p l e R s m args below meth c H locs cells slots Qk lsm C hR hl hc1 hc2 he
  exact w g p l e R s m args below meth c H locs cells slots Qk lsm C hR hl (by omega) (by omega) he
theorem m_iadd {x y : Int32} (hd : decode J.2.1 pc = .ok (.iadd, 1)) (k : Wm d b J (pc + 1) ls (.int (x + y) :: st) h Q) : Wm d b J pc ls (.int y :: .int x :: st) h Q :=
  m_step (fun _ _ _ _ _ _ _ _ _ _ _ _ _ _ _ _ _ hx hb kk => lv_iadd hx hb hd kk) k
theorem m_isub {x y : Int32} (hd : decode J.2.1 pc = .ok (.isub, 1)) (k : Wm d b J (pc + 1) ls (.int (x - y) :: st) h Q) : Wm d b J pc ls (.int y :: .int x :: st) h Q :=
  m_step (fun _ _ _ _ _ _ _ _ _ _ _ _ _ _ _ _ _ hx hb kk => lv_isub hx hb hd kk) k
theorem m_imul {x y : Int32} (hd : decode J.2.1 pc = .ok (.imul, 1)) (k : Wm d b J (pc + 1) ls (.int (x * y) :: st) h Q) : Wm d b J pc ls (.int y :: .int x :: st) h Q :=
  m_step (fun _ _ _ _ _ _ _ _ _ _ _ _ _ _ _ _ _ hx hb kk => lv_imul hx hb hd kk) k
theorem m_iand {x y : Int32} (hd : decode J.2.1 pc = .ok (.iand, 1)) (k : Wm d b J (pc + 1) ls (.int (x &&& y) :: st) h Q) : Wm d b J pc ls (.int y :: .int x :: st) h Q :=
  m_step (fun _ _ _ _ _ _ _ _ _ _ _ _ _ _ _ _ _ hx hb kk => lv_iand hx hb hd kk) k
theorem m_ior {x y : Int32} (hd : decode J.2.1 pc = .ok (.ior, 1)) (k : Wm d b J (pc + 1) ls (.int (x ||| y) :: st) h Q) : Wm d b J pc ls (.int y :: .int x :: st) h Q :=
  m_step (fun _ _ _ _ _ _ _ _ _ _ _ _ _ _ _ _ _ hx hb kk => lv_ior hx hb hd kk) k
theorem m_idiv {x y : Int32} (hd : decode J.2.1 pc = .ok (.idiv, 1)) (hne : ¬ y = 0) (k : Wm d b J (pc + 1) ls (.int (x / y) :: st) h Q) : Wm d b J pc ls (.int y :: .int x :: st) h Q :=
  m_step (fun _ _ _ _ _ _ _ _ _ _ _ _ _ _ _ _ _ hx hb kk => lv_idiv hx hb hd hne kk) k
theorem m_irem {x y : Int32} (hd : decode J.2.1 pc = .ok (.irem, 1)) (hne : ¬ y = 0) (k : Wm d b J (pc + 1) ls (.int (x - x / y * y) :: st) h Q) : Wm d b J pc ls (.int y :: .int x :: st) h Q :=
  m_step (fun _ _ _ _ _ _ _ _ _ _ _ _ _ _ _ _ _ hx hb kk => lv_irem hx hb hd hne kk) k
theorem m_ineg {x : Int32} (hd : decode J.2.1 pc = .ok (.ineg, 1)) (k : Wm d b J (pc + 1) ls (.int (-x) :: st) h Q) : Wm d b J pc ls (.int x :: st) h Q :=
  m_step (fun _ _ _ _ _ _ _ _ _ _ _ _ _ _ _ _ _ hx hb kk => lv_ineg hx hb hd kk) k
theorem m_ishl {x y : Int32} (hd : decode J.2.1 pc = .ok (.ishl, 1)) (k : Wm d b J (pc + 1) ls (.int (x <<< (y &&& 31)) :: st) h Q) : Wm d b J pc ls (.int y :: .int x :: st) h Q :=
  m_step (fun _ _ _ _ _ _ _ _ _ _ _ _ _ _ _ _ _ hx hb kk => lv_ishl hx hb hd kk) k
theorem m_ishr {x y : Int32} (hd : decode J.2.1 pc = .ok (.ishr, 1)) (k : Wm d b J (pc + 1) ls (.int (x >>> (y &&& 31)) :: st) h Q) : Wm d b J pc ls (.int y :: .int x :: st) h Q :=
  m_step (fun _ _ _ _ _ _ _ _ _ _ _ _ _ _ _ _ _ hx hb kk => lv_ishr hx hb hd kk) k
theorem m_iushr {x y : Int32} (hd : decode J.2.1 pc = .ok (.iushr, 1)) (k : Wm d b J (pc + 1) ls (.int (x.toUInt32 >>> (y.toUInt32 &&& Int32.toUInt32 31)).toInt32 :: st) h Q) : Wm d b J pc ls (.int y :: .int x :: st) h Q :=
  m_step (fun _ _ _ _ _ _ _ _ _ _ _ _ _ _ _ _ _ hx hb kk => lv_iushr hx hb hd rfl kk) k
theorem m_ladd {x y : Int64} (hd : decode J.2.1 pc = .ok (.ladd, 1)) (k : Wm d b J (pc + 1) ls (.long (x + y) :: st) h Q) : Wm d b J pc ls (.long y :: .long x :: st) h Q :=
  m_step (fun _ _ _ _ _ _ _ _ _ _ _ _ _ _ _ _ _ hx hb kk => lv_ladd hx hb hd kk) k
theorem m_lsub {x y : Int64} (hd : decode J.2.1 pc = .ok (.lsub, 1)) (k : Wm d b J (pc + 1) ls (.long (x - y) :: st) h Q) : Wm d b J pc ls (.long y :: .long x :: st) h Q :=
  m_step (fun _ _ _ _ _ _ _ _ _ _ _ _ _ _ _ _ _ hx hb kk => lv_lsub hx hb hd kk) k
theorem m_lmul {x y : Int64} (hd : decode J.2.1 pc = .ok (.lmul, 1)) (k : Wm d b J (pc + 1) ls (.long (x * y) :: st) h Q) : Wm d b J pc ls (.long y :: .long x :: st) h Q :=
  m_step (fun _ _ _ _ _ _ _ _ _ _ _ _ _ _ _ _ _ hx hb kk => lv_lmul hx hb hd kk) k
theorem m_lor {x y : Int64} (hd : decode J.2.1 pc = .ok (.lor, 1)) (k : Wm d b J (pc + 1) ls (.long (x ||| y) :: st) h Q) : Wm d b J pc ls (.long y :: .long x :: st) h Q :=
  m_step (fun _ _ _ _ _ _ _ _ _ _ _ _ _ _ _ _ _ hx hb kk => lv_lor hx hb hd kk) k
theorem m_lushr {x : Int64} {y : Int32} (hd : decode J.2.1 pc = .ok (.lushr, 1)) (k : Wm d b J (pc + 1) ls (.long (x.toUInt64 >>> (y.toInt64.toUInt64 &&& Int64.toUInt64 63)).toInt64 :: st) h Q) : Wm d b J pc ls (.int y :: .long x :: st) h Q :=
  m_step (fun _ _ _ _ _ _ _ _ _ _ _ _ _ _ _ _ _ hx hb kk => lv_lushr hx hb hd rfl kk) k
theorem m_lshl {x : Int64} {y : Int32} (hd : decode J.2.1 pc = .ok (.lshl, 1)) (k : Wm d b J (pc + 1) ls (.long (x <<< (y.toInt64 &&& 63)) :: st) h Q) : Wm d b J pc ls (.int y :: .long x :: st) h Q :=
  m_step (fun _ _ _ _ _ _ _ _ _ _ _ _ _ _ _ _ _ hx hb kk => lv_lshl hx hb hd rfl kk) k
theorem m_lcmp {x y : Int64} (hd : decode J.2.1 pc = .ok (.lcmp, 1)) (k : Wm d b J (pc + 1) ls (.int (lg_cmp x y) :: st) h Q) : Wm d b J pc ls (.long y :: .long x :: st) h Q :=
  m_step (fun _ _ _ _ _ _ _ _ _ _ _ _ _ _ _ _ _ hx hb kk => W.lcmp hx hb hd kk) k
theorem m_i2l {x : Int32} (hd : decode J.2.1 pc = .ok (.i2l, 1)) (k : Wm d b J (pc + 1) ls (.long x.toInt64 :: st) h Q) : Wm d b J pc ls (.int x :: st) h Q :=
  m_step (fun _ _ _ _ _ _ _ _ _ _ _ _ _ _ _ _ _ hx hb kk => lv_i2l hx hb hd rfl kk) k
theorem m_l2i {x : Int64} (hd : decode J.2.1 pc = .ok (.l2i, 1)) (k : Wm d b J (pc + 1) ls (.int x.toInt32 :: st) h Q) : Wm d b J pc ls (.long x :: st) h Q :=
  m_step (fun _ _ _ _ _ _ _ _ _ _ _ _ _ _ _ _ _ hx hb kk => lv_l2i hx hb hd rfl kk) k
theorem m_i2b {x : Int32} (hd : decode J.2.1 pc = .ok (.i2b, 1)) (k : Wm d b J (pc + 1) ls (.int x.toInt8.toInt32 :: st) h Q) : Wm d b J pc ls (.int x :: st) h Q :=
  m_step (fun _ _ _ _ _ _ _ _ _ _ _ _ _ _ _ _ _ hx hb kk => lv_i2b hx hb hd rfl kk) k
theorem m_i2s {x : Int32} (hd : decode J.2.1 pc = .ok (.i2s, 1)) (k : Wm d b J (pc + 1) ls (.int x.toInt16.toInt32 :: st) h Q) : Wm d b J pc ls (.int x :: st) h Q :=
  m_step (fun _ _ _ _ _ _ _ _ _ _ _ _ _ _ _ _ _ hx hb kk => lv_i2s hx hb hd rfl kk) k
theorem m_null  (hd : decode J.2.1 pc = .ok (.aconst_null, 1)) (k : Wm d b J (pc + 1) ls (.null :: st) h Q) : Wm d b J pc ls (st) h Q :=
  m_step (fun _ _ _ _ _ _ _ _ _ _ _ _ _ _ _ _ _ hx hb kk => lv_null hx hb hd kk) k
theorem m_dup {v : Value} (hd : decode J.2.1 pc = .ok (.dup, 1)) (hv : v.category = 1) (k : Wm d b J (pc + 1) ls (v :: v :: st) h Q) : Wm d b J pc ls (v :: st) h Q :=
  m_step (fun g _ _ _ _ _ _ _ _ _ _ _ _ _ _ _ _ hx hb kk => lv_dup hx hb hd (by rw [m_v_cat]; exact hv) kk) k
theorem m_pop {v : Value} (hd : decode J.2.1 pc = .ok (.pop, 1)) (hv : v.category = 1) (k : Wm d b J (pc + 1) ls st h Q) : Wm d b J pc ls (v :: st) h Q :=
  m_step (fun g _ _ _ _ _ _ _ _ _ _ _ _ _ _ _ _ hx hb kk => lv_pop hx hb hd (by rw [m_v_cat]; exact hv) kk) k
theorem m_iconst {n : Int} {v : Int32} (hd : decode J.2.1 pc = .ok (.iconst n, 1)) (hv : Int32.ofInt n = v) (k : Wm d b J (pc + 1) ls (.int v :: st) h Q) : Wm d b J pc ls st h Q :=
  m_step (fun _ _ _ _ _ _ _ _ _ _ _ _ _ _ _ _ _ hx hb kk => lv_iconst hx hb hd hv kk) k
theorem m_bipush {n : Int} {v : Int32} (hd : decode J.2.1 pc = .ok (.bipush n, 2)) (hv : (Int8.ofInt n).toInt32 = v) (k : Wm d b J (pc + 2) ls (.int v :: st) h Q) : Wm d b J pc ls st h Q :=
  m_step (fun _ _ _ _ _ _ _ _ _ _ _ _ _ _ _ _ _ hx hb kk => lv_bipush hx hb hd hv kk) k
theorem m_sipush {n : Int} {v : Int32} (hd : decode J.2.1 pc = .ok (.sipush n, 3)) (hv : (Int16.ofInt n).toInt32 = v) (k : Wm d b J (pc + 3) ls (.int v :: st) h Q) : Wm d b J pc ls st h Q :=
  m_step (fun _ _ _ _ _ _ _ _ _ _ _ _ _ _ _ _ _ hx hb kk => lv_sipush hx hb hd hv kk) k
theorem m_lconst {n : Fin 2} {v : Int64} (hd : decode J.2.1 pc = .ok (.lconst n, 1)) (hv : Int64.ofNat (n : Nat) = v) (k : Wm d b J (pc + 1) ls (.long v :: st) h Q) : Wm d b J pc ls st h Q :=
  m_step (fun _ _ _ _ _ _ _ _ _ _ _ _ _ _ _ _ _ hx hb kk => lv_lconst hx hb hd hv kk) k
theorem m_ldc {idx : Nat} {v : Int32} (hd : decode J.2.1 pc = .ok (.ldc idx, 2)) (hw : Cond.constant J.1 idx v ∈ mGood) (k : Wm d b J (pc + 2) ls (.int v :: st) h Q) : Wm d b J pc ls st h Q :=
  m_stepC (fun _ _ _ _ _ _ _ _ _ _ _ _ _ _ _ _ _ hx hb ho hts kk => lv_ldc hx hb ho (hts _ hw) hd kk) k
theorem m_ldc_w {idx : Nat} {v : Int32} (hd : decode J.2.1 pc = .ok (.ldc_w idx, 3)) (hw : Cond.constant J.1 idx v ∈ mGood) (k : Wm d b J (pc + 3) ls (.int v :: st) h Q) : Wm d b J pc ls st h Q :=
  m_stepC (fun _ _ _ _ _ _ _ _ _ _ _ _ _ _ _ _ _ hx hb ho hts kk => lv_ldcw hx hb ho (hts _ hw) hd kk) k
theorem m_ldc2_w {idx : Nat} {v : Int64} (hd : decode J.2.1 pc = .ok (.ldc2_w idx, 3)) (hw : Cond.constantLong J.1 idx v ∈ mGood) (k : Wm d b J (pc + 3) ls (.long v :: st) h Q) : Wm d b J pc ls st h Q :=
  m_stepC (fun _ _ _ _ _ _ _ _ _ _ _ _ _ _ _ _ _ hx hb ho hts kk => lv_ldc2 hx hb ho (hts _ hw) hd kk) k
theorem m_iload {i : Nat} {x : Int32} (hd : decode J.2.1 pc = .ok (.iload i, 2)) (hl : ls[i]? = some (some (.int x))) (k : Wm d b J (pc + 2) ls (.int x :: st) h Q) : Wm d b J pc ls st h Q :=
  m_load hl (fun _ _ _ _ _ _ _ _ _ _ _ _ _ _ _ _ _ hx hb hl kk => lv_iload hx hb hd hl kk) k
theorem m_iload_n {i : Fin 4} {x : Int32} (hd : decode J.2.1 pc = .ok (.iload_n i, 1)) (hl : ls[(i : Nat)]? = some (some (.int x))) (k : Wm d b J (pc + 1) ls (.int x :: st) h Q) : Wm d b J pc ls st h Q :=
  m_load hl (fun _ _ _ _ _ _ _ _ _ _ _ _ _ _ _ _ _ hx hb hl kk => lv_iload_n hx hb hd rfl hl kk) k
theorem m_lload {i : Nat} {x : Int64} (hd : decode J.2.1 pc = .ok (.lload i, 2)) (hl : ls[i]? = some (some (.long x))) (k : Wm d b J (pc + 2) ls (.long x :: st) h Q) : Wm d b J pc ls st h Q :=
  m_load hl (fun _ _ _ _ _ _ _ _ _ _ _ _ _ _ _ _ _ hx hb hl kk => lv_lload hx hb hd hl kk) k
theorem m_lload_n {i : Fin 4} {x : Int64} (hd : decode J.2.1 pc = .ok (.lload_n i, 1)) (hl : ls[(i : Nat)]? = some (some (.long x))) (k : Wm d b J (pc + 1) ls (.long x :: st) h Q) : Wm d b J pc ls st h Q :=
  m_load hl (fun _ _ _ _ _ _ _ _ _ _ _ _ _ _ _ _ _ hx hb hl kk => lv_lload_n hx hb hd rfl hl kk) k
theorem m_aload {i : Nat} {x : Nat} (hd : decode J.2.1 pc = .ok (.aload i, 2)) (hl : ls[i]? = some (some (.ref x))) (k : Wm d b J (pc + 2) ls (.ref x :: st) h Q) : Wm d b J pc ls st h Q :=
  m_load hl (fun _ _ _ _ _ _ _ _ _ _ _ _ _ _ _ _ _ hx hb hl kk => lv_aload hx hb hd hl kk) k
theorem m_aload_n {i : Fin 4} {x : Nat} (hd : decode J.2.1 pc = .ok (.aload_n i, 1)) (hl : ls[(i : Nat)]? = some (some (.ref x))) (k : Wm d b J (pc + 1) ls (.ref x :: st) h Q) : Wm d b J pc ls st h Q :=
  m_load hl (fun _ _ _ _ _ _ _ _ _ _ _ _ _ _ _ _ _ hx hb hl kk => lv_aload_n hx hb hd rfl hl kk) k
theorem m_aloadN {i : Nat} (hd : decode J.2.1 pc = .ok (.aload i, 2)) (hl : ls[i]? = some (some .null)) (k : Wm d b J (pc + 2) ls (.null :: st) h Q) : Wm d b J pc ls st h Q :=
  m_load hl (fun _ _ _ _ _ _ _ _ _ _ _ _ _ _ _ _ _ hx hb hl kk => lv_aloadN hx hb hd hl kk) k
theorem m_aload_nN {i : Fin 4} (hd : decode J.2.1 pc = .ok (.aload_n i, 1)) (hl : ls[(i : Nat)]? = some (some .null)) (k : Wm d b J (pc + 1) ls (.null :: st) h Q) : Wm d b J pc ls st h Q :=
  m_load hl (fun _ _ _ _ _ _ _ _ _ _ _ _ _ _ _ _ _ hx hb hl kk => lv_aload_nN hx hb hd rfl hl kk) k
theorem m_istore {i : Nat} {x : Int32} {ls2 : List (Option Value)} (hd : decode J.2.1 pc = .ok (.istore i, 2)) (hn : i < J.2.2.1) (hls : m_st1 ls i (.int x) = ls2) (k : Wm d b J (pc + 2) ls2 st h Q) : Wm d b J pc ls (.int x :: st) h Q :=
  m_store1 hls (fun _ _ _ _ _ _ _ _ _ _ _ _ _ _ _ _ _ hx hb hl kk => lv_istore hx hb hd (m_L_has hl) hn rfl kk) k
theorem m_istore_n {i : Fin 4} {x : Int32} {ls2 : List (Option Value)} (hd : decode J.2.1 pc = .ok (.istore_n i, 1)) (hn : (i : Nat) < J.2.2.1) (hls : m_st1 ls (i : Nat) (.int x) = ls2) (k : Wm d b J (pc + 1) ls2 st h Q) : Wm d b J pc ls (.int x :: st) h Q :=
  m_store1 hls (fun _ _ _ _ _ _ _ _ _ _ _ _ _ _ _ _ _ hx hb hl kk => lv_istore_n hx hb hd rfl (m_L_has hl) hn rfl kk) k
theorem m_astore {i : Nat} {x : Nat} {ls2 : List (Option Value)} (hd : decode J.2.1 pc = .ok (.astore i, 2)) (hn : i < J.2.2.1) (hls : m_st1 ls i (.ref x) = ls2) (k : Wm d b J (pc + 2) ls2 st h Q) : Wm d b J pc ls (.ref x :: st) h Q :=
  m_store1 hls (fun _ _ _ _ _ _ _ _ _ _ _ _ _ _ _ _ _ hx hb hl kk => lv_astore hx hb hd (m_L_has hl) hn rfl kk) k
theorem m_astore_n {i : Fin 4} {x : Nat} {ls2 : List (Option Value)} (hd : decode J.2.1 pc = .ok (.astore_n i, 1)) (hn : (i : Nat) < J.2.2.1) (hls : m_st1 ls (i : Nat) (.ref x) = ls2) (k : Wm d b J (pc + 1) ls2 st h Q) : Wm d b J pc ls (.ref x :: st) h Q :=
  m_store1 hls (fun _ _ _ _ _ _ _ _ _ _ _ _ _ _ _ _ _ hx hb hl kk => lv_astore_n hx hb hd rfl (m_L_has hl) hn rfl kk) k
theorem m_astoreN {i : Nat} {ls2 : List (Option Value)} (hd : decode J.2.1 pc = .ok (.astore i, 2)) (hn : i < J.2.2.1) (hls : m_st1 ls i .null = ls2) (k : Wm d b J (pc + 2) ls2 st h Q) : Wm d b J pc ls (.null :: st) h Q :=
  m_store1 hls (fun _ _ _ _ _ _ _ _ _ _ _ _ _ _ _ _ _ hx hb hl kk => lv_astoreN hx hb hd (m_L_has hl) hn rfl kk) k
theorem m_astore_nN {i : Fin 4} {ls2 : List (Option Value)} (hd : decode J.2.1 pc = .ok (.astore_n i, 1)) (hn : (i : Nat) < J.2.2.1) (hls : m_st1 ls (i : Nat) .null = ls2) (k : Wm d b J (pc + 1) ls2 st h Q) : Wm d b J pc ls (.null :: st) h Q :=
  m_store1 hls (fun _ _ _ _ _ _ _ _ _ _ _ _ _ _ _ _ _ hx hb hl kk => lv_astore_nN hx hb hd rfl (m_L_has hl) hn rfl kk) k
theorem m_lstore {i : Nat} {x : Int64} {ls2 : List (Option Value)} (hd : decode J.2.1 pc = .ok (.lstore i, 2)) (hn : i + 1 < J.2.2.1) (hls : m_st2 ls i (.long x) = ls2) (k : Wm d b J (pc + 2) ls2 st h Q) : Wm d b J pc ls (.long x :: st) h Q :=
  m_store2 hls (fun _ _ _ _ _ _ _ _ _ _ _ _ _ _ _ _ _ hx hb hl kk => lv_lstore hx hb hd (m_L_has hl) hn rfl kk) k
theorem m_lstore_n {i : Fin 4} {x : Int64} {ls2 : List (Option Value)} (hd : decode J.2.1 pc = .ok (.lstore_n i, 1)) (hn : (i : Nat) + 1 < J.2.2.1) (hls : m_st2 ls (i : Nat) (.long x) = ls2) (k : Wm d b J (pc + 1) ls2 st h Q) : Wm d b J pc ls (.long x :: st) h Q :=
  m_store2 hls (fun _ _ _ _ _ _ _ _ _ _ _ _ _ _ _ _ _ hx hb hl kk => lv_lstore_n hx hb hd rfl (m_L_has hl) hn rfl kk) k
theorem m_iinc {i : Nat} {n : Int} {x v : Int32} {ls2 : List (Option Value)} (hd : decode J.2.1 pc = .ok (.iinc i n, 3)) (hn : i < J.2.2.1) (hl0 : ls[i]? = some (some (.int x))) (hv : x + Int32.ofInt n = v) (hls : m_st1 ls i (.int v) = ls2) (k : Wm d b J (pc + 3) ls2 st h Q) : Wm d b J pc ls st h Q := by
  obtain ⟨r, h', q, w⟩ := k
  refine ⟨r, h', q, ?_⟩
  intro g p l e R s m args below meth c H locs cells slots Qk lsm C hR hl hc1 hc2 he
  obtain ⟨k0, hk0⟩ := List.getElem?_of_mem (m_al_in (g := g) hl0)
  exact lv_iinc C.1 C.2.1 hd (m_L_has hl) hk0 hv hn rfl (fun ls' h2 => w g p l e R s m args below meth c H locs cells slots Qk ls' C hR (hls ▸ m_L_st1 (v := .int v) h2) hc1 hc2 he)
theorem m_goto {off : Int} (tgt : Nat) (hd : decode J.2.1 pc = .ok (.goto off, 3)) (ht : (pc : Int) + off = (tgt : Int)) (k : Wm d b J tgt ls st h Q) : Wm d b J pc ls st h Q :=
  m_step (fun _ _ _ _ _ _ _ _ _ _ _ _ _ _ _ _ _ hx hb kk => lv_goto hx hb hd ht kk) k
theorem m_if_eq {x : Int32} {off : Int} (tgt : Nat) (hd : decode J.2.1 pc = .ok (.ifCond .eq off, 3)) (ht : (pc : Int) + off = (tgt : Int)) (kt : x = 0 → Wm d b J tgt ls st h Q) (kf : ¬ (x = 0) → Wm d b J (pc + 3) ls st h Q) : Wm d b J pc ls (.int x :: st) h Q := by
  by_cases hP : ¬ (x = 0)
  · exact m_step (fun _ _ _ _ _ _ _ _ _ _ _ _ _ _ _ _ _ hx hb kk => lv_if_eq hx hb hd ht (fun q => absurd q hP) (fun _ => kk)) (kf hP)
  · exact m_step (fun _ _ _ _ _ _ _ _ _ _ _ _ _ _ _ _ _ hx hb kk => lv_if_eq hx hb hd ht (fun _ => kk) (fun q => absurd q hP)) (kt (Classical.not_not.mp hP))
theorem m_icmp_eq {x y : Int32} {off : Int} (tgt : Nat) (hd : decode J.2.1 pc = .ok (.if_icmp .eq off, 3)) (ht : (pc : Int) + off = (tgt : Int)) (kt : x = y → Wm d b J tgt ls st h Q) (kf : ¬ (x = y) → Wm d b J (pc + 3) ls st h Q) : Wm d b J pc ls (.int y :: .int x :: st) h Q := by
  by_cases hP : ¬ (x = y)
  · exact m_step (fun _ _ _ _ _ _ _ _ _ _ _ _ _ _ _ _ _ hx hb kk => lv_icmp_eq hx hb hd ht (fun q => absurd q hP) (fun _ => kk)) (kf hP)
  · exact m_step (fun _ _ _ _ _ _ _ _ _ _ _ _ _ _ _ _ _ hx hb kk => lv_icmp_eq hx hb hd ht (fun _ => kk) (fun q => absurd q hP)) (kt (Classical.not_not.mp hP))
theorem m_if_ne {x : Int32} {off : Int} (tgt : Nat) (hd : decode J.2.1 pc = .ok (.ifCond .ne off, 3)) (ht : (pc : Int) + off = (tgt : Int)) (kt : ¬ x = 0 → Wm d b J tgt ls st h Q) (kf : x = 0 → Wm d b J (pc + 3) ls st h Q) : Wm d b J pc ls (.int x :: st) h Q := by
  by_cases hP : x = 0
  · exact m_step (fun _ _ _ _ _ _ _ _ _ _ _ _ _ _ _ _ _ hx hb kk => lv_if_ne hx hb hd ht (fun q => absurd hP q) (fun _ => kk)) (kf hP)
  · exact m_step (fun _ _ _ _ _ _ _ _ _ _ _ _ _ _ _ _ _ hx hb kk => lv_if_ne hx hb hd ht (fun _ => kk) (fun q => absurd q hP)) (kt hP)
theorem m_icmp_ne {x y : Int32} {off : Int} (tgt : Nat) (hd : decode J.2.1 pc = .ok (.if_icmp .ne off, 3)) (ht : (pc : Int) + off = (tgt : Int)) (kt : ¬ x = y → Wm d b J tgt ls st h Q) (kf : x = y → Wm d b J (pc + 3) ls st h Q) : Wm d b J pc ls (.int y :: .int x :: st) h Q := by
  by_cases hP : x = y
  · exact m_step (fun _ _ _ _ _ _ _ _ _ _ _ _ _ _ _ _ _ hx hb kk => lv_icmp_ne hx hb hd ht (fun q => absurd hP q) (fun _ => kk)) (kf hP)
  · exact m_step (fun _ _ _ _ _ _ _ _ _ _ _ _ _ _ _ _ _ hx hb kk => lv_icmp_ne hx hb hd ht (fun _ => kk) (fun q => absurd q hP)) (kt hP)
theorem m_if_lt {x : Int32} {off : Int} (tgt : Nat) (hd : decode J.2.1 pc = .ok (.ifCond .lt off, 3)) (ht : (pc : Int) + off = (tgt : Int)) (kt : x < 0 → Wm d b J tgt ls st h Q) (kf : ¬ (x < 0) → Wm d b J (pc + 3) ls st h Q) : Wm d b J pc ls (.int x :: st) h Q := by
  by_cases hP : ¬ (x < 0)
  · exact m_step (fun _ _ _ _ _ _ _ _ _ _ _ _ _ _ _ _ _ hx hb kk => lv_if_lt hx hb hd ht (fun q => absurd q hP) (fun _ => kk)) (kf hP)
  · exact m_step (fun _ _ _ _ _ _ _ _ _ _ _ _ _ _ _ _ _ hx hb kk => lv_if_lt hx hb hd ht (fun _ => kk) (fun q => absurd q hP)) (kt (Classical.not_not.mp hP))
theorem m_icmp_lt {x y : Int32} {off : Int} (tgt : Nat) (hd : decode J.2.1 pc = .ok (.if_icmp .lt off, 3)) (ht : (pc : Int) + off = (tgt : Int)) (kt : x < y → Wm d b J tgt ls st h Q) (kf : ¬ (x < y) → Wm d b J (pc + 3) ls st h Q) : Wm d b J pc ls (.int y :: .int x :: st) h Q := by
  by_cases hP : ¬ (x < y)
  · exact m_step (fun _ _ _ _ _ _ _ _ _ _ _ _ _ _ _ _ _ hx hb kk => lv_icmp_lt hx hb hd ht (fun q => absurd q hP) (fun _ => kk)) (kf hP)
  · exact m_step (fun _ _ _ _ _ _ _ _ _ _ _ _ _ _ _ _ _ hx hb kk => lv_icmp_lt hx hb hd ht (fun _ => kk) (fun q => absurd q hP)) (kt (Classical.not_not.mp hP))
theorem m_if_ge {x : Int32} {off : Int} (tgt : Nat) (hd : decode J.2.1 pc = .ok (.ifCond .ge off, 3)) (ht : (pc : Int) + off = (tgt : Int)) (kt : 0 ≤ x → Wm d b J tgt ls st h Q) (kf : ¬ (0 ≤ x) → Wm d b J (pc + 3) ls st h Q) : Wm d b J pc ls (.int x :: st) h Q := by
  by_cases hP : ¬ (0 ≤ x)
  · exact m_step (fun _ _ _ _ _ _ _ _ _ _ _ _ _ _ _ _ _ hx hb kk => lv_if_ge hx hb hd ht (fun q => absurd q hP) (fun _ => kk)) (kf hP)
  · exact m_step (fun _ _ _ _ _ _ _ _ _ _ _ _ _ _ _ _ _ hx hb kk => lv_if_ge hx hb hd ht (fun _ => kk) (fun q => absurd q hP)) (kt (Classical.not_not.mp hP))
theorem m_icmp_ge {x y : Int32} {off : Int} (tgt : Nat) (hd : decode J.2.1 pc = .ok (.if_icmp .ge off, 3)) (ht : (pc : Int) + off = (tgt : Int)) (kt : y ≤ x → Wm d b J tgt ls st h Q) (kf : ¬ (y ≤ x) → Wm d b J (pc + 3) ls st h Q) : Wm d b J pc ls (.int y :: .int x :: st) h Q := by
  by_cases hP : ¬ (y ≤ x)
  · exact m_step (fun _ _ _ _ _ _ _ _ _ _ _ _ _ _ _ _ _ hx hb kk => lv_icmp_ge hx hb hd ht (fun q => absurd q hP) (fun _ => kk)) (kf hP)
  · exact m_step (fun _ _ _ _ _ _ _ _ _ _ _ _ _ _ _ _ _ hx hb kk => lv_icmp_ge hx hb hd ht (fun _ => kk) (fun q => absurd q hP)) (kt (Classical.not_not.mp hP))
theorem m_if_gt {x : Int32} {off : Int} (tgt : Nat) (hd : decode J.2.1 pc = .ok (.ifCond .gt off, 3)) (ht : (pc : Int) + off = (tgt : Int)) (kt : 0 < x → Wm d b J tgt ls st h Q) (kf : ¬ (0 < x) → Wm d b J (pc + 3) ls st h Q) : Wm d b J pc ls (.int x :: st) h Q := by
  by_cases hP : ¬ (0 < x)
  · exact m_step (fun _ _ _ _ _ _ _ _ _ _ _ _ _ _ _ _ _ hx hb kk => lv_if_gt hx hb hd ht (fun q => absurd q hP) (fun _ => kk)) (kf hP)
  · exact m_step (fun _ _ _ _ _ _ _ _ _ _ _ _ _ _ _ _ _ hx hb kk => lv_if_gt hx hb hd ht (fun _ => kk) (fun q => absurd q hP)) (kt (Classical.not_not.mp hP))
theorem m_icmp_gt {x y : Int32} {off : Int} (tgt : Nat) (hd : decode J.2.1 pc = .ok (.if_icmp .gt off, 3)) (ht : (pc : Int) + off = (tgt : Int)) (kt : y < x → Wm d b J tgt ls st h Q) (kf : ¬ (y < x) → Wm d b J (pc + 3) ls st h Q) : Wm d b J pc ls (.int y :: .int x :: st) h Q := by
  by_cases hP : ¬ (y < x)
  · exact m_step (fun _ _ _ _ _ _ _ _ _ _ _ _ _ _ _ _ _ hx hb kk => lv_icmp_gt hx hb hd ht (fun q => absurd q hP) (fun _ => kk)) (kf hP)
  · exact m_step (fun _ _ _ _ _ _ _ _ _ _ _ _ _ _ _ _ _ hx hb kk => lv_icmp_gt hx hb hd ht (fun _ => kk) (fun q => absurd q hP)) (kt (Classical.not_not.mp hP))
theorem m_if_le {x : Int32} {off : Int} (tgt : Nat) (hd : decode J.2.1 pc = .ok (.ifCond .le off, 3)) (ht : (pc : Int) + off = (tgt : Int)) (kt : x ≤ 0 → Wm d b J tgt ls st h Q) (kf : ¬ (x ≤ 0) → Wm d b J (pc + 3) ls st h Q) : Wm d b J pc ls (.int x :: st) h Q := by
  by_cases hP : ¬ (x ≤ 0)
  · exact m_step (fun _ _ _ _ _ _ _ _ _ _ _ _ _ _ _ _ _ hx hb kk => lv_if_le hx hb hd ht (fun q => absurd q hP) (fun _ => kk)) (kf hP)
  · exact m_step (fun _ _ _ _ _ _ _ _ _ _ _ _ _ _ _ _ _ hx hb kk => lv_if_le hx hb hd ht (fun _ => kk) (fun q => absurd q hP)) (kt (Classical.not_not.mp hP))
theorem m_icmp_le {x y : Int32} {off : Int} (tgt : Nat) (hd : decode J.2.1 pc = .ok (.if_icmp .le off, 3)) (ht : (pc : Int) + off = (tgt : Int)) (kt : x ≤ y → Wm d b J tgt ls st h Q) (kf : ¬ (x ≤ y) → Wm d b J (pc + 3) ls st h Q) : Wm d b J pc ls (.int y :: .int x :: st) h Q := by
  by_cases hP : ¬ (x ≤ y)
  · exact m_step (fun _ _ _ _ _ _ _ _ _ _ _ _ _ _ _ _ _ hx hb kk => lv_icmp_le hx hb hd ht (fun q => absurd q hP) (fun _ => kk)) (kf hP)
  · exact m_step (fun _ _ _ _ _ _ _ _ _ _ _ _ _ _ _ _ _ hx hb kk => lv_icmp_le hx hb hd ht (fun _ => kk) (fun q => absurd q hP)) (kt (Classical.not_not.mp hP))
theorem m_ifnonnull {x : Nat} {off : Int} (tgt : Nat) (hd : decode J.2.1 pc = .ok (.ifnonnull off, 3)) (ht : (pc : Int) + off = (tgt : Int)) (k : Wm d b J tgt ls st h Q) : Wm d b J pc ls (.ref x :: st) h Q :=
  m_step (fun _ _ _ _ _ _ _ _ _ _ _ _ _ _ _ _ _ hx hb kk => lv_ifnonnull hx hb hd ht kk) k
theorem m_ifnonnullN {off : Int} (hd : decode J.2.1 pc = .ok (.ifnonnull off, 3)) (k : Wm d b J (pc + 3) ls st h Q) : Wm d b J pc ls (.null :: st) h Q :=
  m_step (fun _ _ _ _ _ _ _ _ _ _ _ _ _ _ _ _ _ hx hb kk => lv_ifnonnullN hx hb hd kk) k
theorem m_ifnull {x : Nat} {off : Int} (hd : decode J.2.1 pc = .ok (.ifnull off, 3)) (k : Wm d b J (pc + 3) ls st h Q) : Wm d b J pc ls (.ref x :: st) h Q :=
  m_step (fun _ _ _ _ _ _ _ _ _ _ _ _ _ _ _ _ _ hx hb kk => lv_ifnull hx hb hd kk) k
theorem m_ifnullN {off : Int} (tgt : Nat) (hd : decode J.2.1 pc = .ok (.ifnull off, 3)) (ht : (pc : Int) + off = (tgt : Int)) (k : Wm d b J tgt ls st h Q) : Wm d b J pc ls (.null :: st) h Q :=
  m_step (fun _ _ _ _ _ _ _ _ _ _ _ _ _ _ _ _ _ hx hb kk => lv_ifnullN hx hb hd ht kk) k
theorem m_tableOut {dflt lo hi : Int} {offs : Array Int} {len : Nat} {x : Int32} (tgt : Nat) (hd : decode J.2.1 pc = .ok (.tableswitch dflt lo hi offs, len)) (hq : x.toInt < lo ∨ hi < x.toInt) (ht : (pc : Int) + dflt = (tgt : Int)) (k : Wm d b J tgt ls st h Q) : Wm d b J pc ls (.int x :: st) h Q :=
  m_step (fun _ _ _ _ _ _ _ _ _ _ _ _ _ _ _ _ _ hx hb kk => lv_tableOut hx hb hd hq ht kk) k
theorem m_tableIn {dflt lo hi : Int} {offs : Array Int} {len : Nat} {x : Int32} {off : Int} (tgt : Nat) (hd : decode J.2.1 pc = .ok (.tableswitch dflt lo hi offs, len)) (h1 : ¬ x.toInt < lo) (h2 : ¬ hi < x.toInt) (ho : offs[(x.toInt - lo).toNat]? = some off) (ht : (pc : Int) + off = (tgt : Int)) (k : Wm d b J tgt ls st h Q) : Wm d b J pc ls (.int x :: st) h Q :=
  m_step (fun _ _ _ _ _ _ _ _ _ _ _ _ _ _ _ _ _ hx hb kk => lv_tableIn hx hb hd h1 h2 ho ht kk) k
theorem m_ireturn {v : Int32} (hd : decode J.2.1 pc = .ok (.ireturn, 1)) (hr : m_rok J.2.2.2.2 (some (.int v))) (hq : Q (some (.int v)) h) : Wm d b J pc ls [.int v] h Q := by
  refine ⟨_, h, hq, ?_⟩
  intro g p l e R s m args below meth c H locs cells slots Qk lsm C hR hl hc1 hc2 he
  exact he pc lsm H locs cells slots hR (by omega) (by omega) hr hd
theorem m_lreturn {v : Int64} (hd : decode J.2.1 pc = .ok (.lreturn, 1)) (hr : m_rok J.2.2.2.2 (some (.long v))) (hq : Q (some (.long v)) h) : Wm d b J pc ls [.long v] h Q := by
  refine ⟨_, h, hq, ?_⟩
  intro g p l e R s m args below meth c H locs cells slots Qk lsm C hR hl hc1 hc2 he
  exact he pc lsm H locs cells slots hR (by omega) (by omega) hr hd
theorem m_areturn {v : Nat} (hd : decode J.2.1 pc = .ok (.areturn, 1)) (hr : m_rok J.2.2.2.2 (some (.ref v))) (hq : Q (some (.ref v)) h) : Wm d b J pc ls [.ref v] h Q := by
  refine ⟨_, h, hq, ?_⟩
  intro g p l e R s m args below meth c H locs cells slots Qk lsm C hR hl hc1 hc2 he
  exact he pc lsm H locs cells slots hR (by omega) (by omega) hr hd
theorem m_areturnN  (hd : decode J.2.1 pc = .ok (.areturn, 1)) (hr : m_rok J.2.2.2.2 (some .null)) (hq : Q (some .null) h) : Wm d b J pc ls [.null] h Q := by
  refine ⟨_, h, hq, ?_⟩
  intro g p l e R s m args below meth c H locs cells slots Qk lsm C hR hl hc1 hc2 he
  exact he pc lsm H locs cells slots hR (by omega) (by omega) hr hd
theorem m_return  (hd : decode J.2.1 pc = .ok (.return_, 1)) (hr : m_rok J.2.2.2.2 (none)) (hq : Q (none) h) : Wm d b J pc ls [] h Q := by
  refine ⟨_, h, hq, ?_⟩
  intro g p l e R s m args below meth c H locs cells slots Qk lsm C hR hl hc1 hc2 he
  exact he pc lsm H locs cells slots hR (by omega) (by omega) hr hd
end Rows
end
section
/-! MINI: rows that read and write the heap -/
theorem m_lays : ∀ (ci : Nat) (r : vw_C), vwCl[ci]? = some r → ∀ w ∈ u_ws r.1 r.2.1 r.2.2, w ∈ mGood := by
  have key : ∀ r ∈ vwCl, ∀ w ∈ u_ws r.1 r.2.1 r.2.2, w ∈ lw_tbl ∧ goodWord w = true := by decide +kernel
  intro ci r hr w hw
  obtain ⟨k1, k2⟩ := key r (List.mem_of_getElem? hr) w hw
  exact List.mem_filter.mpr ⟨List.mem_append_left _ k1, k2⟩
def m_tyOf (ci : Nat) : Nat → FieldType := match ci with
  | 0 => tyX0
  | 1 => tyX1
  | 2 => tyX2
  | 3 => tyX3
  | 4 => tyX4
  | 5 => tyX6
  | 6 => tyX7
  | 7 => tyX8
  | 8 => tyX9
  | 9 => tyX10
  | 10 => tyX11
  | _ => tyX12
theorem m_tyOk (ci : Nat) (r : vw_C) (hr : vwCl[ci]? = some r) : ∀ k, k < r.2.2 → parseFieldDescriptor (r.2.1 k).2.2.1 = some (m_tyOf ci k) := by
  match ci, hr with
  | 0, hr => cases hr; exact tyX0_ok
  | 1, hr => cases hr; exact tyX1_ok
  | 2, hr => cases hr; exact tyX2_ok
  | 3, hr => cases hr; exact tyX3_ok
  | 4, hr => cases hr; exact tyX4_ok
  | 5, hr => cases hr; exact tyX6_ok
  | 6, hr => cases hr; exact tyX7_ok
  | 7, hr => cases hr; exact tyX8_ok
  | 8, hr => cases hr; exact tyX9_ok
  | 9, hr => cases hr; exact tyX10_ok
  | 10, hr => cases hr; exact tyX11_ok
  | 11, hr => cases hr; exact tyX12_ok
  | n + 12, hr => cases hr
theorem m_nmOk (ci : Nat) (r : vw_C) (hr : vwCl[ci]? = some r) : ∀ a, a < r.2.2 → ∀ b, b < r.2.2 → a ≠ b → (r.2.1 a).2.1 ≠ (r.2.1 b).2.1 := by
  match ci, hr with
  | 0, hr => cases hr; exact nmX0
  | 1, hr => cases hr; exact nmX1
  | 2, hr => cases hr; exact nmX2
  | 3, hr => cases hr; exact nmX3
  | 4, hr => cases hr; exact nmX4
  | 5, hr => cases hr; exact nmX6
  | 6, hr => cases hr; exact nmX7
  | 7, hr => cases hr; exact nmX8
  | 8, hr => cases hr; exact nmX9
  | 9, hr => cases hr; exact nmX10
  | 10, hr => cases hr; exact nmX11
  | 11, hr => cases hr; exact nmX12
  | n + 12, hr => cases hr
section Live
variable {g : mG} {H : Heap} {h : mH} {a : Nat}
theorem m_live {c : mC} (hR : m_R0 g H h) (ha : h.1 a = c) (hc : c ≠ m_dead) (h9 : ∀ L xs, c ≠ .inl (9, L, .inl xs)) : ∃ k, a = k + 1 ∧ k + 1 < h.2 := by
  obtain ⟨-, -, -, hd, L, xs, h0⟩ := hR
  match a, ha with
  | 0, ha => exact absurd (ha.symm.trans h0) (h9 L xs)
  | k + 1, ha =>
    refine ⟨k, rfl, ?_⟩
    rcases Nat.lt_or_ge (k + 1) h.2 with q | q
    · exact q
    · exact absurd (ha.symm.trans (hd _ q)) hc
theorem m_live_obj {ci : Nat} {fs : List Value} {r : vw_C} (hR : m_R0 g H h) (ha : h.1 a = .inr (ci, fs)) (hr : vwCl[ci]? = some r) : ∃ k, a = k + 1 ∧ k + 1 < h.2 ∧ (m_ws g h)[k]? = some (g.1 + k, .inr (ci, fs.map (m_v g))) := by
  have hci : ci < 12 := (List.getElem?_eq_some_iff.mp hr).1
  obtain ⟨k, rfl, hk⟩ := m_live hR ha (fun q => by unfold m_dead at q; cases q; exact absurd hci (by decide)) (fun L xs q => by cases q)
  refine ⟨k, rfl, hk, ?_⟩
  rw [m_ws_at g h hk, ha]
  rfl
theorem m_live_arr {t : Nat} {x : vp_A} (hR : m_R0 g H h) (ha : h.1 a = .inl (t, x)) (ht : t < 5) : ∃ k, a = k + 1 ∧ k + 1 < h.2 ∧ (m_ws g h)[k]? = some (g.1 + k, .inl (g.2.2.2 t, m_arr g x)) := by
  obtain ⟨k, rfl, hk⟩ := m_live hR ha (fun q => by unfold m_dead at q; cases q) (fun L xs q => by cases q; exact absurd ht (by decide))
  refine ⟨k, rfl, hk, ?_⟩
  rw [m_ws_at g h hk, ha]
  rfl
/-- a cell of the picture was replaced -/
theorem m_Rel_set {J : mJ} {s : State} {H1 : Heap} {locs locs1 : List Loc} {k : Nat} {c : mC} (hR : m_Rel g J s H locs h) (hk : k + 1 < h.2) (hz : H1.size = H.size) (hP : va_P g.2.2.1 vwCl ((m_ws g h).set k (g.1 + k, m_cell g c)) H1) (hS : va_S (fun q => g.1 ≤ q) s.heap H1 locs1) : m_Rel g J s H1 locs1 (m_up h.1 (k + 1) c, h.2) := by
  obtain ⟨⟨-, h2, h3, h4, L, xs, h5⟩, -, h6⟩ := hR
  have e0 : (m_up h.1 (k + 1) c) 0 = h.1 0 := m_up_n _ _ (by omega)
  refine ⟨⟨?_, ?_, h3, fun j hj => ?_, L, xs, ?_⟩, hS, ?_⟩
  · rw [m_ws_set g h c hk]; exact hP
  · rw [hz]; exact h2
  · have hj : h.2 ≤ j := hj
    show m_up h.1 (k + 1) c j = m_dead
    rw [m_up_n _ _ (by omega)]
    exact h4 j hj
  · show m_up h.1 (k + 1) c 0 = _
    rw [e0]; exact h5
  · intro hJ L2 xs2 hx
    refine h6 hJ L2 xs2 ?_
    rw [← e0]; exact hx
/-- a cell was made -/
theorem m_Rel_push {J : mJ} {s : State} {H1 : Heap} {locs : List Loc} {c : mC} (hR : m_Rel g J s H locs h) (hz : H1.size = H.size + 1) (hP : va_P g.2.2.1 vwCl (m_ws g h ++ [(g.1 + (h.2 - 1), m_cell g c)]) H1) (hS : va_S (fun q => g.1 ≤ q) s.heap H1 locs) : m_Rel g J s H1 locs (m_up h.1 h.2 c, h.2 + 1) := by
  obtain ⟨⟨-, h2, h3, h4, L, xs, h5⟩, -, h6⟩ := hR
  have e0 : (m_up h.1 h.2 c) 0 = h.1 0 := m_up_n _ _ (by omega)
  refine ⟨⟨?_, ?_, ?_, fun j hj => ?_, L, xs, ?_⟩, hS, ?_⟩
  · rw [m_ws_push g h c h3]; exact hP
  · show H1.size + 1 = g.1 + (h.2 + 1)
    omega
  · show 1 ≤ h.2 + 1
    omega
  · have hj : h.2 + 1 ≤ j := hj
    show m_up h.1 h.2 c j = m_dead
    rw [m_up_n _ _ (by omega)]
    exact h4 j (by omega)
  · show m_up h.1 h.2 c 0 = _
    rw [e0]; exact h5
  · intro hJ L2 xs2 hx
    refine h6 hJ L2 xs2 ?_
    rw [← e0]; exact hx
end Live
theorem m_ad_s (g : mG) (k : Nat) : m_ad g (k + 1) = g.1 + k := rfl
-- certificates of field links
def m_fl (own : String) (idx k : Nat) (cis : List Nat) : Prop := ∀ ci ∈ cis, ∃ (r : vw_C) (ref : String), vwCl[ci]? = some r ∧ k < r.2.2 ∧ Cond.fieldLink own idx ref (r.2.1 k).2.1 (r.2.1 k).2.2.1 ∈ mGood ∧ (ref = (r.2.1 k).1 ∨ Cond.sameField ref (r.2.1 k).1 (r.2.1 k).2.1 (r.2.1 k).2.2.1 ∈ mGood)
def m_pl (own : String) (idx k : Nat) (ci : Nat) (fin : Bool) : Prop := ∃ (r : vw_C), vwCl[ci]? = some r ∧ k < r.2.2 ∧ Cond.fieldLink own idx (r.2.1 k).1 (r.2.1 k).2.1 (r.2.1 k).2.2.1 ∈ mGood ∧ (r.2.1 k).2.2.2 = fin ∧ (fin = true → (r.2.1 k).1 = own)
def m_fld (h : mH) (a : Nat) (cis : List Nat) (k : Nat) : Option Value := match h.1 a with
  | .inr (ci, fs) => if cis.contains ci = true then fs[k]? else none
  | _ => none
theorem m_fld_some {h : mH} {a k : Nat} {cis : List Nat} {v : Value} (hv : m_fld h a cis k = some v) : ∃ ci fs, h.1 a = .inr (ci, fs) ∧ ci ∈ cis ∧ fs[k]? = some v := by
  unfold m_fld at hv
  split at hv
  · rename_i ci fs he
    split at hv
    · rename_i hc
      exact ⟨ci, fs, he, List.contains_iff_mem.mp hc, hv⟩
    · cases hv
  · cases hv
def m_put (h : mH) (a : Nat) (ci k : Nat) (v : Value) : Option mH := match h.1 a with
  | .inr (ci', fs) => if ci' = ci ∧ k < fs.length then some (m_up h.1 a (.inr (ci, fs.set k v)), h.2) else none
  | _ => none
theorem m_put_some {h h1 : mH} {a ci k : Nat} {v : Value} (hv : m_put h a ci k v = some h1) : ∃ fs, h.1 a = .inr (ci, fs) ∧ k < fs.length ∧ h1 = (m_up h.1 a (.inr (ci, fs.set k v)), h.2) := by
  unfold m_put at hv
  split at hv
  · rename_i ci' fs he
    split at hv
    · rename_i hc
      obtain ⟨rfl, hk⟩ := hc
      exact ⟨fs, he, hk, (Option.some.inj hv).symm⟩
    · cases hv
  · cases hv
def m_vfit (t : FieldType) (v : Value) : Prop := match t, v with
  | .int, .int _ => True
  | .long, .long _ => True
  | .object _, .ref _ => True
  | .array _, .ref _ => True
  | _, _ => False
theorem m_vfit_ok {t : FieldType} {v : Value} (g : mG) (h : m_vfit t v) : narrow t (m_v g v) = m_v g v ∧ fits t (m_v g v) = true := by
  unfold m_vfit at h
  split at h
  · exact ⟨rfl, rfl⟩
  · exact ⟨rfl, rfl⟩
  · exact ⟨rfl, rfl⟩
  · exact ⟨rfl, rfl⟩
  · exact h.elim
section HRows
variable {d : Nat} {b : Nat × Nat} {J : mJ} {pc : Nat} {ls : List (Option Value)} {st : List Value} {h : mH} {Q : Option Value → mH → Prop} {a : Nat}
theorem m_get {idx k : Nat} {cis : List Nat} {v : Value} (hf : m_fl J.1 idx k cis) (hd : decode J.2.1 pc = .ok (.getfield idx, 3)) (hv : m_fld h a cis k = some v) (kk : Wm d b J (pc + 3) ls (v :: st) h Q) : Wm d b J pc ls (.ref a :: st) h Q := by
  obtain ⟨r, h', q, w⟩ := kk
  refine ⟨r, h', q, ?_⟩
  intro g p l e R s m args below meth c H locs cells slots Qk lsm C hR hl hc1 hc2 he
  obtain ⟨ci, fs, h1, h2, h3⟩ := m_fld_some hv
  obtain ⟨x, ref, x1, x2, x3, x4⟩ := hf ci h2
  obtain ⟨j, rfl, j1, j2⟩ := m_live_obj hR.1 h1 x1
  obtain ⟨hx, hb, hml, hown, hts, -, -, hK, -, -⟩ := id C
  refine va_get (D := g.2.2.1) (cl := vwCl) (tys := m_tys g) (ws := m_ws g h) (C := x.1) (T := x.2.1) (N := x.2.2) (ref := ref) hx hb hts (m_lays ci x x1) hown hK.1 hR.1.1 j j2 x1 k x2 (hts _ x3) ?_ (v := m_v g v) (by rw [List.getElem?_map, h3]; rfl) hd (w g p l e R s m args below meth c H locs cells slots Qk lsm C hR hl hc1 hc2 he)
  intro y hy
  rcases x4 with rfl | x4
  · exact hy
  · exact u_same (hts _ x4) y hy
theorem m_putf {idx k ci : Nat} {v : Value} {h1 : mH} (hf : m_pl J.1 idx k ci false) (hd : decode J.2.1 pc = .ok (.putfield idx, 3)) (ht : m_vfit (m_tyOf ci k) v) (hv : m_put h a ci k v = some h1) (kk : Wm d b J (pc + 3) ls st h1 Q) : Wm d b J pc ls (v :: .ref a :: st) h Q := by
  obtain ⟨r, h', q, w⟩ := kk
  refine ⟨r, h', q, ?_⟩
  intro g p l e R s m args below meth c H locs cells slots Qk lsm C hR hl hc1 hc2 he
  obtain ⟨fs, y1, y2, rfl⟩ := m_put_some hv
  obtain ⟨x, x1, x2, x3, x4, -⟩ := hf
  obtain ⟨j, rfl, j1, j2⟩ := m_live_obj hR.1 y1 x1
  obtain ⟨hx, hb, hml, hown, hts, -, -, hK, -, -⟩ := id C
  obtain ⟨t1, t2⟩ := m_vfit_ok g ht
  have hP := hR.1.1
  have hap := va_apart (own := J.1) hts (m_lays ci x x1) (m_tyOf ci) (m_tyOk ci x x1) (m_nmOk ci x x1) hK.1 x1
  obtain ⟨x', e0, cell, q1, q2, q3, q4⟩ := hP j _ j2
  cases e0.symm.trans x1
  obtain ⟨hSl, hfc, kC, hkC, hkind⟩ := hK.1.1 ci _ x1
  obtain ⟨cf, kf, fi, f, hi, hsl⟩ := hSl k x2
  have hlay := hts _ (m_lays ci x x1 _ (u_in_lay x2))
  unfold u_lay at hlay
  rw [if_neg (by rw [x4]; decide)] at hlay
  have hst := (u_facts hfc hkC (u_lays hts (m_lays ci x x1) x2) hi).1
  have h6 := u_store hfc hkC hkind hlay hi (m_tyOk ci x x1 k x2) t1 t2
  refine W.putK hx hb (f := f) ⟨hown, hts _ x3, ⟨_, _, _, hi⟩, hst⟩ (by rw [q2]; exact h6) q1 q3 (by rw [hsl]; exact k2_hasslot (q4 k x2)) rfl rfl hd fun H1 e1 e2 e3 => ?_
  rw [hsl] at e1 ⊢
  refine w g p l e R s m args below meth c H1 _ cells slots Qk lsm C (m_Rel_set hR j1 e2 (hP.set (m_D g h) j2 ⟨_, x1, t_OB.to (V := updV (vp_V (fs.map (m_v g))) k (m_v g v)) ⟨_, e1, q2, q3, t_set q4 hap x2 (m_v g v)⟩ (fun i _ => ?_)⟩ e3) (hR.2.1.put e2 e3 (Nat.le_add_right _ _))) hl hc1 hc2 he
  rw [List.map_set]
  exact vp_updV_set (by simpa using y2) (m_v g v) i
theorem m_putfF {idx k ci : Nat} {v : Value} {h1 : mH} (hf : m_pl J.1 idx k ci true) (hini : J.2.2.2.1 = true) (hd : decode J.2.1 pc = .ok (.putfield idx, 3)) (ht : m_vfit (m_tyOf ci k) v) (hv : m_put h a ci k v = some h1) (kk : Wm d b J (pc + 3) ls st h1 Q) : Wm d b J pc ls (v :: .ref a :: st) h Q := by
  obtain ⟨r, h', q, w⟩ := kk
  refine ⟨r, h', q, ?_⟩
  intro g p l e R s m args below meth c H locs cells slots Qk lsm C hR hl hc1 hc2 he
  obtain ⟨fs, y1, y2, rfl⟩ := m_put_some hv
  obtain ⟨x, x1, x2, x3, x4, x5⟩ := hf
  obtain ⟨j, rfl, j1, j2⟩ := m_live_obj hR.1 y1 x1
  obtain ⟨hx, hb, hml, hown, hts, -, -, hK, -, hnm⟩ := id C
  obtain ⟨t1, t2⟩ := m_vfit_ok g ht
  have hP := hR.1.1
  have hap := va_apart (own := J.1) hts (m_lays ci x x1) (m_tyOf ci) (m_tyOk ci x x1) (m_nmOk ci x x1) hK.1 x1
  obtain ⟨x', e0, cell, q1, q2, q3, q4⟩ := hP j _ j2
  cases e0.symm.trans x1
  obtain ⟨hSl, hfc, kC, hkC, hkind⟩ := hK.1.1 ci _ x1
  obtain ⟨cf, kf, fi, f, hi, hsl⟩ := hSl k x2
  have hlay := hts _ (m_lays ci x x1 _ (u_in_lay x2))
  unfold u_lay at hlay
  rw [if_pos x4] at hlay
  have hst := (u_facts hfc hkC (u_lays hts (m_lays ci x x1) x2) hi).1
  have hcf : m.cls = cf := by
    obtain ⟨_, _, c', _, _, _, -, -, hf', -, -, -, hown2, -⟩ := Cond.laysFinal_spec hlay
    have e1 : c' = cf := by have := hi.symm.trans hf'; simp at this; exact this.1.symm
    rw [x5 rfl] at hown2
    rw [← e1]; exact Option.some.inj (hown.symm.trans hown2)
  have h6 := u_fits hfc hkC hkind (Or.inr hlay) hi (m_tyOk ci x x1 k x2) t1 t2
  refine W.putFinK hx hb hown (hts _ x3) hi hst hcf (hnm hini) (by rw [q2]; exact h6) q1 q3 (by rw [hsl]; exact k2_hasslot (q4 k x2)) rfl rfl hd fun H1 e1 e2 e3 => ?_
  rw [hsl] at e1 ⊢
  refine w g p l e R s m args below meth c H1 _ cells slots Qk lsm C (m_Rel_set hR j1 e2 (hP.set (m_D g h) j2 ⟨_, x1, t_OB.to (V := updV (vp_V (fs.map (m_v g))) k (m_v g v)) ⟨_, e1, q2, q3, t_set q4 hap x2 (m_v g v)⟩ (fun i _ => ?_)⟩ e3) (hR.2.1.put e2 e3 (Nat.le_add_right _ _))) hl hc1 hc2 he
  rw [List.map_set]
  exact vp_updV_set (by simpa using y2) (m_v g v) i
end HRows
end
section
/-! MINI: arrays -/
theorem m_setI (cA : ClassId) (n k : Nat) (f : Nat → Int32) (x : Int32) : (vp_cell cA (n, .inl f)).setSlot k (.int x) = vp_cell cA (n, .inl (upd f k x)) := by
  rw [vp_cell_i, vp_cell_i, arrV_store]
  congr 1
  funext q
  by_cases hq : q = k <;> simp [updV, upd, hq]
theorem m_setL (cA : ClassId) (n k : Nat) (f : Nat → Int64) (x : Int64) : (vp_cell cA (n, .inr (.inl f))).setSlot k (.long x) = vp_cell cA (n, .inr (.inl (vp_updL f k x))) := by
  rw [vp_cell_l, vp_cell_l, arrV_store]
  congr 1
  funext q
  by_cases hq : q = k <;> simp [updV, vp_updL, hq]
theorem m_setQ (cA : ClassId) (n k : Nat) (f : Nat → Option Nat) (x : Option Nat) : (vp_cell cA (n, .inr (.inr (.inr (.inr f))))).setSlot k (va_rf x) = vp_cell cA (n, .inr (.inr (.inr (.inr (va_up f k x))))) := by
  rw [vp_cell_q, vp_cell_q, arrV_store]
  congr 1
  funext q
  by_cases hq : q = k <;> simp [updV, va_up, hq]
def m_len (h : mH) (a : Nat) : Option Nat := match h.1 a with
  | .inl (t, n, _) => if t < 5 then some n else none
  | _ => none
def m_il (h : mH) (a : Nat) (i : Int32) : Option Int32 := match h.1 a with
  | .inl (0, n, .inl f) => if i < 0 ∨ n ≤ i.toNatClampNeg then none else some (f i.toNatClampNeg)
  | _ => none
def m_is (h : mH) (a : Nat) (i x : Int32) : Option mH := match h.1 a with
  | .inl (0, n, .inl f) => if i < 0 ∨ n ≤ i.toNatClampNeg then none else some (m_up h.1 a (.inl (0, n, .inl (upd f i.toNatClampNeg x))), h.2)
  | _ => none
def m_ll (h : mH) (a : Nat) (i : Int32) : Option Int64 := match h.1 a with
  | .inl (1, n, .inr (.inl f)) => if i < 0 ∨ n ≤ i.toNatClampNeg then none else some (f i.toNatClampNeg)
  | _ => none
def m_ls (h : mH) (a : Nat) (i : Int32) (x : Int64) : Option mH := match h.1 a with
  | .inl (1, n, .inr (.inl f)) => if i < 0 ∨ n ≤ i.toNatClampNeg then none else some (m_up h.1 a (.inl (1, n, .inr (.inl (vp_updL f i.toNatClampNeg x)))), h.2)
  | _ => none
def m_zl (h : mH) (a : Nat) (i : Int32) : Option Int32 := match h.1 a with
  | .inl (2, n, .inl f) => if i < 0 ∨ n ≤ i.toNatClampNeg then none else some (f i.toNatClampNeg)
  | _ => none
def m_zs (h : mH) (a : Nat) (i x : Int32) : Option mH := match h.1 a with
  | .inl (2, n, .inl f) => if i < 0 ∨ n ≤ i.toNatClampNeg then none else some (m_up h.1 a (.inl (2, n, .inl (upd f i.toNatClampNeg (vp_nar .boolean x)))), h.2)
  | _ => none
def m_rl (h : mH) (a : Nat) (i : Int32) : Option Value := match h.1 a with
  | .inl (t, n, .inr (.inr (.inr (.inr f)))) => if (t = 3 ∨ t = 4) ∧ ¬ (i < 0 ∨ n ≤ i.toNatClampNeg) then some (va_rf (f i.toNatClampNeg)) else none
  | _ => none
def m_rs (h : mH) (a : Nat) (i : Int32) (v : Value) : Option mH := match h.1 a, v with
  | .inl (3, n, .inr (.inr (.inr (.inr f)))), .ref q => (match h.1 q with
    | .inr (6, _) => if i < 0 ∨ n ≤ i.toNatClampNeg then none else some (m_up h.1 a (.inl (3, n, .inr (.inr (.inr (.inr (va_up f i.toNatClampNeg (some q))))))), h.2)
    | _ => none)
  | .inl (4, n, .inr (.inr (.inr (.inr f)))), .ref q => (match h.1 q with
    | .inr (ci, _) => if i < 0 ∨ n ≤ i.toNatClampNeg then none else if [0, 1, 4, 8, 9].contains ci = true then some (m_up h.1 a (.inl (4, n, .inr (.inr (.inr (.inr (va_up f i.toNatClampNeg (some q))))))), h.2) else none
    | _ => none)
  | .inl (4, n, .inr (.inr (.inr (.inr f)))), .null => if i < 0 ∨ n ≤ i.toNatClampNeg then none else some (m_up h.1 a (.inl (4, n, .inr (.inr (.inr (.inr (va_up f i.toNatClampNeg none)))))), h.2)
  | _, _ => none
theorem m_il_some {h : mH} {a : Nat} {i x : Int32} (hv : m_il h a i = some x) : ∃ n f, h.1 a = .inl (0, n, .inl f) ∧ ¬ (i < 0 ∨ n ≤ i.toNatClampNeg) ∧ x = f i.toNatClampNeg := by
  unfold m_il at hv
  split at hv
  · rename_i n f he
    split at hv
    · cases hv
    · rename_i hc
      exact ⟨n, f, he, hc, (Option.some.inj hv).symm⟩
  · cases hv
theorem m_is_some {h h1 : mH} {a : Nat} {i x : Int32} (hv : m_is h a i x = some h1) : ∃ n f, h.1 a = .inl (0, n, .inl f) ∧ ¬ (i < 0 ∨ n ≤ i.toNatClampNeg) ∧ h1 = (m_up h.1 a (.inl (0, n, .inl (upd f i.toNatClampNeg x))), h.2) := by
  unfold m_is at hv
  split at hv
  · rename_i n f he
    split at hv
    · cases hv
    · rename_i hc
      exact ⟨n, f, he, hc, (Option.some.inj hv).symm⟩
  · cases hv
theorem m_ll_some {h : mH} {a : Nat} {i : Int32} {x : Int64} (hv : m_ll h a i = some x) : ∃ n f, h.1 a = .inl (1, n, .inr (.inl f)) ∧ ¬ (i < 0 ∨ n ≤ i.toNatClampNeg) ∧ x = f i.toNatClampNeg := by
  unfold m_ll at hv
  split at hv
  · rename_i n f he
    split at hv
    · cases hv
    · rename_i hc
      exact ⟨n, f, he, hc, (Option.some.inj hv).symm⟩
  · cases hv
theorem m_ls_some {h h1 : mH} {a : Nat} {i : Int32} {x : Int64} (hv : m_ls h a i x = some h1) : ∃ n f, h.1 a = .inl (1, n, .inr (.inl f)) ∧ ¬ (i < 0 ∨ n ≤ i.toNatClampNeg) ∧ h1 = (m_up h.1 a (.inl (1, n, .inr (.inl (vp_updL f i.toNatClampNeg x)))), h.2) := by
  unfold m_ls at hv
  split at hv
  · rename_i n f he
    split at hv
    · cases hv
    · rename_i hc
      exact ⟨n, f, he, hc, (Option.some.inj hv).symm⟩
  · cases hv
theorem m_zl_some {h : mH} {a : Nat} {i x : Int32} (hv : m_zl h a i = some x) : ∃ n f, h.1 a = .inl (2, n, .inl f) ∧ ¬ (i < 0 ∨ n ≤ i.toNatClampNeg) ∧ x = f i.toNatClampNeg := by
  unfold m_zl at hv
  split at hv
  · rename_i n f he
    split at hv
    · cases hv
    · rename_i hc
      exact ⟨n, f, he, hc, (Option.some.inj hv).symm⟩
  · cases hv
theorem m_zs_some {h h1 : mH} {a : Nat} {i x : Int32} (hv : m_zs h a i x = some h1) : ∃ n f, h.1 a = .inl (2, n, .inl f) ∧ ¬ (i < 0 ∨ n ≤ i.toNatClampNeg) ∧ h1 = (m_up h.1 a (.inl (2, n, .inl (upd f i.toNatClampNeg (vp_nar .boolean x)))), h.2) := by
  unfold m_zs at hv
  split at hv
  · rename_i n f he
    split at hv
    · cases hv
    · rename_i hc
      exact ⟨n, f, he, hc, (Option.some.inj hv).symm⟩
  · cases hv
theorem m_rl_some {h : mH} {a : Nat} {i : Int32} {v : Value} (hv : m_rl h a i = some v) : ∃ t n f, h.1 a = .inl (t, n, .inr (.inr (.inr (.inr f)))) ∧ (t = 3 ∨ t = 4) ∧ ¬ (i < 0 ∨ n ≤ i.toNatClampNeg) ∧ v = va_rf (f i.toNatClampNeg) := by
  unfold m_rl at hv
  split at hv
  · rename_i t n f he
    split at hv
    · rename_i hc
      exact ⟨t, n, f, he, hc.1, hc.2, (Option.some.inj hv).symm⟩
    · cases hv
  · cases hv
theorem m_vrf (g : mG) (x : Option Nat) : m_v g (va_rf x) = va_rf (x.map (m_ad g)) := by cases x <;> rfl
section ARows
variable {d : Nat} {b : Nat × Nat} {J : mJ} {pc : Nat} {ls : List (Option Value)} {st : List Value} {h : mH} {Q : Option Value → mH → Prop} {a : Nat}
theorem m_alen {n : Nat} (hd : decode J.2.1 pc = .ok (.arraylength, 1)) (hv : m_len h a = some n) (kk : Wm d b J (pc + 1) ls (.int (nI n) :: st) h Q) : Wm d b J pc ls (.ref a :: st) h Q := by
  obtain ⟨r, h', q, w⟩ := kk
  refine ⟨r, h', q, ?_⟩
  intro g p l e R s m args below meth c H locs cells slots Qk lsm C hR hl hc1 hc2 he
  obtain ⟨t, x, h1, ht, hn⟩ : ∃ t x, h.1 a = .inl (t, n, x) ∧ t < 5 ∧ True := by
    unfold m_len at hv
    split at hv
    · rename_i t n' x he
      split at hv
      · rename_i hc
        cases hv
        exact ⟨t, x, he, hc, trivial⟩
      · cases hv
    · cases hv
  obtain ⟨j, rfl, j1, j2⟩ := m_live_arr hR.1 h1 ht
  have hl1 : (m_arr g (n, x)).1 = n := by
    unfold m_arr
    split
    · rename_i hh
      cases hh
      rfl
    · rfl
  obtain ⟨ty, hty⟩ : ∃ ty, (m_tys g)[t]? = some (g.2.2.2 t, ty) := by
    match t, ht with
    | 0, _ => exact ⟨_, rfl⟩
    | 1, _ => exact ⟨_, rfl⟩
    | 2, _ => exact ⟨_, rfl⟩
    | 3, _ => exact ⟨_, rfl⟩
    | 4, _ => exact ⟨_, rfl⟩
  exact va_alen C.1 C.2.1 C.2.2.2.2.2.2.2.1.1 hR.1.1 j t j2 hty (v := nI n) (by rw [hl1]; rfl) hd (w g p l e R s m args below meth c H locs cells slots Qk lsm C hR hl hc1 hc2 he)
theorem m_iald {i x : Int32} (hd : decode J.2.1 pc = .ok (.iaload, 1)) (hv : m_il h a i = some x) (kk : Wm d b J (pc + 1) ls (.int x :: st) h Q) : Wm d b J pc ls (.int i :: .ref a :: st) h Q := by
  obtain ⟨r, h', q, w⟩ := kk
  refine ⟨r, h', q, ?_⟩
  intro g p l e R s m args below meth c H locs cells slots Qk lsm C hR hl hc1 hc2 he
  obtain ⟨n, f, h1, hin, rfl⟩ := m_il_some hv
  obtain ⟨j, rfl, j1, j2⟩ := m_live_arr hR.1 h1 (by decide)
  exact va_iald C.1 C.2.1 C.2.2.2.2.2.2.2.1.1 hR.1.1 j 0 (f := f) j2 rfl hin hd (w g p l e R s m args below meth c H locs cells slots Qk lsm C hR hl hc1 hc2 he)
theorem m_lald {i : Int32} {x : Int64} (hd : decode J.2.1 pc = .ok (.laload, 1)) (hv : m_ll h a i = some x) (kk : Wm d b J (pc + 1) ls (.long x :: st) h Q) : Wm d b J pc ls (.int i :: .ref a :: st) h Q := by
  obtain ⟨r, h', q, w⟩ := kk
  refine ⟨r, h', q, ?_⟩
  intro g p l e R s m args below meth c H locs cells slots Qk lsm C hR hl hc1 hc2 he
  obtain ⟨n, f, h1, hin, rfl⟩ := m_ll_some hv
  obtain ⟨j, rfl, j1, j2⟩ := m_live_arr hR.1 h1 (by decide)
  exact va_lald C.1 C.2.1 C.2.2.2.2.2.2.2.1.1 hR.1.1 j 1 (f := f) j2 rfl hin hd (w g p l e R s m args below meth c H locs cells slots Qk lsm C hR hl hc1 hc2 he)
theorem m_zald {i x : Int32} (hd : decode J.2.1 pc = .ok (.baload, 1)) (hv : m_zl h a i = some x) (kk : Wm d b J (pc + 1) ls (.int x :: st) h Q) : Wm d b J pc ls (.int i :: .ref a :: st) h Q := by
  obtain ⟨r, h', q, w⟩ := kk
  refine ⟨r, h', q, ?_⟩
  intro g p l e R s m args below meth c H locs cells slots Qk lsm C hR hl hc1 hc2 he
  obtain ⟨n, f, h1, hin, rfl⟩ := m_zl_some hv
  obtain ⟨j, rfl, j1, j2⟩ := m_live_arr hR.1 h1 (by decide)
  exact va_zald C.1 C.2.1 C.2.2.2.2.2.2.2.1.1 hR.1.1 j 2 (f := f) j2 rfl hin hd (w g p l e R s m args below meth c H locs cells slots Qk lsm C hR hl hc1 hc2 he)
theorem m_aald {i : Int32} {v : Value} (hd : decode J.2.1 pc = .ok (.aaload, 1)) (hv : m_rl h a i = some v) (kk : Wm d b J (pc + 1) ls (v :: st) h Q) : Wm d b J pc ls (.int i :: .ref a :: st) h Q := by
  obtain ⟨r, h', q, w⟩ := kk
  refine ⟨r, h', q, ?_⟩
  intro g p l e R s m args below meth c H locs cells slots Qk lsm C hR hl hc1 hc2 he
  obtain ⟨t, n, f, h1, ht, hin, rfl⟩ := m_rl_some hv
  obtain ⟨j, rfl, j1, j2⟩ := m_live_arr hR.1 h1 (by omega)
  have w2 := w g p l e R s m args below meth c H locs cells slots Qk lsm C hR hl hc1 hc2 he
  rw [List.map_cons, m_vrf] at w2
  rcases ht with rfl | rfl
  · exact va_aldq C.1 C.2.1 C.2.2.2.2.2.2.2.1.1 hR.1.1 j 3 (f := fun k => (f k).map (m_ad g)) j2 rfl hin hd w2
  · exact va_aldq C.1 C.2.1 C.2.2.2.2.2.2.2.1.1 hR.1.1 j 4 (f := fun k => (f k).map (m_ad g)) j2 rfl hin hd w2
theorem m_iast {i x : Int32} {h1 : mH} (hd : decode J.2.1 pc = .ok (.iastore, 1)) (hv : m_is h a i x = some h1) (kk : Wm d b J (pc + 1) ls st h1 Q) : Wm d b J pc ls (.int x :: .int i :: .ref a :: st) h Q := by
  obtain ⟨r, h', q, w⟩ := kk
  refine ⟨r, h', q, ?_⟩
  intro g p l e R s m args below meth c H locs cells slots Qk lsm C hR hl hc1 hc2 he
  obtain ⟨n, f, y1, hin, rfl⟩ := m_is_some hv
  obtain ⟨j, rfl, j1, j2⟩ := m_live_arr hR.1 y1 (by decide)
  have hP := hR.1.1
  have hc : H[g.1 + j]? = some (vp_cell (g.2.2.2 0) (n, .inl f)) := hP j _ j2
  refine W.iast C.1 C.2.1 hc ((C.2.2.2.2.2.2.2.1.1.2 0 _ rfl).1 n (fun j => .int (f j))) (fun q => by cases q) (by show ¬ (i < 0 ∨ (arrV _ _ _).slots.size ≤ _); rw [arrV_size]; exact hin) rfl rfl hd fun H1 e1 z oq => ?_
  refine w g p l e R s m args below meth c H1 _ cells slots Qk lsm C (m_Rel_set hR j1 z (hP.set (m_D g h) j2 ?_ oq) (hR.2.1.put z oq (Nat.le_add_right _ _))) hl hc1 hc2 he
  show H1[g.1 + j]? = some (vp_cell (g.2.2.2 0) (n, .inl (upd f i.toNatClampNeg x)))
  rw [e1, m_setI]
theorem m_last {i : Int32} {x : Int64} {h1 : mH} (hd : decode J.2.1 pc = .ok (.lastore, 1)) (hv : m_ls h a i x = some h1) (kk : Wm d b J (pc + 1) ls st h1 Q) : Wm d b J pc ls (.long x :: .int i :: .ref a :: st) h Q := by
  obtain ⟨r, h', q, w⟩ := kk
  refine ⟨r, h', q, ?_⟩
  intro g p l e R s m args below meth c H locs cells slots Qk lsm C hR hl hc1 hc2 he
  obtain ⟨n, f, y1, hin, rfl⟩ := m_ls_some hv
  obtain ⟨j, rfl, j1, j2⟩ := m_live_arr hR.1 y1 (by decide)
  have hP := hR.1.1
  have hc : H[g.1 + j]? = some (vp_cell (g.2.2.2 1) (n, .inr (.inl f))) := hP j _ j2
  refine W.last C.1 C.2.1 hc ((C.2.2.2.2.2.2.2.1.1.2 1 _ rfl).1 n (fun j => .long (f j))) (fun q => by cases q) (by show ¬ (i < 0 ∨ (arrV _ _ _).slots.size ≤ _); rw [arrV_size]; exact hin) rfl rfl hd fun H1 e1 z oq => ?_
  refine w g p l e R s m args below meth c H1 _ cells slots Qk lsm C (m_Rel_set hR j1 z (hP.set (m_D g h) j2 ?_ oq) (hR.2.1.put z oq (Nat.le_add_right _ _))) hl hc1 hc2 he
  show H1[g.1 + j]? = some (vp_cell (g.2.2.2 1) (n, .inr (.inl (vp_updL f i.toNatClampNeg x))))
  rw [e1, m_setL]
theorem m_nar_z (x : Int32) : narrow .boolean (.int x) = .int (vp_nar .boolean x) := rfl
theorem m_zast {i x : Int32} {h1 : mH} (hd : decode J.2.1 pc = .ok (.bastore, 1)) (hv : m_zs h a i x = some h1) (kk : Wm d b J (pc + 1) ls st h1 Q) : Wm d b J pc ls (.int x :: .int i :: .ref a :: st) h Q := by
  obtain ⟨r, h', q, w⟩ := kk
  refine ⟨r, h', q, ?_⟩
  intro g p l e R s m args below meth c H locs cells slots Qk lsm C hR hl hc1 hc2 he
  obtain ⟨n, f, y1, hin, rfl⟩ := m_zs_some hv
  obtain ⟨j, rfl, j1, j2⟩ := m_live_arr hR.1 y1 (by decide)
  have hP := hR.1.1
  have hc : H[g.1 + j]? = some (vp_cell (g.2.2.2 2) (n, .inl f)) := hP j _ j2
  refine W.zast C.1 C.2.1 hc ((C.2.2.2.2.2.2.2.1.1.2 2 _ rfl).1 n (fun j => .int (f j))) (fun q => by cases q) (by show ¬ (i < 0 ∨ (arrV _ _ _).slots.size ≤ _); rw [arrV_size]; exact hin) rfl rfl hd fun H1 e1 z oq => ?_
  refine w g p l e R s m args below meth c H1 _ cells slots Qk lsm C (m_Rel_set hR j1 z (hP.set (m_D g h) j2 ?_ oq) (hR.2.1.put z oq (Nat.le_add_right _ _))) hl hc1 hc2 he
  show H1[g.1 + j]? = some (vp_cell (g.2.2.2 2) (n, .inl (upd f i.toNatClampNeg (vp_nar .boolean x))))
  rw [e1, m_nar_z, m_setI]
/-- a new array of ints, longs, booleans -/
theorem m_newarr {t N : Nat} {n : Int32} {at_ : ArrayType} {a0 : vp_A} {b2 : Nat × Nat} (hd : decode J.2.1 pc = .ok (.newarray at_, 2)) (hn : ¬ n < 0) (hN : n.toNatClampNeg = N) (hlim : N ≤ 100000) (ht : (t = 0 ∧ at_ = .int ∧ a0 = (N, .inl fun _ => 0)) ∨ (t = 1 ∧ at_ = .long ∧ a0 = (N, .inr (.inl fun _ => 0))) ∨ (t = 2 ∧ at_ = .boolean ∧ a0 = (N, .inl fun _ => 0))) (hw : Cond.arrayClass (newarray.typeOf at_) ∈ mGood) (hb1 : b2.1 + 1 ≤ b.1) (hb2 : b2.2 + N ≤ b.2)
    (kk : Wm d b2 J (pc + 2) ls (.ref h.2 :: st) (m_up h.1 h.2 (.inl (t, a0)), h.2 + 1) Q) : Wm d b J pc ls (.int n :: st) h Q := by
  obtain ⟨r, h', q, w⟩ := kk
  refine ⟨r, h', q, ?_⟩
  intro g p l e R s m args below meth c H locs cells slots Qk lsm C hR hl hc1 hc2 he
  have hsz : H.size = g.1 + (h.2 - 1) := by have := hR.1.2.1; have := hR.1.2.2.1; omega
  have h1h := hR.1.2.2.1
  have hbytes : N * componentBytes (newarray.typeOf at_) ≤ 536870912 := by
    rcases ht with ⟨-, rfl, -⟩ | ⟨-, rfl, -⟩ | ⟨-, rfl, -⟩
    · show N * 4 ≤ _; omega
    · show N * 8 ≤ _; omega
    · show N * 1 ≤ _; omega
  refine va_newaK C.1 C.2.1 (C.2.2.2.2.1 _ hw) rfl hd rfl hn hN hbytes (by omega) (by omega) hsz fun H1 cA e1 z1 o1 hAr hNm => ?_
  have hP := hR.1.1
  have hK2 := C.2.2.2.2.2.2.2.1.1.2
  have hcell : H1[g.1 + (h.2 - 1)]? = some (vp_cell (g.2.2.2 t) a0) ∧ m_arr g a0 = a0 := by
    rcases ht with ⟨rfl, rfl, rfl⟩ | ⟨rfl, rfl, rfl⟩ | ⟨rfl, rfl, rfl⟩
    · have hh : s.vm.findClass ("[" ++ (FieldType.int).toString) = some (g.2.2.2 0) := (hK2 0 _ rfl).2
      cases hNm.symm.trans hh
      exact ⟨e1, rfl⟩
    · have hh : s.vm.findClass ("[" ++ (FieldType.long).toString) = some (g.2.2.2 1) := (hK2 1 _ rfl).2
      cases hNm.symm.trans hh
      exact ⟨e1, rfl⟩
    · have hh : s.vm.findClass ("[" ++ (FieldType.boolean).toString) = some (g.2.2.2 2) := (hK2 2 _ rfl).2
      cases hNm.symm.trans hh
      exact ⟨e1, rfl⟩
  have had : m_v g (.ref h.2) = .ref (g.1 + (h.2 - 1)) := by
    show Value.ref (m_ad g h.2) = _
    rw [show h.2 = (h.2 - 1) + 1 by omega, m_ad_s]
    rfl
  have w2 := w g p l e R s m args below meth c H1 locs (cells + 1) (slots + N) Qk lsm C (m_Rel_push hR (by omega) ?_ ?_) hl (by omega) (by omega) he
  · rw [List.map_cons, had] at w2
    exact w2
  · refine (hP.kept (fun k x hx => o1 x.1 (by rw [← hsz]; exact (hP k x hx).lt))).app (fun k x hx => ?_)
    have hz : k < 1 := (List.getElem?_eq_some_iff.mp hx).1
    rw [show k = 0 by omega] at hx
    cases hx
    show H1[g.1 + (h.2 - 1)]? = some (vp_cell (g.2.2.2 t) (m_arr g a0))
    rw [hcell.2]
    exact hcell.1
  · exact ⟨Nat.le_trans hR.2.1.1 (by omega), fun x g1 g2 => (o1 x (by rw [← hsz]; exact Nat.lt_of_lt_of_le g1 hR.2.1.1)).trans (hR.2.1.2.1 x g1 g2), hR.2.1.2.2⟩
end ARows
end
section
/-! MINI: references in arrays, new objects, the script, instanceof, arraycopy -/
theorem m_up_map (g : mG) (f : Nat → Option Nat) (k : Nat) (x : Option Nat) : (fun j => (va_up f k x j).map (m_ad g)) = va_up (fun j => (f j).map (m_ad g)) k (x.map (m_ad g)) := by
  funext j
  by_cases hj : j = k <;> simp [va_up, hj]
def m_cn (ci : Nat) : String := match vwCl[ci]? with
  | some r => r.1
  | none => ""
section MRows
variable {d : Nat} {b : Nat × Nat} {J : mJ} {pc : Nat} {ls : List (Option Value)} {st : List Value} {h : mH} {Q : Option Value → mH → Prop} {a : Nat}
theorem m_aastN {i : Int32} {h1 : mH} (hd : decode J.2.1 pc = .ok (.aastore, 1)) (hv : m_rs h a i .null = some h1) (kk : Wm d b J (pc + 1) ls st h1 Q) : Wm d b J pc ls (.null :: .int i :: .ref a :: st) h Q := by
  obtain ⟨r, h', q, w⟩ := kk
  refine ⟨r, h', q, ?_⟩
  intro g p l e R s m args below meth c H locs cells slots Qk lsm C hR hl hc1 hc2 he
  obtain ⟨n, f, y1, hin, rfl⟩ : ∃ n f, h.1 a = .inl (4, n, .inr (.inr (.inr (.inr f)))) ∧ ¬ (i < 0 ∨ n ≤ i.toNatClampNeg) ∧ h1 = (m_up h.1 a (.inl (4, n, .inr (.inr (.inr (.inr (va_up f i.toNatClampNeg none)))))), h.2) := by
    unfold m_rs at hv
    split at hv
    · rename_i hh; cases hh
    · rename_i hh; cases hh
    · rename_i n f he _
      split at hv
      · cases hv
      · rename_i hc
        exact ⟨n, f, he, hc, (Option.some.inj hv).symm⟩
    · cases hv
  obtain ⟨j, rfl, j1, j2⟩ := m_live_arr hR.1 y1 (by decide)
  have hP := hR.1.1
  have hc : H[g.1 + j]? = some (vp_cell (g.2.2.2 4) (n, .inr (.inr (.inr (.inr fun k => (f k).map (m_ad g)))))) := hP j _ j2
  refine va_WaastN (C := "SphereSheets$Cover") C.1 C.2.1 hc ((C.2.2.2.2.2.2.2.1.1.2 4 _ rfl).1 n (fun k => va_rf ((f k).map (m_ad g)))) (fun q => by cases q) (by show ¬ (i < 0 ∨ (arrV _ _ _).slots.size ≤ _); rw [arrV_size]; exact hin) rfl rfl hd fun H1 e1 z oq => ?_
  refine w g p l e R s m args below meth c H1 _ cells slots Qk lsm C (m_Rel_set hR j1 z (hP.set (m_D g h) j2 ?_ oq) (hR.2.1.put z oq (Nat.le_add_right _ _))) hl hc1 hc2 he
  show H1[g.1 + j]? = some (vp_cell (g.2.2.2 4) (n, .inr (.inr (.inr (.inr fun k => (va_up f i.toNatClampNeg none k).map (m_ad g))))))
  rw [e1, m_up_map]
  exact congrArg some (m_setQ _ _ _ _ none)
theorem m_aast {i : Int32} {v : Nat} {h1 : mH} (hd : decode J.2.1 pc = .ok (.aastore, 1)) (hv : m_rs h a i (.ref v) = some h1) (kk : Wm d b J (pc + 1) ls st h1 Q) : Wm d b J pc ls (.ref v :: .int i :: .ref a :: st) h Q := by
  obtain ⟨r, h', q, w⟩ := kk
  refine ⟨r, h', q, ?_⟩
  intro g p l e R s m args below meth c H locs cells slots Qk lsm C hR hl hc1 hc2 he
  obtain ⟨t, n, f, ci, fs, y1, y2, ht, hin, rfl⟩ : ∃ t n f ci fs, h.1 a = .inl (t, n, .inr (.inr (.inr (.inr f)))) ∧ h.1 v = .inr (ci, fs) ∧ ((t = 3 ∧ ci = 6) ∨ (t = 4 ∧ ci ∈ [0, 1, 4, 8, 9])) ∧ ¬ (i < 0 ∨ n ≤ i.toNatClampNeg) ∧ h1 = (m_up h.1 a (.inl (t, n, .inr (.inr (.inr (.inr (va_up f i.toNatClampNeg (some v))))))), h.2) := by
    unfold m_rs at hv
    split at hv
    · rename_i n f q he hq
      cases hq
      split at hv
      · rename_i fs hfs
        split at hv
        · cases hv
        · rename_i hc
          exact ⟨3, n, f, 6, fs, he, hfs, Or.inl ⟨rfl, rfl⟩, hc, (Option.some.inj hv).symm⟩
      · cases hv
    · rename_i n f q he hq
      cases hq
      split at hv
      · rename_i ci fs hfs
        split at hv
        · cases hv
        · rename_i hc
          split at hv
          · rename_i hm
            exact ⟨4, n, f, ci, fs, he, hfs, Or.inr ⟨rfl, List.contains_iff_mem.mp hm⟩, hc, (Option.some.inj hv).symm⟩
          · cases hv
      · cases hv
    · rename_i hh; cases hh
    · cases hv
  obtain ⟨j, rfl, j1, j2⟩ := m_live_arr hR.1 y1 (by omega)
  have hK := C.2.2.2.2.2.2.2.1
  have hP := hR.1.1
  have hci : ci < 12 := by
    rcases ht with ⟨-, rfl⟩ | ⟨-, hm⟩
    · decide
    · simp at hm; omega
  have hx : ∃ x, vwCl[ci]? = some x := ⟨vwCl[ci]'hci, List.getElem?_eq_getElem hci⟩
  obtain ⟨x, x1⟩ := hx
  obtain ⟨jv, rfl, v1, v2⟩ := m_live_obj hR.1 y2 x1
  have hlt : i.toNatClampNeg < n := Nat.not_le.mp fun q => hin (Or.inr q)
  have h0 : ¬ i < 0 := fun q => hin (Or.inl q)
  obtain ⟨x', -, cellV, g1, g2, g3, -⟩ := hP jv _ v2
  have hcls := (hK.1.1 ci x x1).2
  obtain ⟨ty, hty, kA, comp, k1, k2, k3, hass⟩ : ∃ ty, (m_tys g)[t]? = some (g.2.2.2 t, .object ty) ∧ ∃ (kA : Class) (comp : ClassId), s.vm.classes[g.2.2.2 t]? = some kA ∧ kA.kind = .array comp (.object ty) ∧ s.vm.findClass ty = some comp ∧ s.vm.assignable (g.2.2.1.1 ci) comp = true := by
    rcases ht with ⟨rfl, rfl⟩ | ⟨rfl, hm⟩
    · obtain ⟨kA, comp, k1, k2, k3, -⟩ := (hK.1.2 3 _ rfl).2
      cases x1
      cases k3.symm.trans hcls.1
      exact ⟨_, rfl, kA, _, k1, k2, k3, va_assign hcls⟩
    · obtain ⟨kA, comp, k1, k2, k3, -⟩ := (hK.1.2 4 _ rfl).2
      refine ⟨_, rfl, kA, comp, k1, k2, k3, ?_⟩
      have cast : ∀ nm, x.1 = nm → (nm, "SphereSheets$Cover") ∈ m_yc → s.vm.assignable (g.2.2.1.1 ci) comp = true := by
        intro nm hnm hin2
        have hca := hK.2.2.1 _ hin2
        obtain ⟨c0, t1, f1, f2, f3⟩ := Cond.castable_spec (va_Nw.use (A := args) rfl hca)
        subst hnm
        cases hcls.1.symm.trans f1
        cases k3.symm.trans f2
        exact f3
      simp at hm
      rcases hm with rfl | rfl | rfl | rfl | rfl
      · cases x1; exact cast _ rfl (by decide)
      · cases x1
        cases k3.symm.trans hcls.1
        exact va_assign hcls
      · cases x1; exact cast _ rfl (by decide)
      · cases x1; exact cast _ rfl (by decide)
      · cases x1; exact cast _ rfl (by decide)
  obtain ⟨kE, hkE, -⟩ := Vm.findClass_spec k3
  obtain ⟨kC, hkC, -⟩ := hcls.2
  have hc : H[g.1 + j]? = some (vp_cell (g.2.2.2 t) (n, .inr (.inr (.inr (.inr fun k => (f k).map (m_ad g)))))) := hP j _ j2
  refine W.aast C.1 C.2.1 hc (fun q h => by cases h) (fun h => by cases h) k1 k2 rfl hkE ⟨h0, by show _ < (arrV _ _ _).slots.size; rw [arrV_size]; exact hlt⟩ g1 (fun q h => by rw [g3] at h; cases h) (by rw [g2]; exact hkC) (by rw [g2]; exact hass) rfl rfl hd fun H1 e1 z oq => ?_
  refine w g p l e R s m args below meth c H1 _ cells slots Qk lsm C (m_Rel_set hR j1 z (hP.set (m_D g h) j2 ?_ oq) (hR.2.1.put z oq (Nat.le_add_right _ _))) hl hc1 hc2 he
  show H1[g.1 + j]? = some (vp_cell (g.2.2.2 t) (n, .inr (.inr (.inr (.inr fun k => (va_up f i.toNatClampNeg (some (jv + 1)) k).map (m_ad g))))))
  rw [e1, m_up_map]
  exact congrArg some (m_setQ _ _ _ _ (some (g.1 + jv)))
/-- a new array of rows, of covers -/
theorem m_anewarr {t N idx : Nat} {n : Int32} {b2 : Nat × Nat} {CN : String} (ht : (t = 3 ∧ CN = "SphereSheets$Row") ∨ (t = 4 ∧ CN = "SphereSheets$Cover")) (hd : decode J.2.1 pc = .ok (.anewarray idx, 3)) (hn : ¬ n < 0) (hN : n.toNatClampNeg = N) (hlim : N ≤ 100000) (hw : Cond.classLink J.1 idx CN ∈ mGood) (hb1 : b2.1 + 1 ≤ b.1) (hb2 : b2.2 + N ≤ b.2)
    (kk : Wm d b2 J (pc + 3) ls (.ref h.2 :: st) (m_up h.1 h.2 (.inl (t, N, .inr (.inr (.inr (.inr fun _ => none))))), h.2 + 1) Q) : Wm d b J pc ls (.int n :: st) h Q := by
  obtain ⟨r, h', q, w⟩ := kk
  refine ⟨r, h', q, ?_⟩
  intro g p l e R s m args below meth c H locs cells slots Qk lsm C hR hl hc1 hc2 he
  have hsz : H.size = g.1 + (h.2 - 1) := by have := hR.1.2.1; have := hR.1.2.2.1; omega
  have h1h := hR.1.2.2.1
  have hK := C.2.2.2.2.2.2.2.1
  have hAO : va_AO CN s := hK.2.2.2 CN (by rcases ht with ⟨-, rfl⟩ | ⟨-, rfl⟩ <;> decide)
  subst hN
  refine W.anew C.1 C.2.1 C.2.2.2.1 (C.2.2.2.2.1 _ hw) hAO.use rfl hd rfl hn (by omega) (by omega) (by omega) fun cA kA comp f1 f2 f3 f4 => ?_
  have hP := hR.1.1
  have hcA : cA = g.2.2.2 t := by
    rcases ht with ⟨rfl, rfl⟩ | ⟨rfl, rfl⟩
    · obtain ⟨_, _, -, -, -, k4⟩ := (hK.1.2 3 _ rfl).2
      exact Option.some.inj (f1.symm.trans k4)
    · obtain ⟨_, _, -, -, -, k4⟩ := (hK.1.2 4 _ rfl).2
      exact Option.some.inj (f1.symm.trans k4)
  subst hcA
  have had : m_v g (.ref h.2) = .ref H.size := by
    show Value.ref (m_ad g h.2) = _
    rw [hsz, show h.2 = (h.2 - 1) + 1 by omega, m_ad_s]
    rfl
  have w2 := w g p l e R s m args below meth c (H.push { cls := g.2.2.2 t, slots := Array.replicate n.toNatClampNeg .null, vm := .none }) locs (cells + 1) (slots + n.toNatClampNeg) Qk lsm C (m_Rel_push hR (by simp) ?_ ?_) hl (by omega) (by omega) he
  · rw [List.map_cons, had] at w2
    exact w2
  · refine (hP.kept (fun k x hx => by rw [Array.getElem?_push, if_neg (Nat.ne_of_lt (hP k x hx).lt)])).app (fun k x hx => ?_)
    have hz : k < 1 := (List.getElem?_eq_some_iff.mp hx).1
    rw [show k = 0 by omega] at hx
    cases hx
    show (H.push _)[g.1 + (h.2 - 1)]? = some (vp_cell (g.2.2.2 t) (n.toNatClampNeg, .inr (.inr (.inr (.inr fun _ => none)))))
    rw [← hsz, vp_cell_q]
    simp [arrV_new, va_rf]
  · exact ⟨Nat.le_trans hR.2.1.1 (by simp), fun x g1 g2 => by rw [Array.getElem?_push, if_neg (Nat.ne_of_lt (Nat.lt_of_lt_of_le g1 hR.2.1.1))]; exact hR.2.1.2.1 x g1 g2, hR.2.1.2.2⟩
def m_nref (v : Value) : Bool := match v with
  | .ref _ => false
  | _ => true
/-- a new object, its fields at their defaults -/
def m_nw (own : String) (idx ci : Nat) (fs : List Value) : Prop := ∃ (r : vw_C), vwCl[ci]? = some r ∧ Cond.classLink own idx r.1 ∈ mGood ∧ Cond.instantiable r.1 r.2.2 ∈ mGood ∧ Cond.initialized r.1 ∈ mGood ∧ fs.length = r.2.2 ∧ (∀ j, j < r.2.2 → fs[j]? = some (defaultValue (m_tyOf ci j))) ∧ fs.all m_nref = true
theorem m_newobj {idx ci : Nat} {fs : List Value} {b2 : Nat × Nat} (hf : m_nw J.1 idx ci fs) (hd : decode J.2.1 pc = .ok (.new idx, 3)) (hb1 : b2.1 + 1 ≤ b.1) (hb2 : b2.2 + fs.length ≤ b.2)
    (kk : Wm d b2 J (pc + 3) ls (.ref h.2 :: st) (m_up h.1 h.2 (.inr (ci, fs)), h.2 + 1) Q) : Wm d b J pc ls st h Q := by
  obtain ⟨r, h', q, w⟩ := kk
  refine ⟨r, h', q, ?_⟩
  intro g p l e R s m args below meth c H locs cells slots Qk lsm C hR hl hc1 hc2 he
  obtain ⟨x, x1, x2, x3, x4, x5, x6, x7⟩ := hf
  have hsz : H.size = g.1 + (h.2 - 1) := by have := hR.1.2.1; have := hR.1.2.2.1; omega
  have h1h := hR.1.2.2.1
  have hK := C.2.2.2.2.2.2.2.1
  have hts := C.2.2.2.2.1
  have hKn := hK.1.1 ci _ x1
  rw [x5] at hb2
  refine W.newcK C.1 C.2.1 C.2.2.2.1 (hts _ x2) (hts _ x3) (hts _ x4) rfl hd (by omega) (by omega) hKn.2.1 hsz fun H1 kC hkC e1 z1 o1 => ?_
  have hP := hR.1.1
  have had : m_v g (.ref h.2) = .ref (g.1 + (h.2 - 1)) := by
    show Value.ref (m_ad g h.2) = _
    rw [show h.2 = (h.2 - 1) + 1 by omega, m_ad_s]
    rfl
  have hfs : fs.map (m_v g) = fs := by
    have : ∀ v ∈ fs, m_v g v = id v := fun v hv => by
      have hn := List.all_eq_true.mp x7 v hv
      unfold m_v
      split
      · cases hn
      · rfl
    rw [List.map_congr_left this]
    simp
  have w2 := w g p l e R s m args below meth c H1 locs (cells + 1) (slots + x.2.2) Qk lsm C (m_Rel_push hR (by omega) ?_ ?_) hl (by omega) (by omega) he
  · rw [List.map_cons, had] at w2
    exact w2
  · refine (hP.kept (fun k y hy => o1 y.1 (by rw [← hsz]; exact (hP k y hy).lt))).app (fun k y hy => ?_)
    have hz : k < 1 := (List.getElem?_eq_some_iff.mp hy).1
    rw [show k = 0 by omega] at hy
    cases hy
    refine ⟨_, x1, (u_born (m_tyOf ci) hts (m_lays ci x x1) hKn hkC e1 (m_tyOk ci x x1)).to (fun j hj => ?_)⟩
    show defaultValue (m_tyOf ci j) = vp_V (fs.map (m_v g)) j
    rw [hfs]
    simp [vp_V, x6 j hj]
  · exact ⟨Nat.le_trans hR.2.1.1 (by omega), fun y g1 g2 => (o1 y (by rw [← hsz]; exact Nat.lt_of_lt_of_le g1 hR.2.1.1)).trans (hR.2.1.2.1 y g1 g2), hR.2.1.2.2⟩
/-- the script: the law alone reads it -/
theorem m_slen {L : Nat} {xs : Nat → Int32} (hJ : J.1 = RL) (hd : decode J.2.1 pc = .ok (.arraylength, 1)) (hv : h.1 0 = .inl (9, L, .inl xs)) (kk : Wm d b J (pc + 1) ls (.int (nI L) :: st) h Q) : Wm d b J pc ls (.ref 0 :: st) h Q := by
  obtain ⟨r, h', q, w⟩ := kk
  refine ⟨r, h', q, ?_⟩
  intro g p l e R s m args below meth c H locs cells slots Qk lsm C hR hl hc1 hc2 he
  obtain ⟨hX, hbl, hlt⟩ := hR.2.2 hJ L xs hv
  exact va_slen C.1 C.2.1 hX hbl (Nat.not_le.mpr hlt) hR.2.1 hd (w g p l e R s m args below meth c H locs cells slots Qk lsm C hR hl hc1 hc2 he)
theorem m_sld {L : Nat} {xs : Nat → Int32} {i : Int32} (hJ : J.1 = RL) (hd : decode J.2.1 pc = .ok (.iaload, 1)) (hv : h.1 0 = .inl (9, L, .inl xs)) (hin : ¬ (i < 0 ∨ L ≤ i.toNatClampNeg)) (kk : Wm d b J (pc + 1) ls (.int (xs i.toNatClampNeg) :: st) h Q) : Wm d b J pc ls (.int i :: .ref 0 :: st) h Q := by
  obtain ⟨r, h', q, w⟩ := kk
  refine ⟨r, h', q, ?_⟩
  intro g p l e R s m args below meth c H locs cells slots Qk lsm C hR hl hc1 hc2 he
  obtain ⟨hX, hbl, hlt⟩ := hR.2.2 hJ L xs hv
  exact va_sld C.1 C.2.1 hX hbl (Nat.not_le.mpr hlt) hR.2.1 hin hd (w g p l e R s m args below meth c H locs cells slots Qk lsm C hR hl hc1 hc2 he)
/-- instanceof -/
def m_isa (ci ct : Nat) : Bool := (ci == ct) || [(0, 9), (4, 9), (4, 0)].contains (ci, ct)
theorem m_instN {idx : Nat} (hd : decode J.2.1 pc = .ok (.instanceof idx, 3)) (kk : Wm d b J (pc + 3) ls (.int 0 :: st) h Q) : Wm d b J pc ls (.null :: st) h Q :=
  m_step (fun _ _ _ _ _ _ _ _ _ _ _ _ _ _ _ _ _ hx hb kk => lv_instN hx hb hd kk) kk
theorem m_inst {idx ci ct : Nat} {fs : List Value} (hd : decode J.2.1 pc = .ok (.instanceof idx, 3)) (hct : ct ∈ [0, 4, 8, 9]) (hci : ci ∈ [0, 1, 4, 8, 9]) (hw : Cond.classLink J.1 idx (m_cn ct) ∈ mGood) (ha : h.1 a = .inr (ci, fs)) (kk : Wm d b J (pc + 3) ls (.int (if m_isa ci ct = true then 1 else 0) :: st) h Q) : Wm d b J pc ls (.ref a :: st) h Q := by
  obtain ⟨r, h', q, w⟩ := kk
  refine ⟨r, h', q, ?_⟩
  intro g p l e R s m args below meth c H locs cells slots Qk lsm C hR hl hc1 hc2 he
  have hci12 : ci < 12 := by simp at hci; omega
  obtain ⟨x, x1⟩ : ∃ x, vwCl[ci]? = some x := ⟨vwCl[ci]'hci12, List.getElem?_eq_getElem hci12⟩
  obtain ⟨j, rfl, j1, j2⟩ := m_live_obj hR.1 ha x1
  have hK := C.2.2.2.2.2.2.2.1
  have hrc := va_recv hK.1 hR.1.1 x1 j2
  have hlink := C.2.2.2.2.1 _ hw
  have w2 := w g p l e R s m args below meth c H locs cells slots Qk lsm C hR hl hc1 hc2 he
  have no : ∀ (cn : String) (nm : String), x.1 = cn → m_cn ct = nm → (cn, nm) ∈ m_nc → m_isa ci ct = false → W p l e R s m args below meth c H locs cells slots Qk (F0 m pc lsm ((Value.ref (j + 1) :: st).map (m_v g))) := by
    intro cn nm h1 h2 h3 h4
    rw [h4] at w2
    rw [h1] at hrc
    rw [h2] at hlink
    exact va_instNo C.1 C.2.1 C.2.2.2.1 hlink (hK.2.1 _ h3) hrc hd w2
  have yes : ∀ (cn : String) (nm : String), x.1 = cn → m_cn ct = nm → (cn, nm) ∈ m_yc → m_isa ci ct = true → W p l e R s m args below meth c H locs cells slots Qk (F0 m pc lsm ((Value.ref (j + 1) :: st).map (m_v g))) := by
    intro cn nm h1 h2 h3 h4
    rw [h4] at w2
    rw [h1] at hrc
    rw [h2] at hlink
    exact va_instY C.1 C.2.1 C.2.2.2.1 hlink (hK.2.2.1 _ h3) hrc hd w2
  have same : ∀ (nm : String), x.1 = nm → m_cn ct = nm → m_isa ci ct = true → W p l e R s m args below meth c H locs cells slots Qk (F0 m pc lsm ((Value.ref (j + 1) :: st).map (m_v g))) := by
    intro nm h1 h2 h4
    rw [h4] at w2
    rw [h1] at hrc
    rw [h2] at hlink
    have hcl := (hK.1.1 ci x x1).2
    rw [h1] at hcl
    exact va_instS C.1 C.2.1 C.2.2.2.1 hlink hcl hrc hd w2
  simp at hct hci
  rcases hci with rfl | rfl | rfl | rfl | rfl <;> cases x1 <;> rcases hct with rfl | rfl | rfl | rfl <;> first
    | exact same _ rfl rfl rfl
    | exact yes _ _ rfl rfl (by decide) rfl
    | exact no _ _ rfl rfl (by decide) rfl
end MRows
end
section
/-! MINI: methods and calls -/
abbrev mM : Type := MethodName × ByteArray × Nat × Option FieldType
def m_words (M : mM) : List Cond := Cond.code M.1 M.2.1 M.2.2.1 M.2.2.2 :: mGood
def m_room (d : Nat) (b : Nat × Nat) : Room := { frames := d, cells := b.1, slots := b.2, locals := 36 * d }
def m_Pc (g : mG) (as : List Value) (h : mH) : Array Value → State → Prop := fun v U => v = (as.map (m_v g)).toArray ∧ m_K g U ∧ m_R0 g U.heap h ∧ g.1 ≤ U.heap.size
def m_Qc (g : mG) (r : Option Value) (h' : mH) : Array Value → State → Outcome → State → Prop := fun _ st o t => o = .returned (r.map (m_v g)) ∧ m_R0 g t.heap h' ∧ st.heap.size ≤ t.heap.size ∧ ∀ q, q < g.1 → t.heap[q]? = st.heap[q]?
def m_Met (d : Nat) (b : Nat × Nat) (M : mM) (as : List Value) (h : mH) (r : Option Value) (h' : mH) : Prop := ∀ (g : mG) (l : Launch), Met l M.1 (m_words M) (m_room d b) (m_Pc g as h) (m_Qc g r h') b.1 b.2 (fun q => g.1 ≤ q)
/-- the method M, called with these on this heap, d frames and b cells and slots to spend, answers so that K holds. The cell of the script stays as it was -/
def Ev (d : Nat) (b : Nat × Nat) (M : mM) (as : List Value) (h : mH) (K : Option Value → mH → Prop) : Prop := ∃ (r : Option Value) (h' : mH), K r h' ∧ h'.1 0 = h.1 0 ∧ m_Met d b M as h r h'
theorem Ev.mono {d : Nat} {b : Nat × Nat} {M : mM} {as : List Value} {h : mH} {K K2 : Option Value → mH → Prop} (k : Ev d b M as h K) (hk : ∀ r h', K r h' → K2 r h') : Ev d b M as h K2 := by
  obtain ⟨r, h', a, z, w⟩ := k
  exact ⟨r, h', hk r h' a, z, w⟩
theorem m_blind (g : mG) (as : List Value) (h : mH) : FrameBlind (m_Pc g as h) := by
  intro a U gf mk hp
  obtain ⟨h1, h2, h3, h4⟩ := hp
  exact ⟨h1, m_K_call h2, h3, h4⟩
theorem m_rok_cases {t : Option FieldType} {r : Option Value} (h : m_rok t r) : (t = none ∧ r = none) ∨ (t = some .int ∧ ∃ v, r = some (.int v)) ∨ (t = some .boolean ∧ ∃ v, r = some (.int v) ∧ (v = 0 ∨ v = 1)) ∨ (t = some .long ∧ ∃ v, r = some (.long v)) ∨ (∃ n, t = some (.object n) ∧ ∃ v, r = some (.ref v)) ∨ (∃ n, t = some (.object n) ∧ r = some .null) ∨ (∃ n, t = some (.array n) ∧ ∃ v, r = some (.ref v)) := by
  unfold m_rok at h
  split at h
  · exact Or.inl ⟨rfl, rfl⟩
  · exact Or.inr (Or.inl ⟨rfl, _, rfl⟩)
  · exact Or.inr (Or.inr (Or.inl ⟨rfl, _, rfl, h⟩))
  · exact Or.inr (Or.inr (Or.inr (Or.inl ⟨rfl, _, rfl⟩)))
  · exact Or.inr (Or.inr (Or.inr (Or.inr (Or.inl ⟨_, rfl, _, rfl⟩))))
  · exact Or.inr (Or.inr (Or.inr (Or.inr (Or.inr (Or.inl ⟨_, rfl, rfl⟩)))))
  · exact Or.inr (Or.inr (Or.inr (Or.inr (Or.inr (Or.inr ⟨_, rfl, _, rfl⟩)))))
  · exact h.elim
/-- the method of a frame -/
def m_J (M : mM) : mJ := (M.1.cls, M.2.1, M.2.2.1, M.1.name == "<init>", M.2.2.2)
/-- a method's contract out of a walk of its body -/
theorem m_met {d : Nat} {b : Nat × Nat} {M : mM} {as : List Value} {h : mH} {K : Option Value → mH → Prop} (hy : plainName M.1.cls = true) (hRL : M.1.cls ≠ RL) (hlen : ∀ g, (lg_sl (as.map (m_v g))).length ≤ M.2.2.1)
    (k : Wm d b (m_J M) 0 (m_ent M.2.2.1 as) [] h (fun r h' => h'.1 0 = h.1 0 ∧ K r h')) : Ev d b M as h K := by
  obtain ⟨r, h', ⟨z, hk⟩, w⟩ := k
  refine ⟨r, h', hk, z, fun g l => ?_⟩
  refine Met.ofW (cc := M.2.1) (maxL := M.2.2.1) (ret := M.2.2.2) hy rfl ?_
  intro p e s m args below meth c s₁ B hml hv
  obtain ⟨rfl, hK, hR0, hg⟩ := hv
  have hx := B.exec
  have hb := B.bytes
  have hr := B.returns
  have hts := atoms_spec (ws := m_words M) B.pre
  have hown : s.vm.findClass M.1.cls = some m.cls := findClass_of_methodNamed B.named
  have hlocks := B.notSynchronized
  have hin : meth.name = M.1.name := (name_of_methodNamed B.named B.method).1
  have hl := lv_entry (as.map (m_v g)) (n := M.2.2.1) (hlen g)
  rw [lg_entry_eq]
  generalize (lg_sl (as.map (m_v g)) ++ List.replicate (M.2.2.1 - (lg_sl (as.map (m_v g))).length) Slot.unset).toArray = lsm at hl ⊢
  refine w g p l e (m_room d b) s m _ below meth c s.heap [] 0 0 _ lsm ⟨hx, hb, hml, hown, fun w hw => hts w (List.mem_cons_of_mem _ hw), rfl, Nat.le_refl _, hK, hg, fun hi => ?_⟩ ⟨hR0, va_S.rf, fun q => absurd q hRL⟩ (m_ent_L g _ as hl) (by show 0 + b.1 ≤ b.1; omega) (by show 0 + b.2 ≤ b.2; omega) ?_
  · rw [hin]
    exact beq_iff_eq.mp hi
  · intro pc1 lsm1 H1 locs1 cells1 slots1 hR hc1 hc2 hrok hdec
    have hq : ∀ t : State, t.heap = H1 → s.WarmedH t.vm → m_Qc g r h' ((as.map (m_v g)).toArray) s (.returned (r.map (m_v g))) t := by
      intro t ht _
      refine ⟨rfl, by rw [ht]; exact hR.1, by rw [ht]; exact hR.2.1.1, fun q hq => ?_⟩
      rw [ht]
      exact hR.2.1.2.1 q (Nat.lt_of_lt_of_le hq hg) (Nat.not_le.mpr hq)
    refine W.widen (k := b.1) (n := b.2) hc1 hc2 ?_
    rcases m_rok_cases hrok with ⟨e1, rfl⟩ | ⟨e1, v, rfl⟩ | ⟨e1, v, rfl, hv⟩ | ⟨e1, v, rfl⟩ | ⟨n, e1, v, rfl⟩ | ⟨n, e1, rfl⟩ | ⟨n, e1, v, rfl⟩
    · exact W.vret hx hb (hr.trans e1) hq hR.2.1.2.2 hdec
    · exact W.iret hx hb (hr.trans e1) hq hR.2.1.2.2 hdec
    · refine W.zret hx hb (hr.trans e1) ?_ hq hR.2.1.2.2 hdec
      rcases hv with rfl | rfl <;> rfl
    · exact W.lret hx hb (hr.trans e1) hq hR.2.1.2.2 hdec
    · exact W.aret hx hb (hr.trans e1) (Or.inl ⟨_, rfl⟩) (Or.inr ⟨_, rfl⟩) hq hR.2.1.2.2 hdec
    · exact W.aret hx hb (hr.trans e1) (Or.inl ⟨_, rfl⟩) (Or.inl rfl) hq hR.2.1.2.2 hdec
    · exact W.aret hx hb (hr.trans e1) (Or.inr ⟨_, rfl⟩) (Or.inr ⟨_, rfl⟩) hq hR.2.1.2.2 hdec
-- certificates of call sites
def m_cB (M : mM) (n : Nat) : Prop := Cond.initialized M.1.cls ∈ mGood ∧ Cond.code M.1 M.2.1 M.2.2.1 M.2.2.2 ∈ mGood ∧ (M.1.cls ≠ "java/lang/invoke/MethodHandle" ∧ M.1.cls ≠ "java/lang/invoke/VarHandle") ∧ (parseMethodDescriptor M.1.desc).map (fun d => d.parameters.length) = some n ∧ M.2.2.1 ≤ 17
def m_cS (own : String) (idx : Nat) (M : mM) (n : Nat) : Prop := m_cB M n ∧ Cond.methodLink own idx M.1 ∈ mGood ∧ Cond.static M.1 ∈ mGood
def m_cI (own : String) (idx : Nat) (M : mM) (n : Nat) : Prop := m_cB M n ∧ Cond.methodLink own idx M.1 ∈ mGood ∧ Cond.instanceMethod M.1 ∈ mGood ∧ M.1.name = "<init>" ∧ M.2.2.2 = none
def m_cV (own : String) (idx ci : Nat) (M : mM) (n : Nat) : Prop := ∃ r : vw_C, vwCl[ci]? = some r ∧ m_cB M n ∧ Cond.instanceMethod M.1 ∈ mGood ∧
  ((Cond.methodLink own idx M.1 ∈ mGood ∧ Cond.selects r.1 M.1 M.1 ∈ mGood) ∨
   (∃ (x : MethodName) (owner : String), Cond.methodLink own idx x ∈ mGood ∧ Cond.sameMethod x.cls owner x.name x.desc ∈ mGood ∧ Cond.selects r.1 x M.1 ∈ mGood ∧ (parseMethodDescriptor x.desc).map (fun d => d.parameters.length) = some n ∧ (owner ≠ "java/lang/invoke/MethodHandle" ∧ owner ≠ "java/lang/invoke/VarHandle") ∧
      (M.1 = ⟨owner, x.name, x.desc⟩ ∨ (Cond.instanceMethod ⟨owner, x.name, x.desc⟩ ∈ mGood ∧ ∃ b0 m0 r0, Cond.code ⟨owner, x.name, x.desc⟩ b0 m0 r0 ∈ mGood))))
def m_cU (own : String) (idx : Nat) (M : mM) (n : Nat) : Prop := m_cB M n ∧ Cond.instanceMethod M.1 ∈ mGood ∧ ∃ x : MethodName, Cond.methodLink own idx x ∈ mGood ∧ Cond.sameMethod x.cls M.1.cls x.name x.desc ∈ mGood ∧ Cond.superclass own x.cls ∈ mGood ∧ M.1 = ⟨M.1.cls, x.name, x.desc⟩ ∧ x.name ≠ "<init>" ∧ (x.cls = M.1.cls ∨ Cond.superclass x.cls M.1.cls ∈ mGood)
theorem m_gin {M : mM} (hc : Cond.code M.1 M.2.1 M.2.2.1 M.2.2.2 ∈ mGood) : GoodIn mGood (m_words M) := by
  intro w hw
  rcases List.mem_cons.mp hw with rfl | hw
  · exact ⟨hc, mGood_good hc⟩
  · exact ⟨hw, mGood_good hw⟩
theorem m_ginL {M : mM} {L : List Cond} (hL : ∀ w ∈ L, w ∈ mGood) (hc : Cond.code M.1 M.2.1 M.2.2.1 M.2.2.2 ∈ mGood) : GoodIn mGood (L ++ m_words M) := by
  intro w hw
  rcases List.mem_append.mp hw with hw | hw
  · exact ⟨hL w hw, mGood_good (hL w hw)⟩
  · exact m_gin hc w hw
section CRows
variable {d : Nat} {b : Nat × Nat} {J : mJ} {pc : Nat} {ls : List (Option Value)} {st : List Value} {h : mH} {Q : Option Value → mH → Prop} {a : Nat}
/-- behind a call -/
theorem m_back {g : mG} {p : Program} {l : Launch} {e : Env} {R : Room} {s : State} {m : MethodId} {args : Array Value} {below : List Frame} {meth : Method} {c : Code} {H : Heap} {locs : List Loc} {cells slots mc ms : Nat} {Qk : State → Prop} {lsm : Array Slot} {rest stk as : List Value} {r : Option Value} {h' h1 : mH} {r1 : Option Value}
    (hr : va_Run p l e R s m args below meth c H locs cells slots mc ms (F0 m pc lsm stk) (rest.map (m_v g)) (m_Qc g r1 h1 ((as.map (m_v g)).toArray)) (fun q => g.1 ≤ q))
    (w : m_W d b J (pc + 3) ls (r1.toList ++ rest) h1 r h') (z : h1.1 0 = h.1 0) (C : m_Ctx g J d p R s m args meth c) (hR : m_Rel g J s H locs h) (hl : m_L g J.2.2.1 ls lsm) (hc1 : cells + mc + b.1 ≤ R.cells) (hc2 : slots + ms + b.2 ≤ R.slots)
    (he : ∀ (pc1 : Nat) (lsm1 : Array Slot) (H1 : Heap) (locs1 : List Loc) (cells1 slots1 : Nat), m_Rel g J s H1 locs1 h' → cells1 ≤ R.cells → slots1 ≤ R.slots → m_rok J.2.2.2.2 r → decode J.2.1 pc1 = .ok (m_ret r, 1) → W p l e R s m args below meth c H1 locs1 cells1 slots1 Qk (F0 m pc1 lsm1 (r.toList.map (m_v g)))) :
    W p l e R s m args below meth c H locs cells slots Qk (F0 m pc lsm stk) := by
  intro T hT X
  obtain ⟨v, st₀, t, T', L, h0, X', hL, e1, e2, hq, go⟩ := hr T hT X
  obtain ⟨q1, q2, q3, q4⟩ := hq
  cases q1
  have hS : va_S (fun q => g.1 ≤ q) s.heap t.heap (locs ++ L) := by
    refine ⟨Nat.le_trans hR.2.1.1 (by rw [← h0]; exact q3), fun q g1 g2 => ?_, fun x hx => ?_⟩
    · rw [q4 q (Nat.not_le.mp g2), h0]
      exact hR.2.1.2.1 q g1 g2
    · rcases List.mem_append.mp hx with hx | hx
      · exact hR.2.1.2.2 x hx
      · exact hL x hx
  have hR2 : m_Rel g J s t.heap (locs ++ L) h1 := ⟨q2, hS, fun hJ L2 xs hx => hR.2.2 hJ L2 xs (by rw [← z]; exact hx)⟩
  have w2 := w g p l e R s m args below meth c t.heap (locs ++ L) (cells + mc) (slots + ms) Qk lsm C hR2 hl hc1 hc2 he
  obtain ⟨t2, a1, b1⟩ := w2 T' e1 X'
  refine ⟨t2, go t2 ?_, b1⟩
  have e3 : (r1.toList ++ rest).map (m_v g) = (Option.map (m_v g) r1).toList ++ rest.map (m_v g) := by
    cases r1 <;> simp
  rw [e3] at a1
  exact a1
theorem m_mon {m : MethodId} {pc : Nat} {lsm : Array Slot} {stk : List Value} {n : Nat} (h : n ≤ 8) : 2 * (F0 m pc lsm stk).monitorRoom + n ≤ 8 := by
  have : (F0 m pc lsm stk).monitorRoom = 0 := rfl
  omega
theorem m_static {idx n : Nat} {M : mM} {as rest : List Value} {b1 b2 : Nat × Nat} (hc : m_cS J.1 idx M n) (hd : decode J.2.1 pc = .ok (.invokestatic idx, 3)) (hst : st = as.reverse ++ rest) (hn : as.length = n) (hcat : (rest.map fun v => v.category).sum ≤ 8) (hb1 : b1.1 + b2.1 ≤ b.1) (hb2 : b1.2 + b2.2 ≤ b.2)
    (k : Ev d b1 M as h (fun r h1 => Wm (d + 1) b2 J (pc + 3) ls (r.toList ++ rest) h1 Q)) : Wm (d + 1) b J pc ls st h Q := by
  obtain ⟨r1, h1, ⟨r, h', hq, w⟩, z, hM⟩ := k
  refine ⟨r, h', hq, ?_⟩
  intro g p l e R s m args below meth c H locs cells slots Qk lsm C hR hl hc1 hc2 he
  obtain ⟨⟨w1, w2, w3, w4, w5⟩, w6, w7⟩ := hc
  obtain ⟨hx, hb, hml, hown, hts, hf, hlo, hK, hg, -⟩ := id C
  have cw : CallB R s args J.1 idx M.1 M.2.1 M.2.2.1 M.2.2.2 (m_words M) (m_room d b1) b1.1 b1.2 n ∧ (Cond.static M.1).before args s = true :=
    ⟨callB_of n hts (m_gin w2) rfl rfl rfl (hts _ w1) (hts _ w6) ⟨w3.1, w3.2, w4⟩ ⟨by rw [hf]; exact Nat.le_refl _, by show 8 + (M.2.2.1 + 11) + 36 * d ≤ _; omega⟩, hts _ w7⟩
  refine m_back (rest := rest) (as := as) (r1 := r1) (h1 := h1) (va_runS (As := as.map (m_v g)) (rest := rest.map (m_v g)) ⟨hx, hb, hml, hown, hts⟩ (hM g l) cw ⟨m_blind g as h, fun U hU hW => ⟨rfl, m_K_warm hW hK, by rw [hU]; exact hR.1, by rw [hU]; exact Nat.le_trans hg hR.2.1.1⟩⟩ rfl (by simpa using hn) hl.1 ?_ (m_mon (by rw [m_cats]; exact hcat)) hd ⟨by omega, by omega⟩) w z C hR hl (by omega) (by omega) he
  show st.map (m_v g) = _
  rw [hst]
  simp
theorem m_special {idx n : Nat} {M : mM} {as rest : List Value} {b1 b2 : Nat × Nat} (hc : m_cI J.1 idx M n) (hd : decode J.2.1 pc = .ok (.invokespecial idx, 3)) (hst : st = as.reverse ++ .ref a :: rest) (hn : as.length = n) (hcat : (rest.map fun v => v.category).sum ≤ 8) (hb1 : b1.1 + b2.1 ≤ b.1) (hb2 : b1.2 + b2.2 ≤ b.2)
    (k : Ev d b1 M (.ref a :: as) h (fun r h1 => Wm (d + 1) b2 J (pc + 3) ls (r.toList ++ rest) h1 Q)) : Wm (d + 1) b J pc ls st h Q := by
  obtain ⟨r1, h1, ⟨r, h', hq, w⟩, z, hM⟩ := k
  refine ⟨r, h', hq, ?_⟩
  intro g p l e R s m args below meth c H locs cells slots Qk lsm C hR hl hc1 hc2 he
  obtain ⟨⟨w1, w2, w3, w4, w5⟩, w6, w7, w8, w9⟩ := hc
  obtain ⟨hx, hb, hml, hown, hts, hf, hlo, hK, hg, -⟩ := id C
  have cw : CallB R s args J.1 idx M.1 M.2.1 M.2.2.1 none (m_words M) (m_room d b1) b1.1 b1.2 n ∧ M.1.name = "<init>" ∧ (Cond.instanceMethod M.1).before args s = true :=
    ⟨callB_of n hts (m_gin w2) (by rw [← w9]; rfl) rfl rfl (hts _ w1) (hts _ w6) ⟨w3.1, w3.2, w4⟩ ⟨by rw [hf]; exact Nat.le_refl _, by show 8 + (M.2.2.1 + 11) + 36 * d ≤ _; omega⟩, w8, hts _ w7⟩
  refine m_back (rest := rest) (as := .ref a :: as) (r1 := r1) (h1 := h1) (va_runI (b := m_ad g a) (As := as.map (m_v g)) (rest := rest.map (m_v g)) ⟨hx, hb, hml, hown, hts⟩ (hM g l) cw ⟨m_blind g _ h, fun U hU hW => ⟨rfl, m_K_warm hW hK, by rw [hU]; exact hR.1, by rw [hU]; exact Nat.le_trans hg hR.2.1.1⟩⟩ rfl (by simpa using hn) hl.1 ?_ (m_mon (by rw [m_cats]; exact hcat)) hd ⟨by omega, by omega⟩) w z C hR hl (by omega) (by omega) he
  show st.map (m_v g) = _
  rw [hst]
  simp
  rfl
theorem m_virtual {idx n ci : Nat} {M : mM} {as rest fs : List Value} {b1 b2 : Nat × Nat} (hc : m_cV J.1 idx ci M n) (ha : h.1 a = .inr (ci, fs)) (hd : decode J.2.1 pc = .ok (.invokevirtual idx, 3)) (hst : st = as.reverse ++ .ref a :: rest) (hn : as.length = n) (hcat : (rest.map fun v => v.category).sum ≤ 8) (hb1 : b1.1 + b2.1 ≤ b.1) (hb2 : b1.2 + b2.2 ≤ b.2)
    (k : Ev d b1 M (.ref a :: as) h (fun r h1 => Wm (d + 1) b2 J (pc + 3) ls (r.toList ++ rest) h1 Q)) : Wm (d + 1) b J pc ls st h Q := by
  obtain ⟨r1, h1, ⟨r, h', hq, w⟩, z, hM⟩ := k
  refine ⟨r, h', hq, ?_⟩
  intro g p l e R s m args below meth c H locs cells slots Qk lsm C hR hl hc1 hc2 he
  obtain ⟨x, x1, ⟨w1, w2, w3, w4, w5⟩, w7, hor⟩ := hc
  obtain ⟨hx, hb, hml, hown, hts, hf, hlo, hK, hg, -⟩ := id C
  obtain ⟨j, rfl, j1, j2⟩ := m_live_obj hR.1 ha x1
  have hrv := va_recv hK.1 hR.1.1 x1 j2
  have hroom : (m_room d b1).frames + 1 ≤ R.frames ∧ 8 + (M.2.2.1 + 11) + (m_room d b1).locals ≤ R.locals := ⟨by rw [hf]; exact Nat.le_refl _, by show 8 + (M.2.2.1 + 11) + 36 * d ≤ _; omega⟩
  have hpre : PreV s H x.1 (g.1 + j) (m_Pc g (.ref (j + 1) :: as) h) (as.map (m_v g)) := ⟨m_blind g _ h, hrv, fun U hU hW => ⟨rfl, m_K_warm hW hK, by rw [hU]; exact hR.1, by rw [hU]; exact Nat.le_trans hg hR.2.1.1⟩⟩
  have hstk : st.map (m_v g) = (as.map (m_v g)).reverse ++ .ref (g.1 + j) :: rest.map (m_v g) := by
    rw [hst]
    simp
    rfl
  have run : va_Run p l e R s m args below meth c H locs cells slots b1.1 b1.2 (F0 m pc lsm (st.map (m_v g))) (rest.map (m_v g)) (m_Qc g r1 h1 (((.ref (j + 1) :: as).map (m_v g)).toArray)) (fun q => g.1 ≤ q) := by
    rcases hor with ⟨u1, u2⟩ | ⟨y, owner, u1, u2, u3, u4, u5, u6⟩
    · have cw : CallW R s args J.1 x.1 idx M.1 M.2.1 M.2.2.1 M.2.2.2 (m_words M) (m_room d b1) b1.1 b1.2 n :=
        ⟨callB_of n hts (m_gin w2) rfl rfl rfl (hts _ w1) (hts _ u1) ⟨w3.1, w3.2, w4⟩ hroom, hts _ w7, hts _ u2⟩
      exact va_runV (As := as.map (m_v g)) (rest := rest.map (m_v g)) ⟨hx, hb, hml, hown, hts⟩ (hM g l) cw hpre rfl (by simpa using hn) hl.1 hstk (m_mon (by rw [m_cats]; exact hcat)) hd ⟨by omega, by omega⟩
    · have cw : va_CU R s args J.1 x.1 owner idx y M.1 M.2.1 M.2.2.1 M.2.2.2 (m_words M) (m_room d b1) b1.1 b1.2 n := by
        rcases u6 with u6 | ⟨u7, b0, m0, r0, u8⟩
        · refine va_cwU n hts ?_ rfl rfl rfl u6 ⟨u5.1, u5.2, u4⟩ hroom
          refine m_ginL (L := [.methodLink J.1 idx y, .sameMethod y.cls owner y.name y.desc, .selects x.1 y M.1, .instanceMethod M.1, .initialized M.1.cls]) (fun v hv => ?_) w2
          simp at hv
          rcases hv with rfl | rfl | rfl | rfl | rfl <;> assumption
        · refine va_cwO n hts ?_ rfl rfl rfl u8 ⟨u5.1, u5.2, u4⟩ hroom
          refine m_ginL (L := [.methodLink J.1 idx y, .sameMethod y.cls owner y.name y.desc, .instanceMethod ⟨owner, y.name, y.desc⟩, .selects x.1 y M.1, .instanceMethod M.1, .initialized M.1.cls]) (fun v hv => ?_) w2
          simp at hv
          rcases hv with rfl | rfl | rfl | rfl | rfl | rfl <;> assumption
      exact va_runU (As := as.map (m_v g)) (rest := rest.map (m_v g)) ⟨hx, hb, hml, hown, hts⟩ (hM g l) cw hpre rfl (by simpa using hn) hl.1 hstk (m_mon (by rw [m_cats]; exact hcat)) hd ⟨by omega, by omega⟩
  exact m_back (rest := rest) (as := .ref (j + 1) :: as) (r1 := r1) (h1 := h1) run w z C hR hl (by omega) (by omega) he
theorem m_super {idx n ci : Nat} {M : mM} {as rest fs : List Value} {b1 b2 : Nat × Nat} (hc : m_cU J.1 idx M n) (ha : h.1 a = .inr (ci, fs)) (hci : ci < 12) (hd : decode J.2.1 pc = .ok (.invokespecial idx, 3)) (hst : st = as.reverse ++ .ref a :: rest) (hn : as.length = n) (hcat : (rest.map fun v => v.category).sum ≤ 8) (hb1 : b1.1 + b2.1 ≤ b.1) (hb2 : b1.2 + b2.2 ≤ b.2)
    (k : Ev d b1 M (.ref a :: as) h (fun r h1 => Wm (d + 1) b2 J (pc + 3) ls (r.toList ++ rest) h1 Q)) : Wm (d + 1) b J pc ls st h Q := by
  obtain ⟨r1, h1, ⟨r, h', hq, w⟩, z, hM⟩ := k
  refine ⟨r, h', hq, ?_⟩
  intro g p l e R s m args below meth c H locs cells slots Qk lsm C hR hl hc1 hc2 he
  obtain ⟨⟨w1, w2, w3, w4, w5⟩, w6, y, u1, u2, u3, u4, u5, u6⟩ := hc
  obtain ⟨hx, hb, hml, hown, hts, hf, hlo, hK, hg, -⟩ := id C
  obtain ⟨x, x1⟩ : ∃ x, vwCl[ci]? = some x := ⟨vwCl[ci]'hci, List.getElem?_eq_getElem hci⟩
  obtain ⟨j, rfl, j1, j2⟩ := m_live_obj hR.1 ha x1
  obtain ⟨cellB, hcB, hoB, hclB⟩ := va_recv hK.1 hR.1.1 x1 j2
  obtain ⟨hfc, kB, hkB, -⟩ := (hK.1.1 ci x x1).2
  have ecl : cellB.cls = g.2.2.1.1 ci := Option.some.inj (hclB.symm.trans hfc)
  have hstk : st.map (m_v g) = (as.map (m_v g)).reverse ++ .ref (g.1 + j) :: rest.map (m_v g) := by
    rw [hst]
    simp
    rfl
  have run : va_Run p l e R s m args below meth c H locs cells slots b1.1 b1.2 (F0 m pc lsm (st.map (m_v g))) (rest.map (m_v g)) (m_Qc g r1 h1 (((.ref (j + 1) :: as).map (m_v g)).toArray)) (fun q => g.1 ≤ q) := by
    have hKb : Back l R p e below s args M.1 3 8 (PreOf R b1.1 b1.2 (m_Pc g (.ref (j + 1) :: as) h)) (PostOf (m_Qc g r1 h1) b1.1 b1.2 (fun q => g.1 ≤ q)) :=
      back_of (bytes := M.2.1) (maxL := M.2.2.1) (ret := M.2.2.2) (hM g l) (m_blind g _ h) rfl rfl (by rw [hf]; exact Nat.le_refl _) (by show 8 + (M.2.2.1 + 11) + 36 * d ≤ _; omega) (pay_in hts (m_gin w2)) List.mem_cons_self (fun a' U hW => word_at hW (mGood_good w1) (hts _ w1))
    obtain ⟨mk, methM, hnamed, hmethM, hstM, habM⟩ := Cond.instanceMethod_spec (hts _ w6)
    obtain ⟨methM', cM, hmethM', -, -, -, -, -, -, hsigM⟩ := Cond.code_spec hnamed (hts _ w2)
    cases hmethM.symm.trans hmethM'
    obtain ⟨ps, dk, kp, hps, hdk, hkp, hsuper, -, -, hnid⟩ := Cond.superclass_spec hown (hts _ u3)
    have hnm : s.methodNamed? ⟨M.1.cls, y.name, y.desc⟩ = some mk := by rw [← u4]; exact hnamed
    have hfm : s.vm.findClass M.1.cls = some mk.cls := findClass_of_methodNamed hnamed
    have hsub : s.vm.isSubclass ps mk.cls = true := by
      rcases u6 with u6 | u6
      · rw [u6] at hps
        cases hps.symm.trans hfm
        simp [Vm.isSubclass, Vm.isSubclassAux]
      · obtain ⟨p2, k2, kp2, f1, f2, f3, f4, -, -, -⟩ := Cond.superclass_spec hps (hts _ u6)
        cases f1.symm.trans hfm
        have hlt : ps < s.vm.classes.size := (Array.getElem?_eq_some_iff.mp f2).1
        obtain ⟨n0, hn0⟩ : ∃ n0, s.vm.classes.size = n0 + 1 := ⟨s.vm.classes.size - 1, (Nat.succ_pred_eq_of_pos (Nat.lt_of_le_of_lt (Nat.zero_le _) hlt)).symm⟩
        unfold Vm.isSubclass
        rw [hn0]
        simp [Vm.isSubclassAux, f2, f4]
    have hpar : as.length = methM.sig.parameters.length := by
      rw [hsigM] at w4
      exact hn.trans (Option.some.inj w4).symm
    intro T hT X
    obtain ⟨vm₁, X₁, hstep₁⟩ := X.invokespecialUp hx hown (hts _ u1) (hts _ u2) hnm hmethM hstM habM u5 hdk hnid hps hsuper hsub (a := g.1 + j) (cell := cellB) (by rw [hT]; exact hcB)
      (fun z h => by rw [h] at hoB; cases hoB) (by rw [ecl]; exact hkB) (g := F0 m pc lsm (st.map (m_v g))) rfl (argsL := as.map (m_v g)) (rest := rest.map (m_v g)) (by simpa using hpar) hstk (by rw [hb]; exact hd)
    obtain ⟨v, ⟨U', l2, c2, s2⟩, X', ⟨g', mk2, t, L, e1, e2, hq2, h3, hL, h4, h5⟩, hsteps⟩ := hKb m meth c ⟨T.setVm vm₁, locs, cells, slots⟩ { F0 m pc lsm (st.map (m_v g)) with stack := rest.map (m_v g) } (.invokespecial idx) mk (((.ref (j + 1) :: as).map (m_v g)).toArray) X₁ rfl (by rw [hml]; exact hl.1) (by rw [hb]; exact hd) (m_mon (by rw [m_cats]; exact hcat)) (X₁.named hnamed) ⟨by show cells + _ ≤ _; omega, by show slots + _ ≤ _; omega, rfl, m_K_warm X₁.warmed hK, by show m_R0 g T.heap h; rw [hT]; exact hR.1, by show g.1 ≤ T.heap.size; rw [hT]; exact Nat.le_trans hg hR.2.1.1⟩
    dsimp only [Pt.U, Pt.locs, Pt.cells, Pt.slots] at X' e1 e2 h3 h4 h5 hsteps
    subst h3; subst h4; subst h5
    exact ⟨v, (T.setVm vm₁).calling g' mk2 (((.ref (j + 1) :: as).map (m_v g)).toArray), t, U', L, hT, X', hL, e1, e2, hq2, fun target h => hstep₁ _ (by rw [doInvoke_state]; exact hsteps.trans h)⟩
  exact m_back (rest := rest) (as := .ref (j + 1) :: as) (r1 := r1) (h1 := h1) run w z C hR hl (by omega) (by omega) he
/-- Object's constructor -/
theorem m_objinit {idx : Nat} (hw1 : Cond.methodLink J.1 idx Lib.objectInit ∈ mGood) (hw2 : Cond.instanceMethod Lib.objectInit ∈ mGood) (hw3 : Cond.code Lib.objectInit ⟨#[0xb1]⟩ 1 none ∈ mGood) (hd : decode J.2.1 pc = .ok (.invokespecial idx, 3)) (hcat : (st.map fun v => v.category).sum ≤ 8) (k : Wm (d + 1) b J (pc + 3) ls st h Q) : Wm (d + 1) b J pc ls (.ref a :: st) h Q := by
  obtain ⟨r, h', q, w⟩ := k
  refine ⟨r, h', q, ?_⟩
  intro g p l e R s m args below meth c H locs cells slots Qk lsm C hR hl hc1 hc2 he
  obtain ⟨hx, hb, hml, hown, hts, hf, hlo, hK, hg, -⟩ := id C
  have hm := m_mon (m := m) (pc := pc) (lsm := lsm) (stk := (Value.ref a :: st).map (m_v g)) (n := ((st.map (m_v g)).map fun v => v.category).sum) (by rw [m_cats]; exact hcat)
  exact W.objInit hx hb hown (hts _ hw1) (hts _ hw2) (hts _ hw3) (g := F0 m pc lsm ((Value.ref a :: st).map (m_v g))) rfl (by rw [hml]; exact hl.1) (rest := st.map (m_v g)) rfl hd (by omega) (by omega) (w g p l e R s m args below meth c H locs cells slots Qk lsm C hR hl hc1 hc2 he)
end CRows
end
section
/-! MINI: System.arraycopy -/
section KRows
variable {d : Nat} {b : Nat × Nat} {J : mJ} {pc : Nat} {ls : List (Option Value)} {st : List Value} {h : mH} {Q : Option Value → mH → Prop}
theorem m_acopyI {idx a0 a1 n0 n1 sp dp n : Nat} {f0 f1 : Nat → Int32} (hw1 : Cond.methodLink J.1 idx arraycopyName ∈ mGood) (hw2 : Cond.native arraycopyName ∈ mGood) (hw3 : Cond.static arraycopyName ∈ mGood) (hw4 : Cond.initialized "java/lang/System" ∈ mGood) (hd : decode J.2.1 pc = .ok (.invokestatic idx, 3))
    (ha0 : h.1 a0 = .inl (0, n0, .inl f0)) (ha1 : h.1 a1 = .inl (0, n1, .inl f1)) (h4 : sp + n ≤ n0) (h5 : dp + n ≤ n1) (hn0 : n0 < 100000) (hn1 : n1 < 100000) (hcat : (st.map fun v => v.category).sum ≤ 8)
    (kk : Wm (d + 1) b J (pc + 3) ls st (m_up h.1 a1 (.inl (0, n1, .inl (va_cpy f0 f1 sp dp n))), h.2) Q) : Wm (d + 1) b J pc ls (.int (nI n) :: .int (nI dp) :: .ref a1 :: .int (nI sp) :: .ref a0 :: st) h Q := by
  obtain ⟨r, h', q, w⟩ := kk
  refine ⟨r, h', q, ?_⟩
  intro g p l e R s m args below meth c H locs cells slots Qk lsm C hR hl hc1 hc2 he
  obtain ⟨hx, hb, hml, hown, hts, hf, hlo, hK, hg, -⟩ := id C
  obtain ⟨j0, rfl, -, j2⟩ := m_live_arr hR.1 ha0 (by decide)
  obtain ⟨j1, rfl, k1, k2⟩ := m_live_arr hR.1 ha1 (by decide)
  have hP := hR.1.1
  have e0 : H[g.1 + j0]? = some (vp_cell (g.2.2.2 0) (n0, .inl f0)) := hP j0 _ j2
  have e1 : H[g.1 + j1]? = some (vp_cell (g.2.2.2 0) (n1, .inl f1)) := hP j1 _ k2
  obtain ⟨-, q0, hq0, cm0, hkk0⟩ := (hK.1.2 0 _ rfl).1 n0 (fun j => Value.int (f0 j))
  obtain ⟨-, q1, hq1, cm1, hkk1⟩ := (hK.1.2 0 _ rfl).1 n1 (fun j => Value.int (f1 j))
  have tsp : (nI sp).toInt = (sp : Int) := nI_toInt (by omega)
  have tdp : (nI dp).toInt = (dp : Int) := nI_toInt (by omega)
  have tn : (nI n).toInt = (n : Int) := nI_toInt (by omega)
  have csp : (nI sp).toNatClampNeg = sp := nI_clamp (by omega)
  have cdp : (nI dp).toNatClampNeg = dp := nI_clamp (by omega)
  have cn : (nI n).toNatClampNeg = n := nI_clamp (by omega)
  have hnat : nativeFrameWords "java/lang/System" "arraycopy" 5 + 11 ≤ 28 := by decide +kernel
  intro T hT X
  obtain ⟨vm', X', step⟩ := X.arraycopy hx hown (hts _ hw1) (hts _ hw2) (hts _ hw3) (hts _ hw4) (src := g.1 + j0) (dst := g.1 + j1) (cs := vp_cell (g.2.2.2 0) (n0, .inl f0)) (cd := vp_cell (g.2.2.2 0) (n1, .inl f1)) (srcPos := nI sp) (destPos := nI dp) (n := nI n) (by rw [hT]; exact e0) (by rw [hT]; exact e1)
    (fun _ h => by cases h) (fun _ h => by cases h) (fun h => by cases h) (fun h => by cases h) hq0 hq1 hkk0 hkk1 (by rfl) (nI_pos (by omega)) (nI_pos (by omega)) (nI_pos (by omega))
    (by rw [tsp, tn]; show ¬ _ > ((arrV (g.2.2.2 0) n0 (fun j => Value.int (f0 j))).slots.size : Int); rw [arrV_size]; omega)
    (by rw [tdp, tn]; show ¬ _ > ((arrV (g.2.2.2 0) n1 (fun j => Value.int (f1 j))).slots.size : Int); rw [arrV_size]; omega)
    (fun vm₁ _ i hi => by
      rw [csp]
      rw [cn] at hi
      have e : (vp_cell (g.2.2.2 0) (n0, .inl f0)).slots.getD (sp + i) .null = Value.int (f0 (sp + i)) := by
        show (arrV (g.2.2.2 0) n0 (fun j => Value.int (f0 j))).slots.getD _ _ = _
        rw [Array.getD_eq_getD_getElem?, arrV_read _ _ (by omega)]
        rfl
      refine ⟨?_, ?_⟩
      · rw [e]
        rfl
      · rw [e]
        exact trivial)
    (g := F0 m pc lsm ((Value.int (nI n) :: .int (nI dp) :: .ref (j1 + 1) :: .int (nI sp) :: .ref (j0 + 1) :: st).map (m_v g))) rfl (by rw [hml]; exact hl.1) (rest := st.map (m_v g)) rfl (by rw [hb]; exact hd) (by omega) (by rw [m_cats]; show 2 * 0 + _ + _ ≤ _; omega)
  have ec : copied (vp_cell (g.2.2.2 0) (n0, .inl f0)) (vp_cell (g.2.2.2 0) (n1, .inl f1)) (nI sp) (nI dp) (nI n) = vp_cell (g.2.2.2 0) (n1, .inl (va_cpy f0 f1 sp dp n)) := by
    have := va_copied (n0 := n0) (n1 := n1) (sp := sp) (dp := dp) (n := n) (fun z => Value.int z) (g.2.2.2 0) (g.2.2.2 0) f0 f1 h4
    rw [← csp, ← cdp, ← cn] at this
    rw [csp, cdp, cn] at this
    unfold copied
    rw [csp, cdp, cn]
    exact this
  rw [ec] at X' step
  have hlt : g.1 + j1 < H.size := (Array.getElem?_eq_some_iff.mp e1).1
  have oq : ∀ q : Nat, q ≠ g.1 + j1 → (H.setIfInBounds (g.1 + j1) (vp_cell (g.2.2.2 0) (n1, .inl (va_cpy f0 f1 sp dp n))))[q]? = H[q]? := fun q hq => by simp [Array.getElem?_setIfInBounds, Ne.symm hq]
  have hheap : ((T.setVm vm').setCell (g.1 + j1) (vp_cell (g.2.2.2 0) (n1, .inl (va_cpy f0 f1 sp dp n)))).heap = H.setIfInBounds (g.1 + j1) (vp_cell (g.2.2.2 0) (n1, .inl (va_cpy f0 f1 sp dp n))) := by rw [← hT]; rfl
  obtain ⟨t, a1, b1⟩ := w g p l e R s m args below meth c (H.setIfInBounds (g.1 + j1) (vp_cell (g.2.2.2 0) (n1, .inl (va_cpy f0 f1 sp dp n)))) _ cells slots Qk lsm C (m_Rel_set hR k1 (by simp) (hP.set (m_D g h) k2 (show (H.setIfInBounds (g.1 + j1) _)[g.1 + j1]? = some _ by simp [Array.getElem?_setIfInBounds, hlt]; rfl) oq) ⟨by simp; exact hR.2.1.1, fun q g1 g2 => by
      rw [oq q (fun e => g2 (by rw [e]; exact Nat.le_add_right _ _))]
      exact hR.2.1.2.1 q g1 g2, fun q hq => by
      rcases List.mem_append.mp hq with h | h
      · exact hR.2.1.2.2 q h
      · obtain ⟨z, -, hz⟩ := List.mem_map.mp h
        rw [← hz]
        exact Nat.le_add_right _ _⟩) hl hc1 hc2 he _ hheap X'
  exact ⟨t, step t a1, b1⟩
theorem m_acopyL {idx a0 a1 n0 n1 sp dp n : Nat} {f0 f1 : Nat → Int64} (hw1 : Cond.methodLink J.1 idx arraycopyName ∈ mGood) (hw2 : Cond.native arraycopyName ∈ mGood) (hw3 : Cond.static arraycopyName ∈ mGood) (hw4 : Cond.initialized "java/lang/System" ∈ mGood) (hd : decode J.2.1 pc = .ok (.invokestatic idx, 3))
    (ha0 : h.1 a0 = .inl (1, n0, .inr (.inl f0))) (ha1 : h.1 a1 = .inl (1, n1, .inr (.inl f1))) (h4 : sp + n ≤ n0) (h5 : dp + n ≤ n1) (hn0 : n0 < 100000) (hn1 : n1 < 100000) (hcat : (st.map fun v => v.category).sum ≤ 8)
    (kk : Wm (d + 1) b J (pc + 3) ls st (m_up h.1 a1 (.inl (1, n1, .inr (.inl (va_cpy f0 f1 sp dp n)))), h.2) Q) : Wm (d + 1) b J pc ls (.int (nI n) :: .int (nI dp) :: .ref a1 :: .int (nI sp) :: .ref a0 :: st) h Q := by
  obtain ⟨r, h', q, w⟩ := kk
  refine ⟨r, h', q, ?_⟩
  intro g p l e R s m args below meth c H locs cells slots Qk lsm C hR hl hc1 hc2 he
  obtain ⟨hx, hb, hml, hown, hts, hf, hlo, hK, hg, -⟩ := id C
  obtain ⟨j0, rfl, -, j2⟩ := m_live_arr hR.1 ha0 (by decide)
  obtain ⟨j1, rfl, k1, k2⟩ := m_live_arr hR.1 ha1 (by decide)
  have hP := hR.1.1
  have e0 : H[g.1 + j0]? = some (vp_cell (g.2.2.2 1) (n0, .inr (.inl f0))) := hP j0 _ j2
  have e1 : H[g.1 + j1]? = some (vp_cell (g.2.2.2 1) (n1, .inr (.inl f1))) := hP j1 _ k2
  obtain ⟨-, q0, hq0, cm0, hkk0⟩ := (hK.1.2 1 _ rfl).1 n0 (fun j => Value.long (f0 j))
  obtain ⟨-, q1, hq1, cm1, hkk1⟩ := (hK.1.2 1 _ rfl).1 n1 (fun j => Value.long (f1 j))
  have tsp : (nI sp).toInt = (sp : Int) := nI_toInt (by omega)
  have tdp : (nI dp).toInt = (dp : Int) := nI_toInt (by omega)
  have tn : (nI n).toInt = (n : Int) := nI_toInt (by omega)
  have csp : (nI sp).toNatClampNeg = sp := nI_clamp (by omega)
  have cdp : (nI dp).toNatClampNeg = dp := nI_clamp (by omega)
  have cn : (nI n).toNatClampNeg = n := nI_clamp (by omega)
  have hnat : nativeFrameWords "java/lang/System" "arraycopy" 5 + 11 ≤ 28 := by decide +kernel
  intro T hT X
  obtain ⟨vm', X', step⟩ := X.arraycopy hx hown (hts _ hw1) (hts _ hw2) (hts _ hw3) (hts _ hw4) (src := g.1 + j0) (dst := g.1 + j1) (cs := vp_cell (g.2.2.2 1) (n0, .inr (.inl f0))) (cd := vp_cell (g.2.2.2 1) (n1, .inr (.inl f1))) (srcPos := nI sp) (destPos := nI dp) (n := nI n) (by rw [hT]; exact e0) (by rw [hT]; exact e1)
    (fun _ h => by cases h) (fun _ h => by cases h) (fun h => by cases h) (fun h => by cases h) hq0 hq1 hkk0 hkk1 (by rfl) (nI_pos (by omega)) (nI_pos (by omega)) (nI_pos (by omega))
    (by rw [tsp, tn]; show ¬ _ > ((arrV (g.2.2.2 1) n0 (fun j => Value.long (f0 j))).slots.size : Int); rw [arrV_size]; omega)
    (by rw [tdp, tn]; show ¬ _ > ((arrV (g.2.2.2 1) n1 (fun j => Value.long (f1 j))).slots.size : Int); rw [arrV_size]; omega)
    (fun vm₁ _ i hi => by
      rw [csp]
      rw [cn] at hi
      have e : (vp_cell (g.2.2.2 1) (n0, .inr (.inl f0))).slots.getD (sp + i) .null = Value.long (f0 (sp + i)) := by
        show (arrV (g.2.2.2 1) n0 (fun j => Value.long (f0 j))).slots.getD _ _ = _
        rw [Array.getD_eq_getD_getElem?, arrV_read _ _ (by omega)]
        rfl
      refine ⟨?_, ?_⟩
      · rw [e]
        rfl
      · rw [e]
        exact trivial)
    (g := F0 m pc lsm ((Value.int (nI n) :: .int (nI dp) :: .ref (j1 + 1) :: .int (nI sp) :: .ref (j0 + 1) :: st).map (m_v g))) rfl (by rw [hml]; exact hl.1) (rest := st.map (m_v g)) rfl (by rw [hb]; exact hd) (by omega) (by rw [m_cats]; show 2 * 0 + _ + _ ≤ _; omega)
  have ec : copied (vp_cell (g.2.2.2 1) (n0, .inr (.inl f0))) (vp_cell (g.2.2.2 1) (n1, .inr (.inl f1))) (nI sp) (nI dp) (nI n) = vp_cell (g.2.2.2 1) (n1, .inr (.inl (va_cpy f0 f1 sp dp n))) := by
    have := va_copied (n0 := n0) (n1 := n1) (sp := sp) (dp := dp) (n := n) (fun z => Value.long z) (g.2.2.2 1) (g.2.2.2 1) f0 f1 h4
    rw [← csp, ← cdp, ← cn] at this
    rw [csp, cdp, cn] at this
    unfold copied
    rw [csp, cdp, cn]
    exact this
  rw [ec] at X' step
  have hlt : g.1 + j1 < H.size := (Array.getElem?_eq_some_iff.mp e1).1
  have oq : ∀ q : Nat, q ≠ g.1 + j1 → (H.setIfInBounds (g.1 + j1) (vp_cell (g.2.2.2 1) (n1, .inr (.inl (va_cpy f0 f1 sp dp n)))))[q]? = H[q]? := fun q hq => by simp [Array.getElem?_setIfInBounds, Ne.symm hq]
  have hheap : ((T.setVm vm').setCell (g.1 + j1) (vp_cell (g.2.2.2 1) (n1, .inr (.inl (va_cpy f0 f1 sp dp n))))).heap = H.setIfInBounds (g.1 + j1) (vp_cell (g.2.2.2 1) (n1, .inr (.inl (va_cpy f0 f1 sp dp n)))) := by rw [← hT]; rfl
  obtain ⟨t, a1, b1⟩ := w g p l e R s m args below meth c (H.setIfInBounds (g.1 + j1) (vp_cell (g.2.2.2 1) (n1, .inr (.inl (va_cpy f0 f1 sp dp n))))) _ cells slots Qk lsm C (m_Rel_set hR k1 (by simp) (hP.set (m_D g h) k2 (show (H.setIfInBounds (g.1 + j1) _)[g.1 + j1]? = some _ by simp [Array.getElem?_setIfInBounds, hlt]; rfl) oq) ⟨by simp; exact hR.2.1.1, fun q g1 g2 => by
      rw [oq q (fun e => g2 (by rw [e]; exact Nat.le_add_right _ _))]
      exact hR.2.1.2.1 q g1 g2, fun q hq => by
      rcases List.mem_append.mp hq with h | h
      · exact hR.2.1.2.2 q h
      · obtain ⟨z, -, hz⟩ := List.mem_map.mp h
        rw [← hz]
        exact Nat.le_add_right _ _⟩) hl hc1 hc2 he _ hheap X'
  exact ⟨t, step t a1, b1⟩
/-- a copy of a row of longs -/
theorem m_cloneL {idx a n : Nat} {f : Nat → Int64} {b2 : Nat × Nat} (hw1 : Cond.methodLink J.1 idx ⟨"[J", "clone", "()Ljava/lang/Object;"⟩ ∈ mGood) (hw2 : Cond.sameMethod "[J" "java/lang/Object" "clone" "()Ljava/lang/Object;" ∈ mGood) (hw3 : Cond.native ⟨"java/lang/Object", "clone", "()Ljava/lang/Object;"⟩ ∈ mGood) (hw4 : Cond.instanceMethod ⟨"java/lang/Object", "clone", "()Ljava/lang/Object;"⟩ ∈ mGood) (hw5 : Cond.selects "[J" ⟨"[J", "clone", "()Ljava/lang/Object;"⟩ ⟨"java/lang/Object", "clone", "()Ljava/lang/Object;"⟩ ∈ mGood) (hd : decode J.2.1 pc = .ok (.invokevirtual idx, 3))
    (ha : h.1 a = .inl (1, n, .inr (.inl f))) (hcat : (st.map fun v => v.category).sum ≤ 8) (hb1 : b2.1 + 1 ≤ b.1) (hb2 : b2.2 + n ≤ b.2)
    (kk : Wm (d + 1) b2 J (pc + 3) ls (.ref h.2 :: st) (m_up h.1 h.2 (.inl (1, n, .inr (.inl f))), h.2 + 1) Q) : Wm (d + 1) b J pc ls (.ref a :: st) h Q := by
  obtain ⟨r, h', q, w⟩ := kk
  refine ⟨r, h', q, ?_⟩
  intro g p l e R s m args below meth c H locs cells slots Qk lsm C hR hl hc1 hc2 he
  obtain ⟨hx, hb, hml, hown, hts, hf, hlo, hK, hg, -⟩ := id C
  obtain ⟨j, rfl, j1, j2⟩ := m_live_arr hR.1 ha (by decide)
  have hP := hR.1.1
  have hsz0 : H.size = g.1 + (h.2 - 1) := by have := hR.1.2.1; have := hR.1.2.2.1; omega
  have h1h := hR.1.2.2.1
  have hc0 : H[g.1 + j]? = some (arrV (g.2.2.2 1) n (fun j => .long (f j))) := hP j _ j2
  have hnm : s.vm.findClass "[J" = some (g.2.2.2 1) := (hK.1.2 1 _ rfl).2
  obtain ⟨c0, t0', f1, f2, f3⟩ := Cond.castable_spec (va_Nw.use (A := args) rfl (hK.2.2.1 ("[J", "java/lang/Cloneable") (by decide)))
  cases hnm.symm.trans f1
  have had : m_v g (.ref h.2) = .ref H.size := by
    show Value.ref (m_ad g h.2) = _
    rw [hsz0, show h.2 = (h.2 - 1) + 1 by omega, m_ad_s]
    rfl
  intro T hT X
  obtain ⟨-, kA, hkA, comp, hkind⟩ := State.isArrayOf_alike X.warmed.alike ((hK.1.2 1 _ rfl).1 0 (fun _ => .null))
  obtain ⟨-, kS, hkS, compS, hkindS⟩ := (hK.1.2 1 _ rfl).1 0 (fun _ => .null)
  have hm := m_cats g st
  obtain ⟨vm', X', stp⟩ := X.cloneArray hx hown (hts _ hw1) (hts _ hw2) (hts _ hw3) (hts _ hw4) (hts _ hw5) (a := g.1 + j) (cell := arrV (g.2.2.2 1) n (fun j => .long (f j))) (by rw [hT]; exact hc0) (fun k h => by cases h) (fun h => by cases h) hnm f2 f3
    (fun i v hv => by
      have hk' : T.vm.classes[g.2.2.2 1]? = some kA := hkA
      have hfit : fits .long v = true := by
        rcases Nat.lt_or_ge i n with hi | hi
        · rw [arrV_read _ _ hi] at hv
          cases hv
          rfl
        · have : (arrV (g.2.2.2 1) n (fun j => Value.long (f j))).slots.size ≤ i := by rw [arrV_size]; exact hi
          rw [Array.getElem?_eq_none this] at hv
          cases hv
      show State.fitsSlot T (g.2.2.2 1) _ i v = true
      simpa [State.fitsSlot, State.slotType?, hk', hkind] using hfit)
    (g := F0 m pc lsm ((Value.ref (j + 1) :: st).map (m_v g))) rfl (by rw [hml]; exact hl.1) rfl (by rw [hb]; exact hd) (by omega) (by rw [hm]; show 2 * 0 + _ + 14 ≤ _; omega) (by omega) (by rw [arrV_size]; omega) (hloader := Vm.clonesLoader_of_array hkS hkindS)
  rw [arrV_size] at X'
  obtain ⟨t, a1, b1⟩ := w g p l e R s m args below meth c (H.push (arrV (g.2.2.2 1) n (fun j => .long (f j)))) locs (cells + 1) (slots + n) Qk lsm C (m_Rel_push hR (by simp) ((hP.kept (fun k x hx => by rw [Array.getElem?_push, if_neg (Nat.ne_of_lt (hP k x hx).lt)])).app (fun k x hx => by
      have hz : k < 1 := (List.getElem?_eq_some_iff.mp hx).1
      rw [show k = 0 by omega] at hx
      cases hx
      show (H.push _)[g.1 + (h.2 - 1)]? = some (vp_cell (g.2.2.2 1) (n, .inr (.inl f)))
      rw [← hsz0, Array.getElem?_push_size]
      rfl)) ⟨Nat.le_trans hR.2.1.1 (by simp), fun x g1 g2 => by rw [Array.getElem?_push, if_neg (Nat.ne_of_lt (Nat.lt_of_lt_of_le g1 hR.2.1.1))]; exact hR.2.1.2.1 x g1 g2, hR.2.1.2.2⟩) hl (by omega) (by omega) he
    ((T.setVm vm').pushCell (arrV (g.2.2.2 1) n (fun j => .long (f j)))) (by rw [← hT]; rfl) X'
  refine ⟨t, stp t ?_, b1⟩
  rw [List.map_cons, had] at a1
  rw [hT]
  exact a1
theorem m_mmax {idx : Nat} {x y : Int32} (hw1 : Cond.methodLink J.1 idx Lib.Math.max.name ∈ mGood) (hw2 : Cond.static Lib.Math.max.name ∈ mGood) (hw3 : Cond.initialized "java/lang/Math" ∈ mGood) (hw4 : Cond.code Lib.Math.max.name Lib.Math.max.code 2 (some .int) ∈ mGood) (hd : decode J.2.1 pc = .ok (.invokestatic idx, 3)) (hcat : (st.map fun v => v.category).sum ≤ 8) (kk : Wm (d + 1) b J (pc + 3) ls (.int (if x < y then y else x) :: st) h Q) : Wm (d + 1) b J pc ls (.int y :: .int x :: st) h Q := by
  obtain ⟨r, h', q, w⟩ := kk
  refine ⟨r, h', q, ?_⟩
  intro g p l e R s m args below meth c H locs cells slots Qk lsm C hR hl hc1 hc2 he
  obtain ⟨hx, hb, hml, hown, hts, hf, hlo, hK, hg, -⟩ := id C
  exact va_mmax hx hb (by rw [hml]; exact hl.1.symm) hown (hts _ hw1) (hts _ hw2) (hts _ hw3) (hts _ hw4) (by omega) (by rw [m_cats]; omega) (by omega) (by omega) hd (w g p l e R s m args below meth c H locs cells slots Qk lsm C hR hl hc1 hc2 he)
theorem m_mmin {idx : Nat} {x y : Int32} (hw1 : Cond.methodLink J.1 idx Lib.Math.min.name ∈ mGood) (hw2 : Cond.static Lib.Math.min.name ∈ mGood) (hw3 : Cond.initialized "java/lang/Math" ∈ mGood) (hw4 : Cond.code Lib.Math.min.name Lib.Math.min.code 2 (some .int) ∈ mGood) (hd : decode J.2.1 pc = .ok (.invokestatic idx, 3)) (hcat : (st.map fun v => v.category).sum ≤ 8) (kk : Wm (d + 1) b J (pc + 3) ls (.int (if y < x then y else x) :: st) h Q) : Wm (d + 1) b J pc ls (.int y :: .int x :: st) h Q := by
  obtain ⟨r, h', q, w⟩ := kk
  refine ⟨r, h', q, ?_⟩
  intro g p l e R s m args below meth c H locs cells slots Qk lsm C hR hl hc1 hc2 he
  obtain ⟨hx, hb, hml, hown, hts, hf, hlo, hK, hg, -⟩ := id C
  exact va_mmin hx hb (by rw [hml]; exact hl.1.symm) hown (hts _ hw1) (hts _ hw2) (hts _ hw3) (hts _ hw4) (by omega) (by rw [m_cats]; omega) (by omega) (by omega) hd (w g p l e R s m args below meth c H locs cells slots Qk lsm C hR hl hc1 hc2 he)
theorem m_castJ {idx a n : Nat} {f : Nat → Int64} (hw : Cond.classLink J.1 idx "[J" ∈ mGood) (hd : decode J.2.1 pc = .ok (.checkcast idx, 3)) (ha : h.1 a = .inl (1, n, .inr (.inl f))) (kk : Wm d b J (pc + 3) ls (.ref a :: st) h Q) : Wm d b J pc ls (.ref a :: st) h Q := by
  obtain ⟨r, h', q, w⟩ := kk
  refine ⟨r, h', q, ?_⟩
  intro g p l e R s m args below meth c H locs cells slots Qk lsm C hR hl hc1 hc2 he
  obtain ⟨hx, hb, hml, hown, hts, hf, hlo, hK, hg, -⟩ := id C
  obtain ⟨j, rfl, j1, j2⟩ := m_live_arr hR.1 ha (by decide)
  exact va_castA hx hb hown (hts _ hw) hR.1.1 j j2 (hK.1.2 1 _ rfl).2 hd (w g p l e R s m args below meth c H locs cells slots Qk lsm C hR hl hc1 hc2 he)
end KRows
end
section
/-! MINI: a call with up to twelve words left on the stack -/
def m_cV1 (own : String) (idx ci : Nat) (M : mM) (n : Nat) : Prop := ∃ r : vw_C, vwCl[ci]? = some r ∧ m_cB M n ∧ Cond.instanceMethod M.1 ∈ mGood ∧ Cond.methodLink own idx M.1 ∈ mGood ∧ Cond.selects r.1 M.1 M.1 ∈ mGood
section WRows
variable {d : Nat} {b : Nat × Nat} {J : mJ} {pc : Nat} {ls : List (Option Value)} {st : List Value} {h : mH} {Q : Option Value → mH → Prop} {a : Nat}
theorem m_mon12 {m : MethodId} {pc : Nat} {lsm : Array Slot} {stk : List Value} {n : Nat} (h : n ≤ 12) : 2 * (F0 m pc lsm stk).monitorRoom + n ≤ 12 := by
  have : (F0 m pc lsm stk).monitorRoom = 0 := rfl
  omega
theorem m_virtual12 {idx n ci : Nat} {M : mM} {as rest fs : List Value} {b1 b2 : Nat × Nat} (hc : m_cV1 J.1 idx ci M n) (hm13 : M.2.2.1 ≤ 13) (ha : h.1 a = .inr (ci, fs)) (hd : decode J.2.1 pc = .ok (.invokevirtual idx, 3)) (hst : st = as.reverse ++ .ref a :: rest) (hn : as.length = n) (hcat : (rest.map fun v => v.category).sum ≤ 12) (hb1 : b1.1 + b2.1 ≤ b.1) (hb2 : b1.2 + b2.2 ≤ b.2)
    (k : Ev d b1 M (.ref a :: as) h (fun r h1 => Wm (d + 1) b2 J (pc + 3) ls (r.toList ++ rest) h1 Q)) : Wm (d + 1) b J pc ls st h Q := by
  obtain ⟨r1, h1, ⟨r, h', hq, w⟩, z, hM⟩ := k
  refine ⟨r, h', hq, ?_⟩
  intro g p l e R s m args below meth c H locs cells slots Qk lsm C hR hl hc1 hc2 he
  obtain ⟨x, x1, ⟨w1, w2, w3, w4, w5⟩, w7, u1, u2⟩ := hc
  obtain ⟨hx, hb, hml, hown, hts, hf, hlo, hK, hg, -⟩ := id C
  obtain ⟨j, rfl, j1, j2⟩ := m_live_obj hR.1 ha x1
  obtain ⟨cellB, hcB, hoB, hclB⟩ := va_recv hK.1 hR.1.1 x1 j2
  have hstk : st.map (m_v g) = (as.map (m_v g)).reverse ++ .ref (g.1 + j) :: rest.map (m_v g) := by
    rw [hst]
    simp
    rfl
  have hKb : Back l R p e below s args M.1 3 12 (PreOf R b1.1 b1.2 (m_Pc g (.ref (j + 1) :: as) h)) (PostOf (m_Qc g r1 h1) b1.1 b1.2 (fun q => g.1 ≤ q)) :=
    back_of (bytes := M.2.1) (maxL := M.2.2.1) (ret := M.2.2.2) (hM g l) (m_blind g _ h) rfl rfl (by rw [hf]; exact Nat.le_refl _) (by show 12 + (M.2.2.1 + 11) + 36 * d ≤ _; omega) (pay_in hts (m_gin w2)) List.mem_cons_self (fun a' U hW => word_at hW (mGood_good w1) (hts _ w1))
  have run : va_Run p l e R s m args below meth c H locs cells slots b1.1 b1.2 (F0 m pc lsm (st.map (m_v g))) (rest.map (m_v g)) (m_Qc g r1 h1 (((.ref (j + 1) :: as).map (m_v g)).toArray)) (fun q => g.1 ≤ q) := by
    intro T hT X
    obtain ⟨v, vm₁, ⟨U', l2, c2, s2⟩, hW₁, X', ⟨g', mk, t, L, e1, e2, hq2, h3, hL, h4, h5⟩, hsteps⟩ := callV X hx (C := x.1) (bytes := M.2.1) (maxL := M.2.2.1) (ret := M.2.2.2) hown (hts _ u1) (hts _ w7) (hts _ u2) (hts _ w2) w3 hKb (b := g.1 + j) (by rw [hT]; exact hcB) hoB hclB (g := F0 m pc lsm (st.map (m_v g))) rfl (by rw [hml]; exact hl.1) (argsL := as.map (m_v g)) (rest := rest.map (m_v g)) (fun sig hs => by
      rw [hs] at w4
      rw [List.length_map]
      exact hn.trans (Option.some.inj w4).symm) hstk (m_mon12 (by rw [m_cats]; exact hcat)) (by rw [hb]; exact hd)
      (fun vm₁ hW₁ => ⟨by show cells + _ ≤ _; omega, by show slots + _ ≤ _; omega, rfl, m_K_warm hW₁ hK, by show m_R0 g T.heap h; rw [hT]; exact hR.1, by show g.1 ≤ T.heap.size; rw [hT]; exact Nat.le_trans hg hR.2.1.1⟩)
    dsimp only [Pt.U, Pt.locs, Pt.cells, Pt.slots] at X' e1 e2 h3 h4 h5 hsteps
    subst h3; subst h4; subst h5
    exact ⟨v, (T.setVm vm₁).calling g' mk (((.ref (j + 1) :: as).map (m_v g)).toArray), t, U', L, hT, X', hL, e1, e2, hq2, hsteps⟩
  exact m_back (rest := rest) (as := .ref (j + 1) :: as) (r1 := r1) (h1 := h1) run w z C hR hl (by omega) (by omega) he
end WRows
end
