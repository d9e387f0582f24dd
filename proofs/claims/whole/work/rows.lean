section
-- ===== PART A: goes FIRST, ahead of the names: the tables' words, and 'selects' of the private methods out of them =====
/-- a private method of a class that the tables say can be made, by its rows of tables_1 -/
def lw_okq (q : MethodName × Nat) : Prop := (q.1.cls ≠ "java/lang/invoke/MethodHandle" ∧ q.1.cls ≠ "java/lang/invoke/VarHandle") ∧ Cond.instantiable q.1.cls q.2 ∈ tables_1 ∧ Cond.privateMethod q.1 ∈ tables_1 ∧ Cond.instanceMethod q.1 ∈ tables_1
theorem lw_p0 : lw_okq (⟨"SaltClouds", "refuse", "(I)I"⟩, 8) := ⟨⟨by decide +kernel, by decide +kernel⟩, List.mem_of_getElem? (i := 18) (by decide +kernel), List.mem_of_getElem? (i := 253) (by decide +kernel), List.mem_of_getElem? (i := 254) (by decide +kernel)⟩
theorem lw_p1 : lw_okq (⟨"SaltClouds", "hasCloud", "(I)Z"⟩, 8) := ⟨⟨by decide +kernel, by decide +kernel⟩, List.mem_of_getElem? (i := 18) (by decide +kernel), List.mem_of_getElem? (i := 275) (by decide +kernel), List.mem_of_getElem? (i := 276) (by decide +kernel)⟩
theorem lw_p2 : lw_okq (⟨"SaltClouds$Cloud", "rainIfItHad", "(I)I"⟩, 6) := ⟨⟨by decide +kernel, by decide +kernel⟩, List.mem_of_getElem? (i := 55) (by decide +kernel), List.mem_of_getElem? (i := 339) (by decide +kernel), List.mem_of_getElem? (i := 340) (by decide +kernel)⟩
theorem lw_p3 : lw_okq (⟨"SaltClouds", "areTwo", "(II)Z"⟩, 8) := ⟨⟨by decide +kernel, by decide +kernel⟩, List.mem_of_getElem? (i := 18) (by decide +kernel), List.mem_of_getElem? (i := 387) (by decide +kernel), List.mem_of_getElem? (i := 388) (by decide +kernel)⟩
theorem lw_p4 : lw_okq (⟨"SaltClouds$TextReader", "readT", "(I)V"⟩, 6) := ⟨⟨by decide +kernel, by decide +kernel⟩, List.mem_of_getElem? (i := 145) (by decide +kernel), List.mem_of_getElem? (i := 426) (by decide +kernel), List.mem_of_getElem? (i := 427) (by decide +kernel)⟩
theorem lw_p5 : lw_okq (⟨"SaltClouds$TextReader", "readA", "(I)V"⟩, 6) := ⟨⟨by decide +kernel, by decide +kernel⟩, List.mem_of_getElem? (i := 145) (by decide +kernel), List.mem_of_getElem? (i := 430) (by decide +kernel), List.mem_of_getElem? (i := 431) (by decide +kernel)⟩
theorem lw_p6 : lw_okq (⟨"SaltClouds$TextReader", "readB", "(I)V"⟩, 6) := ⟨⟨by decide +kernel, by decide +kernel⟩, List.mem_of_getElem? (i := 145) (by decide +kernel), List.mem_of_getElem? (i := 434) (by decide +kernel), List.mem_of_getElem? (i := 435) (by decide +kernel)⟩
theorem lw_p7 : lw_okq (⟨"SaltClouds$TextReader", "readS", "(I)V"⟩, 6) := ⟨⟨by decide +kernel, by decide +kernel⟩, List.mem_of_getElem? (i := 145) (by decide +kernel), List.mem_of_getElem? (i := 438) (by decide +kernel), List.mem_of_getElem? (i := 439) (by decide +kernel)⟩
theorem lw_p8 : lw_okq (⟨"SaltClouds$TextReader", "readP", "(I)V"⟩, 6) := ⟨⟨by decide +kernel, by decide +kernel⟩, List.mem_of_getElem? (i := 145) (by decide +kernel), List.mem_of_getElem? (i := 442) (by decide +kernel), List.mem_of_getElem? (i := 443) (by decide +kernel)⟩
theorem lw_p9 : lw_okq (⟨"SaltClouds$TextReader", "readQ", "(I)V"⟩, 6) := ⟨⟨by decide +kernel, by decide +kernel⟩, List.mem_of_getElem? (i := 145) (by decide +kernel), List.mem_of_getElem? (i := 446) (by decide +kernel), List.mem_of_getElem? (i := 447) (by decide +kernel)⟩
theorem lw_p10 : lw_okq (⟨"SaltClouds$TextReader", "isDigitNext", "()Z"⟩, 6) := ⟨⟨by decide +kernel, by decide +kernel⟩, List.mem_of_getElem? (i := 145) (by decide +kernel), List.mem_of_getElem? (i := 450) (by decide +kernel), List.mem_of_getElem? (i := 451) (by decide +kernel)⟩
theorem lw_p11 : lw_okq (⟨"SaltClouds$TextReader", "goesOn", "()Z"⟩, 6) := ⟨⟨by decide +kernel, by decide +kernel⟩, List.mem_of_getElem? (i := 145) (by decide +kernel), List.mem_of_getElem? (i := 454) (by decide +kernel), List.mem_of_getElem? (i := 455) (by decide +kernel)⟩
theorem lw_p12 : lw_okq (⟨"SaltClouds$TextReader", "readNumber", "()V"⟩, 6) := ⟨⟨by decide +kernel, by decide +kernel⟩, List.mem_of_getElem? (i := 145) (by decide +kernel), List.mem_of_getElem? (i := 458) (by decide +kernel), List.mem_of_getElem? (i := 459) (by decide +kernel)⟩
theorem lw_p13 : lw_okq (⟨"SaltClouds$TextReader", "takeOneOf", "(Ljava/lang/String;)I"⟩, 6) := ⟨⟨by decide +kernel, by decide +kernel⟩, List.mem_of_getElem? (i := 145) (by decide +kernel), List.mem_of_getElem? (i := 466) (by decide +kernel), List.mem_of_getElem? (i := 467) (by decide +kernel)⟩
theorem lw_p14 : lw_okq (⟨"SaltClouds$TextReader", "stop", "()V"⟩, 6) := ⟨⟨by decide +kernel, by decide +kernel⟩, List.mem_of_getElem? (i := 145) (by decide +kernel), List.mem_of_getElem? (i := 554) (by decide +kernel), List.mem_of_getElem? (i := 555) (by decide +kernel)⟩
theorem lw_p15 : lw_okq (⟨"SaltClouds", "errorOfHours", "(I)I"⟩, 8) := ⟨⟨by decide +kernel, by decide +kernel⟩, List.mem_of_getElem? (i := 18) (by decide +kernel), List.mem_of_getElem? (i := 589) (by decide +kernel), List.mem_of_getElem? (i := 590) (by decide +kernel)⟩
def lw_privs_1 : List (MethodName × Nat) := [(⟨"SaltClouds", "refuse", "(I)I"⟩, 8), (⟨"SaltClouds", "hasCloud", "(I)Z"⟩, 8), (⟨"SaltClouds$Cloud", "rainIfItHad", "(I)I"⟩, 6), (⟨"SaltClouds", "areTwo", "(II)Z"⟩, 8), (⟨"SaltClouds$TextReader", "readT", "(I)V"⟩, 6), (⟨"SaltClouds$TextReader", "readA", "(I)V"⟩, 6), (⟨"SaltClouds$TextReader", "readB", "(I)V"⟩, 6), (⟨"SaltClouds$TextReader", "readS", "(I)V"⟩, 6), (⟨"SaltClouds$TextReader", "readP", "(I)V"⟩, 6), (⟨"SaltClouds$TextReader", "readQ", "(I)V"⟩, 6), (⟨"SaltClouds$TextReader", "isDigitNext", "()Z"⟩, 6), (⟨"SaltClouds$TextReader", "goesOn", "()Z"⟩, 6), (⟨"SaltClouds$TextReader", "readNumber", "()V"⟩, 6), (⟨"SaltClouds$TextReader", "takeOneOf", "(Ljava/lang/String;)I"⟩, 6), (⟨"SaltClouds$TextReader", "stop", "()V"⟩, 6), (⟨"SaltClouds", "errorOfHours", "(I)I"⟩, 8)]
theorem lw_r1 : ∀ q ∈ lw_privs_1, lw_okq q := List.forall_mem_cons.mpr ⟨lw_p0, List.forall_mem_cons.mpr ⟨lw_p1, List.forall_mem_cons.mpr ⟨lw_p2, List.forall_mem_cons.mpr ⟨lw_p3, List.forall_mem_cons.mpr ⟨lw_p4, List.forall_mem_cons.mpr ⟨lw_p5, List.forall_mem_cons.mpr ⟨lw_p6, List.forall_mem_cons.mpr ⟨lw_p7, List.forall_mem_cons.mpr ⟨lw_p8, List.forall_mem_cons.mpr ⟨lw_p9, List.forall_mem_cons.mpr ⟨lw_p10, List.forall_mem_cons.mpr ⟨lw_p11, List.forall_mem_cons.mpr ⟨lw_p12, List.forall_mem_cons.mpr ⟨lw_p13, List.forall_mem_cons.mpr ⟨lw_p14, List.forall_mem_cons.mpr ⟨lw_p15, fun _ h => absurd h List.not_mem_nil⟩⟩⟩⟩⟩⟩⟩⟩⟩⟩⟩⟩⟩⟩⟩⟩
theorem lw_p16 : lw_okq (⟨"SaltClouds$Sky", "moveOne", "(LSaltClouds$Cloud;I)V"⟩, 13) := ⟨⟨by decide +kernel, by decide +kernel⟩, List.mem_of_getElem? (i := 26) (by decide +kernel), List.mem_of_getElem? (i := 601) (by decide +kernel), List.mem_of_getElem? (i := 602) (by decide +kernel)⟩
theorem lw_p17 : lw_okq (⟨"SaltClouds$Cloud", "keeps", "(I)Z"⟩, 6) := ⟨⟨by decide +kernel, by decide +kernel⟩, List.mem_of_getElem? (i := 55) (by decide +kernel), List.mem_of_getElem? (i := 617) (by decide +kernel), List.mem_of_getElem? (i := 618) (by decide +kernel)⟩
theorem lw_p18 : lw_okq (⟨"SaltClouds$Sky", "payOne", "(LSaltClouds$Cloud;LSaltClouds$Cloud;)I"⟩, 13) := ⟨⟨by decide +kernel, by decide +kernel⟩, List.mem_of_getElem? (i := 26) (by decide +kernel), List.mem_of_getElem? (i := 667) (by decide +kernel), List.mem_of_getElem? (i := 668) (by decide +kernel)⟩
theorem lw_p19 : lw_okq (⟨"SaltClouds$Sky", "tasteOf", "(I)I"⟩, 13) := ⟨⟨by decide +kernel, by decide +kernel⟩, List.mem_of_getElem? (i := 26) (by decide +kernel), List.mem_of_getElem? (i := 704) (by decide +kernel), List.mem_of_getElem? (i := 705) (by decide +kernel)⟩
theorem lw_p20 : lw_okq (⟨"SaltClouds$Sky", "hasTotals", "(I[I)Z"⟩, 13) := ⟨⟨by decide +kernel, by decide +kernel⟩, List.mem_of_getElem? (i := 26) (by decide +kernel), List.mem_of_getElem? (i := 739) (by decide +kernel), List.mem_of_getElem? (i := 740) (by decide +kernel)⟩
theorem lw_p21 : lw_okq (⟨"SaltClouds$Voices", "own", "(III)I"⟩, 5) := ⟨⟨by decide +kernel, by decide +kernel⟩, List.mem_of_getElem? (i := 175) (by decide +kernel), List.mem_of_getElem? (i := 782) (by decide +kernel), List.mem_of_getElem? (i := 783) (by decide +kernel)⟩
theorem lw_p22 : lw_okq (⟨"SaltClouds$Voices", "from", "(IIII)I"⟩, 5) := ⟨⟨by decide +kernel, by decide +kernel⟩, List.mem_of_getElem? (i := 175) (by decide +kernel), List.mem_of_getElem? (i := 786) (by decide +kernel), List.mem_of_getElem? (i := 787) (by decide +kernel)⟩
theorem lw_p23 : lw_okq (⟨"SaltClouds$Voices", "begin", "(IIII)I"⟩, 5) := ⟨⟨by decide +kernel, by decide +kernel⟩, List.mem_of_getElem? (i := 175) (by decide +kernel), List.mem_of_getElem? (i := 794) (by decide +kernel), List.mem_of_getElem? (i := 795) (by decide +kernel)⟩
theorem lw_p24 : lw_okq (⟨"SaltClouds$Voices", "note", "(I)V"⟩, 5) := ⟨⟨by decide +kernel, by decide +kernel⟩, List.mem_of_getElem? (i := 175) (by decide +kernel), List.mem_of_getElem? (i := 798) (by decide +kernel), List.mem_of_getElem? (i := 799) (by decide +kernel)⟩
theorem lw_p25 : lw_okq (⟨"SaltCloudsModel", "errs", "(I)I"⟩, 24) := ⟨⟨by decide +kernel, by decide +kernel⟩, List.mem_of_getElem? (i := 863) (by decide +kernel), List.mem_of_getElem? (i := 953) (by decide +kernel), List.mem_of_getElem? (i := 954) (by decide +kernel)⟩
theorem lw_p26 : lw_okq (⟨"SaltCloudsModel", "puts", "(III)V"⟩, 24) := ⟨⟨by decide +kernel, by decide +kernel⟩, List.mem_of_getElem? (i := 863) (by decide +kernel), List.mem_of_getElem? (i := 959) (by decide +kernel), List.mem_of_getElem? (i := 960) (by decide +kernel)⟩
theorem lw_p27 : lw_okq (⟨"SaltCloudsModel", "isCloud", "(I)Z"⟩, 24) := ⟨⟨by decide +kernel, by decide +kernel⟩, List.mem_of_getElem? (i := 863) (by decide +kernel), List.mem_of_getElem? (i := 967) (by decide +kernel), List.mem_of_getElem? (i := 968) (by decide +kernel)⟩
theorem lw_p28 : lw_okq (⟨"SaltCloudsModel", "tasteOf", "(I)I"⟩, 24) := ⟨⟨by decide +kernel, by decide +kernel⟩, List.mem_of_getElem? (i := 863) (by decide +kernel), List.mem_of_getElem? (i := 971) (by decide +kernel), List.mem_of_getElem? (i := 972) (by decide +kernel)⟩
theorem lw_p29 : lw_okq (⟨"SaltCloudsModel", "its", "(II)I"⟩, 24) := ⟨⟨by decide +kernel, by decide +kernel⟩, List.mem_of_getElem? (i := 863) (by decide +kernel), List.mem_of_getElem? (i := 975) (by decide +kernel), List.mem_of_getElem? (i := 976) (by decide +kernel)⟩
theorem lw_p30 : lw_okq (⟨"SaltCloudsModel", "nameOf", "(I)I"⟩, 24) := ⟨⟨by decide +kernel, by decide +kernel⟩, List.mem_of_getElem? (i := 863) (by decide +kernel), List.mem_of_getElem? (i := 985) (by decide +kernel), List.mem_of_getElem? (i := 986) (by decide +kernel)⟩
theorem lw_p31 : lw_okq (⟨"SaltCloudsModel", "lawOf", "(IIII)I"⟩, 24) := ⟨⟨by decide +kernel, by decide +kernel⟩, List.mem_of_getElem? (i := 863) (by decide +kernel), List.mem_of_getElem? (i := 989) (by decide +kernel), List.mem_of_getElem? (i := 990) (by decide +kernel)⟩
def lw_privs_2 : List (MethodName × Nat) := [(⟨"SaltClouds$Sky", "moveOne", "(LSaltClouds$Cloud;I)V"⟩, 13), (⟨"SaltClouds$Cloud", "keeps", "(I)Z"⟩, 6), (⟨"SaltClouds$Sky", "payOne", "(LSaltClouds$Cloud;LSaltClouds$Cloud;)I"⟩, 13), (⟨"SaltClouds$Sky", "tasteOf", "(I)I"⟩, 13), (⟨"SaltClouds$Sky", "hasTotals", "(I[I)Z"⟩, 13), (⟨"SaltClouds$Voices", "own", "(III)I"⟩, 5), (⟨"SaltClouds$Voices", "from", "(IIII)I"⟩, 5), (⟨"SaltClouds$Voices", "begin", "(IIII)I"⟩, 5), (⟨"SaltClouds$Voices", "note", "(I)V"⟩, 5), (⟨"SaltCloudsModel", "errs", "(I)I"⟩, 24), (⟨"SaltCloudsModel", "puts", "(III)V"⟩, 24), (⟨"SaltCloudsModel", "isCloud", "(I)Z"⟩, 24), (⟨"SaltCloudsModel", "tasteOf", "(I)I"⟩, 24), (⟨"SaltCloudsModel", "its", "(II)I"⟩, 24), (⟨"SaltCloudsModel", "nameOf", "(I)I"⟩, 24), (⟨"SaltCloudsModel", "lawOf", "(IIII)I"⟩, 24)]
theorem lw_r2 : ∀ q ∈ lw_privs_2, lw_okq q := List.forall_mem_cons.mpr ⟨lw_p16, List.forall_mem_cons.mpr ⟨lw_p17, List.forall_mem_cons.mpr ⟨lw_p18, List.forall_mem_cons.mpr ⟨lw_p19, List.forall_mem_cons.mpr ⟨lw_p20, List.forall_mem_cons.mpr ⟨lw_p21, List.forall_mem_cons.mpr ⟨lw_p22, List.forall_mem_cons.mpr ⟨lw_p23, List.forall_mem_cons.mpr ⟨lw_p24, List.forall_mem_cons.mpr ⟨lw_p25, List.forall_mem_cons.mpr ⟨lw_p26, List.forall_mem_cons.mpr ⟨lw_p27, List.forall_mem_cons.mpr ⟨lw_p28, List.forall_mem_cons.mpr ⟨lw_p29, List.forall_mem_cons.mpr ⟨lw_p30, List.forall_mem_cons.mpr ⟨lw_p31, fun _ h => absurd h List.not_mem_nil⟩⟩⟩⟩⟩⟩⟩⟩⟩⟩⟩⟩⟩⟩⟩⟩
theorem lw_p32 : lw_okq (⟨"SaltCloudsModel", "walks", "(IIII)I"⟩, 24) := ⟨⟨by decide +kernel, by decide +kernel⟩, List.mem_of_getElem? (i := 863) (by decide +kernel), List.mem_of_getElem? (i := 993) (by decide +kernel), List.mem_of_getElem? (i := 994) (by decide +kernel)⟩
theorem lw_p33 : lw_okq (⟨"SaltCloudsModel", "whole", "()I"⟩, 24) := ⟨⟨by decide +kernel, by decide +kernel⟩, List.mem_of_getElem? (i := 863) (by decide +kernel), List.mem_of_getElem? (i := 997) (by decide +kernel), List.mem_of_getElem? (i := 998) (by decide +kernel)⟩
theorem lw_p34 : lw_okq (⟨"SaltCloudsModel", "both", "()I"⟩, 24) := ⟨⟨by decide +kernel, by decide +kernel⟩, List.mem_of_getElem? (i := 863) (by decide +kernel), List.mem_of_getElem? (i := 1001) (by decide +kernel), List.mem_of_getElem? (i := 1002) (by decide +kernel)⟩
theorem lw_p35 : lw_okq (⟨"SaltCloudsModel", "compared", "()I"⟩, 24) := ⟨⟨by decide +kernel, by decide +kernel⟩, List.mem_of_getElem? (i := 863) (by decide +kernel), List.mem_of_getElem? (i := 1005) (by decide +kernel), List.mem_of_getElem? (i := 1006) (by decide +kernel)⟩
theorem lw_p36 : lw_okq (⟨"SaltCloudsModel", "sum", "()I"⟩, 24) := ⟨⟨by decide +kernel, by decide +kernel⟩, List.mem_of_getElem? (i := 863) (by decide +kernel), List.mem_of_getElem? (i := 1009) (by decide +kernel), List.mem_of_getElem? (i := 1010) (by decide +kernel)⟩
theorem lw_p37 : lw_okq (⟨"SaltCloudsModel", "product", "()I"⟩, 24) := ⟨⟨by decide +kernel, by decide +kernel⟩, List.mem_of_getElem? (i := 863) (by decide +kernel), List.mem_of_getElem? (i := 1013) (by decide +kernel), List.mem_of_getElem? (i := 1014) (by decide +kernel)⟩
theorem lw_p38 : lw_okq (⟨"SaltCloudsModel", "factor", "()I"⟩, 24) := ⟨⟨by decide +kernel, by decide +kernel⟩, List.mem_of_getElem? (i := 863) (by decide +kernel), List.mem_of_getElem? (i := 1017) (by decide +kernel), List.mem_of_getElem? (i := 1018) (by decide +kernel)⟩
theorem lw_p39 : lw_okq (⟨"SaltCloudsModel", "byteAt", "(I)I"⟩, 24) := ⟨⟨by decide +kernel, by decide +kernel⟩, List.mem_of_getElem? (i := 863) (by decide +kernel), List.mem_of_getElem? (i := 1021) (by decide +kernel), List.mem_of_getElem? (i := 1022) (by decide +kernel)⟩
theorem lw_p40 : lw_okq (⟨"SaltCloudsModel", "number", "()I"⟩, 24) := ⟨⟨by decide +kernel, by decide +kernel⟩, List.mem_of_getElem? (i := 863) (by decide +kernel), List.mem_of_getElem? (i := 1028) (by decide +kernel), List.mem_of_getElem? (i := 1029) (by decide +kernel)⟩
theorem lw_p41 : lw_okq (⟨"SaltCloudsModel", "named", "(I)I"⟩, 24) := ⟨⟨by decide +kernel, by decide +kernel⟩, List.mem_of_getElem? (i := 863) (by decide +kernel), List.mem_of_getElem? (i := 1032) (by decide +kernel), List.mem_of_getElem? (i := 1033) (by decide +kernel)⟩
theorem lw_p42 : lw_okq (⟨"SaltCloudsModel", "fails", "()I"⟩, 24) := ⟨⟨by decide +kernel, by decide +kernel⟩, List.mem_of_getElem? (i := 863) (by decide +kernel), List.mem_of_getElem? (i := 1036) (by decide +kernel), List.mem_of_getElem? (i := 1037) (by decide +kernel)⟩
theorem lw_p43 : lw_okq (⟨"SaltCloudsModel", "windNow", "()I"⟩, 24) := ⟨⟨by decide +kernel, by decide +kernel⟩, List.mem_of_getElem? (i := 863) (by decide +kernel), List.mem_of_getElem? (i := 1040) (by decide +kernel), List.mem_of_getElem? (i := 1041) (by decide +kernel)⟩
theorem lw_p44 : lw_okq (⟨"SaltCloudsModel", "driftsBy", "(II)I"⟩, 24) := ⟨⟨by decide +kernel, by decide +kernel⟩, List.mem_of_getElem? (i := 863) (by decide +kernel), List.mem_of_getElem? (i := 1044) (by decide +kernel), List.mem_of_getElem? (i := 1045) (by decide +kernel)⟩
theorem lw_p45 : lw_okq (⟨"SaltCloudsModel", "heightOf", "(I)I"⟩, 24) := ⟨⟨by decide +kernel, by decide +kernel⟩, List.mem_of_getElem? (i := 863) (by decide +kernel), List.mem_of_getElem? (i := 1048) (by decide +kernel), List.mem_of_getElem? (i := 1049) (by decide +kernel)⟩
theorem lw_p46 : lw_okq (⟨"SaltCloudsModel", "rainsAt", "(II)I"⟩, 24) := ⟨⟨by decide +kernel, by decide +kernel⟩, List.mem_of_getElem? (i := 863) (by decide +kernel), List.mem_of_getElem? (i := 1052) (by decide +kernel), List.mem_of_getElem? (i := 1053) (by decide +kernel)⟩
theorem lw_p47 : lw_okq (⟨"SaltCloudsModel", "isThere", "(I)Z"⟩, 24) := ⟨⟨by decide +kernel, by decide +kernel⟩, List.mem_of_getElem? (i := 863) (by decide +kernel), List.mem_of_getElem? (i := 1072) (by decide +kernel), List.mem_of_getElem? (i := 1073) (by decide +kernel)⟩
def lw_privs_3 : List (MethodName × Nat) := [(⟨"SaltCloudsModel", "walks", "(IIII)I"⟩, 24), (⟨"SaltCloudsModel", "whole", "()I"⟩, 24), (⟨"SaltCloudsModel", "both", "()I"⟩, 24), (⟨"SaltCloudsModel", "compared", "()I"⟩, 24), (⟨"SaltCloudsModel", "sum", "()I"⟩, 24), (⟨"SaltCloudsModel", "product", "()I"⟩, 24), (⟨"SaltCloudsModel", "factor", "()I"⟩, 24), (⟨"SaltCloudsModel", "byteAt", "(I)I"⟩, 24), (⟨"SaltCloudsModel", "number", "()I"⟩, 24), (⟨"SaltCloudsModel", "named", "(I)I"⟩, 24), (⟨"SaltCloudsModel", "fails", "()I"⟩, 24), (⟨"SaltCloudsModel", "windNow", "()I"⟩, 24), (⟨"SaltCloudsModel", "driftsBy", "(II)I"⟩, 24), (⟨"SaltCloudsModel", "heightOf", "(I)I"⟩, 24), (⟨"SaltCloudsModel", "rainsAt", "(II)I"⟩, 24), (⟨"SaltCloudsModel", "isThere", "(I)Z"⟩, 24)]
theorem lw_r3 : ∀ q ∈ lw_privs_3, lw_okq q := List.forall_mem_cons.mpr ⟨lw_p32, List.forall_mem_cons.mpr ⟨lw_p33, List.forall_mem_cons.mpr ⟨lw_p34, List.forall_mem_cons.mpr ⟨lw_p35, List.forall_mem_cons.mpr ⟨lw_p36, List.forall_mem_cons.mpr ⟨lw_p37, List.forall_mem_cons.mpr ⟨lw_p38, List.forall_mem_cons.mpr ⟨lw_p39, List.forall_mem_cons.mpr ⟨lw_p40, List.forall_mem_cons.mpr ⟨lw_p41, List.forall_mem_cons.mpr ⟨lw_p42, List.forall_mem_cons.mpr ⟨lw_p43, List.forall_mem_cons.mpr ⟨lw_p44, List.forall_mem_cons.mpr ⟨lw_p45, List.forall_mem_cons.mpr ⟨lw_p46, List.forall_mem_cons.mpr ⟨lw_p47, fun _ h => absurd h List.not_mem_nil⟩⟩⟩⟩⟩⟩⟩⟩⟩⟩⟩⟩⟩⟩⟩⟩
theorem lw_p48 : lw_okq (⟨"SaltCloudsModel", "moveAll", "([I[I)V"⟩, 24) := ⟨⟨by decide +kernel, by decide +kernel⟩, List.mem_of_getElem? (i := 863) (by decide +kernel), List.mem_of_getElem? (i := 1106) (by decide +kernel), List.mem_of_getElem? (i := 1107) (by decide +kernel)⟩
theorem lw_p49 : lw_okq (⟨"SaltCloudsModel", "goes", "(IZ)I"⟩, 24) := ⟨⟨by decide +kernel, by decide +kernel⟩, List.mem_of_getElem? (i := 863) (by decide +kernel), List.mem_of_getElem? (i := 1114) (by decide +kernel), List.mem_of_getElem? (i := 1115) (by decide +kernel)⟩
theorem lw_p50 : lw_okq (⟨"SaltCloudsModel", "drawn", "(I)I"⟩, 24) := ⟨⟨by decide +kernel, by decide +kernel⟩, List.mem_of_getElem? (i := 863) (by decide +kernel), List.mem_of_getElem? (i := 1118) (by decide +kernel), List.mem_of_getElem? (i := 1119) (by decide +kernel)⟩
theorem lw_p51 : lw_okq (⟨"SaltCloudsModel", "oneHour", "(I)V"⟩, 24) := ⟨⟨by decide +kernel, by decide +kernel⟩, List.mem_of_getElem? (i := 863) (by decide +kernel), List.mem_of_getElem? (i := 1123) (by decide +kernel), List.mem_of_getElem? (i := 1124) (by decide +kernel)⟩
theorem lw_p52 : lw_okq (⟨"SaltCloudsModel", "passes", "(II)V"⟩, 24) := ⟨⟨by decide +kernel, by decide +kernel⟩, List.mem_of_getElem? (i := 863) (by decide +kernel), List.mem_of_getElem? (i := 1127) (by decide +kernel), List.mem_of_getElem? (i := 1128) (by decide +kernel)⟩
theorem lw_p53 : lw_okq (⟨"SaltCloudsModel", "rain", "(II)V"⟩, 24) := ⟨⟨by decide +kernel, by decide +kernel⟩, List.mem_of_getElem? (i := 863) (by decide +kernel), List.mem_of_getElem? (i := 1131) (by decide +kernel), List.mem_of_getElem? (i := 1132) (by decide +kernel)⟩
theorem lw_p54 : lw_okq (⟨"SaltCloudsModel", "keeps", "(II)Z"⟩, 24) := ⟨⟨by decide +kernel, by decide +kernel⟩, List.mem_of_getElem? (i := 863) (by decide +kernel), List.mem_of_getElem? (i := 1136) (by decide +kernel), List.mem_of_getElem? (i := 1137) (by decide +kernel)⟩
theorem lw_p55 : lw_okq (⟨"SaltCloudsModel", "nobodies", "()I"⟩, 24) := ⟨⟨by decide +kernel, by decide +kernel⟩, List.mem_of_getElem? (i := 863) (by decide +kernel), List.mem_of_getElem? (i := 1140) (by decide +kernel), List.mem_of_getElem? (i := 1141) (by decide +kernel)⟩
theorem lw_p56 : lw_okq (⟨"SaltCloudsModel", "isNobody", "(I)Z"⟩, 24) := ⟨⟨by decide +kernel, by decide +kernel⟩, List.mem_of_getElem? (i := 863) (by decide +kernel), List.mem_of_getElem? (i := 1144) (by decide +kernel), List.mem_of_getElem? (i := 1145) (by decide +kernel)⟩
theorem lw_p57 : lw_okq (⟨"SaltCloudsModel", "allPay", "()I"⟩, 24) := ⟨⟨by decide +kernel, by decide +kernel⟩, List.mem_of_getElem? (i := 863) (by decide +kernel), List.mem_of_getElem? (i := 1160) (by decide +kernel), List.mem_of_getElem? (i := 1161) (by decide +kernel)⟩
theorem lw_p58 : lw_okq (⟨"SaltCloudsModel", "pays", "(II)I"⟩, 24) := ⟨⟨by decide +kernel, by decide +kernel⟩, List.mem_of_getElem? (i := 863) (by decide +kernel), List.mem_of_getElem? (i := 1164) (by decide +kernel), List.mem_of_getElem? (i := 1165) (by decide +kernel)⟩
theorem lw_p59 : lw_okq (⟨"SaltCloudsModel", "nobodyAt", "(I)I"⟩, 24) := ⟨⟨by decide +kernel, by decide +kernel⟩, List.mem_of_getElem? (i := 863) (by decide +kernel), List.mem_of_getElem? (i := 1172) (by decide +kernel), List.mem_of_getElem? (i := 1173) (by decide +kernel)⟩
theorem lw_p60 : lw_okq (⟨"SaltCloudsModel", "thereOnes", "()I"⟩, 24) := ⟨⟨by decide +kernel, by decide +kernel⟩, List.mem_of_getElem? (i := 863) (by decide +kernel), List.mem_of_getElem? (i := 1185) (by decide +kernel), List.mem_of_getElem? (i := 1186) (by decide +kernel)⟩
theorem lw_p61 : lw_okq (⟨"SaltCloudsModel", "sumOf", "(II)I"⟩, 24) := ⟨⟨by decide +kernel, by decide +kernel⟩, List.mem_of_getElem? (i := 863) (by decide +kernel), List.mem_of_getElem? (i := 1192) (by decide +kernel), List.mem_of_getElem? (i := 1193) (by decide +kernel)⟩
theorem lw_p62 : lw_okq (⟨"SaltCloudsModel", "windFor", "(III)I"⟩, 24) := ⟨⟨by decide +kernel, by decide +kernel⟩, List.mem_of_getElem? (i := 863) (by decide +kernel), List.mem_of_getElem? (i := 1223) (by decide +kernel), List.mem_of_getElem? (i := 1224) (by decide +kernel)⟩
theorem lw_p63 : lw_okq (⟨"SaltCloudsModel", "driftsIn", "(II)I"⟩, 24) := ⟨⟨by decide +kernel, by decide +kernel⟩, List.mem_of_getElem? (i := 863) (by decide +kernel), List.mem_of_getElem? (i := 1235) (by decide +kernel), List.mem_of_getElem? (i := 1236) (by decide +kernel)⟩
def lw_privs_4 : List (MethodName × Nat) := [(⟨"SaltCloudsModel", "moveAll", "([I[I)V"⟩, 24), (⟨"SaltCloudsModel", "goes", "(IZ)I"⟩, 24), (⟨"SaltCloudsModel", "drawn", "(I)I"⟩, 24), (⟨"SaltCloudsModel", "oneHour", "(I)V"⟩, 24), (⟨"SaltCloudsModel", "passes", "(II)V"⟩, 24), (⟨"SaltCloudsModel", "rain", "(II)V"⟩, 24), (⟨"SaltCloudsModel", "keeps", "(II)Z"⟩, 24), (⟨"SaltCloudsModel", "nobodies", "()I"⟩, 24), (⟨"SaltCloudsModel", "isNobody", "(I)Z"⟩, 24), (⟨"SaltCloudsModel", "allPay", "()I"⟩, 24), (⟨"SaltCloudsModel", "pays", "(II)I"⟩, 24), (⟨"SaltCloudsModel", "nobodyAt", "(I)I"⟩, 24), (⟨"SaltCloudsModel", "thereOnes", "()I"⟩, 24), (⟨"SaltCloudsModel", "sumOf", "(II)I"⟩, 24), (⟨"SaltCloudsModel", "windFor", "(III)I"⟩, 24), (⟨"SaltCloudsModel", "driftsIn", "(II)I"⟩, 24)]
theorem lw_r4 : ∀ q ∈ lw_privs_4, lw_okq q := List.forall_mem_cons.mpr ⟨lw_p48, List.forall_mem_cons.mpr ⟨lw_p49, List.forall_mem_cons.mpr ⟨lw_p50, List.forall_mem_cons.mpr ⟨lw_p51, List.forall_mem_cons.mpr ⟨lw_p52, List.forall_mem_cons.mpr ⟨lw_p53, List.forall_mem_cons.mpr ⟨lw_p54, List.forall_mem_cons.mpr ⟨lw_p55, List.forall_mem_cons.mpr ⟨lw_p56, List.forall_mem_cons.mpr ⟨lw_p57, List.forall_mem_cons.mpr ⟨lw_p58, List.forall_mem_cons.mpr ⟨lw_p59, List.forall_mem_cons.mpr ⟨lw_p60, List.forall_mem_cons.mpr ⟨lw_p61, List.forall_mem_cons.mpr ⟨lw_p62, List.forall_mem_cons.mpr ⟨lw_p63, fun _ h => absurd h List.not_mem_nil⟩⟩⟩⟩⟩⟩⟩⟩⟩⟩⟩⟩⟩⟩⟩⟩
theorem lw_p64 : lw_okq (⟨"SaltCloudsModel", "ran", "(I)V"⟩, 24) := ⟨⟨by decide +kernel, by decide +kernel⟩, List.mem_of_getElem? (i := 863) (by decide +kernel), List.mem_of_getElem? (i := 1239) (by decide +kernel), List.mem_of_getElem? (i := 1240) (by decide +kernel)⟩
theorem lw_p65 : lw_okq (⟨"SaltCloudsModel", "rainsIn", "(II)I"⟩, 24) := ⟨⟨by decide +kernel, by decide +kernel⟩, List.mem_of_getElem? (i := 863) (by decide +kernel), List.mem_of_getElem? (i := 1243) (by decide +kernel), List.mem_of_getElem? (i := 1244) (by decide +kernel)⟩
theorem lw_p66 : lw_okq (⟨"SaltCloudsModel", "tastesIn", "(II)I"⟩, 24) := ⟨⟨by decide +kernel, by decide +kernel⟩, List.mem_of_getElem? (i := 863) (by decide +kernel), List.mem_of_getElem? (i := 1247) (by decide +kernel), List.mem_of_getElem? (i := 1248) (by decide +kernel)⟩
theorem lw_p67 : lw_okq (⟨"SaltCloudsModel", "tellsIn", "(II)I"⟩, 24) := ⟨⟨by decide +kernel, by decide +kernel⟩, List.mem_of_getElem? (i := 863) (by decide +kernel), List.mem_of_getElem? (i := 1251) (by decide +kernel), List.mem_of_getElem? (i := 1252) (by decide +kernel)⟩
def lw_privs_5 : List (MethodName × Nat) := [(⟨"SaltCloudsModel", "ran", "(I)V"⟩, 24), (⟨"SaltCloudsModel", "rainsIn", "(II)I"⟩, 24), (⟨"SaltCloudsModel", "tastesIn", "(II)I"⟩, 24), (⟨"SaltCloudsModel", "tellsIn", "(II)I"⟩, 24)]
theorem lw_r5 : ∀ q ∈ lw_privs_5, lw_okq q := List.forall_mem_cons.mpr ⟨lw_p64, List.forall_mem_cons.mpr ⟨lw_p65, List.forall_mem_cons.mpr ⟨lw_p66, List.forall_mem_cons.mpr ⟨lw_p67, fun _ h => absurd h List.not_mem_nil⟩⟩⟩⟩
def lw_privs : List (MethodName × Nat) := lw_privs_1 ++ (lw_privs_2 ++ (lw_privs_3 ++ (lw_privs_4 ++ (lw_privs_5))))
def lw_tbl : List Cond := k2_sels lw_privs ++ tables_1
theorem lw_privs_ok : ∀ q ∈ lw_privs, lw_okq q := by
  show ∀ q ∈ lw_privs_1 ++ (lw_privs_2 ++ (lw_privs_3 ++ (lw_privs_4 ++ (lw_privs_5)))), lw_okq q
  exact List.forall_mem_append.mpr ⟨lw_r1, List.forall_mem_append.mpr ⟨lw_r2, List.forall_mem_append.mpr ⟨lw_r3, List.forall_mem_append.mpr ⟨lw_r4, lw_r5⟩⟩⟩⟩
end
section
def RX0 : String := "SaltClouds$Cloud"
def TX0 : u_T := fun k => match k with
  | 0 => ("SaltClouds$Cloud", "kind", "I", false)
  | 1 => ("SaltClouds$Cloud", "m", "I", false)
  | 2 => ("SaltClouds$Cloud", "place", "I", false)
  | 3 => ("SaltClouds$Cloud", "water", "I", false)
  | 4 => ("SaltClouds$Cloud", "there", "Z", false)
  | _ => ("SaltClouds$Cloud", "salts", "[I", true)
def tyX0 : Nat → FieldType := fun k => match k with
  | 0 => .int
  | 1 => .int
  | 2 => .int
  | 3 => .int
  | 4 => .boolean
  | _ => .array .int
theorem nmX0 : ∀ a, a < 6 → ∀ b, b < 6 → a ≠ b → (TX0 a).2.1 ≠ (TX0 b).2.1 := by decide +kernel
theorem tyX0_ok : ∀ k, k < 6 → parseFieldDescriptor (TX0 k).2.2.1 = some (tyX0 k) := by decide +kernel
abbrev cX0_init : ByteArray := prog_2_method_1_code
def yX0_init : MethodName := ⟨RX0, "<init>", "()V"⟩
abbrev cX0_takeFrom : ByteArray := prog_2_method_2_code
def yX0_takeFrom : MethodName := ⟨RX0, "takeFrom", "(LSaltClouds$Cloud;)V"⟩
abbrev cX0_appear : ByteArray := prog_2_method_3_code
def yX0_appear : MethodName := ⟨RX0, "appear", "(III)V"⟩
abbrev cX0_takeKind : ByteArray := prog_2_method_4_code
def yX0_takeKind : MethodName := ⟨RX0, "takeKind", "(I)V"⟩
abbrev cX0_saltAt : ByteArray := prog_2_method_5_code
def yX0_saltAt : MethodName := ⟨RX0, "saltAt", "(I)I"⟩
abbrev cX0_allSalts : ByteArray := prog_2_method_6_code
def yX0_allSalts : MethodName := ⟨RX0, "allSalts", "()I"⟩
abbrev cX0_taste : ByteArray := prog_2_method_7_code
def yX0_taste : MethodName := ⟨RX0, "taste", "()I"⟩
abbrev cX0_change : ByteArray := prog_2_method_8_code
def yX0_change : MethodName := ⟨RX0, "change", "(II)I"⟩
abbrev cX0_takeIn : ByteArray := prog_2_method_9_code
def yX0_takeIn : MethodName := ⟨RX0, "takeIn", "(LSaltClouds$Cloud;)V"⟩
abbrev cX0_halveInto : ByteArray := prog_2_method_10_code
def yX0_halveInto : MethodName := ⟨RX0, "halveInto", "(LSaltClouds$Cloud;)V"⟩
abbrev cX0_driftBy : ByteArray := prog_2_method_11_code
def yX0_driftBy : MethodName := ⟨RX0, "driftBy", "(I)I"⟩
abbrev cX0_placeBy : ByteArray := prog_2_method_12_code
def yX0_placeBy : MethodName := ⟨RX0, "placeBy", "(II)I"⟩
abbrev cX0_leastWind : ByteArray := prog_2_method_13_code
def yX0_leastWind : MethodName := ⟨RX0, "leastWind", "(II)I"⟩
abbrev cX0_rainAt : ByteArray := prog_2_method_14_code
def yX0_rainAt : MethodName := ⟨RX0, "rainAt", "(I)I"⟩
abbrev cX0_rainIfItHad : ByteArray := prog_2_method_15_code
def yX0_rainIfItHad : MethodName := ⟨RX0, "rainIfItHad", "(I)I"⟩
abbrev cX0_keeps : ByteArray := prog_2_method_16_code
def yX0_keeps : MethodName := ⟨RX0, "keeps", "(I)Z"⟩
abbrev cX0_rainOverHill : ByteArray := prog_2_method_17_code
def yX0_rainOverHill : MethodName := ⟨RX0, "rainOverHill", "(I)I"⟩
abbrev cX0_drinkFromSea : ByteArray := prog_2_method_18_code
def yX0_drinkFromSea : MethodName := ⟨RX0, "drinkFromSea", "()V"⟩
abbrev cX0_firstSaltBelow : ByteArray := prog_2_method_19_code
def yX0_firstSaltBelow : MethodName := ⟨RX0, "firstSaltBelow", "(I)I"⟩
abbrev cX0_minutesToBelow : ByteArray := prog_2_method_20_code
def yX0_minutesToBelow : MethodName := ⟨RX0, "minutesToBelow", "(II)I"⟩
def RX1 : String := "SaltClouds$Sheet"
def TX1 : u_T := fun k => match k with
  | 0 => ("SaltClouds$Sheet", "bits", "I", false)
  | 1 => ("SaltClouds$Sheet", "size", "I", false)
  | _ => ("SaltClouds$Sheet", "numbers", "[I", true)
def tyX1 : Nat → FieldType := fun k => match k with
  | 0 => .int
  | 1 => .int
  | _ => .array .int
theorem nmX1 : ∀ a, a < 3 → ∀ b, b < 3 → a ≠ b → (TX1 a).2.1 ≠ (TX1 b).2.1 := by decide +kernel
theorem tyX1_ok : ∀ k, k < 3 → parseFieldDescriptor (TX1 k).2.2.1 = some (tyX1 k) := by decide +kernel
abbrev cX1_init : ByteArray := prog_3_method_1_code
def yX1_init : MethodName := ⟨RX1, "<init>", "()V"⟩
abbrev cX1_isMissing : ByteArray := prog_3_method_2_code
def yX1_isMissing : MethodName := ⟨RX1, "isMissing", "()Z"⟩
abbrev cX1_lay : ByteArray := prog_3_method_3_code
def yX1_lay : MethodName := ⟨RX1, "lay", "(II)V"⟩
abbrev cX1_write : ByteArray := prog_3_method_4_code
def yX1_write : MethodName := ⟨RX1, "write", "(II)V"⟩
abbrev cX1_hasRun : ByteArray := prog_3_method_5_code
def yX1_hasRun : MethodName := ⟨RX1, "hasRun", "(II)Z"⟩
def RX2 : String := "SaltClouds$Sky"
def TX2 : u_T := fun k => match k with
  | 0 => ("SaltClouds$Sky", "clouds", "[LSaltClouds$Cloud;", true)
  | 1 => ("SaltClouds$Sky", "made", "I", false)
  | 2 => ("SaltClouds$Sky", "heights", "[I", true)
  | 3 => ("SaltClouds$Sky", "windRow", "[I", true)
  | 4 => ("SaltClouds$Sky", "hour", "I", false)
  | 5 => ("SaltClouds$Sky", "sea", "I", false)
  | 6 => ("SaltClouds$Sky", "z", "I", false)
  | 7 => ("SaltClouds$Sky", "tape", "[I", true)
  | 8 => ("SaltClouds$Sky", "taped", "I", false)
  | 9 => ("SaltClouds$Sky", "nameText", "LSaltClouds$Text;", true)
  | 10 => ("SaltClouds$Sky", "debtText", "LSaltClouds$Text;", true)
  | 11 => ("SaltClouds$Sky", "waits", "[I", true)
  | _ => ("SaltClouds$Sky", "waiting", "I", false)
def tyX2 : Nat → FieldType := fun k => match k with
  | 0 => .array (.object "SaltClouds$Cloud")
  | 1 => .int
  | 2 => .array .int
  | 3 => .array .int
  | 4 => .int
  | 5 => .int
  | 6 => .int
  | 7 => .array .int
  | 8 => .int
  | 9 => .object "SaltClouds$Text"
  | 10 => .object "SaltClouds$Text"
  | 11 => .array .int
  | _ => .int
theorem nmX2 : ∀ a, a < 13 → ∀ b, b < 13 → a ≠ b → (TX2 a).2.1 ≠ (TX2 b).2.1 := by decide +kernel
theorem tyX2_ok : ∀ k, k < 13 → parseFieldDescriptor (TX2 k).2.2.1 = some (tyX2 k) := by decide +kernel
abbrev cX2_init : ByteArray := prog_4_method_1_code
def yX2_init : MethodName := ⟨RX2, "<init>", "()V"⟩
abbrev cX2_takeFrom : ByteArray := prog_4_method_2_code
def yX2_takeFrom : MethodName := ⟨RX2, "takeFrom", "(LSaltClouds$Sky;)V"⟩
abbrev cX2_make : ByteArray := prog_4_method_3_code
def yX2_make : MethodName := ⟨RX2, "make", "(III)I"⟩
abbrev cX2_factOf : ByteArray := prog_4_method_4_code
def yX2_factOf : MethodName := ⟨RX2, "factOf", "(II)I"⟩
abbrev cX2_heightUnder : ByteArray := prog_4_method_5_code
def yX2_heightUnder : MethodName := ⟨RX2, "heightUnder", "(LSaltClouds$Cloud;)I"⟩
abbrev cX2_windNow : ByteArray := prog_4_method_6_code
def yX2_windNow : MethodName := ⟨RX2, "windNow", "()I"⟩
abbrev cX2_drawWind : ByteArray := prog_4_method_7_code
def yX2_drawWind : MethodName := ⟨RX2, "drawWind", "()I"⟩
abbrev cX2_passHours : ByteArray := prog_4_method_8_code
def yX2_passHours : MethodName := ⟨RX2, "passHours", "(I)V"⟩
abbrev cX2_passHour : ByteArray := prog_4_method_9_code
def yX2_passHour : MethodName := ⟨RX2, "passHour", "(I)V"⟩
abbrev cX2_moveOne : ByteArray := prog_4_method_10_code
def yX2_moveOne : MethodName := ⟨RX2, "moveOne", "(LSaltClouds$Cloud;I)V"⟩
abbrev cX2_textOf : ByteArray := prog_4_method_11_code
def yX2_textOf : MethodName := ⟨RX2, "textOf", "(I)LSaltClouds$Text;"⟩
abbrev cX2_nameBy : ByteArray := prog_4_method_12_code
def yX2_nameBy : MethodName := ⟨RX2, "nameBy", "(III)I"⟩
abbrev cX2_debtBy : ByteArray := prog_4_method_13_code
def yX2_debtBy : MethodName := ⟨RX2, "debtBy", "(III)I"⟩
abbrev cX2_nameOf : ByteArray := prog_4_method_14_code
def yX2_nameOf : MethodName := ⟨RX2, "nameOf", "(LSaltClouds$Cloud;)I"⟩
abbrev cX2_isNobody : ByteArray := prog_4_method_15_code
def yX2_isNobody : MethodName := ⟨RX2, "isNobody", "(I)Z"⟩
abbrev cX2_nobodies : ByteArray := prog_4_method_16_code
def yX2_nobodies : MethodName := ⟨RX2, "nobodies", "()I"⟩
abbrev cX2_leastNobodyThere : ByteArray := prog_4_method_17_code
def yX2_leastNobodyThere : MethodName := ⟨RX2, "leastNobodyThere", "()I"⟩
abbrev cX2_areTogether : ByteArray := prog_4_method_18_code
def yX2_areTogether : MethodName := ⟨RX2, "areTogether", "(II)Z"⟩
abbrev cX2_payRound : ByteArray := prog_4_method_19_code
def yX2_payRound : MethodName := ⟨RX2, "payRound", "()I"⟩
abbrev cX2_payOne : ByteArray := prog_4_method_20_code
def yX2_payOne : MethodName := ⟨RX2, "payOne", "(LSaltClouds$Cloud;LSaltClouds$Cloud;)I"⟩
abbrev cX2_setOfAll : ByteArray := prog_4_method_21_code
def yX2_setOfAll : MethodName := ⟨RX2, "setOfAll", "()I"⟩
abbrev cX2_totalOf : ByteArray := prog_4_method_22_code
def yX2_totalOf : MethodName := ⟨RX2, "totalOf", "(II)I"⟩
abbrev cX2_tasteOf : ByteArray := prog_4_method_23_code
def yX2_tasteOf : MethodName := ⟨RX2, "tasteOf", "(I)I"⟩
abbrev cX2_fewestOfTaste : ByteArray := prog_4_method_24_code
def yX2_fewestOfTaste : MethodName := ⟨RX2, "fewestOfTaste", "(I)I"⟩
abbrev cX2_setsOfTotals : ByteArray := prog_4_method_25_code
def yX2_setsOfTotals : MethodName := ⟨RX2, "setsOfTotals", "([IZ)I"⟩
abbrev cX2_hasTotals : ByteArray := prog_4_method_26_code
def yX2_hasTotals : MethodName := ⟨RX2, "hasTotals", "(I[I)Z"⟩
def RX3 : String := "SaltClouds$Text"
def TX3 : u_T := fun k => match k with
  | 0 => ("SaltClouds$Text", "isRead", "Z", false)
  | 1 => ("SaltClouds$Text", "steps", "[I", true)
  | 2 => ("SaltClouds$Text", "size", "I", false)
  | _ => ("SaltClouds$Text", "stack", "[I", true)
def tyX3 : Nat → FieldType := fun k => match k with
  | 0 => .boolean
  | 1 => .array .int
  | 2 => .int
  | _ => .array .int
theorem nmX3 : ∀ a, a < 4 → ∀ b, b < 4 → a ≠ b → (TX3 a).2.1 ≠ (TX3 b).2.1 := by decide +kernel
theorem tyX3_ok : ∀ k, k < 4 → parseFieldDescriptor (TX3 k).2.2.1 = some (tyX3 k) := by decide +kernel
abbrev cX3_init : ByteArray := prog_5_method_1_code
def yX3_init : MethodName := ⟨RX3, "<init>", "()V"⟩
abbrev cX3_takeFrom : ByteArray := prog_5_method_2_code
def yX3_takeFrom : MethodName := ⟨RX3, "takeFrom", "(LSaltClouds$Text;)V"⟩
abbrev cX3_empty : ByteArray := prog_5_method_3_code
def yX3_empty : MethodName := ⟨RX3, "empty", "()V"⟩
abbrev cX3_add : ByteArray := prog_5_method_4_code
def yX3_add : MethodName := ⟨RX3, "add", "(I)V"⟩
abbrev cX3_workOut : ByteArray := prog_5_method_5_code
def yX3_workOut : MethodName := ⟨RX3, "workOut", "(III)I"⟩
abbrev cX3_valueOf : ByteArray := prog_5_method_6_code
def yX3_valueOf : MethodName := ⟨RX3, "valueOf", "(IIII)I"⟩
abbrev cX3_workOutSign : ByteArray := prog_5_method_7_code
def yX3_workOutSign : MethodName := ⟨RX3, "workOutSign", "(III)I"⟩
def RX4 : String := "SaltClouds$TextReader"
def TX4 : u_T := fun k => match k with
  | 0 => ("SaltClouds$TextReader", "draft", "LSaltClouds$Text;", true)
  | 1 => ("SaltClouds$TextReader", "bytes", "[I", false)
  | 2 => ("SaltClouds$TextReader", "size", "I", false)
  | 3 => ("SaltClouds$TextReader", "names", "Ljava/lang/String;", false)
  | 4 => ("SaltClouds$TextReader", "at", "I", false)
  | _ => ("SaltClouds$TextReader", "fault", "I", false)
def tyX4 : Nat → FieldType := fun k => match k with
  | 0 => .object "SaltClouds$Text"
  | 1 => .array .int
  | 2 => .int
  | 3 => .object "java/lang/String"
  | 4 => .int
  | _ => .int
theorem nmX4 : ∀ a, a < 6 → ∀ b, b < 6 → a ≠ b → (TX4 a).2.1 ≠ (TX4 b).2.1 := by decide +kernel
theorem tyX4_ok : ∀ k, k < 6 → parseFieldDescriptor (TX4 k).2.2.1 = some (tyX4 k) := by decide +kernel
abbrev cX4_init : ByteArray := prog_6_method_1_code
def yX4_init : MethodName := ⟨RX4, "<init>", "()V"⟩
abbrev cX4_read : ByteArray := prog_6_method_2_code
def yX4_read : MethodName := ⟨RX4, "read", "([III)I"⟩
abbrev cX4_readT : ByteArray := prog_6_method_3_code
def yX4_readT : MethodName := ⟨RX4, "readT", "(I)V"⟩
abbrev cX4_readA : ByteArray := prog_6_method_4_code
def yX4_readA : MethodName := ⟨RX4, "readA", "(I)V"⟩
abbrev cX4_readB : ByteArray := prog_6_method_5_code
def yX4_readB : MethodName := ⟨RX4, "readB", "(I)V"⟩
abbrev cX4_readS : ByteArray := prog_6_method_6_code
def yX4_readS : MethodName := ⟨RX4, "readS", "(I)V"⟩
abbrev cX4_readP : ByteArray := prog_6_method_7_code
def yX4_readP : MethodName := ⟨RX4, "readP", "(I)V"⟩
abbrev cX4_readQ : ByteArray := prog_6_method_8_code
def yX4_readQ : MethodName := ⟨RX4, "readQ", "(I)V"⟩
abbrev cX4_readNumber : ByteArray := prog_6_method_9_code
def yX4_readNumber : MethodName := ⟨RX4, "readNumber", "()V"⟩
abbrev cX4_goesOn : ByteArray := prog_6_method_10_code
def yX4_goesOn : MethodName := ⟨RX4, "goesOn", "()Z"⟩
abbrev cX4_isDigitNext : ByteArray := prog_6_method_11_code
def yX4_isDigitNext : MethodName := ⟨RX4, "isDigitNext", "()Z"⟩
abbrev cX4_takeOneOf : ByteArray := prog_6_method_12_code
def yX4_takeOneOf : MethodName := ⟨RX4, "takeOneOf", "(Ljava/lang/String;)I"⟩
abbrev cX4_stop : ByteArray := prog_6_method_13_code
def yX4_stop : MethodName := ⟨RX4, "stop", "()V"⟩
def RX5 : String := "SaltClouds$Voices"
def TX5 : u_T := fun k => match k with
  | 0 => ("SaltClouds$Voices", "bodies", "[I", true)
  | 1 => ("SaltClouds$Voices", "noted", "I", false)
  | 2 => ("SaltClouds$Voices", "kind", "I", false)
  | 3 => ("SaltClouds$Voices", "number", "I", false)
  | _ => ("SaltClouds$Voices", "m", "I", false)
def tyX5 : Nat → FieldType := fun k => match k with
  | 0 => .array .int
  | 1 => .int
  | 2 => .int
  | 3 => .int
  | _ => .int
theorem nmX5 : ∀ a, a < 5 → ∀ b, b < 5 → a ≠ b → (TX5 a).2.1 ≠ (TX5 b).2.1 := by decide +kernel
theorem tyX5_ok : ∀ k, k < 5 → parseFieldDescriptor (TX5 k).2.2.1 = some (tyX5 k) := by decide +kernel
abbrev cX5_init : ByteArray := prog_7_method_1_code
def yX5_init : MethodName := ⟨RX5, "<init>", "()V"⟩
abbrev cX5_speak : ByteArray := prog_7_method_2_code
def yX5_speak : MethodName := ⟨RX5, "speak", "(ILSaltClouds$Cloud;II)I"⟩
abbrev cX5_own : ByteArray := prog_7_method_3_code
def yX5_own : MethodName := ⟨RX5, "own", "(III)I"⟩
abbrev cX5_from : ByteArray := prog_7_method_4_code
def yX5_from : MethodName := ⟨RX5, "from", "(IIII)I"⟩
abbrev cX5_begin : ByteArray := prog_7_method_5_code
def yX5_begin : MethodName := ⟨RX5, "begin", "(IIII)I"⟩
abbrev cX5_note : ByteArray := prog_7_method_6_code
def yX5_note : MethodName := ⟨RX5, "note", "(I)V"⟩
abbrev cX5_bodyOf : ByteArray := prog_7_method_7_code
def yX5_bodyOf : MethodName := ⟨RX5, "bodyOf", "(II)I"⟩
def RX6 : String := "SaltClouds"
def TX6 : u_T := fun k => match k with
  | 0 => ("SaltClouds", "now", "LSaltClouds$Sky;", true)
  | 1 => ("SaltClouds", "kept", "LSaltClouds$Sky;", true)
  | 2 => ("SaltClouds", "thought", "LSaltClouds$Sky;", true)
  | 3 => ("SaltClouds", "images", "I", false)
  | 4 => ("SaltClouds", "sheets", "[LSaltClouds$Sheet;", true)
  | 5 => ("SaltClouds", "reader", "LSaltClouds$TextReader;", true)
  | 6 => ("SaltClouds", "voices", "LSaltClouds$Voices;", true)
  | _ => ("SaltClouds", "tolds", "[I", true)
def tyX6 : Nat → FieldType := fun k => match k with
  | 0 => .object "SaltClouds$Sky"
  | 1 => .object "SaltClouds$Sky"
  | 2 => .object "SaltClouds$Sky"
  | 3 => .int
  | 4 => .array (.object "SaltClouds$Sheet")
  | 5 => .object "SaltClouds$TextReader"
  | 6 => .object "SaltClouds$Voices"
  | _ => .array .int
theorem nmX6 : ∀ a, a < 8 → ∀ b, b < 8 → a ≠ b → (TX6 a).2.1 ≠ (TX6 b).2.1 := by decide +kernel
theorem tyX6_ok : ∀ k, k < 8 → parseFieldDescriptor (TX6 k).2.2.1 = some (tyX6 k) := by decide +kernel
abbrev cX6_init : ByteArray := prog_1_method_1_code
def yX6_init : MethodName := ⟨RX6, "<init>", "()V"⟩
abbrev cX6_cloud : ByteArray := prog_1_method_2_code
def yX6_cloud : MethodName := ⟨RX6, "cloud", "(III)I"⟩
abbrev cX6_ofCloud : ByteArray := prog_1_method_3_code
def yX6_ofCloud : MethodName := ⟨RX6, "ofCloud", "(II)I"⟩
abbrev cX6_become : ByteArray := prog_1_method_4_code
def yX6_become : MethodName := ⟨RX6, "become", "(II)I"⟩
abbrev cX6_as : ByteArray := prog_1_method_5_code
def yX6_as : MethodName := ⟨RX6, "as", "(II)I"⟩
abbrev cX6_set : ByteArray := prog_1_method_6_code
def yX6_set : MethodName := ⟨RX6, "set", "(III)I"⟩
abbrev cX6_hill : ByteArray := prog_1_method_7_code
def yX6_hill : MethodName := ⟨RX6, "hill", "(II)I"⟩
abbrev cX6_wind : ByteArray := prog_1_method_8_code
def yX6_wind : MethodName := ⟨RX6, "wind", "(II)I"⟩
abbrev cX6_join : ByteArray := prog_1_method_9_code
def yX6_join : MethodName := ⟨RX6, "join", "(II)I"⟩
abbrev cX6_part : ByteArray := prog_1_method_10_code
def yX6_part : MethodName := ⟨RX6, "part", "(II)I"⟩
abbrev cX6_feed : ByteArray := prog_1_method_11_code
def yX6_feed : MethodName := ⟨RX6, "feed", "(JI)I"⟩
abbrev cX6_text : ByteArray := prog_1_method_12_code
def yX6_text : MethodName := ⟨RX6, "text", "(I)I"⟩
abbrev cX6_law : ByteArray := prog_1_method_13_code
def yX6_law : MethodName := ⟨RX6, "law", "(IIII)I"⟩
abbrev cX6_hours : ByteArray := prog_1_method_14_code
def yX6_hours : MethodName := ⟨RX6, "hours", "(I)I"⟩
abbrev cX6_loose : ByteArray := prog_1_method_15_code
def yX6_loose : MethodName := ⟨RX6, "loose", "(I)I"⟩
abbrev cX6_then : ByteArray := prog_1_method_16_code
def yX6_then : MethodName := ⟨RX6, "then", "(III)I"⟩
abbrev cX6_pay : ByteArray := prog_1_method_17_code
def yX6_pay : MethodName := ⟨RX6, "pay", "()I"⟩
abbrev cX6_nobodyBy : ByteArray := prog_1_method_18_code
def yX6_nobodyBy : MethodName := ⟨RX6, "nobodyBy", "(I)I"⟩
abbrev cX6_first : ByteArray := prog_1_method_19_code
def yX6_first : MethodName := ⟨RX6, "first", "()I"⟩
abbrev cX6_comes : ByteArray := prog_1_method_20_code
def yX6_comes : MethodName := ⟨RX6, "comes", "(II)I"⟩
abbrev cX6_stays : ByteArray := prog_1_method_21_code
def yX6_stays : MethodName := ⟨RX6, "stays", "(I)I"⟩
abbrev cX6_meets : ByteArray := prog_1_method_22_code
def yX6_meets : MethodName := ⟨RX6, "meets", "(II)I"⟩
abbrev cX6_storm : ByteArray := prog_1_method_23_code
def yX6_storm : MethodName := ⟨RX6, "storm", "(II)I"⟩
abbrev cX6_paid : ByteArray := prog_1_method_24_code
def yX6_paid : MethodName := ⟨RX6, "paid", "()I"⟩
abbrev cX6_sun : ByteArray := prog_1_method_25_code
def yX6_sun : MethodName := ⟨RX6, "sun", "(III)I"⟩
abbrev cX6_winds : ByteArray := prog_1_method_26_code
def yX6_winds : MethodName := ⟨RX6, "winds", "(III)I"⟩
abbrev cX6_seed : ByteArray := prog_1_method_27_code
def yX6_seed : MethodName := ⟨RX6, "seed", "(I)I"⟩
abbrev cX6_voice : ByteArray := prog_1_method_28_code
def yX6_voice : MethodName := ⟨RX6, "voice", "(III)I"⟩
abbrev cX6_trace : ByteArray := prog_1_method_29_code
def yX6_trace : MethodName := ⟨RX6, "trace", "(I)I"⟩
abbrev cX6_sheet : ByteArray := prog_1_method_30_code
def yX6_sheet : MethodName := ⟨RX6, "sheet", "(III)I"⟩
abbrev cX6_put : ByteArray := prog_1_method_31_code
def yX6_put : MethodName := ⟨RX6, "put", "(III)I"⟩
abbrev cX6_move : ByteArray := prog_1_method_32_code
def yX6_move : MethodName := ⟨RX6, "move", "(IIIII)I"⟩
abbrev cX6_hills : ByteArray := prog_1_method_33_code
def yX6_hills : MethodName := ⟨RX6, "hills", "(I)I"⟩
abbrev cX6_judge : ByteArray := prog_1_method_34_code
def yX6_judge : MethodName := ⟨RX6, "judge", "(I)I"⟩
abbrev cX6_image : ByteArray := prog_1_method_35_code
def yX6_image : MethodName := ⟨RX6, "image", "()I"⟩
abbrev cX6_restore : ByteArray := prog_1_method_36_code
def yX6_restore : MethodName := ⟨RX6, "restore", "()I"⟩
abbrev cX6_tell : ByteArray := prog_1_method_37_code
def yX6_tell : MethodName := ⟨RX6, "tell", "(I)I"⟩
abbrev cX6_check : ByteArray := prog_1_method_38_code
def yX6_check : MethodName := ⟨RX6, "check", "()I"⟩
abbrev cX6_count : ByteArray := prog_1_method_39_code
def yX6_count : MethodName := ⟨RX6, "count", "(I)I"⟩
abbrev cX6_told : ByteArray := prog_1_method_40_code
def yX6_told : MethodName := ⟨RX6, "told", "(I)I"⟩
abbrev cX6_refuse : ByteArray := prog_1_method_41_code
def yX6_refuse : MethodName := ⟨RX6, "refuse", "(I)I"⟩
abbrev cX6_hasCloud : ByteArray := prog_1_method_42_code
def yX6_hasCloud : MethodName := ⟨RX6, "hasCloud", "(I)Z"⟩
abbrev cX6_areTwo : ByteArray := prog_1_method_43_code
def yX6_areTwo : MethodName := ⟨RX6, "areTwo", "(II)Z"⟩
abbrev cX6_errorOfHours : ByteArray := prog_1_method_44_code
def yX6_errorOfHours : MethodName := ⟨RX6, "errorOfHours", "(I)I"⟩
abbrev cX6_within : ByteArray := prog_1_method_45_code
def yX6_within : MethodName := ⟨RX6, "within", "(III)Z"⟩
abbrev cX6_isPlace : ByteArray := prog_1_method_46_code
def yX6_isPlace : MethodName := ⟨RX6, "isPlace", "(I)Z"⟩
abbrev cX6_isSheet : ByteArray := prog_1_method_47_code
def yX6_isSheet : MethodName := ⟨RX6, "isSheet", "(I)Z"⟩
abbrev cX6_mostToSet : ByteArray := prog_1_method_48_code
def yX6_mostToSet : MethodName := ⟨RX6, "mostToSet", "(I)I"⟩
abbrev cX6_kindAbove : ByteArray := prog_1_method_49_code
def yX6_kindAbove : MethodName := ⟨RX6, "kindAbove", "(I)I"⟩
abbrev cX6_isUnder : ByteArray := prog_1_method_50_code
def yX6_isUnder : MethodName := ⟨RX6, "isUnder", "(II)Z"⟩
abbrev cX6_tasteBy : ByteArray := prog_1_method_51_code
def yX6_tasteBy : MethodName := ⟨RX6, "tasteBy", "(II)I"⟩
def RX7 : String := "SaltCloudsModel"
def TX7 : u_T := fun k => match k with
  | 0 => ("SaltCloudsModel", "row", "[I", true)
  | 1 => ("SaltCloudsModel", "kept", "[I", true)
  | 2 => ("SaltCloudsModel", "tried", "[I", true)
  | 3 => ("SaltCloudsModel", "before", "[I", true)
  | 4 => ("SaltCloudsModel", "isKept", "Z", false)
  | 5 => ("SaltCloudsModel", "images", "I", false)
  | 6 => ("SaltCloudsModel", "found", "[I", true)
  | 7 => ("SaltCloudsModel", "use", "I", false)
  | 8 => ("SaltCloudsModel", "at", "I", false)
  | 9 => ("SaltCloudsModel", "end", "I", false)
  | 10 => ("SaltCloudsModel", "open", "I", false)
  | 11 => ("SaltCloudsModel", "namedA", "I", false)
  | 12 => ("SaltCloudsModel", "namedB", "I", false)
  | 13 => ("SaltCloudsModel", "namedC", "I", false)
  | 14 => ("SaltCloudsModel", "good", "Z", false)
  | 15 => ("SaltCloudsModel", "bitsOf", "[I", true)
  | 16 => ("SaltCloudsModel", "sizeOf", "[I", true)
  | 17 => ("SaltCloudsModel", "sheets", "[I", true)
  | 18 => ("SaltCloudsModel", "moved", "[I", true)
  | 19 => ("SaltCloudsModel", "traced", "[I", true)
  | 20 => ("SaltCloudsModel", "tracedMany", "I", false)
  | 21 => ("SaltCloudsModel", "voiceKind", "I", false)
  | 22 => ("SaltCloudsModel", "voiceN", "I", false)
  | _ => ("SaltCloudsModel", "voiceM", "I", false)
def tyX7 : Nat → FieldType := fun k => match k with
  | 0 => .array .int
  | 1 => .array .int
  | 2 => .array .int
  | 3 => .array .int
  | 4 => .boolean
  | 5 => .int
  | 6 => .array .int
  | 7 => .int
  | 8 => .int
  | 9 => .int
  | 10 => .int
  | 11 => .int
  | 12 => .int
  | 13 => .int
  | 14 => .boolean
  | 15 => .array .int
  | 16 => .array .int
  | 17 => .array .int
  | 18 => .array .int
  | 19 => .array .int
  | 20 => .int
  | 21 => .int
  | 22 => .int
  | _ => .int
theorem nmX7 : ∀ a, a < 24 → ∀ b, b < 24 → a ≠ b → (TX7 a).2.1 ≠ (TX7 b).2.1 := by decide +kernel
theorem tyX7_ok : ∀ k, k < 24 → parseFieldDescriptor (TX7 k).2.2.1 = some (tyX7 k) := by decide +kernel
abbrev cX7_init : ByteArray := prog_9_method_1_code
def yX7_init : MethodName := ⟨RX7, "<init>", "()V"⟩
abbrev cX7_in : ByteArray := prog_9_method_2_code
def yX7_in : MethodName := ⟨RX7, "in", "(III)Z"⟩
abbrev cX7_errs : ByteArray := prog_9_method_3_code
def yX7_errs : MethodName := ⟨RX7, "errs", "(I)I"⟩
abbrev cX7_held : ByteArray := prog_9_method_4_code
def yX7_held : MethodName := ⟨RX7, "held", "(III)I"⟩
abbrev cX7_moveAll : ByteArray := prog_9_method_5_code
def yX7_moveAll : MethodName := ⟨RX7, "moveAll", "([I[I)V"⟩
abbrev cX7_isCloud : ByteArray := prog_9_method_6_code
def yX7_isCloud : MethodName := ⟨RX7, "isCloud", "(I)Z"⟩
abbrev cX7_isPlace : ByteArray := prog_9_method_7_code
def yX7_isPlace : MethodName := ⟨RX7, "isPlace", "(I)Z"⟩
abbrev cX7_its : ByteArray := prog_9_method_8_code
def yX7_its : MethodName := ⟨RX7, "its", "(II)I"⟩
abbrev cX7_puts : ByteArray := prog_9_method_9_code
def yX7_puts : MethodName := ⟨RX7, "puts", "(III)V"⟩
abbrev cX7_isThere : ByteArray := prog_9_method_10_code
def yX7_isThere : MethodName := ⟨RX7, "isThere", "(I)Z"⟩
abbrev cX7_cloud : ByteArray := prog_9_method_11_code
def yX7_cloud : MethodName := ⟨RX7, "cloud", "(III)I"⟩
abbrev cX7_driftsBy : ByteArray := prog_9_method_12_code
def yX7_driftsBy : MethodName := ⟨RX7, "driftsBy", "(II)I"⟩
abbrev cX7_rainsAt : ByteArray := prog_9_method_13_code
def yX7_rainsAt : MethodName := ⟨RX7, "rainsAt", "(II)I"⟩
abbrev cX7_keeps : ByteArray := prog_9_method_14_code
def yX7_keeps : MethodName := ⟨RX7, "keeps", "(II)Z"⟩
abbrev cX7_taste : ByteArray := prog_9_method_15_code
def yX7_taste : MethodName := ⟨RX7, "taste", "(II)I"⟩
abbrev cX7_tasteOf : ByteArray := prog_9_method_16_code
def yX7_tasteOf : MethodName := ⟨RX7, "tasteOf", "(I)I"⟩
abbrev cX7_nameOf : ByteArray := prog_9_method_17_code
def yX7_nameOf : MethodName := ⟨RX7, "nameOf", "(I)I"⟩
abbrev cX7_isNobody : ByteArray := prog_9_method_18_code
def yX7_isNobody : MethodName := ⟨RX7, "isNobody", "(I)Z"⟩
abbrev cX7_windNow : ByteArray := prog_9_method_19_code
def yX7_windNow : MethodName := ⟨RX7, "windNow", "()I"⟩
abbrev cX7_heightOf : ByteArray := prog_9_method_20_code
def yX7_heightOf : MethodName := ⟨RX7, "heightOf", "(I)I"⟩
abbrev cX7_ofCloud : ByteArray := prog_9_method_21_code
def yX7_ofCloud : MethodName := ⟨RX7, "ofCloud", "(II)I"⟩
abbrev cX7_become : ByteArray := prog_9_method_22_code
def yX7_become : MethodName := ⟨RX7, "become", "(II)I"⟩
abbrev cX7_above : ByteArray := prog_9_method_23_code
def yX7_above : MethodName := ⟨RX7, "above", "(I)I"⟩
abbrev cX7_as : ByteArray := prog_9_method_24_code
def yX7_as : MethodName := ⟨RX7, "as", "(II)I"⟩
abbrev cX7_set : ByteArray := prog_9_method_25_code
def yX7_set : MethodName := ⟨RX7, "set", "(III)I"⟩
abbrev cX7_hill : ByteArray := prog_9_method_26_code
def yX7_hill : MethodName := ⟨RX7, "hill", "(II)I"⟩
abbrev cX7_wind : ByteArray := prog_9_method_27_code
def yX7_wind : MethodName := ⟨RX7, "wind", "(II)I"⟩
abbrev cX7_join : ByteArray := prog_9_method_28_code
def yX7_join : MethodName := ⟨RX7, "join", "(II)I"⟩
abbrev cX7_part : ByteArray := prog_9_method_29_code
def yX7_part : MethodName := ⟨RX7, "part", "(II)I"⟩
abbrev cX7_byteAt : ByteArray := prog_9_method_30_code
def yX7_byteAt : MethodName := ⟨RX7, "byteAt", "(I)I"⟩
abbrev cX7_isDigit : ByteArray := prog_9_method_31_code
def yX7_isDigit : MethodName := ⟨RX7, "isDigit", "(I)Z"⟩
abbrev cX7_fails : ByteArray := prog_9_method_32_code
def yX7_fails : MethodName := ⟨RX7, "fails", "()I"⟩
abbrev cX7_number : ByteArray := prog_9_method_33_code
def yX7_number : MethodName := ⟨RX7, "number", "()I"⟩
abbrev cX7_named : ByteArray := prog_9_method_34_code
def yX7_named : MethodName := ⟨RX7, "named", "(I)I"⟩
abbrev cX7_factor : ByteArray := prog_9_method_35_code
def yX7_factor : MethodName := ⟨RX7, "factor", "()I"⟩
abbrev cX7_product : ByteArray := prog_9_method_36_code
def yX7_product : MethodName := ⟨RX7, "product", "()I"⟩
abbrev cX7_sum : ByteArray := prog_9_method_37_code
def yX7_sum : MethodName := ⟨RX7, "sum", "()I"⟩
abbrev cX7_compared : ByteArray := prog_9_method_38_code
def yX7_compared : MethodName := ⟨RX7, "compared", "()I"⟩
abbrev cX7_both : ByteArray := prog_9_method_39_code
def yX7_both : MethodName := ⟨RX7, "both", "()I"⟩
abbrev cX7_whole : ByteArray := prog_9_method_40_code
def yX7_whole : MethodName := ⟨RX7, "whole", "()I"⟩
abbrev cX7_walks : ByteArray := prog_9_method_41_code
def yX7_walks : MethodName := ⟨RX7, "walks", "(IIII)I"⟩
abbrev cX7_lawOf : ByteArray := prog_9_method_42_code
def yX7_lawOf : MethodName := ⟨RX7, "lawOf", "(IIII)I"⟩
abbrev cX7_law : ByteArray := prog_9_method_43_code
def yX7_law : MethodName := ⟨RX7, "law", "(IIII)I"⟩
abbrev cX7_feed : ByteArray := prog_9_method_44_code
def yX7_feed : MethodName := ⟨RX7, "feed", "(JI)I"⟩
abbrev cX7_text : ByteArray := prog_9_method_45_code
def yX7_text : MethodName := ⟨RX7, "text", "(I)I"⟩
abbrev cX7_rain : ByteArray := prog_9_method_46_code
def yX7_rain : MethodName := ⟨RX7, "rain", "(II)V"⟩
abbrev cX7_passes : ByteArray := prog_9_method_47_code
def yX7_passes : MethodName := ⟨RX7, "passes", "(II)V"⟩
abbrev cX7_oneHour : ByteArray := prog_9_method_48_code
def yX7_oneHour : MethodName := ⟨RX7, "oneHour", "(I)V"⟩
abbrev cX7_nobodies : ByteArray := prog_9_method_49_code
def yX7_nobodies : MethodName := ⟨RX7, "nobodies", "()I"⟩
abbrev cX7_drawn : ByteArray := prog_9_method_50_code
def yX7_drawn : MethodName := ⟨RX7, "drawn", "(I)I"⟩
abbrev cX7_goes : ByteArray := prog_9_method_51_code
def yX7_goes : MethodName := ⟨RX7, "goes", "(IZ)I"⟩
abbrev cX7_hours : ByteArray := prog_9_method_52_code
def yX7_hours : MethodName := ⟨RX7, "hours", "(I)I"⟩
abbrev cX7_loose : ByteArray := prog_9_method_53_code
def yX7_loose : MethodName := ⟨RX7, "loose", "(I)I"⟩
abbrev cX7_then : ByteArray := prog_9_method_54_code
def yX7_then : MethodName := ⟨RX7, "then", "(III)I"⟩
abbrev cX7_pays : ByteArray := prog_9_method_55_code
def yX7_pays : MethodName := ⟨RX7, "pays", "(II)I"⟩
abbrev cX7_allPay : ByteArray := prog_9_method_56_code
def yX7_allPay : MethodName := ⟨RX7, "allPay", "()I"⟩
abbrev cX7_pay : ByteArray := prog_9_method_57_code
def yX7_pay : MethodName := ⟨RX7, "pay", "()I"⟩
abbrev cX7_nobodyAt : ByteArray := prog_9_method_58_code
def yX7_nobodyAt : MethodName := ⟨RX7, "nobodyAt", "(I)I"⟩
abbrev cX7_nobodyBy : ByteArray := prog_9_method_59_code
def yX7_nobodyBy : MethodName := ⟨RX7, "nobodyBy", "(I)I"⟩
abbrev cX7_first : ByteArray := prog_9_method_60_code
def yX7_first : MethodName := ⟨RX7, "first", "()I"⟩
abbrev cX7_bits : ByteArray := prog_9_method_61_code
def yX7_bits : MethodName := ⟨RX7, "bits", "(I)I"⟩
abbrev cX7_thereOnes : ByteArray := prog_9_method_62_code
def yX7_thereOnes : MethodName := ⟨RX7, "thereOnes", "()I"⟩
abbrev cX7_sumOf : ByteArray := prog_9_method_63_code
def yX7_sumOf : MethodName := ⟨RX7, "sumOf", "(II)I"⟩
abbrev cX7_comes : ByteArray := prog_9_method_64_code
def yX7_comes : MethodName := ⟨RX7, "comes", "(II)I"⟩
abbrev cX7_stays : ByteArray := prog_9_method_65_code
def yX7_stays : MethodName := ⟨RX7, "stays", "(I)I"⟩
abbrev cX7_meets : ByteArray := prog_9_method_66_code
def yX7_meets : MethodName := ⟨RX7, "meets", "(II)I"⟩
abbrev cX7_isSheet : ByteArray := prog_9_method_67_code
def yX7_isSheet : MethodName := ⟨RX7, "isSheet", "(I)Z"⟩
abbrev cX7_storm : ByteArray := prog_9_method_68_code
def yX7_storm : MethodName := ⟨RX7, "storm", "(II)I"⟩
abbrev cX7_paid : ByteArray := prog_9_method_69_code
def yX7_paid : MethodName := ⟨RX7, "paid", "()I"⟩
abbrev cX7_sun : ByteArray := prog_9_method_70_code
def yX7_sun : MethodName := ⟨RX7, "sun", "(III)I"⟩
abbrev cX7_windFor : ByteArray := prog_9_method_71_code
def yX7_windFor : MethodName := ⟨RX7, "windFor", "(III)I"⟩
abbrev cX7_winds : ByteArray := prog_9_method_72_code
def yX7_winds : MethodName := ⟨RX7, "winds", "(III)I"⟩
abbrev cX7_seed : ByteArray := prog_9_method_73_code
def yX7_seed : MethodName := ⟨RX7, "seed", "(I)I"⟩
abbrev cX7_ran : ByteArray := prog_9_method_74_code
def yX7_ran : MethodName := ⟨RX7, "ran", "(I)V"⟩
abbrev cX7_driftsIn : ByteArray := prog_9_method_75_code
def yX7_driftsIn : MethodName := ⟨RX7, "driftsIn", "(II)I"⟩
abbrev cX7_tastesIn : ByteArray := prog_9_method_76_code
def yX7_tastesIn : MethodName := ⟨RX7, "tastesIn", "(II)I"⟩
abbrev cX7_rainsIn : ByteArray := prog_9_method_77_code
def yX7_rainsIn : MethodName := ⟨RX7, "rainsIn", "(II)I"⟩
abbrev cX7_tellsIn : ByteArray := prog_9_method_78_code
def yX7_tellsIn : MethodName := ⟨RX7, "tellsIn", "(II)I"⟩
abbrev cX7_voice : ByteArray := prog_9_method_79_code
def yX7_voice : MethodName := ⟨RX7, "voice", "(III)I"⟩
abbrev cX7_trace : ByteArray := prog_9_method_80_code
def yX7_trace : MethodName := ⟨RX7, "trace", "(I)I"⟩
abbrev cX7_narrow : ByteArray := prog_9_method_81_code
def yX7_narrow : MethodName := ⟨RX7, "narrow", "(II)I"⟩
abbrev cX7_sheet : ByteArray := prog_9_method_82_code
def yX7_sheet : MethodName := ⟨RX7, "sheet", "(III)I"⟩
abbrev cX7_put : ByteArray := prog_9_method_83_code
def yX7_put : MethodName := ⟨RX7, "put", "(III)I"⟩
abbrev cX7_move : ByteArray := prog_9_method_84_code
def yX7_move : MethodName := ⟨RX7, "move", "(IIIII)I"⟩
abbrev cX7_hills : ByteArray := prog_9_method_85_code
def yX7_hills : MethodName := ⟨RX7, "hills", "(I)I"⟩
abbrev cX7_judge : ByteArray := prog_9_method_86_code
def yX7_judge : MethodName := ⟨RX7, "judge", "(I)I"⟩
abbrev cX7_image : ByteArray := prog_9_method_87_code
def yX7_image : MethodName := ⟨RX7, "image", "()I"⟩
abbrev cX7_restore : ByteArray := prog_9_method_88_code
def yX7_restore : MethodName := ⟨RX7, "restore", "()I"⟩
abbrev cX7_tell : ByteArray := prog_9_method_89_code
def yX7_tell : MethodName := ⟨RX7, "tell", "(I)I"⟩
abbrev cX7_check : ByteArray := prog_9_method_90_code
def yX7_check : MethodName := ⟨RX7, "check", "()I"⟩
abbrev cX7_count : ByteArray := prog_9_method_91_code
def yX7_count : MethodName := ⟨RX7, "count", "(I)I"⟩
abbrev cX7_told : ByteArray := prog_9_method_92_code
def yX7_told : MethodName := ⟨RX7, "told", "(I)I"⟩
def RJ11 : String := "java/lang/Character"
def TJ11 : u_T := fun k => match k with
  | _ => ("", "", "", false)
def tyJ11 : Nat → FieldType := fun k => match k with
  | _ => .int
theorem nmJ11 : ∀ a, a < 0 → ∀ b, b < 0 → a ≠ b → (TJ11 a).2.1 ≠ (TJ11 b).2.1 := by decide +kernel
theorem tyJ11_ok : ∀ k, k < 0 → parseFieldDescriptor (TJ11 k).2.2.1 = some (tyJ11 k) := by decide +kernel
abbrev cJ11_isValidCodePoint_9a6ad : ByteArray := prog_10_method_11_code
def yJ11_isValidCodePoint_9a6ad : MethodName := ⟨RJ11, "isValidCodePoint", "(I)Z"⟩
abbrev cJ11_highSurrogate_5068e : ByteArray := prog_10_method_28_code
def yJ11_highSurrogate_5068e : MethodName := ⟨RJ11, "highSurrogate", "(I)C"⟩
abbrev cJ11_lowSurrogate_5068e : ByteArray := prog_10_method_29_code
def yJ11_lowSurrogate_5068e : MethodName := ⟨RJ11, "lowSurrogate", "(I)C"⟩
def RJ6 : String := "java/lang/Integer"
def TJ6 : u_T := fun k => match k with
  | _ => ("", "", "", false)
def tyJ6 : Nat → FieldType := fun k => match k with
  | _ => .int
theorem nmJ6 : ∀ a, a < 0 → ∀ b, b < 0 → a ≠ b → (TJ6 a).2.1 ≠ (TJ6 b).2.1 := by decide +kernel
theorem tyJ6_ok : ∀ k, k < 0 → parseFieldDescriptor (TJ6 k).2.2.1 = some (tyJ6 k) := by decide +kernel
abbrev cJ6_bitCount_0f7a4 : ByteArray := prog_11_method_49_code
def yJ6_bitCount_0f7a4 : MethodName := ⟨RJ6, "bitCount", "(I)I"⟩
def RJ9 : String := "java/lang/Math"
def TJ9 : u_T := fun k => match k with
  | _ => ("", "", "", false)
def tyJ9 : Nat → FieldType := fun k => match k with
  | _ => .int
theorem nmJ9 : ∀ a, a < 0 → ∀ b, b < 0 → a ≠ b → (TJ9 a).2.1 ≠ (TJ9 b).2.1 := by decide +kernel
theorem tyJ9_ok : ∀ k, k < 0 → parseFieldDescriptor (TJ9 k).2.2.1 = some (tyJ9 k) := by decide +kernel
abbrev cJ9_floorMod_7cf53 : ByteArray := prog_12_method_50_code
def yJ9_floorMod_7cf53 : MethodName := ⟨RJ9, "floorMod", "(II)I"⟩
abbrev cJ9_max_7cf53 : ByteArray := prog_12_method_65_code
def yJ9_max_7cf53 : MethodName := ⟨RJ9, "max", "(II)I"⟩
abbrev cJ9_min_7cf53 : ByteArray := prog_12_method_69_code
def yJ9_min_7cf53 : MethodName := ⟨RJ9, "min", "(II)I"⟩
def RJ0 : String := "java/lang/String"
def TJ0 : u_T := fun k => match k with
  | _ => ("", "", "", false)
def tyJ0 : Nat → FieldType := fun k => match k with
  | _ => .int
theorem nmJ0 : ∀ a, a < 0 → ∀ b, b < 0 → a ≠ b → (TJ0 a).2.1 ≠ (TJ0 b).2.1 := by decide +kernel
theorem tyJ0_ok : ∀ k, k < 0 → parseFieldDescriptor (TJ0 k).2.2.1 = some (tyJ0 k) := by decide +kernel
abbrev cJ0_length_8abf5 : ByteArray := prog_13_method_54_code
def yJ0_length_8abf5 : MethodName := ⟨RJ0, "length", "()I"⟩
abbrev cJ0_indexOf_0f7a4 : ByteArray := prog_13_method_79_code
def yJ0_indexOf_0f7a4 : MethodName := ⟨RJ0, "indexOf", "(I)I"⟩
abbrev cJ0_indexOf_7cf53 : ByteArray := prog_13_method_80_code
def yJ0_indexOf_7cf53 : MethodName := ⟨RJ0, "indexOf", "(II)I"⟩
abbrev cJ0_coder_7d493 : ByteArray := prog_13_method_152_code
def yJ0_coder_7d493 : MethodName := ⟨RJ0, "coder", "()B"⟩
abbrev cJ0_isLatin1_aae02 : ByteArray := prog_13_method_154_code
def yJ0_isLatin1_aae02 : MethodName := ⟨RJ0, "isLatin1", "()Z"⟩
abbrev cJ0_checkBoundsBeginEnd_23922 : ByteArray := prog_13_method_158_code
def yJ0_checkBoundsBeginEnd_23922 : MethodName := ⟨RJ0, "checkBoundsBeginEnd", "(III)V"⟩
def RJ1 : String := "java/lang/StringLatin1"
def TJ1 : u_T := fun k => match k with
  | _ => ("", "", "", false)
def tyJ1 : Nat → FieldType := fun k => match k with
  | _ => .int
theorem nmJ1 : ∀ a, a < 0 → ∀ b, b < 0 → a ≠ b → (TJ1 a).2.1 ≠ (TJ1 b).2.1 := by decide +kernel
theorem tyJ1_ok : ∀ k, k < 0 → parseFieldDescriptor (TJ1 k).2.2.1 = some (tyJ1 k) := by decide +kernel
abbrev cJ1_canEncode_9a6ad : ByteArray := prog_14_method_4_code
def yJ1_canEncode_9a6ad : MethodName := ⟨RJ1, "canEncode", "(I)Z"⟩
abbrev cJ1_indexOf_4cfef : ByteArray := prog_14_method_22_code
def yJ1_indexOf_4cfef : MethodName := ⟨RJ1, "indexOf", "([BIII)I"⟩
abbrev cJ1_indexOfChar_4cfef : ByteArray := prog_14_method_23_code
def yJ1_indexOfChar_4cfef : MethodName := ⟨RJ1, "indexOfChar", "([BIII)I"⟩
def RJ2 : String := "java/lang/StringUTF16"
def TJ2 : u_T := fun k => match k with
  | _ => ("", "", "", false)
def tyJ2 : Nat → FieldType := fun k => match k with
  | _ => .int
theorem nmJ2 : ∀ a, a < 0 → ∀ b, b < 0 → a ≠ b → (TJ2 a).2.1 ≠ (TJ2 b).2.1 := by decide +kernel
theorem tyJ2_ok : ∀ k, k < 0 → parseFieldDescriptor (TJ2 k).2.2.1 = some (tyJ2 k) := by decide +kernel
abbrev cJ2_getChar_3b067 : ByteArray := prog_15_method_5_code
def yJ2_getChar_3b067 : MethodName := ⟨RJ2, "getChar", "([BI)C"⟩
abbrev cJ2_length_9d52b : ByteArray := prog_15_method_6_code
def yJ2_length_9d52b : MethodName := ⟨RJ2, "length", "([B)I"⟩
abbrev cJ2_indexOf_4cfef : ByteArray := prog_15_method_40_code
def yJ2_indexOf_4cfef : MethodName := ⟨RJ2, "indexOf", "([BIII)I"⟩
abbrev cJ2_indexOfChar_4cfef : ByteArray := prog_15_method_47_code
def yJ2_indexOfChar_4cfef : MethodName := ⟨RJ2, "indexOfChar", "([BIII)I"⟩
abbrev cJ2_indexOfCharUnsafe_4cfef : ByteArray := prog_15_method_48_code
def yJ2_indexOfCharUnsafe_4cfef : MethodName := ⟨RJ2, "indexOfCharUnsafe", "([BIII)I"⟩
abbrev cJ2_indexOfSupplementary_4cfef : ByteArray := prog_15_method_49_code
def yJ2_indexOfSupplementary_4cfef : MethodName := ⟨RJ2, "indexOfSupplementary", "([BIII)I"⟩
abbrev cJ2_checkBoundsBeginEnd_d044e : ByteArray := prog_15_method_93_code
def yJ2_checkBoundsBeginEnd_d044e : MethodName := ⟨RJ2, "checkBoundsBeginEnd", "(II[B)V"⟩
def RJ10 : String := "java/lang/System"
def TJ10 : u_T := fun k => match k with
  | _ => ("", "", "", false)
def tyJ10 : Nat → FieldType := fun k => match k with
  | _ => .int
theorem nmJ10 : ∀ a, a < 0 → ∀ b, b < 0 → a ≠ b → (TJ10 a).2.1 ≠ (TJ10 b).2.1 := by decide +kernel
theorem tyJ10_ok : ∀ k, k < 0 → parseFieldDescriptor (TJ10 k).2.2.1 = some (tyJ10 k) := by decide +kernel
def RJ3 : String := "jdk/internal/util/Preconditions"
def TJ3 : u_T := fun k => match k with
  | _ => ("", "", "", false)
def tyJ3 : Nat → FieldType := fun k => match k with
  | _ => .int
theorem nmJ3 : ∀ a, a < 0 → ∀ b, b < 0 → a ≠ b → (TJ3 a).2.1 ≠ (TJ3 b).2.1 := by decide +kernel
theorem tyJ3_ok : ∀ k, k < 0 → parseFieldDescriptor (TJ3 k).2.2.1 = some (tyJ3 k) := by decide +kernel
abbrev cJ3_checkFromToIndex_8c36e : ByteArray := prog_17_method_12_code
def yJ3_checkFromToIndex_8c36e : MethodName := ⟨RJ3, "checkFromToIndex", "(IIILjava/util/function/BiFunction;)I"⟩
def RL : String := "SaltCloudsLaw"
abbrev cL_law : ByteArray := code
def yL_law : MethodName := ⟨RL, "law", "([I)Z"⟩
theorem dX0_init_0 : decode cX0_init 0 = .ok (.aload_n 0, 1) := by decide +kernel
theorem dX0_init_1 : decode cX0_init 1 = .ok (.invokespecial 3, 3) := by decide +kernel
theorem dX0_init_4 : decode cX0_init 4 = .ok (.aload_n 0, 1) := by decide +kernel
theorem dX0_init_5 : decode cX0_init 5 = .ok (.iconst 0, 1) := by decide +kernel
theorem dX0_init_6 : decode cX0_init 6 = .ok (.putfield 9, 3) := by decide +kernel
theorem dX0_init_9 : decode cX0_init 9 = .ok (.aload_n 0, 1) := by decide +kernel
theorem dX0_init_10 : decode cX0_init 10 = .ok (.iconst 0, 1) := by decide +kernel
theorem dX0_init_11 : decode cX0_init 11 = .ok (.putfield 15, 3) := by decide +kernel
theorem dX0_init_14 : decode cX0_init 14 = .ok (.aload_n 0, 1) := by decide +kernel
theorem dX0_init_15 : decode cX0_init 15 = .ok (.iconst 0, 1) := by decide +kernel
theorem dX0_init_16 : decode cX0_init 16 = .ok (.putfield 18, 3) := by decide +kernel
theorem dX0_init_19 : decode cX0_init 19 = .ok (.aload_n 0, 1) := by decide +kernel
theorem dX0_init_20 : decode cX0_init 20 = .ok (.iconst 0, 1) := by decide +kernel
theorem dX0_init_21 : decode cX0_init 21 = .ok (.putfield 21, 3) := by decide +kernel
theorem dX0_init_24 : decode cX0_init 24 = .ok (.aload_n 0, 1) := by decide +kernel
theorem dX0_init_25 : decode cX0_init 25 = .ok (.iconst 0, 1) := by decide +kernel
theorem dX0_init_26 : decode cX0_init 26 = .ok (.putfield 24, 3) := by decide +kernel
theorem dX0_init_29 : decode cX0_init 29 = .ok (.aload_n 0, 1) := by decide +kernel
theorem dX0_init_30 : decode cX0_init 30 = .ok (.iconst 3, 1) := by decide +kernel
theorem dX0_init_31 : decode cX0_init 31 = .ok (.newarray .int, 2) := by decide +kernel
theorem dX0_init_33 : decode cX0_init 33 = .ok (.putfield 28, 3) := by decide +kernel
theorem dX0_init_36 : decode cX0_init 36 = .ok (.return_, 1) := by decide +kernel
theorem dX0_takeFrom_0 : decode cX0_takeFrom 0 = .ok (.aload_n 0, 1) := by decide +kernel
theorem dX0_takeFrom_1 : decode cX0_takeFrom 1 = .ok (.aload_n 1, 1) := by decide +kernel
theorem dX0_takeFrom_2 : decode cX0_takeFrom 2 = .ok (.getfield 9, 3) := by decide +kernel
theorem dX0_takeFrom_5 : decode cX0_takeFrom 5 = .ok (.putfield 9, 3) := by decide +kernel
theorem dX0_takeFrom_8 : decode cX0_takeFrom 8 = .ok (.aload_n 0, 1) := by decide +kernel
theorem dX0_takeFrom_9 : decode cX0_takeFrom 9 = .ok (.aload_n 1, 1) := by decide +kernel
theorem dX0_takeFrom_10 : decode cX0_takeFrom 10 = .ok (.getfield 15, 3) := by decide +kernel
theorem dX0_takeFrom_13 : decode cX0_takeFrom 13 = .ok (.putfield 15, 3) := by decide +kernel
theorem dX0_takeFrom_16 : decode cX0_takeFrom 16 = .ok (.aload_n 0, 1) := by decide +kernel
theorem dX0_takeFrom_17 : decode cX0_takeFrom 17 = .ok (.aload_n 1, 1) := by decide +kernel
theorem dX0_takeFrom_18 : decode cX0_takeFrom 18 = .ok (.getfield 18, 3) := by decide +kernel
theorem dX0_takeFrom_21 : decode cX0_takeFrom 21 = .ok (.putfield 18, 3) := by decide +kernel
theorem dX0_takeFrom_24 : decode cX0_takeFrom 24 = .ok (.aload_n 0, 1) := by decide +kernel
theorem dX0_takeFrom_25 : decode cX0_takeFrom 25 = .ok (.aload_n 1, 1) := by decide +kernel
theorem dX0_takeFrom_26 : decode cX0_takeFrom 26 = .ok (.getfield 21, 3) := by decide +kernel
theorem dX0_takeFrom_29 : decode cX0_takeFrom 29 = .ok (.putfield 21, 3) := by decide +kernel
theorem dX0_takeFrom_32 : decode cX0_takeFrom 32 = .ok (.aload_n 0, 1) := by decide +kernel
theorem dX0_takeFrom_33 : decode cX0_takeFrom 33 = .ok (.aload_n 1, 1) := by decide +kernel
theorem dX0_takeFrom_34 : decode cX0_takeFrom 34 = .ok (.getfield 24, 3) := by decide +kernel
theorem dX0_takeFrom_37 : decode cX0_takeFrom 37 = .ok (.putfield 24, 3) := by decide +kernel
theorem dX0_takeFrom_40 : decode cX0_takeFrom 40 = .ok (.aload_n 1, 1) := by decide +kernel
theorem dX0_takeFrom_41 : decode cX0_takeFrom 41 = .ok (.getfield 28, 3) := by decide +kernel
theorem dX0_takeFrom_44 : decode cX0_takeFrom 44 = .ok (.iconst 0, 1) := by decide +kernel
theorem dX0_takeFrom_45 : decode cX0_takeFrom 45 = .ok (.aload_n 0, 1) := by decide +kernel
theorem dX0_takeFrom_46 : decode cX0_takeFrom 46 = .ok (.getfield 28, 3) := by decide +kernel
theorem dX0_takeFrom_49 : decode cX0_takeFrom 49 = .ok (.iconst 0, 1) := by decide +kernel
theorem dX0_takeFrom_50 : decode cX0_takeFrom 50 = .ok (.iconst 3, 1) := by decide +kernel
theorem dX0_takeFrom_51 : decode cX0_takeFrom 51 = .ok (.invokestatic 32, 3) := by decide +kernel
theorem dX0_takeFrom_54 : decode cX0_takeFrom 54 = .ok (.return_, 1) := by decide +kernel
theorem dX0_appear_0 : decode cX0_appear 0 = .ok (.aload_n 0, 1) := by decide +kernel
theorem dX0_appear_1 : decode cX0_appear 1 = .ok (.iload_n 1, 1) := by decide +kernel
theorem dX0_appear_2 : decode cX0_appear 2 = .ok (.invokevirtual 38, 3) := by decide +kernel
theorem dX0_appear_5 : decode cX0_appear 5 = .ok (.aload_n 0, 1) := by decide +kernel
theorem dX0_appear_6 : decode cX0_appear 6 = .ok (.iload_n 2, 1) := by decide +kernel
theorem dX0_appear_7 : decode cX0_appear 7 = .ok (.putfield 18, 3) := by decide +kernel
theorem dX0_appear_10 : decode cX0_appear 10 = .ok (.aload_n 0, 1) := by decide +kernel
theorem dX0_appear_11 : decode cX0_appear 11 = .ok (.iload_n 3, 1) := by decide +kernel
theorem dX0_appear_12 : decode cX0_appear 12 = .ok (.putfield 21, 3) := by decide +kernel
theorem dX0_appear_15 : decode cX0_appear 15 = .ok (.aload_n 0, 1) := by decide +kernel
theorem dX0_appear_16 : decode cX0_appear 16 = .ok (.iconst 1, 1) := by decide +kernel
theorem dX0_appear_17 : decode cX0_appear 17 = .ok (.putfield 24, 3) := by decide +kernel
theorem dX0_appear_20 : decode cX0_appear 20 = .ok (.iconst 0, 1) := by decide +kernel
theorem dX0_appear_21 : decode cX0_appear 21 = .ok (.istore 4, 2) := by decide +kernel
theorem dX0_appear_23 : decode cX0_appear 23 = .ok (.iload 4, 2) := by decide +kernel
theorem dX0_appear_25 : decode cX0_appear 25 = .ok (.iconst 3, 1) := by decide +kernel
theorem dX0_appear_26 : decode cX0_appear 26 = .ok (.if_icmp .ge 17, 3) := by decide +kernel
theorem dX0_appear_29 : decode cX0_appear 29 = .ok (.aload_n 0, 1) := by decide +kernel
theorem dX0_appear_30 : decode cX0_appear 30 = .ok (.getfield 28, 3) := by decide +kernel
theorem dX0_appear_33 : decode cX0_appear 33 = .ok (.iload 4, 2) := by decide +kernel
theorem dX0_appear_35 : decode cX0_appear 35 = .ok (.iconst 0, 1) := by decide +kernel
theorem dX0_appear_36 : decode cX0_appear 36 = .ok (.iastore, 1) := by decide +kernel
theorem dX0_appear_37 : decode cX0_appear 37 = .ok (.iinc 4 1, 3) := by decide +kernel
theorem dX0_appear_40 : decode cX0_appear 40 = .ok (.goto (-17), 3) := by decide +kernel
theorem dX0_appear_43 : decode cX0_appear 43 = .ok (.return_, 1) := by decide +kernel
theorem dX0_takeKind_0 : decode cX0_takeKind 0 = .ok (.aload_n 0, 1) := by decide +kernel
theorem dX0_takeKind_1 : decode cX0_takeKind 1 = .ok (.iload_n 1, 1) := by decide +kernel
theorem dX0_takeKind_2 : decode cX0_takeKind 2 = .ok (.bipush 10, 2) := by decide +kernel
theorem dX0_takeKind_4 : decode cX0_takeKind 4 = .ok (.idiv, 1) := by decide +kernel
theorem dX0_takeKind_5 : decode cX0_takeKind 5 = .ok (.putfield 9, 3) := by decide +kernel
theorem dX0_takeKind_8 : decode cX0_takeKind 8 = .ok (.aload_n 0, 1) := by decide +kernel
theorem dX0_takeKind_9 : decode cX0_takeKind 9 = .ok (.iload_n 1, 1) := by decide +kernel
theorem dX0_takeKind_10 : decode cX0_takeKind 10 = .ok (.bipush 10, 2) := by decide +kernel
theorem dX0_takeKind_12 : decode cX0_takeKind 12 = .ok (.irem, 1) := by decide +kernel
theorem dX0_takeKind_13 : decode cX0_takeKind 13 = .ok (.putfield 15, 3) := by decide +kernel
theorem dX0_takeKind_16 : decode cX0_takeKind 16 = .ok (.return_, 1) := by decide +kernel
theorem dX0_saltAt_0 : decode cX0_saltAt 0 = .ok (.iload_n 1, 1) := by decide +kernel
theorem dX0_saltAt_1 : decode cX0_saltAt 1 = .ok (.ifCond .lt 17, 3) := by decide +kernel
theorem dX0_saltAt_4 : decode cX0_saltAt 4 = .ok (.iload_n 1, 1) := by decide +kernel
theorem dX0_saltAt_5 : decode cX0_saltAt 5 = .ok (.iconst 3, 1) := by decide +kernel
theorem dX0_saltAt_6 : decode cX0_saltAt 6 = .ok (.if_icmp .ge 12, 3) := by decide +kernel
theorem dX0_saltAt_9 : decode cX0_saltAt 9 = .ok (.aload_n 0, 1) := by decide +kernel
theorem dX0_saltAt_10 : decode cX0_saltAt 10 = .ok (.getfield 28, 3) := by decide +kernel
theorem dX0_saltAt_13 : decode cX0_saltAt 13 = .ok (.iload_n 1, 1) := by decide +kernel
theorem dX0_saltAt_14 : decode cX0_saltAt 14 = .ok (.iaload, 1) := by decide +kernel
theorem dX0_saltAt_15 : decode cX0_saltAt 15 = .ok (.goto 4, 3) := by decide +kernel
theorem dX0_saltAt_18 : decode cX0_saltAt 18 = .ok (.iconst 0, 1) := by decide +kernel
theorem dX0_saltAt_19 : decode cX0_saltAt 19 = .ok (.ireturn, 1) := by decide +kernel
theorem dX0_allSalts_0 : decode cX0_allSalts 0 = .ok (.aload_n 0, 1) := by decide +kernel
theorem dX0_allSalts_1 : decode cX0_allSalts 1 = .ok (.getfield 28, 3) := by decide +kernel
theorem dX0_allSalts_4 : decode cX0_allSalts 4 = .ok (.iconst 0, 1) := by decide +kernel
theorem dX0_allSalts_5 : decode cX0_allSalts 5 = .ok (.iaload, 1) := by decide +kernel
theorem dX0_allSalts_6 : decode cX0_allSalts 6 = .ok (.aload_n 0, 1) := by decide +kernel
theorem dX0_allSalts_7 : decode cX0_allSalts 7 = .ok (.getfield 28, 3) := by decide +kernel
theorem dX0_allSalts_10 : decode cX0_allSalts 10 = .ok (.iconst 1, 1) := by decide +kernel
theorem dX0_allSalts_11 : decode cX0_allSalts 11 = .ok (.iaload, 1) := by decide +kernel
theorem dX0_allSalts_12 : decode cX0_allSalts 12 = .ok (.iadd, 1) := by decide +kernel
theorem dX0_allSalts_13 : decode cX0_allSalts 13 = .ok (.aload_n 0, 1) := by decide +kernel
theorem dX0_allSalts_14 : decode cX0_allSalts 14 = .ok (.getfield 28, 3) := by decide +kernel
theorem dX0_allSalts_17 : decode cX0_allSalts 17 = .ok (.iconst 2, 1) := by decide +kernel
theorem dX0_allSalts_18 : decode cX0_allSalts 18 = .ok (.iaload, 1) := by decide +kernel
theorem dX0_allSalts_19 : decode cX0_allSalts 19 = .ok (.iadd, 1) := by decide +kernel
theorem dX0_allSalts_20 : decode cX0_allSalts 20 = .ok (.ireturn, 1) := by decide +kernel
theorem dX0_taste_0 : decode cX0_taste 0 = .ok (.aload_n 0, 1) := by decide +kernel
theorem dX0_taste_1 : decode cX0_taste 1 = .ok (.invokevirtual 42, 3) := by decide +kernel
theorem dX0_taste_4 : decode cX0_taste 4 = .ok (.aload_n 0, 1) := by decide +kernel
theorem dX0_taste_5 : decode cX0_taste 5 = .ok (.getfield 21, 3) := by decide +kernel
theorem dX0_taste_8 : decode cX0_taste 8 = .ok (.invokestatic 46, 3) := by decide +kernel
theorem dX0_taste_11 : decode cX0_taste 11 = .ok (.ireturn, 1) := by decide +kernel
theorem dX0_change_0 : decode cX0_change 0 = .ok (.iload_n 1, 1) := by decide +kernel
theorem dX0_change_1 : decode cX0_change 1 = .ok (.tableswitch 79 0 4 #[35, 47, 59, 59, 59], 35) := by decide +kernel
theorem dX0_change_36 : decode cX0_change 36 = .ok (.aload_n 0, 1) := by decide +kernel
theorem dX0_change_37 : decode cX0_change 37 = .ok (.getfield 18, 3) := by decide +kernel
theorem dX0_change_40 : decode cX0_change 40 = .ok (.istore_n 3, 1) := by decide +kernel
theorem dX0_change_41 : decode cX0_change 41 = .ok (.aload_n 0, 1) := by decide +kernel
theorem dX0_change_42 : decode cX0_change 42 = .ok (.iload_n 2, 1) := by decide +kernel
theorem dX0_change_43 : decode cX0_change 43 = .ok (.putfield 18, 3) := by decide +kernel
theorem dX0_change_46 : decode cX0_change 46 = .ok (.iload_n 3, 1) := by decide +kernel
theorem dX0_change_47 : decode cX0_change 47 = .ok (.ireturn, 1) := by decide +kernel
theorem dX0_change_48 : decode cX0_change 48 = .ok (.aload_n 0, 1) := by decide +kernel
theorem dX0_change_49 : decode cX0_change 49 = .ok (.getfield 21, 3) := by decide +kernel
theorem dX0_change_52 : decode cX0_change 52 = .ok (.istore_n 3, 1) := by decide +kernel
theorem dX0_change_53 : decode cX0_change 53 = .ok (.aload_n 0, 1) := by decide +kernel
theorem dX0_change_54 : decode cX0_change 54 = .ok (.iload_n 2, 1) := by decide +kernel
theorem dX0_change_55 : decode cX0_change 55 = .ok (.putfield 21, 3) := by decide +kernel
theorem dX0_change_58 : decode cX0_change 58 = .ok (.iload_n 3, 1) := by decide +kernel
theorem dX0_change_59 : decode cX0_change 59 = .ok (.ireturn, 1) := by decide +kernel
theorem dX0_change_60 : decode cX0_change 60 = .ok (.aload_n 0, 1) := by decide +kernel
theorem dX0_change_61 : decode cX0_change 61 = .ok (.getfield 28, 3) := by decide +kernel
theorem dX0_change_64 : decode cX0_change 64 = .ok (.iload_n 1, 1) := by decide +kernel
theorem dX0_change_65 : decode cX0_change 65 = .ok (.iconst 2, 1) := by decide +kernel
theorem dX0_change_66 : decode cX0_change 66 = .ok (.isub, 1) := by decide +kernel
theorem dX0_change_67 : decode cX0_change 67 = .ok (.iaload, 1) := by decide +kernel
theorem dX0_change_68 : decode cX0_change 68 = .ok (.istore_n 3, 1) := by decide +kernel
theorem dX0_change_69 : decode cX0_change 69 = .ok (.aload_n 0, 1) := by decide +kernel
theorem dX0_change_70 : decode cX0_change 70 = .ok (.getfield 28, 3) := by decide +kernel
theorem dX0_change_73 : decode cX0_change 73 = .ok (.iload_n 1, 1) := by decide +kernel
theorem dX0_change_74 : decode cX0_change 74 = .ok (.iconst 2, 1) := by decide +kernel
theorem dX0_change_75 : decode cX0_change 75 = .ok (.isub, 1) := by decide +kernel
theorem dX0_change_76 : decode cX0_change 76 = .ok (.iload_n 2, 1) := by decide +kernel
theorem dX0_change_77 : decode cX0_change 77 = .ok (.iastore, 1) := by decide +kernel
theorem dX0_change_78 : decode cX0_change 78 = .ok (.iload_n 3, 1) := by decide +kernel
theorem dX0_change_79 : decode cX0_change 79 = .ok (.ireturn, 1) := by decide +kernel
theorem dX0_change_80 : decode cX0_change 80 = .ok (.iconst 0, 1) := by decide +kernel
theorem dX0_change_81 : decode cX0_change 81 = .ok (.ireturn, 1) := by decide +kernel
theorem dX0_takeIn_0 : decode cX0_takeIn 0 = .ok (.aload_n 0, 1) := by decide +kernel
theorem dX0_takeIn_1 : decode cX0_takeIn 1 = .ok (.sipush 999, 3) := by decide +kernel
theorem dX0_takeIn_4 : decode cX0_takeIn 4 = .ok (.aload_n 0, 1) := by decide +kernel
theorem dX0_takeIn_5 : decode cX0_takeIn 5 = .ok (.getfield 21, 3) := by decide +kernel
theorem dX0_takeIn_8 : decode cX0_takeIn 8 = .ok (.aload_n 1, 1) := by decide +kernel
theorem dX0_takeIn_9 : decode cX0_takeIn 9 = .ok (.getfield 21, 3) := by decide +kernel
theorem dX0_takeIn_12 : decode cX0_takeIn 12 = .ok (.iadd, 1) := by decide +kernel
theorem dX0_takeIn_13 : decode cX0_takeIn 13 = .ok (.invokestatic 50, 3) := by decide +kernel
theorem dX0_takeIn_16 : decode cX0_takeIn 16 = .ok (.putfield 21, 3) := by decide +kernel
theorem dX0_takeIn_19 : decode cX0_takeIn 19 = .ok (.iconst 0, 1) := by decide +kernel
theorem dX0_takeIn_20 : decode cX0_takeIn 20 = .ok (.istore_n 2, 1) := by decide +kernel
theorem dX0_takeIn_21 : decode cX0_takeIn 21 = .ok (.iload_n 2, 1) := by decide +kernel
theorem dX0_takeIn_22 : decode cX0_takeIn 22 = .ok (.iconst 3, 1) := by decide +kernel
theorem dX0_takeIn_23 : decode cX0_takeIn 23 = .ok (.if_icmp .ge 40, 3) := by decide +kernel
theorem dX0_takeIn_26 : decode cX0_takeIn 26 = .ok (.aload_n 0, 1) := by decide +kernel
theorem dX0_takeIn_27 : decode cX0_takeIn 27 = .ok (.getfield 28, 3) := by decide +kernel
theorem dX0_takeIn_30 : decode cX0_takeIn 30 = .ok (.iload_n 2, 1) := by decide +kernel
theorem dX0_takeIn_31 : decode cX0_takeIn 31 = .ok (.bipush 99, 2) := by decide +kernel
theorem dX0_takeIn_33 : decode cX0_takeIn 33 = .ok (.aload_n 0, 1) := by decide +kernel
theorem dX0_takeIn_34 : decode cX0_takeIn 34 = .ok (.getfield 28, 3) := by decide +kernel
theorem dX0_takeIn_37 : decode cX0_takeIn 37 = .ok (.iload_n 2, 1) := by decide +kernel
theorem dX0_takeIn_38 : decode cX0_takeIn 38 = .ok (.iaload, 1) := by decide +kernel
theorem dX0_takeIn_39 : decode cX0_takeIn 39 = .ok (.aload_n 1, 1) := by decide +kernel
theorem dX0_takeIn_40 : decode cX0_takeIn 40 = .ok (.getfield 28, 3) := by decide +kernel
theorem dX0_takeIn_43 : decode cX0_takeIn 43 = .ok (.iload_n 2, 1) := by decide +kernel
theorem dX0_takeIn_44 : decode cX0_takeIn 44 = .ok (.iaload, 1) := by decide +kernel
theorem dX0_takeIn_45 : decode cX0_takeIn 45 = .ok (.iadd, 1) := by decide +kernel
theorem dX0_takeIn_46 : decode cX0_takeIn 46 = .ok (.invokestatic 50, 3) := by decide +kernel
theorem dX0_takeIn_49 : decode cX0_takeIn 49 = .ok (.iastore, 1) := by decide +kernel
theorem dX0_takeIn_50 : decode cX0_takeIn 50 = .ok (.aload_n 1, 1) := by decide +kernel
theorem dX0_takeIn_51 : decode cX0_takeIn 51 = .ok (.getfield 28, 3) := by decide +kernel
theorem dX0_takeIn_54 : decode cX0_takeIn 54 = .ok (.iload_n 2, 1) := by decide +kernel
theorem dX0_takeIn_55 : decode cX0_takeIn 55 = .ok (.iconst 0, 1) := by decide +kernel
theorem dX0_takeIn_56 : decode cX0_takeIn 56 = .ok (.iastore, 1) := by decide +kernel
theorem dX0_takeIn_57 : decode cX0_takeIn 57 = .ok (.iinc 2 1, 3) := by decide +kernel
theorem dX0_takeIn_60 : decode cX0_takeIn 60 = .ok (.goto (-39), 3) := by decide +kernel
theorem dX0_takeIn_63 : decode cX0_takeIn 63 = .ok (.aload_n 1, 1) := by decide +kernel
theorem dX0_takeIn_64 : decode cX0_takeIn 64 = .ok (.iconst 0, 1) := by decide +kernel
theorem dX0_takeIn_65 : decode cX0_takeIn 65 = .ok (.putfield 21, 3) := by decide +kernel
theorem dX0_takeIn_68 : decode cX0_takeIn 68 = .ok (.aload_n 1, 1) := by decide +kernel
theorem dX0_takeIn_69 : decode cX0_takeIn 69 = .ok (.iconst 0, 1) := by decide +kernel
theorem dX0_takeIn_70 : decode cX0_takeIn 70 = .ok (.putfield 24, 3) := by decide +kernel
theorem dX0_takeIn_73 : decode cX0_takeIn 73 = .ok (.return_, 1) := by decide +kernel
theorem dX0_halveInto_0 : decode cX0_halveInto 0 = .ok (.aload_n 1, 1) := by decide +kernel
theorem dX0_halveInto_1 : decode cX0_halveInto 1 = .ok (.iconst 1, 1) := by decide +kernel
theorem dX0_halveInto_2 : decode cX0_halveInto 2 = .ok (.putfield 24, 3) := by decide +kernel
theorem dX0_halveInto_5 : decode cX0_halveInto 5 = .ok (.aload_n 1, 1) := by decide +kernel
theorem dX0_halveInto_6 : decode cX0_halveInto 6 = .ok (.aload_n 0, 1) := by decide +kernel
theorem dX0_halveInto_7 : decode cX0_halveInto 7 = .ok (.getfield 18, 3) := by decide +kernel
theorem dX0_halveInto_10 : decode cX0_halveInto 10 = .ok (.putfield 18, 3) := by decide +kernel
theorem dX0_halveInto_13 : decode cX0_halveInto 13 = .ok (.aload_n 1, 1) := by decide +kernel
theorem dX0_halveInto_14 : decode cX0_halveInto 14 = .ok (.aload_n 0, 1) := by decide +kernel
theorem dX0_halveInto_15 : decode cX0_halveInto 15 = .ok (.getfield 21, 3) := by decide +kernel
theorem dX0_halveInto_18 : decode cX0_halveInto 18 = .ok (.iconst 2, 1) := by decide +kernel
theorem dX0_halveInto_19 : decode cX0_halveInto 19 = .ok (.idiv, 1) := by decide +kernel
theorem dX0_halveInto_20 : decode cX0_halveInto 20 = .ok (.putfield 21, 3) := by decide +kernel
theorem dX0_halveInto_23 : decode cX0_halveInto 23 = .ok (.aload_n 0, 1) := by decide +kernel
theorem dX0_halveInto_24 : decode cX0_halveInto 24 = .ok (.dup, 1) := by decide +kernel
theorem dX0_halveInto_25 : decode cX0_halveInto 25 = .ok (.getfield 21, 3) := by decide +kernel
theorem dX0_halveInto_28 : decode cX0_halveInto 28 = .ok (.aload_n 1, 1) := by decide +kernel
theorem dX0_halveInto_29 : decode cX0_halveInto 29 = .ok (.getfield 21, 3) := by decide +kernel
theorem dX0_halveInto_32 : decode cX0_halveInto 32 = .ok (.isub, 1) := by decide +kernel
theorem dX0_halveInto_33 : decode cX0_halveInto 33 = .ok (.putfield 21, 3) := by decide +kernel
theorem dX0_halveInto_36 : decode cX0_halveInto 36 = .ok (.iconst 0, 1) := by decide +kernel
theorem dX0_halveInto_37 : decode cX0_halveInto 37 = .ok (.istore_n 2, 1) := by decide +kernel
theorem dX0_halveInto_38 : decode cX0_halveInto 38 = .ok (.iload_n 2, 1) := by decide +kernel
theorem dX0_halveInto_39 : decode cX0_halveInto 39 = .ok (.iconst 3, 1) := by decide +kernel
theorem dX0_halveInto_40 : decode cX0_halveInto 40 = .ok (.if_icmp .ge 38, 3) := by decide +kernel
theorem dX0_halveInto_43 : decode cX0_halveInto 43 = .ok (.aload_n 1, 1) := by decide +kernel
theorem dX0_halveInto_44 : decode cX0_halveInto 44 = .ok (.getfield 28, 3) := by decide +kernel
theorem dX0_halveInto_47 : decode cX0_halveInto 47 = .ok (.iload_n 2, 1) := by decide +kernel
theorem dX0_halveInto_48 : decode cX0_halveInto 48 = .ok (.aload_n 0, 1) := by decide +kernel
theorem dX0_halveInto_49 : decode cX0_halveInto 49 = .ok (.getfield 28, 3) := by decide +kernel
theorem dX0_halveInto_52 : decode cX0_halveInto 52 = .ok (.iload_n 2, 1) := by decide +kernel
theorem dX0_halveInto_53 : decode cX0_halveInto 53 = .ok (.iaload, 1) := by decide +kernel
theorem dX0_halveInto_54 : decode cX0_halveInto 54 = .ok (.iconst 2, 1) := by decide +kernel
theorem dX0_halveInto_55 : decode cX0_halveInto 55 = .ok (.idiv, 1) := by decide +kernel
theorem dX0_halveInto_56 : decode cX0_halveInto 56 = .ok (.iastore, 1) := by decide +kernel
theorem dX0_halveInto_57 : decode cX0_halveInto 57 = .ok (.aload_n 0, 1) := by decide +kernel
theorem dX0_halveInto_58 : decode cX0_halveInto 58 = .ok (.getfield 28, 3) := by decide +kernel
theorem dX0_halveInto_61 : decode cX0_halveInto 61 = .ok (.iload_n 2, 1) := by decide +kernel
theorem dX0_halveInto_62 : decode cX0_halveInto 62 = .ok (.dup2, 1) := by decide +kernel
theorem dX0_halveInto_63 : decode cX0_halveInto 63 = .ok (.iaload, 1) := by decide +kernel
theorem dX0_halveInto_64 : decode cX0_halveInto 64 = .ok (.aload_n 1, 1) := by decide +kernel
theorem dX0_halveInto_65 : decode cX0_halveInto 65 = .ok (.getfield 28, 3) := by decide +kernel
theorem dX0_halveInto_68 : decode cX0_halveInto 68 = .ok (.iload_n 2, 1) := by decide +kernel
theorem dX0_halveInto_69 : decode cX0_halveInto 69 = .ok (.iaload, 1) := by decide +kernel
theorem dX0_halveInto_70 : decode cX0_halveInto 70 = .ok (.isub, 1) := by decide +kernel
theorem dX0_halveInto_71 : decode cX0_halveInto 71 = .ok (.iastore, 1) := by decide +kernel
theorem dX0_halveInto_72 : decode cX0_halveInto 72 = .ok (.iinc 2 1, 3) := by decide +kernel
theorem dX0_halveInto_75 : decode cX0_halveInto 75 = .ok (.goto (-37), 3) := by decide +kernel
theorem dX0_halveInto_78 : decode cX0_halveInto 78 = .ok (.return_, 1) := by decide +kernel
theorem dX0_driftBy_0 : decode cX0_driftBy 0 = .ok (.aload_n 0, 1) := by decide +kernel
theorem dX0_driftBy_1 : decode cX0_driftBy 1 = .ok (.getfield 9, 3) := by decide +kernel
theorem dX0_driftBy_4 : decode cX0_driftBy 4 = .ok (.tableswitch 61 1 6 #[40, 44, 61, 48, 44, 59], 40) := by decide +kernel
theorem dX0_driftBy_44 : decode cX0_driftBy 44 = .ok (.iload_n 1, 1) := by decide +kernel
theorem dX0_driftBy_45 : decode cX0_driftBy 45 = .ok (.iconst 2, 1) := by decide +kernel
theorem dX0_driftBy_46 : decode cX0_driftBy 46 = .ok (.idiv, 1) := by decide +kernel
theorem dX0_driftBy_47 : decode cX0_driftBy 47 = .ok (.ireturn, 1) := by decide +kernel
theorem dX0_driftBy_48 : decode cX0_driftBy 48 = .ok (.iconst 2, 1) := by decide +kernel
theorem dX0_driftBy_49 : decode cX0_driftBy 49 = .ok (.iload_n 1, 1) := by decide +kernel
theorem dX0_driftBy_50 : decode cX0_driftBy 50 = .ok (.imul, 1) := by decide +kernel
theorem dX0_driftBy_51 : decode cX0_driftBy 51 = .ok (.ireturn, 1) := by decide +kernel
theorem dX0_driftBy_52 : decode cX0_driftBy 52 = .ok (.iload_n 1, 1) := by decide +kernel
theorem dX0_driftBy_53 : decode cX0_driftBy 53 = .ok (.iconst 2, 1) := by decide +kernel
theorem dX0_driftBy_54 : decode cX0_driftBy 54 = .ok (.idiv, 1) := by decide +kernel
theorem dX0_driftBy_55 : decode cX0_driftBy 55 = .ok (.aload_n 0, 1) := by decide +kernel
theorem dX0_driftBy_56 : decode cX0_driftBy 56 = .ok (.getfield 15, 3) := by decide +kernel
theorem dX0_driftBy_59 : decode cX0_driftBy 59 = .ok (.iconst 2, 1) := by decide +kernel
theorem dX0_driftBy_60 : decode cX0_driftBy 60 = .ok (.irem, 1) := by decide +kernel
theorem dX0_driftBy_61 : decode cX0_driftBy 61 = .ok (.iadd, 1) := by decide +kernel
theorem dX0_driftBy_62 : decode cX0_driftBy 62 = .ok (.ireturn, 1) := by decide +kernel
theorem dX0_driftBy_63 : decode cX0_driftBy 63 = .ok (.iconst 0, 1) := by decide +kernel
theorem dX0_driftBy_64 : decode cX0_driftBy 64 = .ok (.ireturn, 1) := by decide +kernel
theorem dX0_driftBy_65 : decode cX0_driftBy 65 = .ok (.iload_n 1, 1) := by decide +kernel
theorem dX0_driftBy_66 : decode cX0_driftBy 66 = .ok (.ireturn, 1) := by decide +kernel
theorem dX0_placeBy_0 : decode cX0_placeBy 0 = .ok (.iload_n 1, 1) := by decide +kernel
theorem dX0_placeBy_1 : decode cX0_placeBy 1 = .ok (.aload_n 0, 1) := by decide +kernel
theorem dX0_placeBy_2 : decode cX0_placeBy 2 = .ok (.iload_n 2, 1) := by decide +kernel
theorem dX0_placeBy_3 : decode cX0_placeBy 3 = .ok (.invokevirtual 55, 3) := by decide +kernel
theorem dX0_placeBy_6 : decode cX0_placeBy 6 = .ok (.iadd, 1) := by decide +kernel
theorem dX0_placeBy_7 : decode cX0_placeBy 7 = .ok (.bipush 12, 2) := by decide +kernel
theorem dX0_placeBy_9 : decode cX0_placeBy 9 = .ok (.invokestatic 59, 3) := by decide +kernel
theorem dX0_placeBy_12 : decode cX0_placeBy 12 = .ok (.ireturn, 1) := by decide +kernel
theorem dX0_leastWind_0 : decode cX0_leastWind 0 = .ok (.bipush (-3), 2) := by decide +kernel
theorem dX0_leastWind_2 : decode cX0_leastWind 2 = .ok (.istore_n 3, 1) := by decide +kernel
theorem dX0_leastWind_3 : decode cX0_leastWind 3 = .ok (.iload_n 3, 1) := by decide +kernel
theorem dX0_leastWind_4 : decode cX0_leastWind 4 = .ok (.iconst 3, 1) := by decide +kernel
theorem dX0_leastWind_5 : decode cX0_leastWind 5 = .ok (.if_icmp .gt 19, 3) := by decide +kernel
theorem dX0_leastWind_8 : decode cX0_leastWind 8 = .ok (.aload_n 0, 1) := by decide +kernel
theorem dX0_leastWind_9 : decode cX0_leastWind 9 = .ok (.iload_n 1, 1) := by decide +kernel
theorem dX0_leastWind_10 : decode cX0_leastWind 10 = .ok (.iload_n 3, 1) := by decide +kernel
theorem dX0_leastWind_11 : decode cX0_leastWind 11 = .ok (.invokevirtual 62, 3) := by decide +kernel
theorem dX0_leastWind_14 : decode cX0_leastWind 14 = .ok (.iload_n 2, 1) := by decide +kernel
theorem dX0_leastWind_15 : decode cX0_leastWind 15 = .ok (.if_icmp .eq 9, 3) := by decide +kernel
theorem dX0_leastWind_18 : decode cX0_leastWind 18 = .ok (.iinc 3 1, 3) := by decide +kernel
theorem dX0_leastWind_21 : decode cX0_leastWind 21 = .ok (.goto (-18), 3) := by decide +kernel
theorem dX0_leastWind_24 : decode cX0_leastWind 24 = .ok (.iload_n 3, 1) := by decide +kernel
theorem dX0_leastWind_25 : decode cX0_leastWind 25 = .ok (.ireturn, 1) := by decide +kernel
theorem dX0_rainAt_0 : decode cX0_rainAt 0 = .ok (.iload_n 1, 1) := by decide +kernel
theorem dX0_rainAt_1 : decode cX0_rainAt 1 = .ok (.ifCond .gt 7, 3) := by decide +kernel
theorem dX0_rainAt_4 : decode cX0_rainAt 4 = .ok (.iconst 0, 1) := by decide +kernel
theorem dX0_rainAt_5 : decode cX0_rainAt 5 = .ok (.goto 15, 3) := by decide +kernel
theorem dX0_rainAt_8 : decode cX0_rainAt 8 = .ok (.aload_n 0, 1) := by decide +kernel
theorem dX0_rainAt_9 : decode cX0_rainAt 9 = .ok (.getfield 21, 3) := by decide +kernel
theorem dX0_rainAt_12 : decode cX0_rainAt 12 = .ok (.aload_n 0, 1) := by decide +kernel
theorem dX0_rainAt_13 : decode cX0_rainAt 13 = .ok (.iload_n 1, 1) := by decide +kernel
theorem dX0_rainAt_14 : decode cX0_rainAt 14 = .ok (.invokevirtual 65, 3) := by decide +kernel
theorem dX0_rainAt_17 : decode cX0_rainAt 17 = .ok (.invokestatic 50, 3) := by decide +kernel
theorem dX0_rainAt_20 : decode cX0_rainAt 20 = .ok (.ireturn, 1) := by decide +kernel
theorem dX0_rainIfItHad_0 : decode cX0_rainIfItHad 0 = .ok (.iconst 2, 1) := by decide +kernel
theorem dX0_rainIfItHad_1 : decode cX0_rainIfItHad 1 = .ok (.iload_n 1, 1) := by decide +kernel
theorem dX0_rainIfItHad_2 : decode cX0_rainIfItHad 2 = .ok (.imul, 1) := by decide +kernel
theorem dX0_rainIfItHad_3 : decode cX0_rainIfItHad 3 = .ok (.istore_n 2, 1) := by decide +kernel
theorem dX0_rainIfItHad_4 : decode cX0_rainIfItHad 4 = .ok (.aload_n 0, 1) := by decide +kernel
theorem dX0_rainIfItHad_5 : decode cX0_rainIfItHad 5 = .ok (.getfield 9, 3) := by decide +kernel
theorem dX0_rainIfItHad_8 : decode cX0_rainIfItHad 8 = .ok (.tableswitch 69 1 6 #[40, 42, 58, 40, 49, 58], 40) := by decide +kernel
theorem dX0_rainIfItHad_48 : decode cX0_rainIfItHad 48 = .ok (.iconst 0, 1) := by decide +kernel
theorem dX0_rainIfItHad_49 : decode cX0_rainIfItHad 49 = .ok (.ireturn, 1) := by decide +kernel
theorem dX0_rainIfItHad_50 : decode cX0_rainIfItHad 50 = .ok (.iload_n 2, 1) := by decide +kernel
theorem dX0_rainIfItHad_51 : decode cX0_rainIfItHad 51 = .ok (.aload_n 0, 1) := by decide +kernel
theorem dX0_rainIfItHad_52 : decode cX0_rainIfItHad 52 = .ok (.getfield 15, 3) := by decide +kernel
theorem dX0_rainIfItHad_55 : decode cX0_rainIfItHad 55 = .ok (.iadd, 1) := by decide +kernel
theorem dX0_rainIfItHad_56 : decode cX0_rainIfItHad 56 = .ok (.ireturn, 1) := by decide +kernel
theorem dX0_rainIfItHad_57 : decode cX0_rainIfItHad 57 = .ok (.iconst 2, 1) := by decide +kernel
theorem dX0_rainIfItHad_58 : decode cX0_rainIfItHad 58 = .ok (.iload_n 2, 1) := by decide +kernel
theorem dX0_rainIfItHad_59 : decode cX0_rainIfItHad 59 = .ok (.aload_n 0, 1) := by decide +kernel
theorem dX0_rainIfItHad_60 : decode cX0_rainIfItHad 60 = .ok (.getfield 15, 3) := by decide +kernel
theorem dX0_rainIfItHad_63 : decode cX0_rainIfItHad 63 = .ok (.iadd, 1) := by decide +kernel
theorem dX0_rainIfItHad_64 : decode cX0_rainIfItHad 64 = .ok (.imul, 1) := by decide +kernel
theorem dX0_rainIfItHad_65 : decode cX0_rainIfItHad 65 = .ok (.ireturn, 1) := by decide +kernel
theorem dX0_rainIfItHad_66 : decode cX0_rainIfItHad 66 = .ok (.iconst 0, 1) := by decide +kernel
theorem dX0_rainIfItHad_67 : decode cX0_rainIfItHad 67 = .ok (.iload_n 2, 1) := by decide +kernel
theorem dX0_rainIfItHad_68 : decode cX0_rainIfItHad 68 = .ok (.aload_n 0, 1) := by decide +kernel
theorem dX0_rainIfItHad_69 : decode cX0_rainIfItHad 69 = .ok (.getfield 15, 3) := by decide +kernel
theorem dX0_rainIfItHad_72 : decode cX0_rainIfItHad 72 = .ok (.isub, 1) := by decide +kernel
theorem dX0_rainIfItHad_73 : decode cX0_rainIfItHad 73 = .ok (.invokestatic 68, 3) := by decide +kernel
theorem dX0_rainIfItHad_76 : decode cX0_rainIfItHad 76 = .ok (.ireturn, 1) := by decide +kernel
theorem dX0_rainIfItHad_77 : decode cX0_rainIfItHad 77 = .ok (.iload_n 2, 1) := by decide +kernel
theorem dX0_rainIfItHad_78 : decode cX0_rainIfItHad 78 = .ok (.ireturn, 1) := by decide +kernel
theorem dX0_keeps_0 : decode cX0_keeps 0 = .ok (.aload_n 0, 1) := by decide +kernel
theorem dX0_keeps_1 : decode cX0_keeps 1 = .ok (.getfield 9, 3) := by decide +kernel
theorem dX0_keeps_4 : decode cX0_keeps 4 = .ok (.tableswitch 67 2 6 #[36, 57, 67, 47, 57], 36) := by decide +kernel
theorem dX0_keeps_40 : decode cX0_keeps 40 = .ok (.iload_n 1, 1) := by decide +kernel
theorem dX0_keeps_41 : decode cX0_keeps 41 = .ok (.iconst 2, 1) := by decide +kernel
theorem dX0_keeps_42 : decode cX0_keeps 42 = .ok (.if_icmp .eq 7, 3) := by decide +kernel
theorem dX0_keeps_45 : decode cX0_keeps 45 = .ok (.iconst 1, 1) := by decide +kernel
theorem dX0_keeps_46 : decode cX0_keeps 46 = .ok (.goto 4, 3) := by decide +kernel
theorem dX0_keeps_49 : decode cX0_keeps 49 = .ok (.iconst 0, 1) := by decide +kernel
theorem dX0_keeps_50 : decode cX0_keeps 50 = .ok (.ireturn, 1) := by decide +kernel
theorem dX0_keeps_51 : decode cX0_keeps 51 = .ok (.iload_n 1, 1) := by decide +kernel
theorem dX0_keeps_52 : decode cX0_keeps 52 = .ok (.ifCond .ne 7, 3) := by decide +kernel
theorem dX0_keeps_55 : decode cX0_keeps 55 = .ok (.iconst 1, 1) := by decide +kernel
theorem dX0_keeps_56 : decode cX0_keeps 56 = .ok (.goto 4, 3) := by decide +kernel
theorem dX0_keeps_59 : decode cX0_keeps 59 = .ok (.iconst 0, 1) := by decide +kernel
theorem dX0_keeps_60 : decode cX0_keeps 60 = .ok (.ireturn, 1) := by decide +kernel
theorem dX0_keeps_61 : decode cX0_keeps 61 = .ok (.iload_n 1, 1) := by decide +kernel
theorem dX0_keeps_62 : decode cX0_keeps 62 = .ok (.ifCond .eq 7, 3) := by decide +kernel
theorem dX0_keeps_65 : decode cX0_keeps 65 = .ok (.iconst 1, 1) := by decide +kernel
theorem dX0_keeps_66 : decode cX0_keeps 66 = .ok (.goto 4, 3) := by decide +kernel
theorem dX0_keeps_69 : decode cX0_keeps 69 = .ok (.iconst 0, 1) := by decide +kernel
theorem dX0_keeps_70 : decode cX0_keeps 70 = .ok (.ireturn, 1) := by decide +kernel
theorem dX0_keeps_71 : decode cX0_keeps 71 = .ok (.iconst 1, 1) := by decide +kernel
theorem dX0_keeps_72 : decode cX0_keeps 72 = .ok (.ireturn, 1) := by decide +kernel
theorem dX0_rainOverHill_0 : decode cX0_rainOverHill 0 = .ok (.aload_n 0, 1) := by decide +kernel
theorem dX0_rainOverHill_1 : decode cX0_rainOverHill 1 = .ok (.iload_n 1, 1) := by decide +kernel
theorem dX0_rainOverHill_2 : decode cX0_rainOverHill 2 = .ok (.invokevirtual 71, 3) := by decide +kernel
theorem dX0_rainOverHill_5 : decode cX0_rainOverHill 5 = .ok (.istore_n 2, 1) := by decide +kernel
theorem dX0_rainOverHill_6 : decode cX0_rainOverHill 6 = .ok (.aload_n 0, 1) := by decide +kernel
theorem dX0_rainOverHill_7 : decode cX0_rainOverHill 7 = .ok (.dup, 1) := by decide +kernel
theorem dX0_rainOverHill_8 : decode cX0_rainOverHill 8 = .ok (.getfield 21, 3) := by decide +kernel
theorem dX0_rainOverHill_11 : decode cX0_rainOverHill 11 = .ok (.iload_n 2, 1) := by decide +kernel
theorem dX0_rainOverHill_12 : decode cX0_rainOverHill 12 = .ok (.isub, 1) := by decide +kernel
theorem dX0_rainOverHill_13 : decode cX0_rainOverHill 13 = .ok (.putfield 21, 3) := by decide +kernel
theorem dX0_rainOverHill_16 : decode cX0_rainOverHill 16 = .ok (.iconst 0, 1) := by decide +kernel
theorem dX0_rainOverHill_17 : decode cX0_rainOverHill 17 = .ok (.istore_n 3, 1) := by decide +kernel
theorem dX0_rainOverHill_18 : decode cX0_rainOverHill 18 = .ok (.iload_n 3, 1) := by decide +kernel
theorem dX0_rainOverHill_19 : decode cX0_rainOverHill 19 = .ok (.iconst 3, 1) := by decide +kernel
theorem dX0_rainOverHill_20 : decode cX0_rainOverHill 20 = .ok (.if_icmp .ge 39, 3) := by decide +kernel
theorem dX0_rainOverHill_23 : decode cX0_rainOverHill 23 = .ok (.iload_n 2, 1) := by decide +kernel
theorem dX0_rainOverHill_24 : decode cX0_rainOverHill 24 = .ok (.ifCond .le 35, 3) := by decide +kernel
theorem dX0_rainOverHill_27 : decode cX0_rainOverHill 27 = .ok (.aload_n 0, 1) := by decide +kernel
theorem dX0_rainOverHill_28 : decode cX0_rainOverHill 28 = .ok (.iload_n 3, 1) := by decide +kernel
theorem dX0_rainOverHill_29 : decode cX0_rainOverHill 29 = .ok (.invokevirtual 74, 3) := by decide +kernel
theorem dX0_rainOverHill_32 : decode cX0_rainOverHill 32 = .ok (.ifCond .ne 21, 3) := by decide +kernel
theorem dX0_rainOverHill_35 : decode cX0_rainOverHill 35 = .ok (.aload_n 0, 1) := by decide +kernel
theorem dX0_rainOverHill_36 : decode cX0_rainOverHill 36 = .ok (.getfield 28, 3) := by decide +kernel
theorem dX0_rainOverHill_39 : decode cX0_rainOverHill 39 = .ok (.iload_n 3, 1) := by decide +kernel
theorem dX0_rainOverHill_40 : decode cX0_rainOverHill 40 = .ok (.dup2, 1) := by decide +kernel
theorem dX0_rainOverHill_41 : decode cX0_rainOverHill 41 = .ok (.iaload, 1) := by decide +kernel
theorem dX0_rainOverHill_42 : decode cX0_rainOverHill 42 = .ok (.aload_n 0, 1) := by decide +kernel
theorem dX0_rainOverHill_43 : decode cX0_rainOverHill 43 = .ok (.getfield 28, 3) := by decide +kernel
theorem dX0_rainOverHill_46 : decode cX0_rainOverHill 46 = .ok (.iload_n 3, 1) := by decide +kernel
theorem dX0_rainOverHill_47 : decode cX0_rainOverHill 47 = .ok (.iaload, 1) := by decide +kernel
theorem dX0_rainOverHill_48 : decode cX0_rainOverHill 48 = .ok (.bipush 10, 2) := by decide +kernel
theorem dX0_rainOverHill_50 : decode cX0_rainOverHill 50 = .ok (.idiv, 1) := by decide +kernel
theorem dX0_rainOverHill_51 : decode cX0_rainOverHill 51 = .ok (.isub, 1) := by decide +kernel
theorem dX0_rainOverHill_52 : decode cX0_rainOverHill 52 = .ok (.iastore, 1) := by decide +kernel
theorem dX0_rainOverHill_53 : decode cX0_rainOverHill 53 = .ok (.iinc 3 1, 3) := by decide +kernel
theorem dX0_rainOverHill_56 : decode cX0_rainOverHill 56 = .ok (.goto (-38), 3) := by decide +kernel
theorem dX0_rainOverHill_59 : decode cX0_rainOverHill 59 = .ok (.iload_n 2, 1) := by decide +kernel
theorem dX0_rainOverHill_60 : decode cX0_rainOverHill 60 = .ok (.ireturn, 1) := by decide +kernel
theorem dX0_drinkFromSea_0 : decode cX0_drinkFromSea 0 = .ok (.aload_n 0, 1) := by decide +kernel
theorem dX0_drinkFromSea_1 : decode cX0_drinkFromSea 1 = .ok (.getfield 15, 3) := by decide +kernel
theorem dX0_drinkFromSea_4 : decode cX0_drinkFromSea 4 = .ok (.iconst 2, 1) := by decide +kernel
theorem dX0_drinkFromSea_5 : decode cX0_drinkFromSea 5 = .ok (.irem, 1) := by decide +kernel
theorem dX0_drinkFromSea_6 : decode cX0_drinkFromSea 6 = .ok (.ifCond .ne 19, 3) := by decide +kernel
theorem dX0_drinkFromSea_9 : decode cX0_drinkFromSea 9 = .ok (.aload_n 0, 1) := by decide +kernel
theorem dX0_drinkFromSea_10 : decode cX0_drinkFromSea 10 = .ok (.sipush 999, 3) := by decide +kernel
theorem dX0_drinkFromSea_13 : decode cX0_drinkFromSea 13 = .ok (.aload_n 0, 1) := by decide +kernel
theorem dX0_drinkFromSea_14 : decode cX0_drinkFromSea 14 = .ok (.getfield 21, 3) := by decide +kernel
theorem dX0_drinkFromSea_17 : decode cX0_drinkFromSea 17 = .ok (.iconst 1, 1) := by decide +kernel
theorem dX0_drinkFromSea_18 : decode cX0_drinkFromSea 18 = .ok (.iadd, 1) := by decide +kernel
theorem dX0_drinkFromSea_19 : decode cX0_drinkFromSea 19 = .ok (.invokestatic 50, 3) := by decide +kernel
theorem dX0_drinkFromSea_22 : decode cX0_drinkFromSea 22 = .ok (.putfield 21, 3) := by decide +kernel
theorem dX0_drinkFromSea_25 : decode cX0_drinkFromSea 25 = .ok (.return_, 1) := by decide +kernel
theorem dX0_firstSaltBelow_0 : decode cX0_firstSaltBelow 0 = .ok (.iconst 0, 1) := by decide +kernel
theorem dX0_firstSaltBelow_1 : decode cX0_firstSaltBelow 1 = .ok (.istore_n 2, 1) := by decide +kernel
theorem dX0_firstSaltBelow_2 : decode cX0_firstSaltBelow 2 = .ok (.iconst 1, 1) := by decide +kernel
theorem dX0_firstSaltBelow_3 : decode cX0_firstSaltBelow 3 = .ok (.istore_n 3, 1) := by decide +kernel
theorem dX0_firstSaltBelow_4 : decode cX0_firstSaltBelow 4 = .ok (.iload_n 3, 1) := by decide +kernel
theorem dX0_firstSaltBelow_5 : decode cX0_firstSaltBelow 5 = .ok (.iconst 3, 1) := by decide +kernel
theorem dX0_firstSaltBelow_6 : decode cX0_firstSaltBelow 6 = .ok (.if_icmp .ge 26, 3) := by decide +kernel
theorem dX0_firstSaltBelow_9 : decode cX0_firstSaltBelow 9 = .ok (.aload_n 0, 1) := by decide +kernel
theorem dX0_firstSaltBelow_10 : decode cX0_firstSaltBelow 10 = .ok (.iload_n 3, 1) := by decide +kernel
theorem dX0_firstSaltBelow_11 : decode cX0_firstSaltBelow 11 = .ok (.iload_n 1, 1) := by decide +kernel
theorem dX0_firstSaltBelow_12 : decode cX0_firstSaltBelow 12 = .ok (.invokevirtual 78, 3) := by decide +kernel
theorem dX0_firstSaltBelow_15 : decode cX0_firstSaltBelow 15 = .ok (.aload_n 0, 1) := by decide +kernel
theorem dX0_firstSaltBelow_16 : decode cX0_firstSaltBelow 16 = .ok (.iload_n 2, 1) := by decide +kernel
theorem dX0_firstSaltBelow_17 : decode cX0_firstSaltBelow 17 = .ok (.iload_n 1, 1) := by decide +kernel
theorem dX0_firstSaltBelow_18 : decode cX0_firstSaltBelow 18 = .ok (.invokevirtual 78, 3) := by decide +kernel
theorem dX0_firstSaltBelow_21 : decode cX0_firstSaltBelow 21 = .ok (.if_icmp .ge 5, 3) := by decide +kernel
theorem dX0_firstSaltBelow_24 : decode cX0_firstSaltBelow 24 = .ok (.iload_n 3, 1) := by decide +kernel
theorem dX0_firstSaltBelow_25 : decode cX0_firstSaltBelow 25 = .ok (.istore_n 2, 1) := by decide +kernel
theorem dX0_firstSaltBelow_26 : decode cX0_firstSaltBelow 26 = .ok (.iinc 3 1, 3) := by decide +kernel
theorem dX0_firstSaltBelow_29 : decode cX0_firstSaltBelow 29 = .ok (.goto (-25), 3) := by decide +kernel
theorem dX0_firstSaltBelow_32 : decode cX0_firstSaltBelow 32 = .ok (.iload_n 2, 1) := by decide +kernel
theorem dX0_firstSaltBelow_33 : decode cX0_firstSaltBelow 33 = .ok (.ireturn, 1) := by decide +kernel
theorem dX0_minutesToBelow_0 : decode cX0_minutesToBelow 0 = .ok (.aload_n 0, 1) := by decide +kernel
theorem dX0_minutesToBelow_1 : decode cX0_minutesToBelow 1 = .ok (.iload_n 1, 1) := by decide +kernel
theorem dX0_minutesToBelow_2 : decode cX0_minutesToBelow 2 = .ok (.invokevirtual 81, 3) := by decide +kernel
theorem dX0_minutesToBelow_5 : decode cX0_minutesToBelow 5 = .ok (.istore_n 3, 1) := by decide +kernel
theorem dX0_minutesToBelow_6 : decode cX0_minutesToBelow 6 = .ok (.iconst 0, 1) := by decide +kernel
theorem dX0_minutesToBelow_7 : decode cX0_minutesToBelow 7 = .ok (.istore 4, 2) := by decide +kernel
theorem dX0_minutesToBelow_9 : decode cX0_minutesToBelow 9 = .ok (.iload_n 3, 1) := by decide +kernel
theorem dX0_minutesToBelow_10 : decode cX0_minutesToBelow 10 = .ok (.iload_n 2, 1) := by decide +kernel
theorem dX0_minutesToBelow_11 : decode cX0_minutesToBelow 11 = .ok (.if_icmp .lt 26, 3) := by decide +kernel
theorem dX0_minutesToBelow_14 : decode cX0_minutesToBelow 14 = .ok (.iload 4, 2) := by decide +kernel
theorem dX0_minutesToBelow_16 : decode cX0_minutesToBelow 16 = .ok (.bipush 99, 2) := by decide +kernel
theorem dX0_minutesToBelow_18 : decode cX0_minutesToBelow 18 = .ok (.if_icmp .gt 19, 3) := by decide +kernel
theorem dX0_minutesToBelow_21 : decode cX0_minutesToBelow 21 = .ok (.iconst 0, 1) := by decide +kernel
theorem dX0_minutesToBelow_22 : decode cX0_minutesToBelow 22 = .ok (.iload_n 3, 1) := by decide +kernel
theorem dX0_minutesToBelow_23 : decode cX0_minutesToBelow 23 = .ok (.iload_n 1, 1) := by decide +kernel
theorem dX0_minutesToBelow_24 : decode cX0_minutesToBelow 24 = .ok (.iconst 1, 1) := by decide +kernel
theorem dX0_minutesToBelow_25 : decode cX0_minutesToBelow 25 = .ok (.iadd, 1) := by decide +kernel
theorem dX0_minutesToBelow_26 : decode cX0_minutesToBelow 26 = .ok (.isub, 1) := by decide +kernel
theorem dX0_minutesToBelow_27 : decode cX0_minutesToBelow 27 = .ok (.invokestatic 68, 3) := by decide +kernel
theorem dX0_minutesToBelow_30 : decode cX0_minutesToBelow 30 = .ok (.istore_n 3, 1) := by decide +kernel
theorem dX0_minutesToBelow_31 : decode cX0_minutesToBelow 31 = .ok (.iinc 4 1, 3) := by decide +kernel
theorem dX0_minutesToBelow_34 : decode cX0_minutesToBelow 34 = .ok (.goto (-25), 3) := by decide +kernel
theorem dX0_minutesToBelow_37 : decode cX0_minutesToBelow 37 = .ok (.iload 4, 2) := by decide +kernel
theorem dX0_minutesToBelow_39 : decode cX0_minutesToBelow 39 = .ok (.ireturn, 1) := by decide +kernel
theorem dX1_init_0 : decode cX1_init 0 = .ok (.aload_n 0, 1) := by decide +kernel
theorem dX1_init_1 : decode cX1_init 1 = .ok (.invokespecial 3, 3) := by decide +kernel
theorem dX1_init_4 : decode cX1_init 4 = .ok (.aload_n 0, 1) := by decide +kernel
theorem dX1_init_5 : decode cX1_init 5 = .ok (.iconst 0, 1) := by decide +kernel
theorem dX1_init_6 : decode cX1_init 6 = .ok (.putfield 9, 3) := by decide +kernel
theorem dX1_init_9 : decode cX1_init 9 = .ok (.aload_n 0, 1) := by decide +kernel
theorem dX1_init_10 : decode cX1_init 10 = .ok (.iconst 0, 1) := by decide +kernel
theorem dX1_init_11 : decode cX1_init 11 = .ok (.putfield 15, 3) := by decide +kernel
theorem dX1_init_14 : decode cX1_init 14 = .ok (.aload_n 0, 1) := by decide +kernel
theorem dX1_init_15 : decode cX1_init 15 = .ok (.bipush 40, 2) := by decide +kernel
theorem dX1_init_17 : decode cX1_init 17 = .ok (.newarray .int, 2) := by decide +kernel
theorem dX1_init_19 : decode cX1_init 19 = .ok (.putfield 18, 3) := by decide +kernel
theorem dX1_init_22 : decode cX1_init 22 = .ok (.return_, 1) := by decide +kernel
theorem dX1_isMissing_0 : decode cX1_isMissing 0 = .ok (.aload_n 0, 1) := by decide +kernel
theorem dX1_isMissing_1 : decode cX1_isMissing 1 = .ok (.getfield 9, 3) := by decide +kernel
theorem dX1_isMissing_4 : decode cX1_isMissing 4 = .ok (.ifCond .ne 7, 3) := by decide +kernel
theorem dX1_isMissing_7 : decode cX1_isMissing 7 = .ok (.iconst 1, 1) := by decide +kernel
theorem dX1_isMissing_8 : decode cX1_isMissing 8 = .ok (.goto 4, 3) := by decide +kernel
theorem dX1_isMissing_11 : decode cX1_isMissing 11 = .ok (.iconst 0, 1) := by decide +kernel
theorem dX1_isMissing_12 : decode cX1_isMissing 12 = .ok (.ireturn, 1) := by decide +kernel
theorem dX1_lay_0 : decode cX1_lay 0 = .ok (.aload_n 0, 1) := by decide +kernel
theorem dX1_lay_1 : decode cX1_lay 1 = .ok (.iload_n 1, 1) := by decide +kernel
theorem dX1_lay_2 : decode cX1_lay 2 = .ok (.putfield 9, 3) := by decide +kernel
theorem dX1_lay_5 : decode cX1_lay 5 = .ok (.aload_n 0, 1) := by decide +kernel
theorem dX1_lay_6 : decode cX1_lay 6 = .ok (.iload_n 2, 1) := by decide +kernel
theorem dX1_lay_7 : decode cX1_lay 7 = .ok (.putfield 15, 3) := by decide +kernel
theorem dX1_lay_10 : decode cX1_lay 10 = .ok (.iconst 0, 1) := by decide +kernel
theorem dX1_lay_11 : decode cX1_lay 11 = .ok (.istore_n 3, 1) := by decide +kernel
theorem dX1_lay_12 : decode cX1_lay 12 = .ok (.iload_n 3, 1) := by decide +kernel
theorem dX1_lay_13 : decode cX1_lay 13 = .ok (.aload_n 0, 1) := by decide +kernel
theorem dX1_lay_14 : decode cX1_lay 14 = .ok (.getfield 18, 3) := by decide +kernel
theorem dX1_lay_17 : decode cX1_lay 17 = .ok (.arraylength, 1) := by decide +kernel
theorem dX1_lay_18 : decode cX1_lay 18 = .ok (.if_icmp .ge 16, 3) := by decide +kernel
theorem dX1_lay_21 : decode cX1_lay 21 = .ok (.aload_n 0, 1) := by decide +kernel
theorem dX1_lay_22 : decode cX1_lay 22 = .ok (.getfield 18, 3) := by decide +kernel
theorem dX1_lay_25 : decode cX1_lay 25 = .ok (.iload_n 3, 1) := by decide +kernel
theorem dX1_lay_26 : decode cX1_lay 26 = .ok (.iconst 0, 1) := by decide +kernel
theorem dX1_lay_27 : decode cX1_lay 27 = .ok (.iastore, 1) := by decide +kernel
theorem dX1_lay_28 : decode cX1_lay 28 = .ok (.iinc 3 1, 3) := by decide +kernel
theorem dX1_lay_31 : decode cX1_lay 31 = .ok (.goto (-19), 3) := by decide +kernel
theorem dX1_lay_34 : decode cX1_lay 34 = .ok (.return_, 1) := by decide +kernel
theorem dX1_write_0 : decode cX1_write 0 = .ok (.aload_n 0, 1) := by decide +kernel
theorem dX1_write_1 : decode cX1_write 1 = .ok (.getfield 9, 3) := by decide +kernel
theorem dX1_write_4 : decode cX1_write 4 = .ok (.lookupswitch 50 #[(8, 28), (16, 39)], 28) := by decide +kernel
theorem dX1_write_32 : decode cX1_write 32 = .ok (.aload_n 0, 1) := by decide +kernel
theorem dX1_write_33 : decode cX1_write 33 = .ok (.getfield 18, 3) := by decide +kernel
theorem dX1_write_36 : decode cX1_write 36 = .ok (.iload_n 1, 1) := by decide +kernel
theorem dX1_write_37 : decode cX1_write 37 = .ok (.iload_n 2, 1) := by decide +kernel
theorem dX1_write_38 : decode cX1_write 38 = .ok (.i2b, 1) := by decide +kernel
theorem dX1_write_39 : decode cX1_write 39 = .ok (.iastore, 1) := by decide +kernel
theorem dX1_write_40 : decode cX1_write 40 = .ok (.goto 21, 3) := by decide +kernel
theorem dX1_write_43 : decode cX1_write 43 = .ok (.aload_n 0, 1) := by decide +kernel
theorem dX1_write_44 : decode cX1_write 44 = .ok (.getfield 18, 3) := by decide +kernel
theorem dX1_write_47 : decode cX1_write 47 = .ok (.iload_n 1, 1) := by decide +kernel
theorem dX1_write_48 : decode cX1_write 48 = .ok (.iload_n 2, 1) := by decide +kernel
theorem dX1_write_49 : decode cX1_write 49 = .ok (.i2s, 1) := by decide +kernel
theorem dX1_write_50 : decode cX1_write 50 = .ok (.iastore, 1) := by decide +kernel
theorem dX1_write_51 : decode cX1_write 51 = .ok (.goto 10, 3) := by decide +kernel
theorem dX1_write_54 : decode cX1_write 54 = .ok (.aload_n 0, 1) := by decide +kernel
theorem dX1_write_55 : decode cX1_write 55 = .ok (.getfield 18, 3) := by decide +kernel
theorem dX1_write_58 : decode cX1_write 58 = .ok (.iload_n 1, 1) := by decide +kernel
theorem dX1_write_59 : decode cX1_write 59 = .ok (.iload_n 2, 1) := by decide +kernel
theorem dX1_write_60 : decode cX1_write 60 = .ok (.iastore, 1) := by decide +kernel
theorem dX1_write_61 : decode cX1_write 61 = .ok (.return_, 1) := by decide +kernel
theorem dX1_hasRun_0 : decode cX1_hasRun 0 = .ok (.iload_n 2, 1) := by decide +kernel
theorem dX1_hasRun_1 : decode cX1_hasRun 1 = .ok (.ifCond .lt 29, 3) := by decide +kernel
theorem dX1_hasRun_4 : decode cX1_hasRun 4 = .ok (.iload_n 1, 1) := by decide +kernel
theorem dX1_hasRun_5 : decode cX1_hasRun 5 = .ok (.ifCond .lt 25, 3) := by decide +kernel
theorem dX1_hasRun_8 : decode cX1_hasRun 8 = .ok (.iload_n 2, 1) := by decide +kernel
theorem dX1_hasRun_9 : decode cX1_hasRun 9 = .ok (.aload_n 0, 1) := by decide +kernel
theorem dX1_hasRun_10 : decode cX1_hasRun 10 = .ok (.getfield 15, 3) := by decide +kernel
theorem dX1_hasRun_13 : decode cX1_hasRun 13 = .ok (.if_icmp .gt 17, 3) := by decide +kernel
theorem dX1_hasRun_16 : decode cX1_hasRun 16 = .ok (.iload_n 1, 1) := by decide +kernel
theorem dX1_hasRun_17 : decode cX1_hasRun 17 = .ok (.aload_n 0, 1) := by decide +kernel
theorem dX1_hasRun_18 : decode cX1_hasRun 18 = .ok (.getfield 15, 3) := by decide +kernel
theorem dX1_hasRun_21 : decode cX1_hasRun 21 = .ok (.iload_n 2, 1) := by decide +kernel
theorem dX1_hasRun_22 : decode cX1_hasRun 22 = .ok (.isub, 1) := by decide +kernel
theorem dX1_hasRun_23 : decode cX1_hasRun 23 = .ok (.if_icmp .gt 7, 3) := by decide +kernel
theorem dX1_hasRun_26 : decode cX1_hasRun 26 = .ok (.iconst 1, 1) := by decide +kernel
theorem dX1_hasRun_27 : decode cX1_hasRun 27 = .ok (.goto 4, 3) := by decide +kernel
theorem dX1_hasRun_30 : decode cX1_hasRun 30 = .ok (.iconst 0, 1) := by decide +kernel
theorem dX1_hasRun_31 : decode cX1_hasRun 31 = .ok (.ireturn, 1) := by decide +kernel
theorem dX2_init_0 : decode cX2_init 0 = .ok (.aload_n 0, 1) := by decide +kernel
theorem dX2_init_1 : decode cX2_init 1 = .ok (.invokespecial 3, 3) := by decide +kernel
theorem dX2_init_4 : decode cX2_init 4 = .ok (.aload_n 0, 1) := by decide +kernel
theorem dX2_init_5 : decode cX2_init 5 = .ok (.bipush 8, 2) := by decide +kernel
theorem dX2_init_7 : decode cX2_init 7 = .ok (.anewarray 9, 3) := by decide +kernel
theorem dX2_init_10 : decode cX2_init 10 = .ok (.putfield 11, 3) := by decide +kernel
theorem dX2_init_13 : decode cX2_init 13 = .ok (.aload_n 0, 1) := by decide +kernel
theorem dX2_init_14 : decode cX2_init 14 = .ok (.iconst 0, 1) := by decide +kernel
theorem dX2_init_15 : decode cX2_init 15 = .ok (.putfield 17, 3) := by decide +kernel
theorem dX2_init_18 : decode cX2_init 18 = .ok (.aload_n 0, 1) := by decide +kernel
theorem dX2_init_19 : decode cX2_init 19 = .ok (.bipush 12, 2) := by decide +kernel
theorem dX2_init_21 : decode cX2_init 21 = .ok (.newarray .int, 2) := by decide +kernel
theorem dX2_init_23 : decode cX2_init 23 = .ok (.putfield 21, 3) := by decide +kernel
theorem dX2_init_26 : decode cX2_init 26 = .ok (.aload_n 0, 1) := by decide +kernel
theorem dX2_init_27 : decode cX2_init 27 = .ok (.bipush 8, 2) := by decide +kernel
theorem dX2_init_29 : decode cX2_init 29 = .ok (.newarray .int, 2) := by decide +kernel
theorem dX2_init_31 : decode cX2_init 31 = .ok (.putfield 25, 3) := by decide +kernel
theorem dX2_init_34 : decode cX2_init 34 = .ok (.aload_n 0, 1) := by decide +kernel
theorem dX2_init_35 : decode cX2_init 35 = .ok (.iconst 0, 1) := by decide +kernel
theorem dX2_init_36 : decode cX2_init 36 = .ok (.putfield 28, 3) := by decide +kernel
theorem dX2_init_39 : decode cX2_init 39 = .ok (.aload_n 0, 1) := by decide +kernel
theorem dX2_init_40 : decode cX2_init 40 = .ok (.iconst 0, 1) := by decide +kernel
theorem dX2_init_41 : decode cX2_init 41 = .ok (.putfield 31, 3) := by decide +kernel
theorem dX2_init_44 : decode cX2_init 44 = .ok (.aload_n 0, 1) := by decide +kernel
theorem dX2_init_45 : decode cX2_init 45 = .ok (.iconst 1, 1) := by decide +kernel
theorem dX2_init_46 : decode cX2_init 46 = .ok (.putfield 34, 3) := by decide +kernel
theorem dX2_init_49 : decode cX2_init 49 = .ok (.aload_n 0, 1) := by decide +kernel
theorem dX2_init_50 : decode cX2_init 50 = .ok (.bipush 50, 2) := by decide +kernel
theorem dX2_init_52 : decode cX2_init 52 = .ok (.newarray .int, 2) := by decide +kernel
theorem dX2_init_54 : decode cX2_init 54 = .ok (.putfield 37, 3) := by decide +kernel
theorem dX2_init_57 : decode cX2_init 57 = .ok (.aload_n 0, 1) := by decide +kernel
theorem dX2_init_58 : decode cX2_init 58 = .ok (.iconst 0, 1) := by decide +kernel
theorem dX2_init_59 : decode cX2_init 59 = .ok (.putfield 40, 3) := by decide +kernel
theorem dX2_init_62 : decode cX2_init 62 = .ok (.aload_n 0, 1) := by decide +kernel
theorem dX2_init_63 : decode cX2_init 63 = .ok (.new 43, 3) := by decide +kernel
theorem dX2_init_66 : decode cX2_init 66 = .ok (.dup, 1) := by decide +kernel
theorem dX2_init_67 : decode cX2_init 67 = .ok (.invokespecial 45, 3) := by decide +kernel
theorem dX2_init_70 : decode cX2_init 70 = .ok (.putfield 46, 3) := by decide +kernel
theorem dX2_init_73 : decode cX2_init 73 = .ok (.aload_n 0, 1) := by decide +kernel
theorem dX2_init_74 : decode cX2_init 74 = .ok (.new 43, 3) := by decide +kernel
theorem dX2_init_77 : decode cX2_init 77 = .ok (.dup, 1) := by decide +kernel
theorem dX2_init_78 : decode cX2_init 78 = .ok (.invokespecial 45, 3) := by decide +kernel
theorem dX2_init_81 : decode cX2_init 81 = .ok (.putfield 50, 3) := by decide +kernel
theorem dX2_init_84 : decode cX2_init 84 = .ok (.aload_n 0, 1) := by decide +kernel
theorem dX2_init_85 : decode cX2_init 85 = .ok (.bipush 20, 2) := by decide +kernel
theorem dX2_init_87 : decode cX2_init 87 = .ok (.newarray .int, 2) := by decide +kernel
theorem dX2_init_89 : decode cX2_init 89 = .ok (.putfield 53, 3) := by decide +kernel
theorem dX2_init_92 : decode cX2_init 92 = .ok (.aload_n 0, 1) := by decide +kernel
theorem dX2_init_93 : decode cX2_init 93 = .ok (.iconst 0, 1) := by decide +kernel
theorem dX2_init_94 : decode cX2_init 94 = .ok (.putfield 56, 3) := by decide +kernel
theorem dX2_init_97 : decode cX2_init 97 = .ok (.iconst 0, 1) := by decide +kernel
theorem dX2_init_98 : decode cX2_init 98 = .ok (.istore_n 1, 1) := by decide +kernel
theorem dX2_init_99 : decode cX2_init 99 = .ok (.iload_n 1, 1) := by decide +kernel
theorem dX2_init_100 : decode cX2_init 100 = .ok (.aload_n 0, 1) := by decide +kernel
theorem dX2_init_101 : decode cX2_init 101 = .ok (.getfield 11, 3) := by decide +kernel
theorem dX2_init_104 : decode cX2_init 104 = .ok (.arraylength, 1) := by decide +kernel
theorem dX2_init_105 : decode cX2_init 105 = .ok (.if_icmp .ge 22, 3) := by decide +kernel
theorem dX2_init_108 : decode cX2_init 108 = .ok (.aload_n 0, 1) := by decide +kernel
theorem dX2_init_109 : decode cX2_init 109 = .ok (.getfield 11, 3) := by decide +kernel
theorem dX2_init_112 : decode cX2_init 112 = .ok (.iload_n 1, 1) := by decide +kernel
theorem dX2_init_113 : decode cX2_init 113 = .ok (.new 9, 3) := by decide +kernel
theorem dX2_init_116 : decode cX2_init 116 = .ok (.dup, 1) := by decide +kernel
theorem dX2_init_117 : decode cX2_init 117 = .ok (.invokespecial 59, 3) := by decide +kernel
theorem dX2_init_120 : decode cX2_init 120 = .ok (.aastore, 1) := by decide +kernel
theorem dX2_init_121 : decode cX2_init 121 = .ok (.iinc 1 1, 3) := by decide +kernel
theorem dX2_init_124 : decode cX2_init 124 = .ok (.goto (-25), 3) := by decide +kernel
theorem dX2_init_127 : decode cX2_init 127 = .ok (.return_, 1) := by decide +kernel
theorem dX2_takeFrom_0 : decode cX2_takeFrom 0 = .ok (.iconst 0, 1) := by decide +kernel
theorem dX2_takeFrom_1 : decode cX2_takeFrom 1 = .ok (.istore_n 2, 1) := by decide +kernel
theorem dX2_takeFrom_2 : decode cX2_takeFrom 2 = .ok (.iload_n 2, 1) := by decide +kernel
theorem dX2_takeFrom_3 : decode cX2_takeFrom 3 = .ok (.bipush 8, 2) := by decide +kernel
theorem dX2_takeFrom_5 : decode cX2_takeFrom 5 = .ok (.if_icmp .ge 24, 3) := by decide +kernel
theorem dX2_takeFrom_8 : decode cX2_takeFrom 8 = .ok (.aload_n 0, 1) := by decide +kernel
theorem dX2_takeFrom_9 : decode cX2_takeFrom 9 = .ok (.getfield 11, 3) := by decide +kernel
theorem dX2_takeFrom_12 : decode cX2_takeFrom 12 = .ok (.iload_n 2, 1) := by decide +kernel
theorem dX2_takeFrom_13 : decode cX2_takeFrom 13 = .ok (.aaload, 1) := by decide +kernel
theorem dX2_takeFrom_14 : decode cX2_takeFrom 14 = .ok (.aload_n 1, 1) := by decide +kernel
theorem dX2_takeFrom_15 : decode cX2_takeFrom 15 = .ok (.getfield 11, 3) := by decide +kernel
theorem dX2_takeFrom_18 : decode cX2_takeFrom 18 = .ok (.iload_n 2, 1) := by decide +kernel
theorem dX2_takeFrom_19 : decode cX2_takeFrom 19 = .ok (.aaload, 1) := by decide +kernel
theorem dX2_takeFrom_20 : decode cX2_takeFrom 20 = .ok (.invokevirtual 60, 3) := by decide +kernel
theorem dX2_takeFrom_23 : decode cX2_takeFrom 23 = .ok (.iinc 2 1, 3) := by decide +kernel
theorem dX2_takeFrom_26 : decode cX2_takeFrom 26 = .ok (.goto (-24), 3) := by decide +kernel
theorem dX2_takeFrom_29 : decode cX2_takeFrom 29 = .ok (.aload_n 0, 1) := by decide +kernel
theorem dX2_takeFrom_30 : decode cX2_takeFrom 30 = .ok (.aload_n 1, 1) := by decide +kernel
theorem dX2_takeFrom_31 : decode cX2_takeFrom 31 = .ok (.getfield 17, 3) := by decide +kernel
theorem dX2_takeFrom_34 : decode cX2_takeFrom 34 = .ok (.putfield 17, 3) := by decide +kernel
theorem dX2_takeFrom_37 : decode cX2_takeFrom 37 = .ok (.aload_n 1, 1) := by decide +kernel
theorem dX2_takeFrom_38 : decode cX2_takeFrom 38 = .ok (.getfield 21, 3) := by decide +kernel
theorem dX2_takeFrom_41 : decode cX2_takeFrom 41 = .ok (.iconst 0, 1) := by decide +kernel
theorem dX2_takeFrom_42 : decode cX2_takeFrom 42 = .ok (.aload_n 0, 1) := by decide +kernel
theorem dX2_takeFrom_43 : decode cX2_takeFrom 43 = .ok (.getfield 21, 3) := by decide +kernel
theorem dX2_takeFrom_46 : decode cX2_takeFrom 46 = .ok (.iconst 0, 1) := by decide +kernel
theorem dX2_takeFrom_47 : decode cX2_takeFrom 47 = .ok (.bipush 12, 2) := by decide +kernel
theorem dX2_takeFrom_49 : decode cX2_takeFrom 49 = .ok (.invokestatic 64, 3) := by decide +kernel
theorem dX2_takeFrom_52 : decode cX2_takeFrom 52 = .ok (.aload_n 1, 1) := by decide +kernel
theorem dX2_takeFrom_53 : decode cX2_takeFrom 53 = .ok (.getfield 25, 3) := by decide +kernel
theorem dX2_takeFrom_56 : decode cX2_takeFrom 56 = .ok (.iconst 0, 1) := by decide +kernel
theorem dX2_takeFrom_57 : decode cX2_takeFrom 57 = .ok (.aload_n 0, 1) := by decide +kernel
theorem dX2_takeFrom_58 : decode cX2_takeFrom 58 = .ok (.getfield 25, 3) := by decide +kernel
theorem dX2_takeFrom_61 : decode cX2_takeFrom 61 = .ok (.iconst 0, 1) := by decide +kernel
theorem dX2_takeFrom_62 : decode cX2_takeFrom 62 = .ok (.bipush 8, 2) := by decide +kernel
theorem dX2_takeFrom_64 : decode cX2_takeFrom 64 = .ok (.invokestatic 64, 3) := by decide +kernel
theorem dX2_takeFrom_67 : decode cX2_takeFrom 67 = .ok (.aload_n 0, 1) := by decide +kernel
theorem dX2_takeFrom_68 : decode cX2_takeFrom 68 = .ok (.aload_n 1, 1) := by decide +kernel
theorem dX2_takeFrom_69 : decode cX2_takeFrom 69 = .ok (.getfield 28, 3) := by decide +kernel
theorem dX2_takeFrom_72 : decode cX2_takeFrom 72 = .ok (.putfield 28, 3) := by decide +kernel
theorem dX2_takeFrom_75 : decode cX2_takeFrom 75 = .ok (.aload_n 0, 1) := by decide +kernel
theorem dX2_takeFrom_76 : decode cX2_takeFrom 76 = .ok (.aload_n 1, 1) := by decide +kernel
theorem dX2_takeFrom_77 : decode cX2_takeFrom 77 = .ok (.getfield 31, 3) := by decide +kernel
theorem dX2_takeFrom_80 : decode cX2_takeFrom 80 = .ok (.putfield 31, 3) := by decide +kernel
theorem dX2_takeFrom_83 : decode cX2_takeFrom 83 = .ok (.aload_n 0, 1) := by decide +kernel
theorem dX2_takeFrom_84 : decode cX2_takeFrom 84 = .ok (.aload_n 1, 1) := by decide +kernel
theorem dX2_takeFrom_85 : decode cX2_takeFrom 85 = .ok (.getfield 34, 3) := by decide +kernel
theorem dX2_takeFrom_88 : decode cX2_takeFrom 88 = .ok (.putfield 34, 3) := by decide +kernel
theorem dX2_takeFrom_91 : decode cX2_takeFrom 91 = .ok (.aload_n 1, 1) := by decide +kernel
theorem dX2_takeFrom_92 : decode cX2_takeFrom 92 = .ok (.getfield 37, 3) := by decide +kernel
theorem dX2_takeFrom_95 : decode cX2_takeFrom 95 = .ok (.iconst 0, 1) := by decide +kernel
theorem dX2_takeFrom_96 : decode cX2_takeFrom 96 = .ok (.aload_n 0, 1) := by decide +kernel
theorem dX2_takeFrom_97 : decode cX2_takeFrom 97 = .ok (.getfield 37, 3) := by decide +kernel
theorem dX2_takeFrom_100 : decode cX2_takeFrom 100 = .ok (.iconst 0, 1) := by decide +kernel
theorem dX2_takeFrom_101 : decode cX2_takeFrom 101 = .ok (.bipush 50, 2) := by decide +kernel
theorem dX2_takeFrom_103 : decode cX2_takeFrom 103 = .ok (.invokestatic 64, 3) := by decide +kernel
theorem dX2_takeFrom_106 : decode cX2_takeFrom 106 = .ok (.aload_n 0, 1) := by decide +kernel
theorem dX2_takeFrom_107 : decode cX2_takeFrom 107 = .ok (.aload_n 1, 1) := by decide +kernel
theorem dX2_takeFrom_108 : decode cX2_takeFrom 108 = .ok (.getfield 40, 3) := by decide +kernel
theorem dX2_takeFrom_111 : decode cX2_takeFrom 111 = .ok (.putfield 40, 3) := by decide +kernel
theorem dX2_takeFrom_114 : decode cX2_takeFrom 114 = .ok (.aload_n 0, 1) := by decide +kernel
theorem dX2_takeFrom_115 : decode cX2_takeFrom 115 = .ok (.getfield 46, 3) := by decide +kernel
theorem dX2_takeFrom_118 : decode cX2_takeFrom 118 = .ok (.aload_n 1, 1) := by decide +kernel
theorem dX2_takeFrom_119 : decode cX2_takeFrom 119 = .ok (.getfield 46, 3) := by decide +kernel
theorem dX2_takeFrom_122 : decode cX2_takeFrom 122 = .ok (.invokevirtual 70, 3) := by decide +kernel
theorem dX2_takeFrom_125 : decode cX2_takeFrom 125 = .ok (.aload_n 0, 1) := by decide +kernel
theorem dX2_takeFrom_126 : decode cX2_takeFrom 126 = .ok (.getfield 50, 3) := by decide +kernel
theorem dX2_takeFrom_129 : decode cX2_takeFrom 129 = .ok (.aload_n 1, 1) := by decide +kernel
theorem dX2_takeFrom_130 : decode cX2_takeFrom 130 = .ok (.getfield 50, 3) := by decide +kernel
theorem dX2_takeFrom_133 : decode cX2_takeFrom 133 = .ok (.invokevirtual 70, 3) := by decide +kernel
theorem dX2_takeFrom_136 : decode cX2_takeFrom 136 = .ok (.aload_n 1, 1) := by decide +kernel
theorem dX2_takeFrom_137 : decode cX2_takeFrom 137 = .ok (.getfield 53, 3) := by decide +kernel
theorem dX2_takeFrom_140 : decode cX2_takeFrom 140 = .ok (.iconst 0, 1) := by decide +kernel
theorem dX2_takeFrom_141 : decode cX2_takeFrom 141 = .ok (.aload_n 0, 1) := by decide +kernel
theorem dX2_takeFrom_142 : decode cX2_takeFrom 142 = .ok (.getfield 53, 3) := by decide +kernel
theorem dX2_takeFrom_145 : decode cX2_takeFrom 145 = .ok (.iconst 0, 1) := by decide +kernel
theorem dX2_takeFrom_146 : decode cX2_takeFrom 146 = .ok (.bipush 20, 2) := by decide +kernel
theorem dX2_takeFrom_148 : decode cX2_takeFrom 148 = .ok (.invokestatic 64, 3) := by decide +kernel
theorem dX2_takeFrom_151 : decode cX2_takeFrom 151 = .ok (.aload_n 0, 1) := by decide +kernel
theorem dX2_takeFrom_152 : decode cX2_takeFrom 152 = .ok (.aload_n 1, 1) := by decide +kernel
theorem dX2_takeFrom_153 : decode cX2_takeFrom 153 = .ok (.getfield 56, 3) := by decide +kernel
theorem dX2_takeFrom_156 : decode cX2_takeFrom 156 = .ok (.putfield 56, 3) := by decide +kernel
theorem dX2_takeFrom_159 : decode cX2_takeFrom 159 = .ok (.return_, 1) := by decide +kernel
theorem dX2_make_0 : decode cX2_make 0 = .ok (.aload_n 0, 1) := by decide +kernel
theorem dX2_make_1 : decode cX2_make 1 = .ok (.getfield 17, 3) := by decide +kernel
theorem dX2_make_4 : decode cX2_make 4 = .ok (.istore 4, 2) := by decide +kernel
theorem dX2_make_6 : decode cX2_make 6 = .ok (.aload_n 0, 1) := by decide +kernel
theorem dX2_make_7 : decode cX2_make 7 = .ok (.getfield 11, 3) := by decide +kernel
theorem dX2_make_10 : decode cX2_make 10 = .ok (.iload 4, 2) := by decide +kernel
theorem dX2_make_12 : decode cX2_make 12 = .ok (.aaload, 1) := by decide +kernel
theorem dX2_make_13 : decode cX2_make 13 = .ok (.iload_n 1, 1) := by decide +kernel
theorem dX2_make_14 : decode cX2_make 14 = .ok (.iload_n 2, 1) := by decide +kernel
theorem dX2_make_15 : decode cX2_make 15 = .ok (.iload_n 3, 1) := by decide +kernel
theorem dX2_make_16 : decode cX2_make 16 = .ok (.invokevirtual 73, 3) := by decide +kernel
theorem dX2_make_19 : decode cX2_make 19 = .ok (.aload_n 0, 1) := by decide +kernel
theorem dX2_make_20 : decode cX2_make 20 = .ok (.dup, 1) := by decide +kernel
theorem dX2_make_21 : decode cX2_make 21 = .ok (.getfield 17, 3) := by decide +kernel
theorem dX2_make_24 : decode cX2_make 24 = .ok (.iconst 1, 1) := by decide +kernel
theorem dX2_make_25 : decode cX2_make 25 = .ok (.iadd, 1) := by decide +kernel
theorem dX2_make_26 : decode cX2_make 26 = .ok (.putfield 17, 3) := by decide +kernel
theorem dX2_make_29 : decode cX2_make 29 = .ok (.iload 4, 2) := by decide +kernel
theorem dX2_make_31 : decode cX2_make 31 = .ok (.ireturn, 1) := by decide +kernel
theorem dX2_factOf_0 : decode cX2_factOf 0 = .ok (.aload_n 0, 1) := by decide +kernel
theorem dX2_factOf_1 : decode cX2_factOf 1 = .ok (.getfield 11, 3) := by decide +kernel
theorem dX2_factOf_4 : decode cX2_factOf 4 = .ok (.iload_n 1, 1) := by decide +kernel
theorem dX2_factOf_5 : decode cX2_factOf 5 = .ok (.aaload, 1) := by decide +kernel
theorem dX2_factOf_6 : decode cX2_factOf 6 = .ok (.astore_n 3, 1) := by decide +kernel
theorem dX2_factOf_7 : decode cX2_factOf 7 = .ok (.iload_n 2, 1) := by decide +kernel
theorem dX2_factOf_8 : decode cX2_factOf 8 = .ok (.tableswitch 135 0 11 #[64, 69, 74, 79, 84, 84, 84, 92, 105, 110, 116, 125], 64) := by decide +kernel
theorem dX2_factOf_72 : decode cX2_factOf 72 = .ok (.aload_n 3, 1) := by decide +kernel
theorem dX2_factOf_73 : decode cX2_factOf 73 = .ok (.getfield 77, 3) := by decide +kernel
theorem dX2_factOf_76 : decode cX2_factOf 76 = .ok (.ireturn, 1) := by decide +kernel
theorem dX2_factOf_77 : decode cX2_factOf 77 = .ok (.aload_n 3, 1) := by decide +kernel
theorem dX2_factOf_78 : decode cX2_factOf 78 = .ok (.getfield 80, 3) := by decide +kernel
theorem dX2_factOf_81 : decode cX2_factOf 81 = .ok (.ireturn, 1) := by decide +kernel
theorem dX2_factOf_82 : decode cX2_factOf 82 = .ok (.aload_n 3, 1) := by decide +kernel
theorem dX2_factOf_83 : decode cX2_factOf 83 = .ok (.getfield 83, 3) := by decide +kernel
theorem dX2_factOf_86 : decode cX2_factOf 86 = .ok (.ireturn, 1) := by decide +kernel
theorem dX2_factOf_87 : decode cX2_factOf 87 = .ok (.aload_n 3, 1) := by decide +kernel
theorem dX2_factOf_88 : decode cX2_factOf 88 = .ok (.getfield 86, 3) := by decide +kernel
theorem dX2_factOf_91 : decode cX2_factOf 91 = .ok (.ireturn, 1) := by decide +kernel
theorem dX2_factOf_92 : decode cX2_factOf 92 = .ok (.aload_n 3, 1) := by decide +kernel
theorem dX2_factOf_93 : decode cX2_factOf 93 = .ok (.iload_n 2, 1) := by decide +kernel
theorem dX2_factOf_94 : decode cX2_factOf 94 = .ok (.iconst 4, 1) := by decide +kernel
theorem dX2_factOf_95 : decode cX2_factOf 95 = .ok (.isub, 1) := by decide +kernel
theorem dX2_factOf_96 : decode cX2_factOf 96 = .ok (.invokevirtual 89, 3) := by decide +kernel
theorem dX2_factOf_99 : decode cX2_factOf 99 = .ok (.ireturn, 1) := by decide +kernel
theorem dX2_factOf_100 : decode cX2_factOf 100 = .ok (.aload_n 3, 1) := by decide +kernel
theorem dX2_factOf_101 : decode cX2_factOf 101 = .ok (.getfield 93, 3) := by decide +kernel
theorem dX2_factOf_104 : decode cX2_factOf 104 = .ok (.ifCond .eq 7, 3) := by decide +kernel
theorem dX2_factOf_107 : decode cX2_factOf 107 = .ok (.iconst 1, 1) := by decide +kernel
theorem dX2_factOf_108 : decode cX2_factOf 108 = .ok (.goto 4, 3) := by decide +kernel
theorem dX2_factOf_111 : decode cX2_factOf 111 = .ok (.iconst 0, 1) := by decide +kernel
theorem dX2_factOf_112 : decode cX2_factOf 112 = .ok (.ireturn, 1) := by decide +kernel
theorem dX2_factOf_113 : decode cX2_factOf 113 = .ok (.aload_n 3, 1) := by decide +kernel
theorem dX2_factOf_114 : decode cX2_factOf 114 = .ok (.invokevirtual 97, 3) := by decide +kernel
theorem dX2_factOf_117 : decode cX2_factOf 117 = .ok (.ireturn, 1) := by decide +kernel
theorem dX2_factOf_118 : decode cX2_factOf 118 = .ok (.aload_n 0, 1) := by decide +kernel
theorem dX2_factOf_119 : decode cX2_factOf 119 = .ok (.aload_n 3, 1) := by decide +kernel
theorem dX2_factOf_120 : decode cX2_factOf 120 = .ok (.invokevirtual 101, 3) := by decide +kernel
theorem dX2_factOf_123 : decode cX2_factOf 123 = .ok (.ireturn, 1) := by decide +kernel
theorem dX2_factOf_124 : decode cX2_factOf 124 = .ok (.aload_n 3, 1) := by decide +kernel
theorem dX2_factOf_125 : decode cX2_factOf 125 = .ok (.aload_n 0, 1) := by decide +kernel
theorem dX2_factOf_126 : decode cX2_factOf 126 = .ok (.invokevirtual 105, 3) := by decide +kernel
theorem dX2_factOf_129 : decode cX2_factOf 129 = .ok (.invokevirtual 108, 3) := by decide +kernel
theorem dX2_factOf_132 : decode cX2_factOf 132 = .ok (.ireturn, 1) := by decide +kernel
theorem dX2_factOf_133 : decode cX2_factOf 133 = .ok (.aload_n 3, 1) := by decide +kernel
theorem dX2_factOf_134 : decode cX2_factOf 134 = .ok (.aload_n 0, 1) := by decide +kernel
theorem dX2_factOf_135 : decode cX2_factOf 135 = .ok (.aload_n 3, 1) := by decide +kernel
theorem dX2_factOf_136 : decode cX2_factOf 136 = .ok (.invokevirtual 111, 3) := by decide +kernel
theorem dX2_factOf_139 : decode cX2_factOf 139 = .ok (.invokevirtual 114, 3) := by decide +kernel
theorem dX2_factOf_142 : decode cX2_factOf 142 = .ok (.ireturn, 1) := by decide +kernel
theorem dX2_factOf_143 : decode cX2_factOf 143 = .ok (.iconst 0, 1) := by decide +kernel
theorem dX2_factOf_144 : decode cX2_factOf 144 = .ok (.ireturn, 1) := by decide +kernel
theorem dX2_heightUnder_0 : decode cX2_heightUnder 0 = .ok (.aload_n 1, 1) := by decide +kernel
theorem dX2_heightUnder_1 : decode cX2_heightUnder 1 = .ok (.getfield 83, 3) := by decide +kernel
theorem dX2_heightUnder_4 : decode cX2_heightUnder 4 = .ok (.invokestatic 117, 3) := by decide +kernel
theorem dX2_heightUnder_7 : decode cX2_heightUnder 7 = .ok (.ifCond .eq 15, 3) := by decide +kernel
theorem dX2_heightUnder_10 : decode cX2_heightUnder 10 = .ok (.aload_n 0, 1) := by decide +kernel
theorem dX2_heightUnder_11 : decode cX2_heightUnder 11 = .ok (.getfield 21, 3) := by decide +kernel
theorem dX2_heightUnder_14 : decode cX2_heightUnder 14 = .ok (.aload_n 1, 1) := by decide +kernel
theorem dX2_heightUnder_15 : decode cX2_heightUnder 15 = .ok (.getfield 83, 3) := by decide +kernel
theorem dX2_heightUnder_18 : decode cX2_heightUnder 18 = .ok (.iaload, 1) := by decide +kernel
theorem dX2_heightUnder_19 : decode cX2_heightUnder 19 = .ok (.goto 4, 3) := by decide +kernel
theorem dX2_heightUnder_22 : decode cX2_heightUnder 22 = .ok (.iconst 0, 1) := by decide +kernel
theorem dX2_heightUnder_23 : decode cX2_heightUnder 23 = .ok (.ireturn, 1) := by decide +kernel
theorem dX2_windNow_0 : decode cX2_windNow 0 = .ok (.aload_n 0, 1) := by decide +kernel
theorem dX2_windNow_1 : decode cX2_windNow 1 = .ok (.getfield 25, 3) := by decide +kernel
theorem dX2_windNow_4 : decode cX2_windNow 4 = .ok (.aload_n 0, 1) := by decide +kernel
theorem dX2_windNow_5 : decode cX2_windNow 5 = .ok (.getfield 28, 3) := by decide +kernel
theorem dX2_windNow_8 : decode cX2_windNow 8 = .ok (.bipush 8, 2) := by decide +kernel
theorem dX2_windNow_10 : decode cX2_windNow 10 = .ok (.invokestatic 121, 3) := by decide +kernel
theorem dX2_windNow_13 : decode cX2_windNow 13 = .ok (.iaload, 1) := by decide +kernel
theorem dX2_windNow_14 : decode cX2_windNow 14 = .ok (.ireturn, 1) := by decide +kernel
theorem dX2_drawWind_0 : decode cX2_drawWind 0 = .ok (.aload_n 0, 1) := by decide +kernel
theorem dX2_drawWind_1 : decode cX2_drawWind 1 = .ok (.aload_n 0, 1) := by decide +kernel
theorem dX2_drawWind_2 : decode cX2_drawWind 2 = .ok (.getfield 34, 3) := by decide +kernel
theorem dX2_drawWind_5 : decode cX2_drawWind 5 = .ok (.ldc 127, 2) := by decide +kernel
theorem dX2_drawWind_7 : decode cX2_drawWind 7 = .ok (.imul, 1) := by decide +kernel
theorem dX2_drawWind_8 : decode cX2_drawWind 8 = .ok (.sipush 12345, 3) := by decide +kernel
theorem dX2_drawWind_11 : decode cX2_drawWind 11 = .ok (.iadd, 1) := by decide +kernel
theorem dX2_drawWind_12 : decode cX2_drawWind 12 = .ok (.putfield 34, 3) := by decide +kernel
theorem dX2_drawWind_15 : decode cX2_drawWind 15 = .ok (.aload_n 0, 1) := by decide +kernel
theorem dX2_drawWind_16 : decode cX2_drawWind 16 = .ok (.getfield 34, 3) := by decide +kernel
theorem dX2_drawWind_19 : decode cX2_drawWind 19 = .ok (.bipush 8, 2) := by decide +kernel
theorem dX2_drawWind_21 : decode cX2_drawWind 21 = .ok (.iushr, 1) := by decide +kernel
theorem dX2_drawWind_22 : decode cX2_drawWind 22 = .ok (.bipush 7, 2) := by decide +kernel
theorem dX2_drawWind_24 : decode cX2_drawWind 24 = .ok (.irem, 1) := by decide +kernel
theorem dX2_drawWind_25 : decode cX2_drawWind 25 = .ok (.iconst 3, 1) := by decide +kernel
theorem dX2_drawWind_26 : decode cX2_drawWind 26 = .ok (.isub, 1) := by decide +kernel
theorem dX2_drawWind_27 : decode cX2_drawWind 27 = .ok (.ireturn, 1) := by decide +kernel
theorem dX2_passHours_0 : decode cX2_passHours 0 = .ok (.iconst 0, 1) := by decide +kernel
theorem dX2_passHours_1 : decode cX2_passHours 1 = .ok (.istore_n 2, 1) := by decide +kernel
theorem dX2_passHours_2 : decode cX2_passHours 2 = .ok (.iload_n 2, 1) := by decide +kernel
theorem dX2_passHours_3 : decode cX2_passHours 3 = .ok (.iload_n 1, 1) := by decide +kernel
theorem dX2_passHours_4 : decode cX2_passHours 4 = .ok (.if_icmp .ge 17, 3) := by decide +kernel
theorem dX2_passHours_7 : decode cX2_passHours 7 = .ok (.aload_n 0, 1) := by decide +kernel
theorem dX2_passHours_8 : decode cX2_passHours 8 = .ok (.aload_n 0, 1) := by decide +kernel
theorem dX2_passHours_9 : decode cX2_passHours 9 = .ok (.invokevirtual 105, 3) := by decide +kernel
theorem dX2_passHours_12 : decode cX2_passHours 12 = .ok (.invokevirtual 128, 3) := by decide +kernel
theorem dX2_passHours_15 : decode cX2_passHours 15 = .ok (.iinc 2 1, 3) := by decide +kernel
theorem dX2_passHours_18 : decode cX2_passHours 18 = .ok (.goto (-16), 3) := by decide +kernel
theorem dX2_passHours_21 : decode cX2_passHours 21 = .ok (.return_, 1) := by decide +kernel
theorem dX2_passHour_0 : decode cX2_passHour 0 = .ok (.iconst 0, 1) := by decide +kernel
theorem dX2_passHour_1 : decode cX2_passHour 1 = .ok (.istore_n 2, 1) := by decide +kernel
theorem dX2_passHour_2 : decode cX2_passHour 2 = .ok (.iload_n 2, 1) := by decide +kernel
theorem dX2_passHour_3 : decode cX2_passHour 3 = .ok (.aload_n 0, 1) := by decide +kernel
theorem dX2_passHour_4 : decode cX2_passHour 4 = .ok (.getfield 17, 3) := by decide +kernel
theorem dX2_passHour_7 : decode cX2_passHour 7 = .ok (.if_icmp .ge 32, 3) := by decide +kernel
theorem dX2_passHour_10 : decode cX2_passHour 10 = .ok (.aload_n 0, 1) := by decide +kernel
theorem dX2_passHour_11 : decode cX2_passHour 11 = .ok (.getfield 11, 3) := by decide +kernel
theorem dX2_passHour_14 : decode cX2_passHour 14 = .ok (.iload_n 2, 1) := by decide +kernel
theorem dX2_passHour_15 : decode cX2_passHour 15 = .ok (.aaload, 1) := by decide +kernel
theorem dX2_passHour_16 : decode cX2_passHour 16 = .ok (.getfield 93, 3) := by decide +kernel
theorem dX2_passHour_19 : decode cX2_passHour 19 = .ok (.ifCond .eq 14, 3) := by decide +kernel
theorem dX2_passHour_22 : decode cX2_passHour 22 = .ok (.aload_n 0, 1) := by decide +kernel
theorem dX2_passHour_23 : decode cX2_passHour 23 = .ok (.aload_n 0, 1) := by decide +kernel
theorem dX2_passHour_24 : decode cX2_passHour 24 = .ok (.getfield 11, 3) := by decide +kernel
theorem dX2_passHour_27 : decode cX2_passHour 27 = .ok (.iload_n 2, 1) := by decide +kernel
theorem dX2_passHour_28 : decode cX2_passHour 28 = .ok (.aaload, 1) := by decide +kernel
theorem dX2_passHour_29 : decode cX2_passHour 29 = .ok (.iload_n 1, 1) := by decide +kernel
theorem dX2_passHour_30 : decode cX2_passHour 30 = .ok (.invokevirtual 132, 3) := by decide +kernel
theorem dX2_passHour_33 : decode cX2_passHour 33 = .ok (.iinc 2 1, 3) := by decide +kernel
theorem dX2_passHour_36 : decode cX2_passHour 36 = .ok (.goto (-34), 3) := by decide +kernel
theorem dX2_passHour_39 : decode cX2_passHour 39 = .ok (.aload_n 0, 1) := by decide +kernel
theorem dX2_passHour_40 : decode cX2_passHour 40 = .ok (.dup, 1) := by decide +kernel
theorem dX2_passHour_41 : decode cX2_passHour 41 = .ok (.getfield 28, 3) := by decide +kernel
theorem dX2_passHour_44 : decode cX2_passHour 44 = .ok (.iconst 1, 1) := by decide +kernel
theorem dX2_passHour_45 : decode cX2_passHour 45 = .ok (.iadd, 1) := by decide +kernel
theorem dX2_passHour_46 : decode cX2_passHour 46 = .ok (.putfield 28, 3) := by decide +kernel
theorem dX2_passHour_49 : decode cX2_passHour 49 = .ok (.return_, 1) := by decide +kernel
theorem dX2_moveOne_0 : decode cX2_moveOne 0 = .ok (.aload_n 1, 1) := by decide +kernel
theorem dX2_moveOne_1 : decode cX2_moveOne 1 = .ok (.aload_n 1, 1) := by decide +kernel
theorem dX2_moveOne_2 : decode cX2_moveOne 2 = .ok (.aload_n 1, 1) := by decide +kernel
theorem dX2_moveOne_3 : decode cX2_moveOne 3 = .ok (.getfield 83, 3) := by decide +kernel
theorem dX2_moveOne_6 : decode cX2_moveOne 6 = .ok (.iload_n 2, 1) := by decide +kernel
theorem dX2_moveOne_7 : decode cX2_moveOne 7 = .ok (.invokevirtual 136, 3) := by decide +kernel
theorem dX2_moveOne_10 : decode cX2_moveOne 10 = .ok (.putfield 83, 3) := by decide +kernel
theorem dX2_moveOne_13 : decode cX2_moveOne 13 = .ok (.aload_n 0, 1) := by decide +kernel
theorem dX2_moveOne_14 : decode cX2_moveOne 14 = .ok (.aload_n 1, 1) := by decide +kernel
theorem dX2_moveOne_15 : decode cX2_moveOne 15 = .ok (.invokevirtual 111, 3) := by decide +kernel
theorem dX2_moveOne_18 : decode cX2_moveOne 18 = .ok (.istore_n 3, 1) := by decide +kernel
theorem dX2_moveOne_19 : decode cX2_moveOne 19 = .ok (.iload_n 3, 1) := by decide +kernel
theorem dX2_moveOne_20 : decode cX2_moveOne 20 = .ok (.ifCond .le 25, 3) := by decide +kernel
theorem dX2_moveOne_23 : decode cX2_moveOne 23 = .ok (.aload_n 0, 1) := by decide +kernel
theorem dX2_moveOne_24 : decode cX2_moveOne 24 = .ok (.ldc 139, 2) := by decide +kernel
theorem dX2_moveOne_26 : decode cX2_moveOne 26 = .ok (.aload_n 0, 1) := by decide +kernel
theorem dX2_moveOne_27 : decode cX2_moveOne 27 = .ok (.getfield 31, 3) := by decide +kernel
theorem dX2_moveOne_30 : decode cX2_moveOne 30 = .ok (.aload_n 1, 1) := by decide +kernel
theorem dX2_moveOne_31 : decode cX2_moveOne 31 = .ok (.iload_n 3, 1) := by decide +kernel
theorem dX2_moveOne_32 : decode cX2_moveOne 32 = .ok (.invokevirtual 140, 3) := by decide +kernel
theorem dX2_moveOne_35 : decode cX2_moveOne 35 = .ok (.iadd, 1) := by decide +kernel
theorem dX2_moveOne_36 : decode cX2_moveOne 36 = .ok (.invokestatic 143, 3) := by decide +kernel
theorem dX2_moveOne_39 : decode cX2_moveOne 39 = .ok (.putfield 31, 3) := by decide +kernel
theorem dX2_moveOne_42 : decode cX2_moveOne 42 = .ok (.goto 7, 3) := by decide +kernel
theorem dX2_moveOne_45 : decode cX2_moveOne 45 = .ok (.aload_n 1, 1) := by decide +kernel
theorem dX2_moveOne_46 : decode cX2_moveOne 46 = .ok (.invokevirtual 146, 3) := by decide +kernel
theorem dX2_moveOne_49 : decode cX2_moveOne 49 = .ok (.return_, 1) := by decide +kernel
theorem dX2_textOf_0 : decode cX2_textOf 0 = .ok (.iload_n 1, 1) := by decide +kernel
theorem dX2_textOf_1 : decode cX2_textOf 1 = .ok (.ifCond .ne 10, 3) := by decide +kernel
theorem dX2_textOf_4 : decode cX2_textOf 4 = .ok (.aload_n 0, 1) := by decide +kernel
theorem dX2_textOf_5 : decode cX2_textOf 5 = .ok (.getfield 46, 3) := by decide +kernel
theorem dX2_textOf_8 : decode cX2_textOf 8 = .ok (.goto 7, 3) := by decide +kernel
theorem dX2_textOf_11 : decode cX2_textOf 11 = .ok (.aload_n 0, 1) := by decide +kernel
theorem dX2_textOf_12 : decode cX2_textOf 12 = .ok (.getfield 50, 3) := by decide +kernel
theorem dX2_textOf_15 : decode cX2_textOf 15 = .ok (.areturn, 1) := by decide +kernel
theorem dX2_nameBy_0 : decode cX2_nameBy 0 = .ok (.aload_n 0, 1) := by decide +kernel
theorem dX2_nameBy_1 : decode cX2_nameBy 1 = .ok (.getfield 46, 3) := by decide +kernel
theorem dX2_nameBy_4 : decode cX2_nameBy 4 = .ok (.getfield 149, 3) := by decide +kernel
theorem dX2_nameBy_7 : decode cX2_nameBy 7 = .ok (.ifCond .eq 16, 3) := by decide +kernel
theorem dX2_nameBy_10 : decode cX2_nameBy 10 = .ok (.aload_n 0, 1) := by decide +kernel
theorem dX2_nameBy_11 : decode cX2_nameBy 11 = .ok (.getfield 46, 3) := by decide +kernel
theorem dX2_nameBy_14 : decode cX2_nameBy 14 = .ok (.iload_n 1, 1) := by decide +kernel
theorem dX2_nameBy_15 : decode cX2_nameBy 15 = .ok (.iload_n 2, 1) := by decide +kernel
theorem dX2_nameBy_16 : decode cX2_nameBy 16 = .ok (.iload_n 3, 1) := by decide +kernel
theorem dX2_nameBy_17 : decode cX2_nameBy 17 = .ok (.invokevirtual 152, 3) := by decide +kernel
theorem dX2_nameBy_20 : decode cX2_nameBy 20 = .ok (.goto 7, 3) := by decide +kernel
theorem dX2_nameBy_23 : decode cX2_nameBy 23 = .ok (.iload_n 1, 1) := by decide +kernel
theorem dX2_nameBy_24 : decode cX2_nameBy 24 = .ok (.bipush 10, 2) := by decide +kernel
theorem dX2_nameBy_26 : decode cX2_nameBy 26 = .ok (.idiv, 1) := by decide +kernel
theorem dX2_nameBy_27 : decode cX2_nameBy 27 = .ok (.ireturn, 1) := by decide +kernel
theorem dX2_debtBy_0 : decode cX2_debtBy 0 = .ok (.iload_n 1, 1) := by decide +kernel
theorem dX2_debtBy_1 : decode cX2_debtBy 1 = .ok (.iload_n 2, 1) := by decide +kernel
theorem dX2_debtBy_2 : decode cX2_debtBy 2 = .ok (.if_icmp .le 12, 3) := by decide +kernel
theorem dX2_debtBy_5 : decode cX2_debtBy 5 = .ok (.iload_n 1, 1) := by decide +kernel
theorem dX2_debtBy_6 : decode cX2_debtBy 6 = .ok (.iload_n 2, 1) := by decide +kernel
theorem dX2_debtBy_7 : decode cX2_debtBy 7 = .ok (.isub, 1) := by decide +kernel
theorem dX2_debtBy_8 : decode cX2_debtBy 8 = .ok (.bipush 9, 2) := by decide +kernel
theorem dX2_debtBy_10 : decode cX2_debtBy 10 = .ok (.irem, 1) := by decide +kernel
theorem dX2_debtBy_11 : decode cX2_debtBy 11 = .ok (.goto 4, 3) := by decide +kernel
theorem dX2_debtBy_14 : decode cX2_debtBy 14 = .ok (.iconst 0, 1) := by decide +kernel
theorem dX2_debtBy_15 : decode cX2_debtBy 15 = .ok (.istore 4, 2) := by decide +kernel
theorem dX2_debtBy_17 : decode cX2_debtBy 17 = .ok (.aload_n 0, 1) := by decide +kernel
theorem dX2_debtBy_18 : decode cX2_debtBy 18 = .ok (.getfield 50, 3) := by decide +kernel
theorem dX2_debtBy_21 : decode cX2_debtBy 21 = .ok (.getfield 149, 3) := by decide +kernel
theorem dX2_debtBy_24 : decode cX2_debtBy 24 = .ok (.ifCond .eq 15, 3) := by decide +kernel
theorem dX2_debtBy_27 : decode cX2_debtBy 27 = .ok (.aload_n 0, 1) := by decide +kernel
theorem dX2_debtBy_28 : decode cX2_debtBy 28 = .ok (.getfield 50, 3) := by decide +kernel
theorem dX2_debtBy_31 : decode cX2_debtBy 31 = .ok (.iload_n 1, 1) := by decide +kernel
theorem dX2_debtBy_32 : decode cX2_debtBy 32 = .ok (.iload_n 2, 1) := by decide +kernel
theorem dX2_debtBy_33 : decode cX2_debtBy 33 = .ok (.iload_n 3, 1) := by decide +kernel
theorem dX2_debtBy_34 : decode cX2_debtBy 34 = .ok (.invokevirtual 152, 3) := by decide +kernel
theorem dX2_debtBy_37 : decode cX2_debtBy 37 = .ok (.istore 4, 2) := by decide +kernel
theorem dX2_debtBy_39 : decode cX2_debtBy 39 = .ok (.iconst 0, 1) := by decide +kernel
theorem dX2_debtBy_40 : decode cX2_debtBy 40 = .ok (.bipush 99, 2) := by decide +kernel
theorem dX2_debtBy_42 : decode cX2_debtBy 42 = .ok (.iload 4, 2) := by decide +kernel
theorem dX2_debtBy_44 : decode cX2_debtBy 44 = .ok (.invokestatic 143, 3) := by decide +kernel
theorem dX2_debtBy_47 : decode cX2_debtBy 47 = .ok (.invokestatic 156, 3) := by decide +kernel
theorem dX2_debtBy_50 : decode cX2_debtBy 50 = .ok (.ireturn, 1) := by decide +kernel
theorem dX2_nameOf_0 : decode cX2_nameOf 0 = .ok (.aload_n 0, 1) := by decide +kernel
theorem dX2_nameOf_1 : decode cX2_nameOf 1 = .ok (.aload_n 1, 1) := by decide +kernel
theorem dX2_nameOf_2 : decode cX2_nameOf 2 = .ok (.invokevirtual 97, 3) := by decide +kernel
theorem dX2_nameOf_5 : decode cX2_nameOf 5 = .ok (.aload_n 1, 1) := by decide +kernel
theorem dX2_nameOf_6 : decode cX2_nameOf 6 = .ok (.getfield 86, 3) := by decide +kernel
theorem dX2_nameOf_9 : decode cX2_nameOf 9 = .ok (.aload_n 1, 1) := by decide +kernel
theorem dX2_nameOf_10 : decode cX2_nameOf 10 = .ok (.iconst 0, 1) := by decide +kernel
theorem dX2_nameOf_11 : decode cX2_nameOf 11 = .ok (.invokevirtual 89, 3) := by decide +kernel
theorem dX2_nameOf_14 : decode cX2_nameOf 14 = .ok (.invokevirtual 159, 3) := by decide +kernel
theorem dX2_nameOf_17 : decode cX2_nameOf 17 = .ok (.ireturn, 1) := by decide +kernel
theorem dX2_isNobody_0 : decode cX2_isNobody 0 = .ok (.aload_n 0, 1) := by decide +kernel
theorem dX2_isNobody_1 : decode cX2_isNobody 1 = .ok (.getfield 11, 3) := by decide +kernel
theorem dX2_isNobody_4 : decode cX2_isNobody 4 = .ok (.iload_n 1, 1) := by decide +kernel
theorem dX2_isNobody_5 : decode cX2_isNobody 5 = .ok (.aaload, 1) := by decide +kernel
theorem dX2_isNobody_6 : decode cX2_isNobody 6 = .ok (.getfield 93, 3) := by decide +kernel
theorem dX2_isNobody_9 : decode cX2_isNobody 9 = .ok (.ifCond .eq 16, 3) := by decide +kernel
theorem dX2_isNobody_12 : decode cX2_isNobody 12 = .ok (.aload_n 0, 1) := by decide +kernel
theorem dX2_isNobody_13 : decode cX2_isNobody 13 = .ok (.aload_n 0, 1) := by decide +kernel
theorem dX2_isNobody_14 : decode cX2_isNobody 14 = .ok (.getfield 11, 3) := by decide +kernel
theorem dX2_isNobody_17 : decode cX2_isNobody 17 = .ok (.iload_n 1, 1) := by decide +kernel
theorem dX2_isNobody_18 : decode cX2_isNobody 18 = .ok (.aaload, 1) := by decide +kernel
theorem dX2_isNobody_19 : decode cX2_isNobody 19 = .ok (.invokevirtual 101, 3) := by decide +kernel
theorem dX2_isNobody_22 : decode cX2_isNobody 22 = .ok (.ifCond .ne 7, 3) := by decide +kernel
theorem dX2_isNobody_25 : decode cX2_isNobody 25 = .ok (.iconst 1, 1) := by decide +kernel
theorem dX2_isNobody_26 : decode cX2_isNobody 26 = .ok (.goto 4, 3) := by decide +kernel
theorem dX2_isNobody_29 : decode cX2_isNobody 29 = .ok (.iconst 0, 1) := by decide +kernel
theorem dX2_isNobody_30 : decode cX2_isNobody 30 = .ok (.ireturn, 1) := by decide +kernel
theorem dX2_nobodies_0 : decode cX2_nobodies 0 = .ok (.iconst 0, 1) := by decide +kernel
theorem dX2_nobodies_1 : decode cX2_nobodies 1 = .ok (.istore_n 1, 1) := by decide +kernel
theorem dX2_nobodies_2 : decode cX2_nobodies 2 = .ok (.iconst 0, 1) := by decide +kernel
theorem dX2_nobodies_3 : decode cX2_nobodies 3 = .ok (.istore_n 2, 1) := by decide +kernel
theorem dX2_nobodies_4 : decode cX2_nobodies 4 = .ok (.iload_n 2, 1) := by decide +kernel
theorem dX2_nobodies_5 : decode cX2_nobodies 5 = .ok (.aload_n 0, 1) := by decide +kernel
theorem dX2_nobodies_6 : decode cX2_nobodies 6 = .ok (.getfield 17, 3) := by decide +kernel
theorem dX2_nobodies_9 : decode cX2_nobodies 9 = .ok (.if_icmp .ge 20, 3) := by decide +kernel
theorem dX2_nobodies_12 : decode cX2_nobodies 12 = .ok (.aload_n 0, 1) := by decide +kernel
theorem dX2_nobodies_13 : decode cX2_nobodies 13 = .ok (.iload_n 2, 1) := by decide +kernel
theorem dX2_nobodies_14 : decode cX2_nobodies 14 = .ok (.invokevirtual 162, 3) := by decide +kernel
theorem dX2_nobodies_17 : decode cX2_nobodies 17 = .ok (.ifCond .eq 6, 3) := by decide +kernel
theorem dX2_nobodies_20 : decode cX2_nobodies 20 = .ok (.iinc 1 1, 3) := by decide +kernel
theorem dX2_nobodies_23 : decode cX2_nobodies 23 = .ok (.iinc 2 1, 3) := by decide +kernel
theorem dX2_nobodies_26 : decode cX2_nobodies 26 = .ok (.goto (-22), 3) := by decide +kernel
theorem dX2_nobodies_29 : decode cX2_nobodies 29 = .ok (.iload_n 1, 1) := by decide +kernel
theorem dX2_nobodies_30 : decode cX2_nobodies 30 = .ok (.ireturn, 1) := by decide +kernel
theorem dX2_leastNobodyThere_0 : decode cX2_leastNobodyThere 0 = .ok (.iconst 0, 1) := by decide +kernel
theorem dX2_leastNobodyThere_1 : decode cX2_leastNobodyThere 1 = .ok (.istore_n 1, 1) := by decide +kernel
theorem dX2_leastNobodyThere_2 : decode cX2_leastNobodyThere 2 = .ok (.iload_n 1, 1) := by decide +kernel
theorem dX2_leastNobodyThere_3 : decode cX2_leastNobodyThere 3 = .ok (.aload_n 0, 1) := by decide +kernel
theorem dX2_leastNobodyThere_4 : decode cX2_leastNobodyThere 4 = .ok (.getfield 17, 3) := by decide +kernel
theorem dX2_leastNobodyThere_7 : decode cX2_leastNobodyThere 7 = .ok (.if_icmp .ge 31, 3) := by decide +kernel
theorem dX2_leastNobodyThere_10 : decode cX2_leastNobodyThere 10 = .ok (.aload_n 0, 1) := by decide +kernel
theorem dX2_leastNobodyThere_11 : decode cX2_leastNobodyThere 11 = .ok (.getfield 11, 3) := by decide +kernel
theorem dX2_leastNobodyThere_14 : decode cX2_leastNobodyThere 14 = .ok (.iload_n 1, 1) := by decide +kernel
theorem dX2_leastNobodyThere_15 : decode cX2_leastNobodyThere 15 = .ok (.aaload, 1) := by decide +kernel
theorem dX2_leastNobodyThere_16 : decode cX2_leastNobodyThere 16 = .ok (.getfield 93, 3) := by decide +kernel
theorem dX2_leastNobodyThere_19 : decode cX2_leastNobodyThere 19 = .ok (.ifCond .eq 13, 3) := by decide +kernel
theorem dX2_leastNobodyThere_22 : decode cX2_leastNobodyThere 22 = .ok (.aload_n 0, 1) := by decide +kernel
theorem dX2_leastNobodyThere_23 : decode cX2_leastNobodyThere 23 = .ok (.iload_n 1, 1) := by decide +kernel
theorem dX2_leastNobodyThere_24 : decode cX2_leastNobodyThere 24 = .ok (.invokevirtual 162, 3) := by decide +kernel
theorem dX2_leastNobodyThere_27 : decode cX2_leastNobodyThere 27 = .ok (.ifCond .eq 5, 3) := by decide +kernel
theorem dX2_leastNobodyThere_30 : decode cX2_leastNobodyThere 30 = .ok (.iload_n 1, 1) := by decide +kernel
theorem dX2_leastNobodyThere_31 : decode cX2_leastNobodyThere 31 = .ok (.ireturn, 1) := by decide +kernel
theorem dX2_leastNobodyThere_32 : decode cX2_leastNobodyThere 32 = .ok (.iinc 1 1, 3) := by decide +kernel
theorem dX2_leastNobodyThere_35 : decode cX2_leastNobodyThere 35 = .ok (.goto (-33), 3) := by decide +kernel
theorem dX2_leastNobodyThere_38 : decode cX2_leastNobodyThere 38 = .ok (.iconst (-1), 1) := by decide +kernel
theorem dX2_leastNobodyThere_39 : decode cX2_leastNobodyThere 39 = .ok (.ireturn, 1) := by decide +kernel
theorem dX2_areTogether_0 : decode cX2_areTogether 0 = .ok (.aload_n 0, 1) := by decide +kernel
theorem dX2_areTogether_1 : decode cX2_areTogether 1 = .ok (.getfield 11, 3) := by decide +kernel
theorem dX2_areTogether_4 : decode cX2_areTogether 4 = .ok (.iload_n 1, 1) := by decide +kernel
theorem dX2_areTogether_5 : decode cX2_areTogether 5 = .ok (.aaload, 1) := by decide +kernel
theorem dX2_areTogether_6 : decode cX2_areTogether 6 = .ok (.getfield 93, 3) := by decide +kernel
theorem dX2_areTogether_9 : decode cX2_areTogether 9 = .ok (.ifCond .eq 40, 3) := by decide +kernel
theorem dX2_areTogether_12 : decode cX2_areTogether 12 = .ok (.aload_n 0, 1) := by decide +kernel
theorem dX2_areTogether_13 : decode cX2_areTogether 13 = .ok (.getfield 11, 3) := by decide +kernel
theorem dX2_areTogether_16 : decode cX2_areTogether 16 = .ok (.iload_n 2, 1) := by decide +kernel
theorem dX2_areTogether_17 : decode cX2_areTogether 17 = .ok (.aaload, 1) := by decide +kernel
theorem dX2_areTogether_18 : decode cX2_areTogether 18 = .ok (.getfield 93, 3) := by decide +kernel
theorem dX2_areTogether_21 : decode cX2_areTogether 21 = .ok (.ifCond .eq 28, 3) := by decide +kernel
theorem dX2_areTogether_24 : decode cX2_areTogether 24 = .ok (.aload_n 0, 1) := by decide +kernel
theorem dX2_areTogether_25 : decode cX2_areTogether 25 = .ok (.getfield 11, 3) := by decide +kernel
theorem dX2_areTogether_28 : decode cX2_areTogether 28 = .ok (.iload_n 1, 1) := by decide +kernel
theorem dX2_areTogether_29 : decode cX2_areTogether 29 = .ok (.aaload, 1) := by decide +kernel
theorem dX2_areTogether_30 : decode cX2_areTogether 30 = .ok (.getfield 83, 3) := by decide +kernel
theorem dX2_areTogether_33 : decode cX2_areTogether 33 = .ok (.aload_n 0, 1) := by decide +kernel
theorem dX2_areTogether_34 : decode cX2_areTogether 34 = .ok (.getfield 11, 3) := by decide +kernel
theorem dX2_areTogether_37 : decode cX2_areTogether 37 = .ok (.iload_n 2, 1) := by decide +kernel
theorem dX2_areTogether_38 : decode cX2_areTogether 38 = .ok (.aaload, 1) := by decide +kernel
theorem dX2_areTogether_39 : decode cX2_areTogether 39 = .ok (.getfield 83, 3) := by decide +kernel
theorem dX2_areTogether_42 : decode cX2_areTogether 42 = .ok (.if_icmp .ne 7, 3) := by decide +kernel
theorem dX2_areTogether_45 : decode cX2_areTogether 45 = .ok (.iconst 1, 1) := by decide +kernel
theorem dX2_areTogether_46 : decode cX2_areTogether 46 = .ok (.goto 4, 3) := by decide +kernel
theorem dX2_areTogether_49 : decode cX2_areTogether 49 = .ok (.iconst 0, 1) := by decide +kernel
theorem dX2_areTogether_50 : decode cX2_areTogether 50 = .ok (.ireturn, 1) := by decide +kernel
theorem dX2_payRound_0 : decode cX2_payRound 0 = .ok (.iconst 0, 1) := by decide +kernel
theorem dX2_payRound_1 : decode cX2_payRound 1 = .ok (.istore_n 1, 1) := by decide +kernel
theorem dX2_payRound_2 : decode cX2_payRound 2 = .ok (.iconst 0, 1) := by decide +kernel
theorem dX2_payRound_3 : decode cX2_payRound 3 = .ok (.istore_n 2, 1) := by decide +kernel
theorem dX2_payRound_4 : decode cX2_payRound 4 = .ok (.iload_n 2, 1) := by decide +kernel
theorem dX2_payRound_5 : decode cX2_payRound 5 = .ok (.aload_n 0, 1) := by decide +kernel
theorem dX2_payRound_6 : decode cX2_payRound 6 = .ok (.getfield 17, 3) := by decide +kernel
theorem dX2_payRound_9 : decode cX2_payRound 9 = .ok (.if_icmp .ge 58, 3) := by decide +kernel
theorem dX2_payRound_12 : decode cX2_payRound 12 = .ok (.iconst 0, 1) := by decide +kernel
theorem dX2_payRound_13 : decode cX2_payRound 13 = .ok (.istore_n 3, 1) := by decide +kernel
theorem dX2_payRound_14 : decode cX2_payRound 14 = .ok (.iload_n 3, 1) := by decide +kernel
theorem dX2_payRound_15 : decode cX2_payRound 15 = .ok (.aload_n 0, 1) := by decide +kernel
theorem dX2_payRound_16 : decode cX2_payRound 16 = .ok (.getfield 17, 3) := by decide +kernel
theorem dX2_payRound_19 : decode cX2_payRound 19 = .ok (.if_icmp .ge 42, 3) := by decide +kernel
theorem dX2_payRound_22 : decode cX2_payRound 22 = .ok (.iload_n 2, 1) := by decide +kernel
theorem dX2_payRound_23 : decode cX2_payRound 23 = .ok (.iload_n 3, 1) := by decide +kernel
theorem dX2_payRound_24 : decode cX2_payRound 24 = .ok (.if_icmp .eq 31, 3) := by decide +kernel
theorem dX2_payRound_27 : decode cX2_payRound 27 = .ok (.aload_n 0, 1) := by decide +kernel
theorem dX2_payRound_28 : decode cX2_payRound 28 = .ok (.iload_n 2, 1) := by decide +kernel
theorem dX2_payRound_29 : decode cX2_payRound 29 = .ok (.iload_n 3, 1) := by decide +kernel
theorem dX2_payRound_30 : decode cX2_payRound 30 = .ok (.invokevirtual 165, 3) := by decide +kernel
theorem dX2_payRound_33 : decode cX2_payRound 33 = .ok (.ifCond .eq 22, 3) := by decide +kernel
theorem dX2_payRound_36 : decode cX2_payRound 36 = .ok (.iload_n 1, 1) := by decide +kernel
theorem dX2_payRound_37 : decode cX2_payRound 37 = .ok (.aload_n 0, 1) := by decide +kernel
theorem dX2_payRound_38 : decode cX2_payRound 38 = .ok (.aload_n 0, 1) := by decide +kernel
theorem dX2_payRound_39 : decode cX2_payRound 39 = .ok (.getfield 11, 3) := by decide +kernel
theorem dX2_payRound_42 : decode cX2_payRound 42 = .ok (.iload_n 2, 1) := by decide +kernel
theorem dX2_payRound_43 : decode cX2_payRound 43 = .ok (.aaload, 1) := by decide +kernel
theorem dX2_payRound_44 : decode cX2_payRound 44 = .ok (.aload_n 0, 1) := by decide +kernel
theorem dX2_payRound_45 : decode cX2_payRound 45 = .ok (.getfield 11, 3) := by decide +kernel
theorem dX2_payRound_48 : decode cX2_payRound 48 = .ok (.iload_n 3, 1) := by decide +kernel
theorem dX2_payRound_49 : decode cX2_payRound 49 = .ok (.aaload, 1) := by decide +kernel
theorem dX2_payRound_50 : decode cX2_payRound 50 = .ok (.invokevirtual 169, 3) := by decide +kernel
theorem dX2_payRound_53 : decode cX2_payRound 53 = .ok (.iadd, 1) := by decide +kernel
theorem dX2_payRound_54 : decode cX2_payRound 54 = .ok (.istore_n 1, 1) := by decide +kernel
theorem dX2_payRound_55 : decode cX2_payRound 55 = .ok (.iinc 3 1, 3) := by decide +kernel
theorem dX2_payRound_58 : decode cX2_payRound 58 = .ok (.goto (-44), 3) := by decide +kernel
theorem dX2_payRound_61 : decode cX2_payRound 61 = .ok (.iinc 2 1, 3) := by decide +kernel
theorem dX2_payRound_64 : decode cX2_payRound 64 = .ok (.goto (-60), 3) := by decide +kernel
theorem dX2_payRound_67 : decode cX2_payRound 67 = .ok (.iload_n 1, 1) := by decide +kernel
theorem dX2_payRound_68 : decode cX2_payRound 68 = .ok (.ireturn, 1) := by decide +kernel
theorem dX2_payOne_0 : decode cX2_payOne 0 = .ok (.aload_n 0, 1) := by decide +kernel
theorem dX2_payOne_1 : decode cX2_payOne 1 = .ok (.aload_n 0, 1) := by decide +kernel
theorem dX2_payOne_2 : decode cX2_payOne 2 = .ok (.aload_n 1, 1) := by decide +kernel
theorem dX2_payOne_3 : decode cX2_payOne 3 = .ok (.invokevirtual 101, 3) := by decide +kernel
theorem dX2_payOne_6 : decode cX2_payOne 6 = .ok (.aload_n 0, 1) := by decide +kernel
theorem dX2_payOne_7 : decode cX2_payOne 7 = .ok (.aload_n 2, 1) := by decide +kernel
theorem dX2_payOne_8 : decode cX2_payOne 8 = .ok (.invokevirtual 101, 3) := by decide +kernel
theorem dX2_payOne_11 : decode cX2_payOne 11 = .ok (.aload_n 0, 1) := by decide +kernel
theorem dX2_payOne_12 : decode cX2_payOne 12 = .ok (.aload_n 1, 1) := by decide +kernel
theorem dX2_payOne_13 : decode cX2_payOne 13 = .ok (.invokevirtual 111, 3) := by decide +kernel
theorem dX2_payOne_16 : decode cX2_payOne 16 = .ok (.invokevirtual 173, 3) := by decide +kernel
theorem dX2_payOne_19 : decode cX2_payOne 19 = .ok (.istore_n 3, 1) := by decide +kernel
theorem dX2_payOne_20 : decode cX2_payOne 20 = .ok (.aload_n 1, 1) := by decide +kernel
theorem dX2_payOne_21 : decode cX2_payOne 21 = .ok (.getfield 86, 3) := by decide +kernel
theorem dX2_payOne_24 : decode cX2_payOne 24 = .ok (.iload_n 3, 1) := by decide +kernel
theorem dX2_payOne_25 : decode cX2_payOne 25 = .ok (.invokestatic 143, 3) := by decide +kernel
theorem dX2_payOne_28 : decode cX2_payOne 28 = .ok (.istore 4, 2) := by decide +kernel
theorem dX2_payOne_30 : decode cX2_payOne 30 = .ok (.aload_n 1, 1) := by decide +kernel
theorem dX2_payOne_31 : decode cX2_payOne 31 = .ok (.dup, 1) := by decide +kernel
theorem dX2_payOne_32 : decode cX2_payOne 32 = .ok (.getfield 86, 3) := by decide +kernel
theorem dX2_payOne_35 : decode cX2_payOne 35 = .ok (.iload 4, 2) := by decide +kernel
theorem dX2_payOne_37 : decode cX2_payOne 37 = .ok (.isub, 1) := by decide +kernel
theorem dX2_payOne_38 : decode cX2_payOne 38 = .ok (.putfield 86, 3) := by decide +kernel
theorem dX2_payOne_41 : decode cX2_payOne 41 = .ok (.aload_n 2, 1) := by decide +kernel
theorem dX2_payOne_42 : decode cX2_payOne 42 = .ok (.sipush 999, 3) := by decide +kernel
theorem dX2_payOne_45 : decode cX2_payOne 45 = .ok (.aload_n 2, 1) := by decide +kernel
theorem dX2_payOne_46 : decode cX2_payOne 46 = .ok (.getfield 86, 3) := by decide +kernel
theorem dX2_payOne_49 : decode cX2_payOne 49 = .ok (.iload 4, 2) := by decide +kernel
theorem dX2_payOne_51 : decode cX2_payOne 51 = .ok (.iadd, 1) := by decide +kernel
theorem dX2_payOne_52 : decode cX2_payOne 52 = .ok (.invokestatic 143, 3) := by decide +kernel
theorem dX2_payOne_55 : decode cX2_payOne 55 = .ok (.putfield 86, 3) := by decide +kernel
theorem dX2_payOne_58 : decode cX2_payOne 58 = .ok (.iload 4, 2) := by decide +kernel
theorem dX2_payOne_60 : decode cX2_payOne 60 = .ok (.ireturn, 1) := by decide +kernel
theorem dX2_setOfAll_0 : decode cX2_setOfAll 0 = .ok (.iconst 0, 1) := by decide +kernel
theorem dX2_setOfAll_1 : decode cX2_setOfAll 1 = .ok (.istore_n 1, 1) := by decide +kernel
theorem dX2_setOfAll_2 : decode cX2_setOfAll 2 = .ok (.iconst 0, 1) := by decide +kernel
theorem dX2_setOfAll_3 : decode cX2_setOfAll 3 = .ok (.istore_n 2, 1) := by decide +kernel
theorem dX2_setOfAll_4 : decode cX2_setOfAll 4 = .ok (.iload_n 2, 1) := by decide +kernel
theorem dX2_setOfAll_5 : decode cX2_setOfAll 5 = .ok (.aload_n 0, 1) := by decide +kernel
theorem dX2_setOfAll_6 : decode cX2_setOfAll 6 = .ok (.getfield 17, 3) := by decide +kernel
theorem dX2_setOfAll_9 : decode cX2_setOfAll 9 = .ok (.if_icmp .ge 27, 3) := by decide +kernel
theorem dX2_setOfAll_12 : decode cX2_setOfAll 12 = .ok (.aload_n 0, 1) := by decide +kernel
theorem dX2_setOfAll_13 : decode cX2_setOfAll 13 = .ok (.getfield 11, 3) := by decide +kernel
theorem dX2_setOfAll_16 : decode cX2_setOfAll 16 = .ok (.iload_n 2, 1) := by decide +kernel
theorem dX2_setOfAll_17 : decode cX2_setOfAll 17 = .ok (.aaload, 1) := by decide +kernel
theorem dX2_setOfAll_18 : decode cX2_setOfAll 18 = .ok (.getfield 93, 3) := by decide +kernel
theorem dX2_setOfAll_21 : decode cX2_setOfAll 21 = .ok (.ifCond .eq 9, 3) := by decide +kernel
theorem dX2_setOfAll_24 : decode cX2_setOfAll 24 = .ok (.iload_n 1, 1) := by decide +kernel
theorem dX2_setOfAll_25 : decode cX2_setOfAll 25 = .ok (.iconst 1, 1) := by decide +kernel
theorem dX2_setOfAll_26 : decode cX2_setOfAll 26 = .ok (.iload_n 2, 1) := by decide +kernel
theorem dX2_setOfAll_27 : decode cX2_setOfAll 27 = .ok (.ishl, 1) := by decide +kernel
theorem dX2_setOfAll_28 : decode cX2_setOfAll 28 = .ok (.ior, 1) := by decide +kernel
theorem dX2_setOfAll_29 : decode cX2_setOfAll 29 = .ok (.istore_n 1, 1) := by decide +kernel
theorem dX2_setOfAll_30 : decode cX2_setOfAll 30 = .ok (.iinc 2 1, 3) := by decide +kernel
theorem dX2_setOfAll_33 : decode cX2_setOfAll 33 = .ok (.goto (-29), 3) := by decide +kernel
theorem dX2_setOfAll_36 : decode cX2_setOfAll 36 = .ok (.iload_n 1, 1) := by decide +kernel
theorem dX2_setOfAll_37 : decode cX2_setOfAll 37 = .ok (.ireturn, 1) := by decide +kernel
theorem dX2_totalOf_0 : decode cX2_totalOf 0 = .ok (.iconst 0, 1) := by decide +kernel
theorem dX2_totalOf_1 : decode cX2_totalOf 1 = .ok (.istore_n 3, 1) := by decide +kernel
theorem dX2_totalOf_2 : decode cX2_totalOf 2 = .ok (.iconst 0, 1) := by decide +kernel
theorem dX2_totalOf_3 : decode cX2_totalOf 3 = .ok (.istore 4, 2) := by decide +kernel
theorem dX2_totalOf_5 : decode cX2_totalOf 5 = .ok (.iload 4, 2) := by decide +kernel
theorem dX2_totalOf_7 : decode cX2_totalOf 7 = .ok (.aload_n 0, 1) := by decide +kernel
theorem dX2_totalOf_8 : decode cX2_totalOf 8 = .ok (.getfield 17, 3) := by decide +kernel
theorem dX2_totalOf_11 : decode cX2_totalOf 11 = .ok (.if_icmp .ge 52, 3) := by decide +kernel
theorem dX2_totalOf_14 : decode cX2_totalOf 14 = .ok (.iload_n 1, 1) := by decide +kernel
theorem dX2_totalOf_15 : decode cX2_totalOf 15 = .ok (.iload 4, 2) := by decide +kernel
theorem dX2_totalOf_17 : decode cX2_totalOf 17 = .ok (.ishr, 1) := by decide +kernel
theorem dX2_totalOf_18 : decode cX2_totalOf 18 = .ok (.iconst 1, 1) := by decide +kernel
theorem dX2_totalOf_19 : decode cX2_totalOf 19 = .ok (.iand, 1) := by decide +kernel
theorem dX2_totalOf_20 : decode cX2_totalOf 20 = .ok (.iconst 1, 1) := by decide +kernel
theorem dX2_totalOf_21 : decode cX2_totalOf 21 = .ok (.if_icmp .ne 36, 3) := by decide +kernel
theorem dX2_totalOf_24 : decode cX2_totalOf 24 = .ok (.iload_n 3, 1) := by decide +kernel
theorem dX2_totalOf_25 : decode cX2_totalOf 25 = .ok (.iload_n 2, 1) := by decide +kernel
theorem dX2_totalOf_26 : decode cX2_totalOf 26 = .ok (.ifCond .ne 16, 3) := by decide +kernel
theorem dX2_totalOf_29 : decode cX2_totalOf 29 = .ok (.aload_n 0, 1) := by decide +kernel
theorem dX2_totalOf_30 : decode cX2_totalOf 30 = .ok (.getfield 11, 3) := by decide +kernel
theorem dX2_totalOf_33 : decode cX2_totalOf 33 = .ok (.iload 4, 2) := by decide +kernel
theorem dX2_totalOf_35 : decode cX2_totalOf 35 = .ok (.aaload, 1) := by decide +kernel
theorem dX2_totalOf_36 : decode cX2_totalOf 36 = .ok (.getfield 86, 3) := by decide +kernel
theorem dX2_totalOf_39 : decode cX2_totalOf 39 = .ok (.goto 16, 3) := by decide +kernel
theorem dX2_totalOf_42 : decode cX2_totalOf 42 = .ok (.aload_n 0, 1) := by decide +kernel
theorem dX2_totalOf_43 : decode cX2_totalOf 43 = .ok (.getfield 11, 3) := by decide +kernel
theorem dX2_totalOf_46 : decode cX2_totalOf 46 = .ok (.iload 4, 2) := by decide +kernel
theorem dX2_totalOf_48 : decode cX2_totalOf 48 = .ok (.aaload, 1) := by decide +kernel
theorem dX2_totalOf_49 : decode cX2_totalOf 49 = .ok (.iload_n 2, 1) := by decide +kernel
theorem dX2_totalOf_50 : decode cX2_totalOf 50 = .ok (.iconst 1, 1) := by decide +kernel
theorem dX2_totalOf_51 : decode cX2_totalOf 51 = .ok (.isub, 1) := by decide +kernel
theorem dX2_totalOf_52 : decode cX2_totalOf 52 = .ok (.invokevirtual 89, 3) := by decide +kernel
theorem dX2_totalOf_55 : decode cX2_totalOf 55 = .ok (.iadd, 1) := by decide +kernel
theorem dX2_totalOf_56 : decode cX2_totalOf 56 = .ok (.istore_n 3, 1) := by decide +kernel
theorem dX2_totalOf_57 : decode cX2_totalOf 57 = .ok (.iinc 4 1, 3) := by decide +kernel
theorem dX2_totalOf_60 : decode cX2_totalOf 60 = .ok (.goto (-55), 3) := by decide +kernel
theorem dX2_totalOf_63 : decode cX2_totalOf 63 = .ok (.iload_n 3, 1) := by decide +kernel
theorem dX2_totalOf_64 : decode cX2_totalOf 64 = .ok (.ireturn, 1) := by decide +kernel
theorem dX2_tasteOf_0 : decode cX2_tasteOf 0 = .ok (.aload_n 0, 1) := by decide +kernel
theorem dX2_tasteOf_1 : decode cX2_tasteOf 1 = .ok (.iload_n 1, 1) := by decide +kernel
theorem dX2_tasteOf_2 : decode cX2_tasteOf 2 = .ok (.iconst 1, 1) := by decide +kernel
theorem dX2_tasteOf_3 : decode cX2_tasteOf 3 = .ok (.invokevirtual 176, 3) := by decide +kernel
theorem dX2_tasteOf_6 : decode cX2_tasteOf 6 = .ok (.aload_n 0, 1) := by decide +kernel
theorem dX2_tasteOf_7 : decode cX2_tasteOf 7 = .ok (.iload_n 1, 1) := by decide +kernel
theorem dX2_tasteOf_8 : decode cX2_tasteOf 8 = .ok (.iconst 2, 1) := by decide +kernel
theorem dX2_tasteOf_9 : decode cX2_tasteOf 9 = .ok (.invokevirtual 176, 3) := by decide +kernel
theorem dX2_tasteOf_12 : decode cX2_tasteOf 12 = .ok (.iadd, 1) := by decide +kernel
theorem dX2_tasteOf_13 : decode cX2_tasteOf 13 = .ok (.aload_n 0, 1) := by decide +kernel
theorem dX2_tasteOf_14 : decode cX2_tasteOf 14 = .ok (.iload_n 1, 1) := by decide +kernel
theorem dX2_tasteOf_15 : decode cX2_tasteOf 15 = .ok (.iconst 3, 1) := by decide +kernel
theorem dX2_tasteOf_16 : decode cX2_tasteOf 16 = .ok (.invokevirtual 176, 3) := by decide +kernel
theorem dX2_tasteOf_19 : decode cX2_tasteOf 19 = .ok (.iadd, 1) := by decide +kernel
theorem dX2_tasteOf_20 : decode cX2_tasteOf 20 = .ok (.istore_n 2, 1) := by decide +kernel
theorem dX2_tasteOf_21 : decode cX2_tasteOf 21 = .ok (.iload_n 2, 1) := by decide +kernel
theorem dX2_tasteOf_22 : decode cX2_tasteOf 22 = .ok (.aload_n 0, 1) := by decide +kernel
theorem dX2_tasteOf_23 : decode cX2_tasteOf 23 = .ok (.iload_n 1, 1) := by decide +kernel
theorem dX2_tasteOf_24 : decode cX2_tasteOf 24 = .ok (.iconst 0, 1) := by decide +kernel
theorem dX2_tasteOf_25 : decode cX2_tasteOf 25 = .ok (.invokevirtual 176, 3) := by decide +kernel
theorem dX2_tasteOf_28 : decode cX2_tasteOf 28 = .ok (.invokestatic 179, 3) := by decide +kernel
theorem dX2_tasteOf_31 : decode cX2_tasteOf 31 = .ok (.ireturn, 1) := by decide +kernel
theorem dX2_fewestOfTaste_0 : decode cX2_fewestOfTaste 0 = .ok (.aload_n 0, 1) := by decide +kernel
theorem dX2_fewestOfTaste_1 : decode cX2_fewestOfTaste 1 = .ok (.invokevirtual 182, 3) := by decide +kernel
theorem dX2_fewestOfTaste_4 : decode cX2_fewestOfTaste 4 = .ok (.istore_n 2, 1) := by decide +kernel
theorem dX2_fewestOfTaste_5 : decode cX2_fewestOfTaste 5 = .ok (.iconst 0, 1) := by decide +kernel
theorem dX2_fewestOfTaste_6 : decode cX2_fewestOfTaste 6 = .ok (.istore_n 3, 1) := by decide +kernel
theorem dX2_fewestOfTaste_7 : decode cX2_fewestOfTaste 7 = .ok (.iconst 1, 1) := by decide +kernel
theorem dX2_fewestOfTaste_8 : decode cX2_fewestOfTaste 8 = .ok (.istore 4, 2) := by decide +kernel
theorem dX2_fewestOfTaste_10 : decode cX2_fewestOfTaste 10 = .ok (.iload 4, 2) := by decide +kernel
theorem dX2_fewestOfTaste_12 : decode cX2_fewestOfTaste 12 = .ok (.iload_n 2, 1) := by decide +kernel
theorem dX2_fewestOfTaste_13 : decode cX2_fewestOfTaste 13 = .ok (.if_icmp .gt 59, 3) := by decide +kernel
theorem dX2_fewestOfTaste_16 : decode cX2_fewestOfTaste 16 = .ok (.iload_n 3, 1) := by decide +kernel
theorem dX2_fewestOfTaste_17 : decode cX2_fewestOfTaste 17 = .ok (.ifCond .eq 15, 3) := by decide +kernel
theorem dX2_fewestOfTaste_20 : decode cX2_fewestOfTaste 20 = .ok (.iload 4, 2) := by decide +kernel
theorem dX2_fewestOfTaste_22 : decode cX2_fewestOfTaste 22 = .ok (.invokestatic 185, 3) := by decide +kernel
theorem dX2_fewestOfTaste_25 : decode cX2_fewestOfTaste 25 = .ok (.iload_n 3, 1) := by decide +kernel
theorem dX2_fewestOfTaste_26 : decode cX2_fewestOfTaste 26 = .ok (.invokestatic 185, 3) := by decide +kernel
theorem dX2_fewestOfTaste_29 : decode cX2_fewestOfTaste 29 = .ok (.if_icmp .ge 7, 3) := by decide +kernel
theorem dX2_fewestOfTaste_32 : decode cX2_fewestOfTaste 32 = .ok (.iconst 1, 1) := by decide +kernel
theorem dX2_fewestOfTaste_33 : decode cX2_fewestOfTaste 33 = .ok (.goto 4, 3) := by decide +kernel
theorem dX2_fewestOfTaste_36 : decode cX2_fewestOfTaste 36 = .ok (.iconst 0, 1) := by decide +kernel
theorem dX2_fewestOfTaste_37 : decode cX2_fewestOfTaste 37 = .ok (.istore 5, 2) := by decide +kernel
theorem dX2_fewestOfTaste_39 : decode cX2_fewestOfTaste 39 = .ok (.iload 4, 2) := by decide +kernel
theorem dX2_fewestOfTaste_41 : decode cX2_fewestOfTaste 41 = .ok (.iload_n 2, 1) := by decide +kernel
theorem dX2_fewestOfTaste_42 : decode cX2_fewestOfTaste 42 = .ok (.iconst (-1), 1) := by decide +kernel
theorem dX2_fewestOfTaste_43 : decode cX2_fewestOfTaste 43 = .ok (.ixor, 1) := by decide +kernel
theorem dX2_fewestOfTaste_44 : decode cX2_fewestOfTaste 44 = .ok (.iand, 1) := by decide +kernel
theorem dX2_fewestOfTaste_45 : decode cX2_fewestOfTaste 45 = .ok (.ifCond .ne 21, 3) := by decide +kernel
theorem dX2_fewestOfTaste_48 : decode cX2_fewestOfTaste 48 = .ok (.iload 5, 2) := by decide +kernel
theorem dX2_fewestOfTaste_50 : decode cX2_fewestOfTaste 50 = .ok (.ifCond .eq 16, 3) := by decide +kernel
theorem dX2_fewestOfTaste_53 : decode cX2_fewestOfTaste 53 = .ok (.aload_n 0, 1) := by decide +kernel
theorem dX2_fewestOfTaste_54 : decode cX2_fewestOfTaste 54 = .ok (.iload 4, 2) := by decide +kernel
theorem dX2_fewestOfTaste_56 : decode cX2_fewestOfTaste 56 = .ok (.invokevirtual 190, 3) := by decide +kernel
theorem dX2_fewestOfTaste_59 : decode cX2_fewestOfTaste 59 = .ok (.iload_n 1, 1) := by decide +kernel
theorem dX2_fewestOfTaste_60 : decode cX2_fewestOfTaste 60 = .ok (.if_icmp .ne 6, 3) := by decide +kernel
theorem dX2_fewestOfTaste_63 : decode cX2_fewestOfTaste 63 = .ok (.iload 4, 2) := by decide +kernel
theorem dX2_fewestOfTaste_65 : decode cX2_fewestOfTaste 65 = .ok (.istore_n 3, 1) := by decide +kernel
theorem dX2_fewestOfTaste_66 : decode cX2_fewestOfTaste 66 = .ok (.iinc 4 1, 3) := by decide +kernel
theorem dX2_fewestOfTaste_69 : decode cX2_fewestOfTaste 69 = .ok (.goto (-59), 3) := by decide +kernel
theorem dX2_fewestOfTaste_72 : decode cX2_fewestOfTaste 72 = .ok (.iload_n 3, 1) := by decide +kernel
theorem dX2_fewestOfTaste_73 : decode cX2_fewestOfTaste 73 = .ok (.ireturn, 1) := by decide +kernel
theorem dX2_setsOfTotals_0 : decode cX2_setsOfTotals 0 = .ok (.aload_n 0, 1) := by decide +kernel
theorem dX2_setsOfTotals_1 : decode cX2_setsOfTotals 1 = .ok (.invokevirtual 182, 3) := by decide +kernel
theorem dX2_setsOfTotals_4 : decode cX2_setsOfTotals 4 = .ok (.istore_n 3, 1) := by decide +kernel
theorem dX2_setsOfTotals_5 : decode cX2_setsOfTotals 5 = .ok (.iconst 0, 1) := by decide +kernel
theorem dX2_setsOfTotals_6 : decode cX2_setsOfTotals 6 = .ok (.istore 4, 2) := by decide +kernel
theorem dX2_setsOfTotals_8 : decode cX2_setsOfTotals 8 = .ok (.iconst 1, 1) := by decide +kernel
theorem dX2_setsOfTotals_9 : decode cX2_setsOfTotals 9 = .ok (.istore 5, 2) := by decide +kernel
theorem dX2_setsOfTotals_11 : decode cX2_setsOfTotals 11 = .ok (.iload 5, 2) := by decide +kernel
theorem dX2_setsOfTotals_13 : decode cX2_setsOfTotals 13 = .ok (.iload_n 3, 1) := by decide +kernel
theorem dX2_setsOfTotals_14 : decode cX2_setsOfTotals 14 = .ok (.if_icmp .gt 38, 3) := by decide +kernel
theorem dX2_setsOfTotals_17 : decode cX2_setsOfTotals 17 = .ok (.iload 5, 2) := by decide +kernel
theorem dX2_setsOfTotals_19 : decode cX2_setsOfTotals 19 = .ok (.iload_n 3, 1) := by decide +kernel
theorem dX2_setsOfTotals_20 : decode cX2_setsOfTotals 20 = .ok (.iconst (-1), 1) := by decide +kernel
theorem dX2_setsOfTotals_21 : decode cX2_setsOfTotals 21 = .ok (.ixor, 1) := by decide +kernel
theorem dX2_setsOfTotals_22 : decode cX2_setsOfTotals 22 = .ok (.iand, 1) := by decide +kernel
theorem dX2_setsOfTotals_23 : decode cX2_setsOfTotals 23 = .ok (.ifCond .ne 23, 3) := by decide +kernel
theorem dX2_setsOfTotals_26 : decode cX2_setsOfTotals 26 = .ok (.aload_n 0, 1) := by decide +kernel
theorem dX2_setsOfTotals_27 : decode cX2_setsOfTotals 27 = .ok (.iload 5, 2) := by decide +kernel
theorem dX2_setsOfTotals_29 : decode cX2_setsOfTotals 29 = .ok (.aload_n 1, 1) := by decide +kernel
theorem dX2_setsOfTotals_30 : decode cX2_setsOfTotals 30 = .ok (.invokevirtual 193, 3) := by decide +kernel
theorem dX2_setsOfTotals_33 : decode cX2_setsOfTotals 33 = .ok (.ifCond .eq 13, 3) := by decide +kernel
theorem dX2_setsOfTotals_36 : decode cX2_setsOfTotals 36 = .ok (.iload_n 2, 1) := by decide +kernel
theorem dX2_setsOfTotals_37 : decode cX2_setsOfTotals 37 = .ok (.ifCond .eq 6, 3) := by decide +kernel
theorem dX2_setsOfTotals_40 : decode cX2_setsOfTotals 40 = .ok (.iload 5, 2) := by decide +kernel
theorem dX2_setsOfTotals_42 : decode cX2_setsOfTotals 42 = .ok (.ireturn, 1) := by decide +kernel
theorem dX2_setsOfTotals_43 : decode cX2_setsOfTotals 43 = .ok (.iinc 4 1, 3) := by decide +kernel
theorem dX2_setsOfTotals_46 : decode cX2_setsOfTotals 46 = .ok (.iinc 5 1, 3) := by decide +kernel
theorem dX2_setsOfTotals_49 : decode cX2_setsOfTotals 49 = .ok (.goto (-38), 3) := by decide +kernel
theorem dX2_setsOfTotals_52 : decode cX2_setsOfTotals 52 = .ok (.iload 4, 2) := by decide +kernel
theorem dX2_setsOfTotals_54 : decode cX2_setsOfTotals 54 = .ok (.ireturn, 1) := by decide +kernel
theorem dX2_hasTotals_0 : decode cX2_hasTotals 0 = .ok (.iconst 0, 1) := by decide +kernel
theorem dX2_hasTotals_1 : decode cX2_hasTotals 1 = .ok (.istore_n 3, 1) := by decide +kernel
theorem dX2_hasTotals_2 : decode cX2_hasTotals 2 = .ok (.iload_n 3, 1) := by decide +kernel
theorem dX2_hasTotals_3 : decode cX2_hasTotals 3 = .ok (.iconst 4, 1) := by decide +kernel
theorem dX2_hasTotals_4 : decode cX2_hasTotals 4 = .ok (.if_icmp .ge 29, 3) := by decide +kernel
theorem dX2_hasTotals_7 : decode cX2_hasTotals 7 = .ok (.iload_n 3, 1) := by decide +kernel
theorem dX2_hasTotals_8 : decode cX2_hasTotals 8 = .ok (.aload_n 2, 1) := by decide +kernel
theorem dX2_hasTotals_9 : decode cX2_hasTotals 9 = .ok (.arraylength, 1) := by decide +kernel
theorem dX2_hasTotals_10 : decode cX2_hasTotals 10 = .ok (.if_icmp .ge 23, 3) := by decide +kernel
theorem dX2_hasTotals_13 : decode cX2_hasTotals 13 = .ok (.aload_n 0, 1) := by decide +kernel
theorem dX2_hasTotals_14 : decode cX2_hasTotals 14 = .ok (.iload_n 1, 1) := by decide +kernel
theorem dX2_hasTotals_15 : decode cX2_hasTotals 15 = .ok (.iload_n 3, 1) := by decide +kernel
theorem dX2_hasTotals_16 : decode cX2_hasTotals 16 = .ok (.invokevirtual 176, 3) := by decide +kernel
theorem dX2_hasTotals_19 : decode cX2_hasTotals 19 = .ok (.aload_n 2, 1) := by decide +kernel
theorem dX2_hasTotals_20 : decode cX2_hasTotals 20 = .ok (.iload_n 3, 1) := by decide +kernel
theorem dX2_hasTotals_21 : decode cX2_hasTotals 21 = .ok (.iaload, 1) := by decide +kernel
theorem dX2_hasTotals_22 : decode cX2_hasTotals 22 = .ok (.if_icmp .eq 5, 3) := by decide +kernel
theorem dX2_hasTotals_25 : decode cX2_hasTotals 25 = .ok (.iconst 0, 1) := by decide +kernel
theorem dX2_hasTotals_26 : decode cX2_hasTotals 26 = .ok (.ireturn, 1) := by decide +kernel
theorem dX2_hasTotals_27 : decode cX2_hasTotals 27 = .ok (.iinc 3 1, 3) := by decide +kernel
theorem dX2_hasTotals_30 : decode cX2_hasTotals 30 = .ok (.goto (-28), 3) := by decide +kernel
theorem dX2_hasTotals_33 : decode cX2_hasTotals 33 = .ok (.iconst 1, 1) := by decide +kernel
theorem dX2_hasTotals_34 : decode cX2_hasTotals 34 = .ok (.ireturn, 1) := by decide +kernel
theorem dX3_init_0 : decode cX3_init 0 = .ok (.aload_n 0, 1) := by decide +kernel
theorem dX3_init_1 : decode cX3_init 1 = .ok (.invokespecial 3, 3) := by decide +kernel
theorem dX3_init_4 : decode cX3_init 4 = .ok (.aload_n 0, 1) := by decide +kernel
theorem dX3_init_5 : decode cX3_init 5 = .ok (.iconst 0, 1) := by decide +kernel
theorem dX3_init_6 : decode cX3_init 6 = .ok (.putfield 9, 3) := by decide +kernel
theorem dX3_init_9 : decode cX3_init 9 = .ok (.aload_n 0, 1) := by decide +kernel
theorem dX3_init_10 : decode cX3_init 10 = .ok (.bipush 50, 2) := by decide +kernel
theorem dX3_init_12 : decode cX3_init 12 = .ok (.newarray .int, 2) := by decide +kernel
theorem dX3_init_14 : decode cX3_init 14 = .ok (.putfield 15, 3) := by decide +kernel
theorem dX3_init_17 : decode cX3_init 17 = .ok (.aload_n 0, 1) := by decide +kernel
theorem dX3_init_18 : decode cX3_init 18 = .ok (.iconst 0, 1) := by decide +kernel
theorem dX3_init_19 : decode cX3_init 19 = .ok (.putfield 19, 3) := by decide +kernel
theorem dX3_init_22 : decode cX3_init 22 = .ok (.aload_n 0, 1) := by decide +kernel
theorem dX3_init_23 : decode cX3_init 23 = .ok (.bipush 50, 2) := by decide +kernel
theorem dX3_init_25 : decode cX3_init 25 = .ok (.newarray .int, 2) := by decide +kernel
theorem dX3_init_27 : decode cX3_init 27 = .ok (.putfield 23, 3) := by decide +kernel
theorem dX3_init_30 : decode cX3_init 30 = .ok (.return_, 1) := by decide +kernel
theorem dX3_takeFrom_0 : decode cX3_takeFrom 0 = .ok (.aload_n 0, 1) := by decide +kernel
theorem dX3_takeFrom_1 : decode cX3_takeFrom 1 = .ok (.aload_n 1, 1) := by decide +kernel
theorem dX3_takeFrom_2 : decode cX3_takeFrom 2 = .ok (.getfield 9, 3) := by decide +kernel
theorem dX3_takeFrom_5 : decode cX3_takeFrom 5 = .ok (.putfield 9, 3) := by decide +kernel
theorem dX3_takeFrom_8 : decode cX3_takeFrom 8 = .ok (.aload_n 0, 1) := by decide +kernel
theorem dX3_takeFrom_9 : decode cX3_takeFrom 9 = .ok (.aload_n 1, 1) := by decide +kernel
theorem dX3_takeFrom_10 : decode cX3_takeFrom 10 = .ok (.getfield 19, 3) := by decide +kernel
theorem dX3_takeFrom_13 : decode cX3_takeFrom 13 = .ok (.putfield 19, 3) := by decide +kernel
theorem dX3_takeFrom_16 : decode cX3_takeFrom 16 = .ok (.aload_n 1, 1) := by decide +kernel
theorem dX3_takeFrom_17 : decode cX3_takeFrom 17 = .ok (.getfield 15, 3) := by decide +kernel
theorem dX3_takeFrom_20 : decode cX3_takeFrom 20 = .ok (.iconst 0, 1) := by decide +kernel
theorem dX3_takeFrom_21 : decode cX3_takeFrom 21 = .ok (.aload_n 0, 1) := by decide +kernel
theorem dX3_takeFrom_22 : decode cX3_takeFrom 22 = .ok (.getfield 15, 3) := by decide +kernel
theorem dX3_takeFrom_25 : decode cX3_takeFrom 25 = .ok (.iconst 0, 1) := by decide +kernel
theorem dX3_takeFrom_26 : decode cX3_takeFrom 26 = .ok (.bipush 50, 2) := by decide +kernel
theorem dX3_takeFrom_28 : decode cX3_takeFrom 28 = .ok (.invokestatic 26, 3) := by decide +kernel
theorem dX3_takeFrom_31 : decode cX3_takeFrom 31 = .ok (.return_, 1) := by decide +kernel
theorem dX3_empty_0 : decode cX3_empty 0 = .ok (.aload_n 0, 1) := by decide +kernel
theorem dX3_empty_1 : decode cX3_empty 1 = .ok (.iconst 0, 1) := by decide +kernel
theorem dX3_empty_2 : decode cX3_empty 2 = .ok (.putfield 9, 3) := by decide +kernel
theorem dX3_empty_5 : decode cX3_empty 5 = .ok (.aload_n 0, 1) := by decide +kernel
theorem dX3_empty_6 : decode cX3_empty 6 = .ok (.iconst 0, 1) := by decide +kernel
theorem dX3_empty_7 : decode cX3_empty 7 = .ok (.putfield 19, 3) := by decide +kernel
theorem dX3_empty_10 : decode cX3_empty 10 = .ok (.return_, 1) := by decide +kernel
theorem dX3_add_0 : decode cX3_add 0 = .ok (.aload_n 0, 1) := by decide +kernel
theorem dX3_add_1 : decode cX3_add 1 = .ok (.getfield 19, 3) := by decide +kernel
theorem dX3_add_4 : decode cX3_add 4 = .ok (.aload_n 0, 1) := by decide +kernel
theorem dX3_add_5 : decode cX3_add 5 = .ok (.getfield 15, 3) := by decide +kernel
theorem dX3_add_8 : decode cX3_add 8 = .ok (.arraylength, 1) := by decide +kernel
theorem dX3_add_9 : decode cX3_add 9 = .ok (.if_icmp .ge 23, 3) := by decide +kernel
theorem dX3_add_12 : decode cX3_add 12 = .ok (.aload_n 0, 1) := by decide +kernel
theorem dX3_add_13 : decode cX3_add 13 = .ok (.getfield 15, 3) := by decide +kernel
theorem dX3_add_16 : decode cX3_add 16 = .ok (.aload_n 0, 1) := by decide +kernel
theorem dX3_add_17 : decode cX3_add 17 = .ok (.getfield 19, 3) := by decide +kernel
theorem dX3_add_20 : decode cX3_add 20 = .ok (.iload_n 1, 1) := by decide +kernel
theorem dX3_add_21 : decode cX3_add 21 = .ok (.iastore, 1) := by decide +kernel
theorem dX3_add_22 : decode cX3_add 22 = .ok (.aload_n 0, 1) := by decide +kernel
theorem dX3_add_23 : decode cX3_add 23 = .ok (.dup, 1) := by decide +kernel
theorem dX3_add_24 : decode cX3_add 24 = .ok (.getfield 19, 3) := by decide +kernel
theorem dX3_add_27 : decode cX3_add 27 = .ok (.iconst 1, 1) := by decide +kernel
theorem dX3_add_28 : decode cX3_add 28 = .ok (.iadd, 1) := by decide +kernel
theorem dX3_add_29 : decode cX3_add 29 = .ok (.putfield 19, 3) := by decide +kernel
theorem dX3_add_32 : decode cX3_add 32 = .ok (.return_, 1) := by decide +kernel
theorem dX3_workOut_0 : decode cX3_workOut 0 = .ok (.iconst 0, 1) := by decide +kernel
theorem dX3_workOut_1 : decode cX3_workOut 1 = .ok (.istore 4, 2) := by decide +kernel
theorem dX3_workOut_3 : decode cX3_workOut 3 = .ok (.iconst 0, 1) := by decide +kernel
theorem dX3_workOut_4 : decode cX3_workOut 4 = .ok (.istore 5, 2) := by decide +kernel
theorem dX3_workOut_6 : decode cX3_workOut 6 = .ok (.iload 5, 2) := by decide +kernel
theorem dX3_workOut_8 : decode cX3_workOut 8 = .ok (.aload_n 0, 1) := by decide +kernel
theorem dX3_workOut_9 : decode cX3_workOut 9 = .ok (.getfield 19, 3) := by decide +kernel
theorem dX3_workOut_12 : decode cX3_workOut 12 = .ok (.if_icmp .ge 144, 3) := by decide +kernel
theorem dX3_workOut_15 : decode cX3_workOut 15 = .ok (.aload_n 0, 1) := by decide +kernel
theorem dX3_workOut_16 : decode cX3_workOut 16 = .ok (.getfield 15, 3) := by decide +kernel
theorem dX3_workOut_19 : decode cX3_workOut 19 = .ok (.iload 5, 2) := by decide +kernel
theorem dX3_workOut_21 : decode cX3_workOut 21 = .ok (.iaload, 1) := by decide +kernel
theorem dX3_workOut_22 : decode cX3_workOut 22 = .ok (.istore 6, 2) := by decide +kernel
theorem dX3_workOut_24 : decode cX3_workOut 24 = .ok (.iload 6, 2) := by decide +kernel
theorem dX3_workOut_26 : decode cX3_workOut 26 = .ok (.bipush (-3), 2) := by decide +kernel
theorem dX3_workOut_28 : decode cX3_workOut 28 = .ok (.if_icmp .lt 36, 3) := by decide +kernel
theorem dX3_workOut_31 : decode cX3_workOut 31 = .ok (.iload 4, 2) := by decide +kernel
theorem dX3_workOut_33 : decode cX3_workOut 33 = .ok (.aload_n 0, 1) := by decide +kernel
theorem dX3_workOut_34 : decode cX3_workOut 34 = .ok (.getfield 23, 3) := by decide +kernel
theorem dX3_workOut_37 : decode cX3_workOut 37 = .ok (.arraylength, 1) := by decide +kernel
theorem dX3_workOut_38 : decode cX3_workOut 38 = .ok (.if_icmp .lt 5, 3) := by decide +kernel
theorem dX3_workOut_41 : decode cX3_workOut 41 = .ok (.iconst 0, 1) := by decide +kernel
theorem dX3_workOut_42 : decode cX3_workOut 42 = .ok (.ireturn, 1) := by decide +kernel
theorem dX3_workOut_43 : decode cX3_workOut 43 = .ok (.aload_n 0, 1) := by decide +kernel
theorem dX3_workOut_44 : decode cX3_workOut 44 = .ok (.getfield 23, 3) := by decide +kernel
theorem dX3_workOut_47 : decode cX3_workOut 47 = .ok (.iload 4, 2) := by decide +kernel
theorem dX3_workOut_49 : decode cX3_workOut 49 = .ok (.iload 6, 2) := by decide +kernel
theorem dX3_workOut_51 : decode cX3_workOut 51 = .ok (.iload_n 1, 1) := by decide +kernel
theorem dX3_workOut_52 : decode cX3_workOut 52 = .ok (.iload_n 2, 1) := by decide +kernel
theorem dX3_workOut_53 : decode cX3_workOut 53 = .ok (.iload_n 3, 1) := by decide +kernel
theorem dX3_workOut_54 : decode cX3_workOut 54 = .ok (.invokestatic 32, 3) := by decide +kernel
theorem dX3_workOut_57 : decode cX3_workOut 57 = .ok (.iastore, 1) := by decide +kernel
theorem dX3_workOut_58 : decode cX3_workOut 58 = .ok (.iinc 4 1, 3) := by decide +kernel
theorem dX3_workOut_61 : decode cX3_workOut 61 = .ok (.goto 89, 3) := by decide +kernel
theorem dX3_workOut_64 : decode cX3_workOut 64 = .ok (.iload 6, 2) := by decide +kernel
theorem dX3_workOut_66 : decode cX3_workOut 66 = .ok (.bipush (-33), 2) := by decide +kernel
theorem dX3_workOut_68 : decode cX3_workOut 68 = .ok (.if_icmp .ne 40, 3) := by decide +kernel
theorem dX3_workOut_71 : decode cX3_workOut 71 = .ok (.iload 4, 2) := by decide +kernel
theorem dX3_workOut_73 : decode cX3_workOut 73 = .ok (.iconst 1, 1) := by decide +kernel
theorem dX3_workOut_74 : decode cX3_workOut 74 = .ok (.if_icmp .ge 5, 3) := by decide +kernel
theorem dX3_workOut_77 : decode cX3_workOut 77 = .ok (.iconst 0, 1) := by decide +kernel
theorem dX3_workOut_78 : decode cX3_workOut 78 = .ok (.ireturn, 1) := by decide +kernel
theorem dX3_workOut_79 : decode cX3_workOut 79 = .ok (.aload_n 0, 1) := by decide +kernel
theorem dX3_workOut_80 : decode cX3_workOut 80 = .ok (.getfield 23, 3) := by decide +kernel
theorem dX3_workOut_83 : decode cX3_workOut 83 = .ok (.iload 4, 2) := by decide +kernel
theorem dX3_workOut_85 : decode cX3_workOut 85 = .ok (.iconst 1, 1) := by decide +kernel
theorem dX3_workOut_86 : decode cX3_workOut 86 = .ok (.isub, 1) := by decide +kernel
theorem dX3_workOut_87 : decode cX3_workOut 87 = .ok (.aload_n 0, 1) := by decide +kernel
theorem dX3_workOut_88 : decode cX3_workOut 88 = .ok (.getfield 23, 3) := by decide +kernel
theorem dX3_workOut_91 : decode cX3_workOut 91 = .ok (.iload 4, 2) := by decide +kernel
theorem dX3_workOut_93 : decode cX3_workOut 93 = .ok (.iconst 1, 1) := by decide +kernel
theorem dX3_workOut_94 : decode cX3_workOut 94 = .ok (.isub, 1) := by decide +kernel
theorem dX3_workOut_95 : decode cX3_workOut 95 = .ok (.iaload, 1) := by decide +kernel
theorem dX3_workOut_96 : decode cX3_workOut 96 = .ok (.ifCond .ne 7, 3) := by decide +kernel
theorem dX3_workOut_99 : decode cX3_workOut 99 = .ok (.iconst 1, 1) := by decide +kernel
theorem dX3_workOut_100 : decode cX3_workOut 100 = .ok (.goto 4, 3) := by decide +kernel
theorem dX3_workOut_103 : decode cX3_workOut 103 = .ok (.iconst 0, 1) := by decide +kernel
theorem dX3_workOut_104 : decode cX3_workOut 104 = .ok (.iastore, 1) := by decide +kernel
theorem dX3_workOut_105 : decode cX3_workOut 105 = .ok (.goto 45, 3) := by decide +kernel
theorem dX3_workOut_108 : decode cX3_workOut 108 = .ok (.iload 4, 2) := by decide +kernel
theorem dX3_workOut_110 : decode cX3_workOut 110 = .ok (.iconst 2, 1) := by decide +kernel
theorem dX3_workOut_111 : decode cX3_workOut 111 = .ok (.if_icmp .ge 5, 3) := by decide +kernel
theorem dX3_workOut_114 : decode cX3_workOut 114 = .ok (.iconst 0, 1) := by decide +kernel
theorem dX3_workOut_115 : decode cX3_workOut 115 = .ok (.ireturn, 1) := by decide +kernel
theorem dX3_workOut_116 : decode cX3_workOut 116 = .ok (.iinc 4 (-1), 3) := by decide +kernel
theorem dX3_workOut_119 : decode cX3_workOut 119 = .ok (.aload_n 0, 1) := by decide +kernel
theorem dX3_workOut_120 : decode cX3_workOut 120 = .ok (.getfield 23, 3) := by decide +kernel
theorem dX3_workOut_123 : decode cX3_workOut 123 = .ok (.iload 4, 2) := by decide +kernel
theorem dX3_workOut_125 : decode cX3_workOut 125 = .ok (.iconst 1, 1) := by decide +kernel
theorem dX3_workOut_126 : decode cX3_workOut 126 = .ok (.isub, 1) := by decide +kernel
theorem dX3_workOut_127 : decode cX3_workOut 127 = .ok (.iload 6, 2) := by decide +kernel
theorem dX3_workOut_129 : decode cX3_workOut 129 = .ok (.ineg, 1) := by decide +kernel
theorem dX3_workOut_130 : decode cX3_workOut 130 = .ok (.aload_n 0, 1) := by decide +kernel
theorem dX3_workOut_131 : decode cX3_workOut 131 = .ok (.getfield 23, 3) := by decide +kernel
theorem dX3_workOut_134 : decode cX3_workOut 134 = .ok (.iload 4, 2) := by decide +kernel
theorem dX3_workOut_136 : decode cX3_workOut 136 = .ok (.iconst 1, 1) := by decide +kernel
theorem dX3_workOut_137 : decode cX3_workOut 137 = .ok (.isub, 1) := by decide +kernel
theorem dX3_workOut_138 : decode cX3_workOut 138 = .ok (.iaload, 1) := by decide +kernel
theorem dX3_workOut_139 : decode cX3_workOut 139 = .ok (.aload_n 0, 1) := by decide +kernel
theorem dX3_workOut_140 : decode cX3_workOut 140 = .ok (.getfield 23, 3) := by decide +kernel
theorem dX3_workOut_143 : decode cX3_workOut 143 = .ok (.iload 4, 2) := by decide +kernel
theorem dX3_workOut_145 : decode cX3_workOut 145 = .ok (.iaload, 1) := by decide +kernel
theorem dX3_workOut_146 : decode cX3_workOut 146 = .ok (.invokestatic 36, 3) := by decide +kernel
theorem dX3_workOut_149 : decode cX3_workOut 149 = .ok (.iastore, 1) := by decide +kernel
theorem dX3_workOut_150 : decode cX3_workOut 150 = .ok (.iinc 5 1, 3) := by decide +kernel
theorem dX3_workOut_153 : decode cX3_workOut 153 = .ok (.goto (-147), 3) := by decide +kernel
theorem dX3_workOut_156 : decode cX3_workOut 156 = .ok (.aload_n 0, 1) := by decide +kernel
theorem dX3_workOut_157 : decode cX3_workOut 157 = .ok (.getfield 23, 3) := by decide +kernel
theorem dX3_workOut_160 : decode cX3_workOut 160 = .ok (.iconst 0, 1) := by decide +kernel
theorem dX3_workOut_161 : decode cX3_workOut 161 = .ok (.iaload, 1) := by decide +kernel
theorem dX3_workOut_162 : decode cX3_workOut 162 = .ok (.ireturn, 1) := by decide +kernel
theorem dX3_valueOf_0 : decode cX3_valueOf 0 = .ok (.iload_n 0, 1) := by decide +kernel
theorem dX3_valueOf_1 : decode cX3_valueOf 1 = .ok (.tableswitch 33 (-3) (-1) #[31, 29, 27], 27) := by decide +kernel
theorem dX3_valueOf_28 : decode cX3_valueOf 28 = .ok (.iload_n 1, 1) := by decide +kernel
theorem dX3_valueOf_29 : decode cX3_valueOf 29 = .ok (.ireturn, 1) := by decide +kernel
theorem dX3_valueOf_30 : decode cX3_valueOf 30 = .ok (.iload_n 2, 1) := by decide +kernel
theorem dX3_valueOf_31 : decode cX3_valueOf 31 = .ok (.ireturn, 1) := by decide +kernel
theorem dX3_valueOf_32 : decode cX3_valueOf 32 = .ok (.iload_n 3, 1) := by decide +kernel
theorem dX3_valueOf_33 : decode cX3_valueOf 33 = .ok (.ireturn, 1) := by decide +kernel
theorem dX3_valueOf_34 : decode cX3_valueOf 34 = .ok (.iload_n 0, 1) := by decide +kernel
theorem dX3_valueOf_35 : decode cX3_valueOf 35 = .ok (.ireturn, 1) := by decide +kernel
theorem dX3_workOutSign_0 : decode cX3_workOutSign 0 = .ok (.iload_n 0, 1) := by decide +kernel
theorem dX3_workOutSign_1 : decode cX3_workOutSign 1 = .ok (.lookupswitch 188 #[(37, 176), (38, 105), (42, 160), (43, 152), (45, 156), (47, 164), (60, 119), (61, 130), (62, 141), (124, 91)], 91) := by decide +kernel
theorem dX3_workOutSign_92 : decode cX3_workOutSign 92 = .ok (.iload_n 1, 1) := by decide +kernel
theorem dX3_workOutSign_93 : decode cX3_workOutSign 93 = .ok (.ifCond .ne 7, 3) := by decide +kernel
theorem dX3_workOutSign_96 : decode cX3_workOutSign 96 = .ok (.iload_n 2, 1) := by decide +kernel
theorem dX3_workOutSign_97 : decode cX3_workOutSign 97 = .ok (.ifCond .eq 7, 3) := by decide +kernel
theorem dX3_workOutSign_100 : decode cX3_workOutSign 100 = .ok (.iconst 1, 1) := by decide +kernel
theorem dX3_workOutSign_101 : decode cX3_workOutSign 101 = .ok (.goto 4, 3) := by decide +kernel
theorem dX3_workOutSign_104 : decode cX3_workOutSign 104 = .ok (.iconst 0, 1) := by decide +kernel
theorem dX3_workOutSign_105 : decode cX3_workOutSign 105 = .ok (.ireturn, 1) := by decide +kernel
theorem dX3_workOutSign_106 : decode cX3_workOutSign 106 = .ok (.iload_n 1, 1) := by decide +kernel
theorem dX3_workOutSign_107 : decode cX3_workOutSign 107 = .ok (.ifCond .eq 11, 3) := by decide +kernel
theorem dX3_workOutSign_110 : decode cX3_workOutSign 110 = .ok (.iload_n 2, 1) := by decide +kernel
theorem dX3_workOutSign_111 : decode cX3_workOutSign 111 = .ok (.ifCond .eq 7, 3) := by decide +kernel
theorem dX3_workOutSign_114 : decode cX3_workOutSign 114 = .ok (.iconst 1, 1) := by decide +kernel
theorem dX3_workOutSign_115 : decode cX3_workOutSign 115 = .ok (.goto 4, 3) := by decide +kernel
theorem dX3_workOutSign_118 : decode cX3_workOutSign 118 = .ok (.iconst 0, 1) := by decide +kernel
theorem dX3_workOutSign_119 : decode cX3_workOutSign 119 = .ok (.ireturn, 1) := by decide +kernel
theorem dX3_workOutSign_120 : decode cX3_workOutSign 120 = .ok (.iload_n 1, 1) := by decide +kernel
theorem dX3_workOutSign_121 : decode cX3_workOutSign 121 = .ok (.iload_n 2, 1) := by decide +kernel
theorem dX3_workOutSign_122 : decode cX3_workOutSign 122 = .ok (.if_icmp .ge 7, 3) := by decide +kernel
theorem dX3_workOutSign_125 : decode cX3_workOutSign 125 = .ok (.iconst 1, 1) := by decide +kernel
theorem dX3_workOutSign_126 : decode cX3_workOutSign 126 = .ok (.goto 4, 3) := by decide +kernel
theorem dX3_workOutSign_129 : decode cX3_workOutSign 129 = .ok (.iconst 0, 1) := by decide +kernel
theorem dX3_workOutSign_130 : decode cX3_workOutSign 130 = .ok (.ireturn, 1) := by decide +kernel
theorem dX3_workOutSign_131 : decode cX3_workOutSign 131 = .ok (.iload_n 1, 1) := by decide +kernel
theorem dX3_workOutSign_132 : decode cX3_workOutSign 132 = .ok (.iload_n 2, 1) := by decide +kernel
theorem dX3_workOutSign_133 : decode cX3_workOutSign 133 = .ok (.if_icmp .ne 7, 3) := by decide +kernel
theorem dX3_workOutSign_136 : decode cX3_workOutSign 136 = .ok (.iconst 1, 1) := by decide +kernel
theorem dX3_workOutSign_137 : decode cX3_workOutSign 137 = .ok (.goto 4, 3) := by decide +kernel
theorem dX3_workOutSign_140 : decode cX3_workOutSign 140 = .ok (.iconst 0, 1) := by decide +kernel
theorem dX3_workOutSign_141 : decode cX3_workOutSign 141 = .ok (.ireturn, 1) := by decide +kernel
theorem dX3_workOutSign_142 : decode cX3_workOutSign 142 = .ok (.iload_n 1, 1) := by decide +kernel
theorem dX3_workOutSign_143 : decode cX3_workOutSign 143 = .ok (.iload_n 2, 1) := by decide +kernel
theorem dX3_workOutSign_144 : decode cX3_workOutSign 144 = .ok (.if_icmp .le 7, 3) := by decide +kernel
theorem dX3_workOutSign_147 : decode cX3_workOutSign 147 = .ok (.iconst 1, 1) := by decide +kernel
theorem dX3_workOutSign_148 : decode cX3_workOutSign 148 = .ok (.goto 4, 3) := by decide +kernel
theorem dX3_workOutSign_151 : decode cX3_workOutSign 151 = .ok (.iconst 0, 1) := by decide +kernel
theorem dX3_workOutSign_152 : decode cX3_workOutSign 152 = .ok (.ireturn, 1) := by decide +kernel
theorem dX3_workOutSign_153 : decode cX3_workOutSign 153 = .ok (.iload_n 1, 1) := by decide +kernel
theorem dX3_workOutSign_154 : decode cX3_workOutSign 154 = .ok (.iload_n 2, 1) := by decide +kernel
theorem dX3_workOutSign_155 : decode cX3_workOutSign 155 = .ok (.iadd, 1) := by decide +kernel
theorem dX3_workOutSign_156 : decode cX3_workOutSign 156 = .ok (.ireturn, 1) := by decide +kernel
theorem dX3_workOutSign_157 : decode cX3_workOutSign 157 = .ok (.iload_n 1, 1) := by decide +kernel
theorem dX3_workOutSign_158 : decode cX3_workOutSign 158 = .ok (.iload_n 2, 1) := by decide +kernel
theorem dX3_workOutSign_159 : decode cX3_workOutSign 159 = .ok (.isub, 1) := by decide +kernel
theorem dX3_workOutSign_160 : decode cX3_workOutSign 160 = .ok (.ireturn, 1) := by decide +kernel
theorem dX3_workOutSign_161 : decode cX3_workOutSign 161 = .ok (.iload_n 1, 1) := by decide +kernel
theorem dX3_workOutSign_162 : decode cX3_workOutSign 162 = .ok (.iload_n 2, 1) := by decide +kernel
theorem dX3_workOutSign_163 : decode cX3_workOutSign 163 = .ok (.imul, 1) := by decide +kernel
theorem dX3_workOutSign_164 : decode cX3_workOutSign 164 = .ok (.ireturn, 1) := by decide +kernel
theorem dX3_workOutSign_165 : decode cX3_workOutSign 165 = .ok (.iload_n 2, 1) := by decide +kernel
theorem dX3_workOutSign_166 : decode cX3_workOutSign 166 = .ok (.ifCond .ne 7, 3) := by decide +kernel
theorem dX3_workOutSign_169 : decode cX3_workOutSign 169 = .ok (.iconst 0, 1) := by decide +kernel
theorem dX3_workOutSign_170 : decode cX3_workOutSign 170 = .ok (.goto 6, 3) := by decide +kernel
theorem dX3_workOutSign_173 : decode cX3_workOutSign 173 = .ok (.iload_n 1, 1) := by decide +kernel
theorem dX3_workOutSign_174 : decode cX3_workOutSign 174 = .ok (.iload_n 2, 1) := by decide +kernel
theorem dX3_workOutSign_175 : decode cX3_workOutSign 175 = .ok (.idiv, 1) := by decide +kernel
theorem dX3_workOutSign_176 : decode cX3_workOutSign 176 = .ok (.ireturn, 1) := by decide +kernel
theorem dX3_workOutSign_177 : decode cX3_workOutSign 177 = .ok (.iload_n 2, 1) := by decide +kernel
theorem dX3_workOutSign_178 : decode cX3_workOutSign 178 = .ok (.ifCond .ne 7, 3) := by decide +kernel
theorem dX3_workOutSign_181 : decode cX3_workOutSign 181 = .ok (.iconst 0, 1) := by decide +kernel
theorem dX3_workOutSign_182 : decode cX3_workOutSign 182 = .ok (.goto 6, 3) := by decide +kernel
theorem dX3_workOutSign_185 : decode cX3_workOutSign 185 = .ok (.iload_n 1, 1) := by decide +kernel
theorem dX3_workOutSign_186 : decode cX3_workOutSign 186 = .ok (.iload_n 2, 1) := by decide +kernel
theorem dX3_workOutSign_187 : decode cX3_workOutSign 187 = .ok (.irem, 1) := by decide +kernel
theorem dX3_workOutSign_188 : decode cX3_workOutSign 188 = .ok (.ireturn, 1) := by decide +kernel
theorem dX3_workOutSign_189 : decode cX3_workOutSign 189 = .ok (.iconst 0, 1) := by decide +kernel
theorem dX3_workOutSign_190 : decode cX3_workOutSign 190 = .ok (.ireturn, 1) := by decide +kernel
theorem dX4_init_0 : decode cX4_init 0 = .ok (.aload_n 0, 1) := by decide +kernel
theorem dX4_init_1 : decode cX4_init 1 = .ok (.invokespecial 3, 3) := by decide +kernel
theorem dX4_init_4 : decode cX4_init 4 = .ok (.aload_n 0, 1) := by decide +kernel
theorem dX4_init_5 : decode cX4_init 5 = .ok (.new 9, 3) := by decide +kernel
theorem dX4_init_8 : decode cX4_init 8 = .ok (.dup, 1) := by decide +kernel
theorem dX4_init_9 : decode cX4_init 9 = .ok (.invokespecial 11, 3) := by decide +kernel
theorem dX4_init_12 : decode cX4_init 12 = .ok (.putfield 12, 3) := by decide +kernel
theorem dX4_init_15 : decode cX4_init 15 = .ok (.aload_n 0, 1) := by decide +kernel
theorem dX4_init_16 : decode cX4_init 16 = .ok (.iconst 0, 1) := by decide +kernel
theorem dX4_init_17 : decode cX4_init 17 = .ok (.newarray .int, 2) := by decide +kernel
theorem dX4_init_19 : decode cX4_init 19 = .ok (.putfield 18, 3) := by decide +kernel
theorem dX4_init_22 : decode cX4_init 22 = .ok (.aload_n 0, 1) := by decide +kernel
theorem dX4_init_23 : decode cX4_init 23 = .ok (.iconst 0, 1) := by decide +kernel
theorem dX4_init_24 : decode cX4_init 24 = .ok (.putfield 22, 3) := by decide +kernel
theorem dX4_init_27 : decode cX4_init 27 = .ok (.aload_n 0, 1) := by decide +kernel
theorem dX4_init_28 : decode cX4_init 28 = .ok (.ldc 26, 2) := by decide +kernel
theorem dX4_init_30 : decode cX4_init 30 = .ok (.putfield 28, 3) := by decide +kernel
theorem dX4_init_33 : decode cX4_init 33 = .ok (.aload_n 0, 1) := by decide +kernel
theorem dX4_init_34 : decode cX4_init 34 = .ok (.iconst 0, 1) := by decide +kernel
theorem dX4_init_35 : decode cX4_init 35 = .ok (.putfield 32, 3) := by decide +kernel
theorem dX4_init_38 : decode cX4_init 38 = .ok (.aload_n 0, 1) := by decide +kernel
theorem dX4_init_39 : decode cX4_init 39 = .ok (.iconst (-1), 1) := by decide +kernel
theorem dX4_init_40 : decode cX4_init 40 = .ok (.putfield 35, 3) := by decide +kernel
theorem dX4_init_43 : decode cX4_init 43 = .ok (.return_, 1) := by decide +kernel
theorem dX4_read_0 : decode cX4_read 0 = .ok (.aload_n 0, 1) := by decide +kernel
theorem dX4_read_1 : decode cX4_read 1 = .ok (.aload_n 1, 1) := by decide +kernel
theorem dX4_read_2 : decode cX4_read 2 = .ok (.putfield 18, 3) := by decide +kernel
theorem dX4_read_5 : decode cX4_read 5 = .ok (.aload_n 0, 1) := by decide +kernel
theorem dX4_read_6 : decode cX4_read 6 = .ok (.iload_n 2, 1) := by decide +kernel
theorem dX4_read_7 : decode cX4_read 7 = .ok (.aload_n 1, 1) := by decide +kernel
theorem dX4_read_8 : decode cX4_read 8 = .ok (.arraylength, 1) := by decide +kernel
theorem dX4_read_9 : decode cX4_read 9 = .ok (.invokestatic 38, 3) := by decide +kernel
theorem dX4_read_12 : decode cX4_read 12 = .ok (.putfield 22, 3) := by decide +kernel
theorem dX4_read_15 : decode cX4_read 15 = .ok (.aload_n 0, 1) := by decide +kernel
theorem dX4_read_16 : decode cX4_read 16 = .ok (.iload_n 3, 1) := by decide +kernel
theorem dX4_read_17 : decode cX4_read 17 = .ok (.ifCond .ne 8, 3) := by decide +kernel
theorem dX4_read_20 : decode cX4_read 20 = .ok (.ldc 44, 2) := by decide +kernel
theorem dX4_read_22 : decode cX4_read 22 = .ok (.goto 5, 3) := by decide +kernel
theorem dX4_read_25 : decode cX4_read 25 = .ok (.ldc 46, 2) := by decide +kernel
theorem dX4_read_27 : decode cX4_read 27 = .ok (.putfield 28, 3) := by decide +kernel
theorem dX4_read_30 : decode cX4_read 30 = .ok (.aload_n 0, 1) := by decide +kernel
theorem dX4_read_31 : decode cX4_read 31 = .ok (.iconst 0, 1) := by decide +kernel
theorem dX4_read_32 : decode cX4_read 32 = .ok (.putfield 32, 3) := by decide +kernel
theorem dX4_read_35 : decode cX4_read 35 = .ok (.aload_n 0, 1) := by decide +kernel
theorem dX4_read_36 : decode cX4_read 36 = .ok (.iconst (-1), 1) := by decide +kernel
theorem dX4_read_37 : decode cX4_read 37 = .ok (.putfield 35, 3) := by decide +kernel
theorem dX4_read_40 : decode cX4_read 40 = .ok (.aload_n 0, 1) := by decide +kernel
theorem dX4_read_41 : decode cX4_read 41 = .ok (.getfield 12, 3) := by decide +kernel
theorem dX4_read_44 : decode cX4_read 44 = .ok (.invokevirtual 48, 3) := by decide +kernel
theorem dX4_read_47 : decode cX4_read 47 = .ok (.aload_n 0, 1) := by decide +kernel
theorem dX4_read_48 : decode cX4_read 48 = .ok (.iconst 0, 1) := by decide +kernel
theorem dX4_read_49 : decode cX4_read 49 = .ok (.invokevirtual 51, 3) := by decide +kernel
theorem dX4_read_52 : decode cX4_read 52 = .ok (.aload_n 0, 1) := by decide +kernel
theorem dX4_read_53 : decode cX4_read 53 = .ok (.getfield 32, 3) := by decide +kernel
theorem dX4_read_56 : decode cX4_read 56 = .ok (.aload_n 0, 1) := by decide +kernel
theorem dX4_read_57 : decode cX4_read 57 = .ok (.getfield 22, 3) := by decide +kernel
theorem dX4_read_60 : decode cX4_read 60 = .ok (.if_icmp .ge 7, 3) := by decide +kernel
theorem dX4_read_63 : decode cX4_read 63 = .ok (.aload_n 0, 1) := by decide +kernel
theorem dX4_read_64 : decode cX4_read 64 = .ok (.invokevirtual 55, 3) := by decide +kernel
theorem dX4_read_67 : decode cX4_read 67 = .ok (.aload_n 0, 1) := by decide +kernel
theorem dX4_read_68 : decode cX4_read 68 = .ok (.getfield 12, 3) := by decide +kernel
theorem dX4_read_71 : decode cX4_read 71 = .ok (.aload_n 0, 1) := by decide +kernel
theorem dX4_read_72 : decode cX4_read 72 = .ok (.getfield 35, 3) := by decide +kernel
theorem dX4_read_75 : decode cX4_read 75 = .ok (.ifCond .ge 7, 3) := by decide +kernel
theorem dX4_read_78 : decode cX4_read 78 = .ok (.iconst 1, 1) := by decide +kernel
theorem dX4_read_79 : decode cX4_read 79 = .ok (.goto 4, 3) := by decide +kernel
theorem dX4_read_82 : decode cX4_read 82 = .ok (.iconst 0, 1) := by decide +kernel
theorem dX4_read_83 : decode cX4_read 83 = .ok (.putfield 58, 3) := by decide +kernel
theorem dX4_read_86 : decode cX4_read 86 = .ok (.aload_n 0, 1) := by decide +kernel
theorem dX4_read_87 : decode cX4_read 87 = .ok (.getfield 35, 3) := by decide +kernel
theorem dX4_read_90 : decode cX4_read 90 = .ok (.ireturn, 1) := by decide +kernel
theorem dX4_readT_0 : decode cX4_readT 0 = .ok (.aload_n 0, 1) := by decide +kernel
theorem dX4_readT_1 : decode cX4_readT 1 = .ok (.iload_n 1, 1) := by decide +kernel
theorem dX4_readT_2 : decode cX4_readT 2 = .ok (.invokevirtual 62, 3) := by decide +kernel
theorem dX4_readT_5 : decode cX4_readT 5 = .ok (.iconst 0, 1) := by decide +kernel
theorem dX4_readT_6 : decode cX4_readT 6 = .ok (.istore_n 2, 1) := by decide +kernel
theorem dX4_readT_7 : decode cX4_readT 7 = .ok (.iload_n 2, 1) := by decide +kernel
theorem dX4_readT_8 : decode cX4_readT 8 = .ok (.bipush 50, 2) := by decide +kernel
theorem dX4_readT_10 : decode cX4_readT 10 = .ok (.if_icmp .ge 32, 3) := by decide +kernel
theorem dX4_readT_13 : decode cX4_readT 13 = .ok (.aload_n 0, 1) := by decide +kernel
theorem dX4_readT_14 : decode cX4_readT 14 = .ok (.ldc 65, 2) := by decide +kernel
theorem dX4_readT_16 : decode cX4_readT 16 = .ok (.invokevirtual 67, 3) := by decide +kernel
theorem dX4_readT_19 : decode cX4_readT 19 = .ok (.ifCond .eq 23, 3) := by decide +kernel
theorem dX4_readT_22 : decode cX4_readT 22 = .ok (.aload_n 0, 1) := by decide +kernel
theorem dX4_readT_23 : decode cX4_readT 23 = .ok (.iload_n 1, 1) := by decide +kernel
theorem dX4_readT_24 : decode cX4_readT 24 = .ok (.invokevirtual 62, 3) := by decide +kernel
theorem dX4_readT_27 : decode cX4_readT 27 = .ok (.aload_n 0, 1) := by decide +kernel
theorem dX4_readT_28 : decode cX4_readT 28 = .ok (.getfield 12, 3) := by decide +kernel
theorem dX4_readT_31 : decode cX4_readT 31 = .ok (.bipush (-124), 2) := by decide +kernel
theorem dX4_readT_33 : decode cX4_readT 33 = .ok (.invokevirtual 71, 3) := by decide +kernel
theorem dX4_readT_36 : decode cX4_readT 36 = .ok (.iinc 2 1, 3) := by decide +kernel
theorem dX4_readT_39 : decode cX4_readT 39 = .ok (.goto (-32), 3) := by decide +kernel
theorem dX4_readT_42 : decode cX4_readT 42 = .ok (.return_, 1) := by decide +kernel
theorem dX4_readA_0 : decode cX4_readA 0 = .ok (.aload_n 0, 1) := by decide +kernel
theorem dX4_readA_1 : decode cX4_readA 1 = .ok (.iload_n 1, 1) := by decide +kernel
theorem dX4_readA_2 : decode cX4_readA 2 = .ok (.invokevirtual 74, 3) := by decide +kernel
theorem dX4_readA_5 : decode cX4_readA 5 = .ok (.iconst 0, 1) := by decide +kernel
theorem dX4_readA_6 : decode cX4_readA 6 = .ok (.istore_n 2, 1) := by decide +kernel
theorem dX4_readA_7 : decode cX4_readA 7 = .ok (.iload_n 2, 1) := by decide +kernel
theorem dX4_readA_8 : decode cX4_readA 8 = .ok (.bipush 50, 2) := by decide +kernel
theorem dX4_readA_10 : decode cX4_readA 10 = .ok (.if_icmp .ge 32, 3) := by decide +kernel
theorem dX4_readA_13 : decode cX4_readA 13 = .ok (.aload_n 0, 1) := by decide +kernel
theorem dX4_readA_14 : decode cX4_readA 14 = .ok (.ldc 77, 2) := by decide +kernel
theorem dX4_readA_16 : decode cX4_readA 16 = .ok (.invokevirtual 67, 3) := by decide +kernel
theorem dX4_readA_19 : decode cX4_readA 19 = .ok (.ifCond .eq 23, 3) := by decide +kernel
theorem dX4_readA_22 : decode cX4_readA 22 = .ok (.aload_n 0, 1) := by decide +kernel
theorem dX4_readA_23 : decode cX4_readA 23 = .ok (.iload_n 1, 1) := by decide +kernel
theorem dX4_readA_24 : decode cX4_readA 24 = .ok (.invokevirtual 74, 3) := by decide +kernel
theorem dX4_readA_27 : decode cX4_readA 27 = .ok (.aload_n 0, 1) := by decide +kernel
theorem dX4_readA_28 : decode cX4_readA 28 = .ok (.getfield 12, 3) := by decide +kernel
theorem dX4_readA_31 : decode cX4_readA 31 = .ok (.bipush (-38), 2) := by decide +kernel
theorem dX4_readA_33 : decode cX4_readA 33 = .ok (.invokevirtual 71, 3) := by decide +kernel
theorem dX4_readA_36 : decode cX4_readA 36 = .ok (.iinc 2 1, 3) := by decide +kernel
theorem dX4_readA_39 : decode cX4_readA 39 = .ok (.goto (-32), 3) := by decide +kernel
theorem dX4_readA_42 : decode cX4_readA 42 = .ok (.return_, 1) := by decide +kernel
theorem dX4_readB_0 : decode cX4_readB 0 = .ok (.aload_n 0, 1) := by decide +kernel
theorem dX4_readB_1 : decode cX4_readB 1 = .ok (.iload_n 1, 1) := by decide +kernel
theorem dX4_readB_2 : decode cX4_readB 2 = .ok (.invokevirtual 79, 3) := by decide +kernel
theorem dX4_readB_5 : decode cX4_readB 5 = .ok (.aload_n 0, 1) := by decide +kernel
theorem dX4_readB_6 : decode cX4_readB 6 = .ok (.ldc 82, 2) := by decide +kernel
theorem dX4_readB_8 : decode cX4_readB 8 = .ok (.invokevirtual 67, 3) := by decide +kernel
theorem dX4_readB_11 : decode cX4_readB 11 = .ok (.istore_n 2, 1) := by decide +kernel
theorem dX4_readB_12 : decode cX4_readB 12 = .ok (.iload_n 2, 1) := by decide +kernel
theorem dX4_readB_13 : decode cX4_readB 13 = .ok (.ifCond .eq 17, 3) := by decide +kernel
theorem dX4_readB_16 : decode cX4_readB 16 = .ok (.aload_n 0, 1) := by decide +kernel
theorem dX4_readB_17 : decode cX4_readB 17 = .ok (.iload_n 1, 1) := by decide +kernel
theorem dX4_readB_18 : decode cX4_readB 18 = .ok (.invokevirtual 79, 3) := by decide +kernel
theorem dX4_readB_21 : decode cX4_readB 21 = .ok (.aload_n 0, 1) := by decide +kernel
theorem dX4_readB_22 : decode cX4_readB 22 = .ok (.getfield 12, 3) := by decide +kernel
theorem dX4_readB_25 : decode cX4_readB 25 = .ok (.iload_n 2, 1) := by decide +kernel
theorem dX4_readB_26 : decode cX4_readB 26 = .ok (.ineg, 1) := by decide +kernel
theorem dX4_readB_27 : decode cX4_readB 27 = .ok (.invokevirtual 71, 3) := by decide +kernel
theorem dX4_readB_30 : decode cX4_readB 30 = .ok (.return_, 1) := by decide +kernel
theorem dX4_readS_0 : decode cX4_readS 0 = .ok (.aload_n 0, 1) := by decide +kernel
theorem dX4_readS_1 : decode cX4_readS 1 = .ok (.iload_n 1, 1) := by decide +kernel
theorem dX4_readS_2 : decode cX4_readS 2 = .ok (.invokevirtual 84, 3) := by decide +kernel
theorem dX4_readS_5 : decode cX4_readS 5 = .ok (.aload_n 0, 1) := by decide +kernel
theorem dX4_readS_6 : decode cX4_readS 6 = .ok (.ldc 87, 2) := by decide +kernel
theorem dX4_readS_8 : decode cX4_readS 8 = .ok (.invokevirtual 67, 3) := by decide +kernel
theorem dX4_readS_11 : decode cX4_readS 11 = .ok (.istore_n 2, 1) := by decide +kernel
theorem dX4_readS_12 : decode cX4_readS 12 = .ok (.iconst 0, 1) := by decide +kernel
theorem dX4_readS_13 : decode cX4_readS 13 = .ok (.istore_n 3, 1) := by decide +kernel
theorem dX4_readS_14 : decode cX4_readS 14 = .ok (.iload_n 3, 1) := by decide +kernel
theorem dX4_readS_15 : decode cX4_readS 15 = .ok (.bipush 50, 2) := by decide +kernel
theorem dX4_readS_17 : decode cX4_readS 17 = .ok (.if_icmp .ge 34, 3) := by decide +kernel
theorem dX4_readS_20 : decode cX4_readS 20 = .ok (.iload_n 2, 1) := by decide +kernel
theorem dX4_readS_21 : decode cX4_readS 21 = .ok (.ifCond .eq 30, 3) := by decide +kernel
theorem dX4_readS_24 : decode cX4_readS 24 = .ok (.aload_n 0, 1) := by decide +kernel
theorem dX4_readS_25 : decode cX4_readS 25 = .ok (.iload_n 1, 1) := by decide +kernel
theorem dX4_readS_26 : decode cX4_readS 26 = .ok (.invokevirtual 84, 3) := by decide +kernel
theorem dX4_readS_29 : decode cX4_readS 29 = .ok (.aload_n 0, 1) := by decide +kernel
theorem dX4_readS_30 : decode cX4_readS 30 = .ok (.getfield 12, 3) := by decide +kernel
theorem dX4_readS_33 : decode cX4_readS 33 = .ok (.iload_n 2, 1) := by decide +kernel
theorem dX4_readS_34 : decode cX4_readS 34 = .ok (.ineg, 1) := by decide +kernel
theorem dX4_readS_35 : decode cX4_readS 35 = .ok (.invokevirtual 71, 3) := by decide +kernel
theorem dX4_readS_38 : decode cX4_readS 38 = .ok (.aload_n 0, 1) := by decide +kernel
theorem dX4_readS_39 : decode cX4_readS 39 = .ok (.ldc 87, 2) := by decide +kernel
theorem dX4_readS_41 : decode cX4_readS 41 = .ok (.invokevirtual 67, 3) := by decide +kernel
theorem dX4_readS_44 : decode cX4_readS 44 = .ok (.istore_n 2, 1) := by decide +kernel
theorem dX4_readS_45 : decode cX4_readS 45 = .ok (.iinc 3 1, 3) := by decide +kernel
theorem dX4_readS_48 : decode cX4_readS 48 = .ok (.goto (-34), 3) := by decide +kernel
theorem dX4_readS_51 : decode cX4_readS 51 = .ok (.return_, 1) := by decide +kernel
theorem dX4_readP_0 : decode cX4_readP 0 = .ok (.aload_n 0, 1) := by decide +kernel
theorem dX4_readP_1 : decode cX4_readP 1 = .ok (.iload_n 1, 1) := by decide +kernel
theorem dX4_readP_2 : decode cX4_readP 2 = .ok (.invokevirtual 89, 3) := by decide +kernel
theorem dX4_readP_5 : decode cX4_readP 5 = .ok (.aload_n 0, 1) := by decide +kernel
theorem dX4_readP_6 : decode cX4_readP 6 = .ok (.ldc 92, 2) := by decide +kernel
theorem dX4_readP_8 : decode cX4_readP 8 = .ok (.invokevirtual 67, 3) := by decide +kernel
theorem dX4_readP_11 : decode cX4_readP 11 = .ok (.istore_n 2, 1) := by decide +kernel
theorem dX4_readP_12 : decode cX4_readP 12 = .ok (.iconst 0, 1) := by decide +kernel
theorem dX4_readP_13 : decode cX4_readP 13 = .ok (.istore_n 3, 1) := by decide +kernel
theorem dX4_readP_14 : decode cX4_readP 14 = .ok (.iload_n 3, 1) := by decide +kernel
theorem dX4_readP_15 : decode cX4_readP 15 = .ok (.bipush 50, 2) := by decide +kernel
theorem dX4_readP_17 : decode cX4_readP 17 = .ok (.if_icmp .ge 34, 3) := by decide +kernel
theorem dX4_readP_20 : decode cX4_readP 20 = .ok (.iload_n 2, 1) := by decide +kernel
theorem dX4_readP_21 : decode cX4_readP 21 = .ok (.ifCond .eq 30, 3) := by decide +kernel
theorem dX4_readP_24 : decode cX4_readP 24 = .ok (.aload_n 0, 1) := by decide +kernel
theorem dX4_readP_25 : decode cX4_readP 25 = .ok (.iload_n 1, 1) := by decide +kernel
theorem dX4_readP_26 : decode cX4_readP 26 = .ok (.invokevirtual 89, 3) := by decide +kernel
theorem dX4_readP_29 : decode cX4_readP 29 = .ok (.aload_n 0, 1) := by decide +kernel
theorem dX4_readP_30 : decode cX4_readP 30 = .ok (.getfield 12, 3) := by decide +kernel
theorem dX4_readP_33 : decode cX4_readP 33 = .ok (.iload_n 2, 1) := by decide +kernel
theorem dX4_readP_34 : decode cX4_readP 34 = .ok (.ineg, 1) := by decide +kernel
theorem dX4_readP_35 : decode cX4_readP 35 = .ok (.invokevirtual 71, 3) := by decide +kernel
theorem dX4_readP_38 : decode cX4_readP 38 = .ok (.aload_n 0, 1) := by decide +kernel
theorem dX4_readP_39 : decode cX4_readP 39 = .ok (.ldc 92, 2) := by decide +kernel
theorem dX4_readP_41 : decode cX4_readP 41 = .ok (.invokevirtual 67, 3) := by decide +kernel
theorem dX4_readP_44 : decode cX4_readP 44 = .ok (.istore_n 2, 1) := by decide +kernel
theorem dX4_readP_45 : decode cX4_readP 45 = .ok (.iinc 3 1, 3) := by decide +kernel
theorem dX4_readP_48 : decode cX4_readP 48 = .ok (.goto (-34), 3) := by decide +kernel
theorem dX4_readP_51 : decode cX4_readP 51 = .ok (.return_, 1) := by decide +kernel
theorem dX4_readQ_0 : decode cX4_readQ 0 = .ok (.aload_n 0, 1) := by decide +kernel
theorem dX4_readQ_1 : decode cX4_readQ 1 = .ok (.invokevirtual 94, 3) := by decide +kernel
theorem dX4_readQ_4 : decode cX4_readQ 4 = .ok (.ifCond .eq 8, 3) := by decide +kernel
theorem dX4_readQ_7 : decode cX4_readQ 7 = .ok (.aload_n 0, 1) := by decide +kernel
theorem dX4_readQ_8 : decode cX4_readQ 8 = .ok (.invokevirtual 98, 3) := by decide +kernel
theorem dX4_readQ_11 : decode cX4_readQ 11 = .ok (.return_, 1) := by decide +kernel
theorem dX4_readQ_12 : decode cX4_readQ 12 = .ok (.aload_n 0, 1) := by decide +kernel
theorem dX4_readQ_13 : decode cX4_readQ 13 = .ok (.aload_n 0, 1) := by decide +kernel
theorem dX4_readQ_14 : decode cX4_readQ 14 = .ok (.getfield 28, 3) := by decide +kernel
theorem dX4_readQ_17 : decode cX4_readQ 17 = .ok (.invokevirtual 67, 3) := by decide +kernel
theorem dX4_readQ_20 : decode cX4_readQ 20 = .ok (.istore_n 2, 1) := by decide +kernel
theorem dX4_readQ_21 : decode cX4_readQ 21 = .ok (.iload_n 2, 1) := by decide +kernel
theorem dX4_readQ_22 : decode cX4_readQ 22 = .ok (.ifCond .eq 22, 3) := by decide +kernel
theorem dX4_readQ_25 : decode cX4_readQ 25 = .ok (.aload_n 0, 1) := by decide +kernel
theorem dX4_readQ_26 : decode cX4_readQ 26 = .ok (.getfield 12, 3) := by decide +kernel
theorem dX4_readQ_29 : decode cX4_readQ 29 = .ok (.iconst (-1), 1) := by decide +kernel
theorem dX4_readQ_30 : decode cX4_readQ 30 = .ok (.aload_n 0, 1) := by decide +kernel
theorem dX4_readQ_31 : decode cX4_readQ 31 = .ok (.getfield 28, 3) := by decide +kernel
theorem dX4_readQ_34 : decode cX4_readQ 34 = .ok (.iload_n 2, 1) := by decide +kernel
theorem dX4_readQ_35 : decode cX4_readQ 35 = .ok (.i2c, 1) := by decide +kernel
theorem dX4_readQ_36 : decode cX4_readQ 36 = .ok (.invokevirtual 101, 3) := by decide +kernel
theorem dX4_readQ_39 : decode cX4_readQ 39 = .ok (.isub, 1) := by decide +kernel
theorem dX4_readQ_40 : decode cX4_readQ 40 = .ok (.invokevirtual 71, 3) := by decide +kernel
theorem dX4_readQ_43 : decode cX4_readQ 43 = .ok (.return_, 1) := by decide +kernel
theorem dX4_readQ_44 : decode cX4_readQ 44 = .ok (.iload_n 1, 1) := by decide +kernel
theorem dX4_readQ_45 : decode cX4_readQ 45 = .ok (.iconst 5, 1) := by decide +kernel
theorem dX4_readQ_46 : decode cX4_readQ 46 = .ok (.if_icmp .ge 12, 3) := by decide +kernel
theorem dX4_readQ_49 : decode cX4_readQ 49 = .ok (.aload_n 0, 1) := by decide +kernel
theorem dX4_readQ_50 : decode cX4_readQ 50 = .ok (.ldc 107, 2) := by decide +kernel
theorem dX4_readQ_52 : decode cX4_readQ 52 = .ok (.invokevirtual 67, 3) := by decide +kernel
theorem dX4_readQ_55 : decode cX4_readQ 55 = .ok (.goto 4, 3) := by decide +kernel
theorem dX4_readQ_58 : decode cX4_readQ 58 = .ok (.iconst 0, 1) := by decide +kernel
theorem dX4_readQ_59 : decode cX4_readQ 59 = .ok (.istore_n 3, 1) := by decide +kernel
theorem dX4_readQ_60 : decode cX4_readQ 60 = .ok (.iload_n 3, 1) := by decide +kernel
theorem dX4_readQ_61 : decode cX4_readQ 61 = .ok (.bipush 33, 2) := by decide +kernel
theorem dX4_readQ_63 : decode cX4_readQ 63 = .ok (.if_icmp .ne 22, 3) := by decide +kernel
theorem dX4_readQ_66 : decode cX4_readQ 66 = .ok (.aload_n 0, 1) := by decide +kernel
theorem dX4_readQ_67 : decode cX4_readQ 67 = .ok (.iload_n 1, 1) := by decide +kernel
theorem dX4_readQ_68 : decode cX4_readQ 68 = .ok (.iconst 1, 1) := by decide +kernel
theorem dX4_readQ_69 : decode cX4_readQ 69 = .ok (.iadd, 1) := by decide +kernel
theorem dX4_readQ_70 : decode cX4_readQ 70 = .ok (.invokevirtual 89, 3) := by decide +kernel
theorem dX4_readQ_73 : decode cX4_readQ 73 = .ok (.aload_n 0, 1) := by decide +kernel
theorem dX4_readQ_74 : decode cX4_readQ 74 = .ok (.getfield 12, 3) := by decide +kernel
theorem dX4_readQ_77 : decode cX4_readQ 77 = .ok (.bipush (-33), 2) := by decide +kernel
theorem dX4_readQ_79 : decode cX4_readQ 79 = .ok (.invokevirtual 71, 3) := by decide +kernel
theorem dX4_readQ_82 : decode cX4_readQ 82 = .ok (.goto 36, 3) := by decide +kernel
theorem dX4_readQ_85 : decode cX4_readQ 85 = .ok (.iload_n 3, 1) := by decide +kernel
theorem dX4_readQ_86 : decode cX4_readQ 86 = .ok (.bipush 40, 2) := by decide +kernel
theorem dX4_readQ_88 : decode cX4_readQ 88 = .ok (.if_icmp .ne 26, 3) := by decide +kernel
theorem dX4_readQ_91 : decode cX4_readQ 91 = .ok (.aload_n 0, 1) := by decide +kernel
theorem dX4_readQ_92 : decode cX4_readQ 92 = .ok (.iload_n 1, 1) := by decide +kernel
theorem dX4_readQ_93 : decode cX4_readQ 93 = .ok (.iconst 1, 1) := by decide +kernel
theorem dX4_readQ_94 : decode cX4_readQ 94 = .ok (.iadd, 1) := by decide +kernel
theorem dX4_readQ_95 : decode cX4_readQ 95 = .ok (.invokevirtual 51, 3) := by decide +kernel
theorem dX4_readQ_98 : decode cX4_readQ 98 = .ok (.aload_n 0, 1) := by decide +kernel
theorem dX4_readQ_99 : decode cX4_readQ 99 = .ok (.ldc 109, 2) := by decide +kernel
theorem dX4_readQ_101 : decode cX4_readQ 101 = .ok (.invokevirtual 67, 3) := by decide +kernel
theorem dX4_readQ_104 : decode cX4_readQ 104 = .ok (.ifCond .ne 14, 3) := by decide +kernel
theorem dX4_readQ_107 : decode cX4_readQ 107 = .ok (.aload_n 0, 1) := by decide +kernel
theorem dX4_readQ_108 : decode cX4_readQ 108 = .ok (.invokevirtual 55, 3) := by decide +kernel
theorem dX4_readQ_111 : decode cX4_readQ 111 = .ok (.goto 7, 3) := by decide +kernel
theorem dX4_readQ_114 : decode cX4_readQ 114 = .ok (.aload_n 0, 1) := by decide +kernel
theorem dX4_readQ_115 : decode cX4_readQ 115 = .ok (.invokevirtual 55, 3) := by decide +kernel
theorem dX4_readQ_118 : decode cX4_readQ 118 = .ok (.return_, 1) := by decide +kernel
theorem dX4_readNumber_0 : decode cX4_readNumber 0 = .ok (.iconst 0, 1) := by decide +kernel
theorem dX4_readNumber_1 : decode cX4_readNumber 1 = .ok (.istore_n 1, 1) := by decide +kernel
theorem dX4_readNumber_2 : decode cX4_readNumber 2 = .ok (.iconst 0, 1) := by decide +kernel
theorem dX4_readNumber_3 : decode cX4_readNumber 3 = .ok (.istore_n 2, 1) := by decide +kernel
theorem dX4_readNumber_4 : decode cX4_readNumber 4 = .ok (.iload_n 2, 1) := by decide +kernel
theorem dX4_readNumber_5 : decode cX4_readNumber 5 = .ok (.iconst 4, 1) := by decide +kernel
theorem dX4_readNumber_6 : decode cX4_readNumber 6 = .ok (.if_icmp .ge 44, 3) := by decide +kernel
theorem dX4_readNumber_9 : decode cX4_readNumber 9 = .ok (.aload_n 0, 1) := by decide +kernel
theorem dX4_readNumber_10 : decode cX4_readNumber 10 = .ok (.invokevirtual 94, 3) := by decide +kernel
theorem dX4_readNumber_13 : decode cX4_readNumber 13 = .ok (.ifCond .eq 37, 3) := by decide +kernel
theorem dX4_readNumber_16 : decode cX4_readNumber 16 = .ok (.bipush 10, 2) := by decide +kernel
theorem dX4_readNumber_18 : decode cX4_readNumber 18 = .ok (.iload_n 1, 1) := by decide +kernel
theorem dX4_readNumber_19 : decode cX4_readNumber 19 = .ok (.imul, 1) := by decide +kernel
theorem dX4_readNumber_20 : decode cX4_readNumber 20 = .ok (.aload_n 0, 1) := by decide +kernel
theorem dX4_readNumber_21 : decode cX4_readNumber 21 = .ok (.getfield 18, 3) := by decide +kernel
theorem dX4_readNumber_24 : decode cX4_readNumber 24 = .ok (.aload_n 0, 1) := by decide +kernel
theorem dX4_readNumber_25 : decode cX4_readNumber 25 = .ok (.getfield 32, 3) := by decide +kernel
theorem dX4_readNumber_28 : decode cX4_readNumber 28 = .ok (.iaload, 1) := by decide +kernel
theorem dX4_readNumber_29 : decode cX4_readNumber 29 = .ok (.iadd, 1) := by decide +kernel
theorem dX4_readNumber_30 : decode cX4_readNumber 30 = .ok (.bipush 48, 2) := by decide +kernel
theorem dX4_readNumber_32 : decode cX4_readNumber 32 = .ok (.isub, 1) := by decide +kernel
theorem dX4_readNumber_33 : decode cX4_readNumber 33 = .ok (.istore_n 1, 1) := by decide +kernel
theorem dX4_readNumber_34 : decode cX4_readNumber 34 = .ok (.aload_n 0, 1) := by decide +kernel
theorem dX4_readNumber_35 : decode cX4_readNumber 35 = .ok (.dup, 1) := by decide +kernel
theorem dX4_readNumber_36 : decode cX4_readNumber 36 = .ok (.getfield 32, 3) := by decide +kernel
theorem dX4_readNumber_39 : decode cX4_readNumber 39 = .ok (.iconst 1, 1) := by decide +kernel
theorem dX4_readNumber_40 : decode cX4_readNumber 40 = .ok (.iadd, 1) := by decide +kernel
theorem dX4_readNumber_41 : decode cX4_readNumber 41 = .ok (.putfield 32, 3) := by decide +kernel
theorem dX4_readNumber_44 : decode cX4_readNumber 44 = .ok (.iinc 2 1, 3) := by decide +kernel
theorem dX4_readNumber_47 : decode cX4_readNumber 47 = .ok (.goto (-43), 3) := by decide +kernel
theorem dX4_readNumber_50 : decode cX4_readNumber 50 = .ok (.aload_n 0, 1) := by decide +kernel
theorem dX4_readNumber_51 : decode cX4_readNumber 51 = .ok (.getfield 12, 3) := by decide +kernel
theorem dX4_readNumber_54 : decode cX4_readNumber 54 = .ok (.iload_n 1, 1) := by decide +kernel
theorem dX4_readNumber_55 : decode cX4_readNumber 55 = .ok (.invokevirtual 71, 3) := by decide +kernel
theorem dX4_readNumber_58 : decode cX4_readNumber 58 = .ok (.return_, 1) := by decide +kernel
theorem dX4_goesOn_0 : decode cX4_goesOn 0 = .ok (.aload_n 0, 1) := by decide +kernel
theorem dX4_goesOn_1 : decode cX4_goesOn 1 = .ok (.getfield 35, 3) := by decide +kernel
theorem dX4_goesOn_4 : decode cX4_goesOn 4 = .ok (.ifCond .ge 37, 3) := by decide +kernel
theorem dX4_goesOn_7 : decode cX4_goesOn 7 = .ok (.aload_n 0, 1) := by decide +kernel
theorem dX4_goesOn_8 : decode cX4_goesOn 8 = .ok (.getfield 32, 3) := by decide +kernel
theorem dX4_goesOn_11 : decode cX4_goesOn 11 = .ok (.ifCond .lt 30, 3) := by decide +kernel
theorem dX4_goesOn_14 : decode cX4_goesOn 14 = .ok (.aload_n 0, 1) := by decide +kernel
theorem dX4_goesOn_15 : decode cX4_goesOn 15 = .ok (.getfield 32, 3) := by decide +kernel
theorem dX4_goesOn_18 : decode cX4_goesOn 18 = .ok (.aload_n 0, 1) := by decide +kernel
theorem dX4_goesOn_19 : decode cX4_goesOn 19 = .ok (.getfield 22, 3) := by decide +kernel
theorem dX4_goesOn_22 : decode cX4_goesOn 22 = .ok (.if_icmp .ge 19, 3) := by decide +kernel
theorem dX4_goesOn_25 : decode cX4_goesOn 25 = .ok (.aload_n 0, 1) := by decide +kernel
theorem dX4_goesOn_26 : decode cX4_goesOn 26 = .ok (.getfield 32, 3) := by decide +kernel
theorem dX4_goesOn_29 : decode cX4_goesOn 29 = .ok (.aload_n 0, 1) := by decide +kernel
theorem dX4_goesOn_30 : decode cX4_goesOn 30 = .ok (.getfield 18, 3) := by decide +kernel
theorem dX4_goesOn_33 : decode cX4_goesOn 33 = .ok (.arraylength, 1) := by decide +kernel
theorem dX4_goesOn_34 : decode cX4_goesOn 34 = .ok (.if_icmp .ge 7, 3) := by decide +kernel
theorem dX4_goesOn_37 : decode cX4_goesOn 37 = .ok (.iconst 1, 1) := by decide +kernel
theorem dX4_goesOn_38 : decode cX4_goesOn 38 = .ok (.goto 4, 3) := by decide +kernel
theorem dX4_goesOn_41 : decode cX4_goesOn 41 = .ok (.iconst 0, 1) := by decide +kernel
theorem dX4_goesOn_42 : decode cX4_goesOn 42 = .ok (.ireturn, 1) := by decide +kernel
theorem dX4_isDigitNext_0 : decode cX4_isDigitNext 0 = .ok (.aload_n 0, 1) := by decide +kernel
theorem dX4_isDigitNext_1 : decode cX4_isDigitNext 1 = .ok (.invokevirtual 111, 3) := by decide +kernel
theorem dX4_isDigitNext_4 : decode cX4_isDigitNext 4 = .ok (.ifCond .eq 35, 3) := by decide +kernel
theorem dX4_isDigitNext_7 : decode cX4_isDigitNext 7 = .ok (.aload_n 0, 1) := by decide +kernel
theorem dX4_isDigitNext_8 : decode cX4_isDigitNext 8 = .ok (.getfield 18, 3) := by decide +kernel
theorem dX4_isDigitNext_11 : decode cX4_isDigitNext 11 = .ok (.aload_n 0, 1) := by decide +kernel
theorem dX4_isDigitNext_12 : decode cX4_isDigitNext 12 = .ok (.getfield 32, 3) := by decide +kernel
theorem dX4_isDigitNext_15 : decode cX4_isDigitNext 15 = .ok (.iaload, 1) := by decide +kernel
theorem dX4_isDigitNext_16 : decode cX4_isDigitNext 16 = .ok (.bipush 48, 2) := by decide +kernel
theorem dX4_isDigitNext_18 : decode cX4_isDigitNext 18 = .ok (.if_icmp .lt 21, 3) := by decide +kernel
theorem dX4_isDigitNext_21 : decode cX4_isDigitNext 21 = .ok (.aload_n 0, 1) := by decide +kernel
theorem dX4_isDigitNext_22 : decode cX4_isDigitNext 22 = .ok (.getfield 18, 3) := by decide +kernel
theorem dX4_isDigitNext_25 : decode cX4_isDigitNext 25 = .ok (.aload_n 0, 1) := by decide +kernel
theorem dX4_isDigitNext_26 : decode cX4_isDigitNext 26 = .ok (.getfield 32, 3) := by decide +kernel
theorem dX4_isDigitNext_29 : decode cX4_isDigitNext 29 = .ok (.iaload, 1) := by decide +kernel
theorem dX4_isDigitNext_30 : decode cX4_isDigitNext 30 = .ok (.bipush 57, 2) := by decide +kernel
theorem dX4_isDigitNext_32 : decode cX4_isDigitNext 32 = .ok (.if_icmp .gt 7, 3) := by decide +kernel
theorem dX4_isDigitNext_35 : decode cX4_isDigitNext 35 = .ok (.iconst 1, 1) := by decide +kernel
theorem dX4_isDigitNext_36 : decode cX4_isDigitNext 36 = .ok (.goto 4, 3) := by decide +kernel
theorem dX4_isDigitNext_39 : decode cX4_isDigitNext 39 = .ok (.iconst 0, 1) := by decide +kernel
theorem dX4_isDigitNext_40 : decode cX4_isDigitNext 40 = .ok (.ireturn, 1) := by decide +kernel
theorem dX4_takeOneOf_0 : decode cX4_takeOneOf 0 = .ok (.aload_n 0, 1) := by decide +kernel
theorem dX4_takeOneOf_1 : decode cX4_takeOneOf 1 = .ok (.invokevirtual 111, 3) := by decide +kernel
theorem dX4_takeOneOf_4 : decode cX4_takeOneOf 4 = .ok (.ifCond .eq 20, 3) := by decide +kernel
theorem dX4_takeOneOf_7 : decode cX4_takeOneOf 7 = .ok (.aload_n 1, 1) := by decide +kernel
theorem dX4_takeOneOf_8 : decode cX4_takeOneOf 8 = .ok (.aload_n 0, 1) := by decide +kernel
theorem dX4_takeOneOf_9 : decode cX4_takeOneOf 9 = .ok (.getfield 18, 3) := by decide +kernel
theorem dX4_takeOneOf_12 : decode cX4_takeOneOf 12 = .ok (.aload_n 0, 1) := by decide +kernel
theorem dX4_takeOneOf_13 : decode cX4_takeOneOf 13 = .ok (.getfield 32, 3) := by decide +kernel
theorem dX4_takeOneOf_16 : decode cX4_takeOneOf 16 = .ok (.iaload, 1) := by decide +kernel
theorem dX4_takeOneOf_17 : decode cX4_takeOneOf 17 = .ok (.i2c, 1) := by decide +kernel
theorem dX4_takeOneOf_18 : decode cX4_takeOneOf 18 = .ok (.invokevirtual 101, 3) := by decide +kernel
theorem dX4_takeOneOf_21 : decode cX4_takeOneOf 21 = .ok (.ifCond .ge 5, 3) := by decide +kernel
theorem dX4_takeOneOf_24 : decode cX4_takeOneOf 24 = .ok (.iconst 0, 1) := by decide +kernel
theorem dX4_takeOneOf_25 : decode cX4_takeOneOf 25 = .ok (.ireturn, 1) := by decide +kernel
theorem dX4_takeOneOf_26 : decode cX4_takeOneOf 26 = .ok (.aload_n 0, 1) := by decide +kernel
theorem dX4_takeOneOf_27 : decode cX4_takeOneOf 27 = .ok (.dup, 1) := by decide +kernel
theorem dX4_takeOneOf_28 : decode cX4_takeOneOf 28 = .ok (.getfield 32, 3) := by decide +kernel
theorem dX4_takeOneOf_31 : decode cX4_takeOneOf 31 = .ok (.iconst 1, 1) := by decide +kernel
theorem dX4_takeOneOf_32 : decode cX4_takeOneOf 32 = .ok (.iadd, 1) := by decide +kernel
theorem dX4_takeOneOf_33 : decode cX4_takeOneOf 33 = .ok (.putfield 32, 3) := by decide +kernel
theorem dX4_takeOneOf_36 : decode cX4_takeOneOf 36 = .ok (.aload_n 0, 1) := by decide +kernel
theorem dX4_takeOneOf_37 : decode cX4_takeOneOf 37 = .ok (.getfield 18, 3) := by decide +kernel
theorem dX4_takeOneOf_40 : decode cX4_takeOneOf 40 = .ok (.aload_n 0, 1) := by decide +kernel
theorem dX4_takeOneOf_41 : decode cX4_takeOneOf 41 = .ok (.getfield 32, 3) := by decide +kernel
theorem dX4_takeOneOf_44 : decode cX4_takeOneOf 44 = .ok (.iconst 1, 1) := by decide +kernel
theorem dX4_takeOneOf_45 : decode cX4_takeOneOf 45 = .ok (.isub, 1) := by decide +kernel
theorem dX4_takeOneOf_46 : decode cX4_takeOneOf 46 = .ok (.iaload, 1) := by decide +kernel
theorem dX4_takeOneOf_47 : decode cX4_takeOneOf 47 = .ok (.ireturn, 1) := by decide +kernel
theorem dX4_stop_0 : decode cX4_stop 0 = .ok (.aload_n 0, 1) := by decide +kernel
theorem dX4_stop_1 : decode cX4_stop 1 = .ok (.getfield 35, 3) := by decide +kernel
theorem dX4_stop_4 : decode cX4_stop 4 = .ok (.ifCond .ge 11, 3) := by decide +kernel
theorem dX4_stop_7 : decode cX4_stop 7 = .ok (.aload_n 0, 1) := by decide +kernel
theorem dX4_stop_8 : decode cX4_stop 8 = .ok (.aload_n 0, 1) := by decide +kernel
theorem dX4_stop_9 : decode cX4_stop 9 = .ok (.getfield 32, 3) := by decide +kernel
theorem dX4_stop_12 : decode cX4_stop 12 = .ok (.putfield 35, 3) := by decide +kernel
theorem dX4_stop_15 : decode cX4_stop 15 = .ok (.return_, 1) := by decide +kernel
theorem dX5_init_0 : decode cX5_init 0 = .ok (.aload_n 0, 1) := by decide +kernel
theorem dX5_init_1 : decode cX5_init 1 = .ok (.invokespecial 3, 3) := by decide +kernel
theorem dX5_init_4 : decode cX5_init 4 = .ok (.aload_n 0, 1) := by decide +kernel
theorem dX5_init_5 : decode cX5_init 5 = .ok (.bipush 40, 2) := by decide +kernel
theorem dX5_init_7 : decode cX5_init 7 = .ok (.newarray .int, 2) := by decide +kernel
theorem dX5_init_9 : decode cX5_init 9 = .ok (.putfield 11, 3) := by decide +kernel
theorem dX5_init_12 : decode cX5_init 12 = .ok (.aload_n 0, 1) := by decide +kernel
theorem dX5_init_13 : decode cX5_init 13 = .ok (.iconst 0, 1) := by decide +kernel
theorem dX5_init_14 : decode cX5_init 14 = .ok (.putfield 15, 3) := by decide +kernel
theorem dX5_init_17 : decode cX5_init 17 = .ok (.aload_n 0, 1) := by decide +kernel
theorem dX5_init_18 : decode cX5_init 18 = .ok (.iconst 0, 1) := by decide +kernel
theorem dX5_init_19 : decode cX5_init 19 = .ok (.putfield 19, 3) := by decide +kernel
theorem dX5_init_22 : decode cX5_init 22 = .ok (.aload_n 0, 1) := by decide +kernel
theorem dX5_init_23 : decode cX5_init 23 = .ok (.iconst 0, 1) := by decide +kernel
theorem dX5_init_24 : decode cX5_init 24 = .ok (.putfield 22, 3) := by decide +kernel
theorem dX5_init_27 : decode cX5_init 27 = .ok (.aload_n 0, 1) := by decide +kernel
theorem dX5_init_28 : decode cX5_init 28 = .ok (.iconst 0, 1) := by decide +kernel
theorem dX5_init_29 : decode cX5_init 29 = .ok (.putfield 25, 3) := by decide +kernel
theorem dX5_init_32 : decode cX5_init 32 = .ok (.return_, 1) := by decide +kernel
theorem dX5_speak_0 : decode cX5_speak 0 = .ok (.aload_n 0, 1) := by decide +kernel
theorem dX5_speak_1 : decode cX5_speak 1 = .ok (.iconst 0, 1) := by decide +kernel
theorem dX5_speak_2 : decode cX5_speak 2 = .ok (.putfield 15, 3) := by decide +kernel
theorem dX5_speak_5 : decode cX5_speak 5 = .ok (.aload_n 0, 1) := by decide +kernel
theorem dX5_speak_6 : decode cX5_speak 6 = .ok (.aload_n 2, 1) := by decide +kernel
theorem dX5_speak_7 : decode cX5_speak 7 = .ok (.getfield 28, 3) := by decide +kernel
theorem dX5_speak_10 : decode cX5_speak 10 = .ok (.putfield 19, 3) := by decide +kernel
theorem dX5_speak_13 : decode cX5_speak 13 = .ok (.aload_n 0, 1) := by decide +kernel
theorem dX5_speak_14 : decode cX5_speak 14 = .ok (.iload_n 1, 1) := by decide +kernel
theorem dX5_speak_15 : decode cX5_speak 15 = .ok (.putfield 22, 3) := by decide +kernel
theorem dX5_speak_18 : decode cX5_speak 18 = .ok (.aload_n 0, 1) := by decide +kernel
theorem dX5_speak_19 : decode cX5_speak 19 = .ok (.aload_n 2, 1) := by decide +kernel
theorem dX5_speak_20 : decode cX5_speak 20 = .ok (.getfield 31, 3) := by decide +kernel
theorem dX5_speak_23 : decode cX5_speak 23 = .ok (.putfield 25, 3) := by decide +kernel
theorem dX5_speak_26 : decode cX5_speak 26 = .ok (.aload_n 0, 1) := by decide +kernel
theorem dX5_speak_27 : decode cX5_speak 27 = .ok (.iload_n 3, 1) := by decide +kernel
theorem dX5_speak_28 : decode cX5_speak 28 = .ok (.iload 4, 2) := by decide +kernel
theorem dX5_speak_30 : decode cX5_speak 30 = .ok (.iconst 0, 1) := by decide +kernel
theorem dX5_speak_31 : decode cX5_speak 31 = .ok (.invokevirtual 32, 3) := by decide +kernel
theorem dX5_speak_34 : decode cX5_speak 34 = .ok (.ireturn, 1) := by decide +kernel
theorem dX5_own_0 : decode cX5_own 0 = .ok (.aload_n 0, 1) := by decide +kernel
theorem dX5_own_1 : decode cX5_own 1 = .ok (.aload_n 0, 1) := by decide +kernel
theorem dX5_own_2 : decode cX5_own 2 = .ok (.getfield 19, 3) := by decide +kernel
theorem dX5_own_5 : decode cX5_own 5 = .ok (.iload_n 1, 1) := by decide +kernel
theorem dX5_own_6 : decode cX5_own 6 = .ok (.iload_n 2, 1) := by decide +kernel
theorem dX5_own_7 : decode cX5_own 7 = .ok (.iload_n 3, 1) := by decide +kernel
theorem dX5_own_8 : decode cX5_own 8 = .ok (.invokevirtual 36, 3) := by decide +kernel
theorem dX5_own_11 : decode cX5_own 11 = .ok (.ireturn, 1) := by decide +kernel
theorem dX5_from_0 : decode cX5_from 0 = .ok (.iload 4, 2) := by decide +kernel
theorem dX5_from_2 : decode cX5_from 2 = .ok (.bipush 40, 2) := by decide +kernel
theorem dX5_from_4 : decode cX5_from 4 = .ok (.if_icmp .le 5, 3) := by decide +kernel
theorem dX5_from_7 : decode cX5_from 7 = .ok (.iconst 0, 1) := by decide +kernel
theorem dX5_from_8 : decode cX5_from 8 = .ok (.ireturn, 1) := by decide +kernel
theorem dX5_from_9 : decode cX5_from 9 = .ok (.iload_n 1, 1) := by decide +kernel
theorem dX5_from_10 : decode cX5_from 10 = .ok (.istore 5, 2) := by decide +kernel
theorem dX5_from_12 : decode cX5_from 12 = .ok (.iconst 0, 1) := by decide +kernel
theorem dX5_from_13 : decode cX5_from 13 = .ok (.istore 6, 2) := by decide +kernel
theorem dX5_from_15 : decode cX5_from 15 = .ok (.iload 6, 2) := by decide +kernel
theorem dX5_from_17 : decode cX5_from 17 = .ok (.bipush 6, 2) := by decide +kernel
theorem dX5_from_19 : decode cX5_from 19 = .ok (.if_icmp .ge 30, 3) := by decide +kernel
theorem dX5_from_22 : decode cX5_from 22 = .ok (.iload 5, 2) := by decide +kernel
theorem dX5_from_24 : decode cX5_from 24 = .ok (.ifCond .le 25, 3) := by decide +kernel
theorem dX5_from_27 : decode cX5_from 27 = .ok (.iload 5, 2) := by decide +kernel
theorem dX5_from_29 : decode cX5_from 29 = .ok (.iload_n 2, 1) := by decide +kernel
theorem dX5_from_30 : decode cX5_from 30 = .ok (.invokestatic 40, 3) := by decide +kernel
theorem dX5_from_33 : decode cX5_from 33 = .ok (.ifCond .ne 16, 3) := by decide +kernel
theorem dX5_from_36 : decode cX5_from 36 = .ok (.iload 5, 2) := by decide +kernel
theorem dX5_from_38 : decode cX5_from 38 = .ok (.invokestatic 44, 3) := by decide +kernel
theorem dX5_from_41 : decode cX5_from 41 = .ok (.istore 5, 2) := by decide +kernel
theorem dX5_from_43 : decode cX5_from 43 = .ok (.iinc 6 1, 3) := by decide +kernel
theorem dX5_from_46 : decode cX5_from 46 = .ok (.goto (-31), 3) := by decide +kernel
theorem dX5_from_49 : decode cX5_from 49 = .ok (.aload_n 0, 1) := by decide +kernel
theorem dX5_from_50 : decode cX5_from 50 = .ok (.iload 5, 2) := by decide +kernel
theorem dX5_from_52 : decode cX5_from 52 = .ok (.iload_n 2, 1) := by decide +kernel
theorem dX5_from_53 : decode cX5_from 53 = .ok (.invokestatic 40, 3) := by decide +kernel
theorem dX5_from_56 : decode cX5_from 56 = .ok (.iload 5, 2) := by decide +kernel
theorem dX5_from_58 : decode cX5_from 58 = .ok (.invokestatic 44, 3) := by decide +kernel
theorem dX5_from_61 : decode cX5_from 61 = .ok (.iload_n 3, 1) := by decide +kernel
theorem dX5_from_62 : decode cX5_from 62 = .ok (.iload 4, 2) := by decide +kernel
theorem dX5_from_64 : decode cX5_from 64 = .ok (.iconst 1, 1) := by decide +kernel
theorem dX5_from_65 : decode cX5_from 65 = .ok (.iadd, 1) := by decide +kernel
theorem dX5_from_66 : decode cX5_from 66 = .ok (.invokevirtual 48, 3) := by decide +kernel
theorem dX5_from_69 : decode cX5_from 69 = .ok (.ireturn, 1) := by decide +kernel
theorem dX5_begin_0 : decode cX5_begin 0 = .ok (.aload_n 0, 1) := by decide +kernel
theorem dX5_begin_1 : decode cX5_begin 1 = .ok (.iload_n 1, 1) := by decide +kernel
theorem dX5_begin_2 : decode cX5_begin 2 = .ok (.invokevirtual 51, 3) := by decide +kernel
theorem dX5_begin_5 : decode cX5_begin 5 = .ok (.iload_n 1, 1) := by decide +kernel
theorem dX5_begin_6 : decode cX5_begin 6 = .ok (.lookupswitch 248 #[(10, 98), (11, 105), (12, 116), (13, 123), (20, 141), (30, 153), (40, 172), (50, 183), (60, 202), (70, 214), (71, 229)], 98) := by decide +kernel
theorem dX5_begin_104 : decode cX5_begin 104 = .ok (.iload_n 3, 1) := by decide +kernel
theorem dX5_begin_105 : decode cX5_begin 105 = .ok (.aload_n 0, 1) := by decide +kernel
theorem dX5_begin_106 : decode cX5_begin 106 = .ok (.getfield 22, 3) := by decide +kernel
theorem dX5_begin_109 : decode cX5_begin 109 = .ok (.iadd, 1) := by decide +kernel
theorem dX5_begin_110 : decode cX5_begin 110 = .ok (.ireturn, 1) := by decide +kernel
theorem dX5_begin_111 : decode cX5_begin 111 = .ok (.aload_n 0, 1) := by decide +kernel
theorem dX5_begin_112 : decode cX5_begin 112 = .ok (.iconst 0, 1) := by decide +kernel
theorem dX5_begin_113 : decode cX5_begin 113 = .ok (.iload_n 3, 1) := by decide +kernel
theorem dX5_begin_114 : decode cX5_begin 114 = .ok (.iload 4, 2) := by decide +kernel
theorem dX5_begin_116 : decode cX5_begin 116 = .ok (.invokevirtual 32, 3) := by decide +kernel
theorem dX5_begin_119 : decode cX5_begin 119 = .ok (.iconst 2, 1) := by decide +kernel
theorem dX5_begin_120 : decode cX5_begin 120 = .ok (.imul, 1) := by decide +kernel
theorem dX5_begin_121 : decode cX5_begin 121 = .ok (.ireturn, 1) := by decide +kernel
theorem dX5_begin_122 : decode cX5_begin 122 = .ok (.iload_n 3, 1) := by decide +kernel
theorem dX5_begin_123 : decode cX5_begin 123 = .ok (.aload_n 0, 1) := by decide +kernel
theorem dX5_begin_124 : decode cX5_begin 124 = .ok (.getfield 25, 3) := by decide +kernel
theorem dX5_begin_127 : decode cX5_begin 127 = .ok (.isub, 1) := by decide +kernel
theorem dX5_begin_128 : decode cX5_begin 128 = .ok (.ireturn, 1) := by decide +kernel
theorem dX5_begin_129 : decode cX5_begin 129 = .ok (.aload_n 0, 1) := by decide +kernel
theorem dX5_begin_130 : decode cX5_begin 130 = .ok (.iconst 1, 1) := by decide +kernel
theorem dX5_begin_131 : decode cX5_begin 131 = .ok (.iload_n 3, 1) := by decide +kernel
theorem dX5_begin_132 : decode cX5_begin 132 = .ok (.iload 4, 2) := by decide +kernel
theorem dX5_begin_134 : decode cX5_begin 134 = .ok (.invokevirtual 32, 3) := by decide +kernel
theorem dX5_begin_137 : decode cX5_begin 137 = .ok (.aload_n 0, 1) := by decide +kernel
theorem dX5_begin_138 : decode cX5_begin 138 = .ok (.iconst 2, 1) := by decide +kernel
theorem dX5_begin_139 : decode cX5_begin 139 = .ok (.iload_n 3, 1) := by decide +kernel
theorem dX5_begin_140 : decode cX5_begin 140 = .ok (.iload 4, 2) := by decide +kernel
theorem dX5_begin_142 : decode cX5_begin 142 = .ok (.invokevirtual 32, 3) := by decide +kernel
theorem dX5_begin_145 : decode cX5_begin 145 = .ok (.ixor, 1) := by decide +kernel
theorem dX5_begin_146 : decode cX5_begin 146 = .ok (.ireturn, 1) := by decide +kernel
theorem dX5_begin_147 : decode cX5_begin 147 = .ok (.aload_n 0, 1) := by decide +kernel
theorem dX5_begin_148 : decode cX5_begin 148 = .ok (.iload_n 2, 1) := by decide +kernel
theorem dX5_begin_149 : decode cX5_begin 149 = .ok (.iconst 0, 1) := by decide +kernel
theorem dX5_begin_150 : decode cX5_begin 150 = .ok (.iload_n 3, 1) := by decide +kernel
theorem dX5_begin_151 : decode cX5_begin 151 = .ok (.iload 4, 2) := by decide +kernel
theorem dX5_begin_153 : decode cX5_begin 153 = .ok (.invokevirtual 36, 3) := by decide +kernel
theorem dX5_begin_156 : decode cX5_begin 156 = .ok (.iconst 3, 1) := by decide +kernel
theorem dX5_begin_157 : decode cX5_begin 157 = .ok (.imul, 1) := by decide +kernel
theorem dX5_begin_158 : decode cX5_begin 158 = .ok (.ireturn, 1) := by decide +kernel
theorem dX5_begin_159 : decode cX5_begin 159 = .ok (.aload_n 0, 1) := by decide +kernel
theorem dX5_begin_160 : decode cX5_begin 160 = .ok (.iload_n 2, 1) := by decide +kernel
theorem dX5_begin_161 : decode cX5_begin 161 = .ok (.iconst 1, 1) := by decide +kernel
theorem dX5_begin_162 : decode cX5_begin 162 = .ok (.iload_n 3, 1) := by decide +kernel
theorem dX5_begin_163 : decode cX5_begin 163 = .ok (.iload 4, 2) := by decide +kernel
theorem dX5_begin_165 : decode cX5_begin 165 = .ok (.invokevirtual 36, 3) := by decide +kernel
theorem dX5_begin_168 : decode cX5_begin 168 = .ok (.aload_n 0, 1) := by decide +kernel
theorem dX5_begin_169 : decode cX5_begin 169 = .ok (.iconst 2, 1) := by decide +kernel
theorem dX5_begin_170 : decode cX5_begin 170 = .ok (.iconst 1, 1) := by decide +kernel
theorem dX5_begin_171 : decode cX5_begin 171 = .ok (.iload 4, 2) := by decide +kernel
theorem dX5_begin_173 : decode cX5_begin 173 = .ok (.invokevirtual 32, 3) := by decide +kernel
theorem dX5_begin_176 : decode cX5_begin 176 = .ok (.isub, 1) := by decide +kernel
theorem dX5_begin_177 : decode cX5_begin 177 = .ok (.ireturn, 1) := by decide +kernel
theorem dX5_begin_178 : decode cX5_begin 178 = .ok (.aload_n 0, 1) := by decide +kernel
theorem dX5_begin_179 : decode cX5_begin 179 = .ok (.iload_n 2, 1) := by decide +kernel
theorem dX5_begin_180 : decode cX5_begin 180 = .ok (.iconst 2, 1) := by decide +kernel
theorem dX5_begin_181 : decode cX5_begin 181 = .ok (.iload_n 3, 1) := by decide +kernel
theorem dX5_begin_182 : decode cX5_begin 182 = .ok (.iload 4, 2) := by decide +kernel
theorem dX5_begin_184 : decode cX5_begin 184 = .ok (.invokevirtual 36, 3) := by decide +kernel
theorem dX5_begin_187 : decode cX5_begin 187 = .ok (.ineg, 1) := by decide +kernel
theorem dX5_begin_188 : decode cX5_begin 188 = .ok (.ireturn, 1) := by decide +kernel
theorem dX5_begin_189 : decode cX5_begin 189 = .ok (.aload_n 0, 1) := by decide +kernel
theorem dX5_begin_190 : decode cX5_begin 190 = .ok (.iload_n 2, 1) := by decide +kernel
theorem dX5_begin_191 : decode cX5_begin 191 = .ok (.iconst 3, 1) := by decide +kernel
theorem dX5_begin_192 : decode cX5_begin 192 = .ok (.iload_n 3, 1) := by decide +kernel
theorem dX5_begin_193 : decode cX5_begin 193 = .ok (.iload 4, 2) := by decide +kernel
theorem dX5_begin_195 : decode cX5_begin 195 = .ok (.invokevirtual 36, 3) := by decide +kernel
theorem dX5_begin_198 : decode cX5_begin 198 = .ok (.aload_n 0, 1) := by decide +kernel
theorem dX5_begin_199 : decode cX5_begin 199 = .ok (.iconst 0, 1) := by decide +kernel
theorem dX5_begin_200 : decode cX5_begin 200 = .ok (.iconst 2, 1) := by decide +kernel
theorem dX5_begin_201 : decode cX5_begin 201 = .ok (.iload 4, 2) := by decide +kernel
theorem dX5_begin_203 : decode cX5_begin 203 = .ok (.invokevirtual 32, 3) := by decide +kernel
theorem dX5_begin_206 : decode cX5_begin 206 = .ok (.isub, 1) := by decide +kernel
theorem dX5_begin_207 : decode cX5_begin 207 = .ok (.ireturn, 1) := by decide +kernel
theorem dX5_begin_208 : decode cX5_begin 208 = .ok (.aload_n 0, 1) := by decide +kernel
theorem dX5_begin_209 : decode cX5_begin 209 = .ok (.iload_n 2, 1) := by decide +kernel
theorem dX5_begin_210 : decode cX5_begin 210 = .ok (.iconst 1, 1) := by decide +kernel
theorem dX5_begin_211 : decode cX5_begin 211 = .ok (.iload_n 3, 1) := by decide +kernel
theorem dX5_begin_212 : decode cX5_begin 212 = .ok (.iconst 1, 1) := by decide +kernel
theorem dX5_begin_213 : decode cX5_begin 213 = .ok (.iadd, 1) := by decide +kernel
theorem dX5_begin_214 : decode cX5_begin 214 = .ok (.iload 4, 2) := by decide +kernel
theorem dX5_begin_216 : decode cX5_begin 216 = .ok (.invokevirtual 36, 3) := by decide +kernel
theorem dX5_begin_219 : decode cX5_begin 219 = .ok (.ireturn, 1) := by decide +kernel
theorem dX5_begin_220 : decode cX5_begin 220 = .ok (.aload_n 0, 1) := by decide +kernel
theorem dX5_begin_221 : decode cX5_begin 221 = .ok (.iload_n 2, 1) := by decide +kernel
theorem dX5_begin_222 : decode cX5_begin 222 = .ok (.iconst 2, 1) := by decide +kernel
theorem dX5_begin_223 : decode cX5_begin 223 = .ok (.iload_n 3, 1) := by decide +kernel
theorem dX5_begin_224 : decode cX5_begin 224 = .ok (.iload 4, 2) := by decide +kernel
theorem dX5_begin_226 : decode cX5_begin 226 = .ok (.invokevirtual 36, 3) := by decide +kernel
theorem dX5_begin_229 : decode cX5_begin 229 = .ok (.aload_n 0, 1) := by decide +kernel
theorem dX5_begin_230 : decode cX5_begin 230 = .ok (.getfield 22, 3) := by decide +kernel
theorem dX5_begin_233 : decode cX5_begin 233 = .ok (.ixor, 1) := by decide +kernel
theorem dX5_begin_234 : decode cX5_begin 234 = .ok (.ireturn, 1) := by decide +kernel
theorem dX5_begin_235 : decode cX5_begin 235 = .ok (.aload_n 0, 1) := by decide +kernel
theorem dX5_begin_236 : decode cX5_begin 236 = .ok (.iconst 1, 1) := by decide +kernel
theorem dX5_begin_237 : decode cX5_begin 237 = .ok (.iload_n 3, 1) := by decide +kernel
theorem dX5_begin_238 : decode cX5_begin 238 = .ok (.iload 4, 2) := by decide +kernel
theorem dX5_begin_240 : decode cX5_begin 240 = .ok (.invokevirtual 32, 3) := by decide +kernel
theorem dX5_begin_243 : decode cX5_begin 243 = .ok (.aload_n 0, 1) := by decide +kernel
theorem dX5_begin_244 : decode cX5_begin 244 = .ok (.iload_n 2, 1) := by decide +kernel
theorem dX5_begin_245 : decode cX5_begin 245 = .ok (.iconst 3, 1) := by decide +kernel
theorem dX5_begin_246 : decode cX5_begin 246 = .ok (.iload_n 3, 1) := by decide +kernel
theorem dX5_begin_247 : decode cX5_begin 247 = .ok (.iload 4, 2) := by decide +kernel
theorem dX5_begin_249 : decode cX5_begin 249 = .ok (.invokevirtual 36, 3) := by decide +kernel
theorem dX5_begin_252 : decode cX5_begin 252 = .ok (.isub, 1) := by decide +kernel
theorem dX5_begin_253 : decode cX5_begin 253 = .ok (.ireturn, 1) := by decide +kernel
theorem dX5_begin_254 : decode cX5_begin 254 = .ok (.iconst 0, 1) := by decide +kernel
theorem dX5_begin_255 : decode cX5_begin 255 = .ok (.ireturn, 1) := by decide +kernel
theorem dX5_note_0 : decode cX5_note 0 = .ok (.aload_n 0, 1) := by decide +kernel
theorem dX5_note_1 : decode cX5_note 1 = .ok (.getfield 15, 3) := by decide +kernel
theorem dX5_note_4 : decode cX5_note 4 = .ok (.aload_n 0, 1) := by decide +kernel
theorem dX5_note_5 : decode cX5_note 5 = .ok (.getfield 11, 3) := by decide +kernel
theorem dX5_note_8 : decode cX5_note 8 = .ok (.arraylength, 1) := by decide +kernel
theorem dX5_note_9 : decode cX5_note 9 = .ok (.if_icmp .ge 23, 3) := by decide +kernel
theorem dX5_note_12 : decode cX5_note 12 = .ok (.aload_n 0, 1) := by decide +kernel
theorem dX5_note_13 : decode cX5_note 13 = .ok (.getfield 11, 3) := by decide +kernel
theorem dX5_note_16 : decode cX5_note 16 = .ok (.aload_n 0, 1) := by decide +kernel
theorem dX5_note_17 : decode cX5_note 17 = .ok (.getfield 15, 3) := by decide +kernel
theorem dX5_note_20 : decode cX5_note 20 = .ok (.iload_n 1, 1) := by decide +kernel
theorem dX5_note_21 : decode cX5_note 21 = .ok (.iastore, 1) := by decide +kernel
theorem dX5_note_22 : decode cX5_note 22 = .ok (.aload_n 0, 1) := by decide +kernel
theorem dX5_note_23 : decode cX5_note 23 = .ok (.dup, 1) := by decide +kernel
theorem dX5_note_24 : decode cX5_note 24 = .ok (.getfield 15, 3) := by decide +kernel
theorem dX5_note_27 : decode cX5_note 27 = .ok (.iconst 1, 1) := by decide +kernel
theorem dX5_note_28 : decode cX5_note 28 = .ok (.iadd, 1) := by decide +kernel
theorem dX5_note_29 : decode cX5_note 29 = .ok (.putfield 15, 3) := by decide +kernel
theorem dX5_note_32 : decode cX5_note 32 = .ok (.return_, 1) := by decide +kernel
theorem dX5_bodyOf_0 : decode cX5_bodyOf 0 = .ok (.bipush 10, 2) := by decide +kernel
theorem dX5_bodyOf_2 : decode cX5_bodyOf 2 = .ok (.iload_n 0, 1) := by decide +kernel
theorem dX5_bodyOf_3 : decode cX5_bodyOf 3 = .ok (.imul, 1) := by decide +kernel
theorem dX5_bodyOf_4 : decode cX5_bodyOf 4 = .ok (.iload_n 1, 1) := by decide +kernel
theorem dX5_bodyOf_5 : decode cX5_bodyOf 5 = .ok (.iadd, 1) := by decide +kernel
theorem dX5_bodyOf_6 : decode cX5_bodyOf 6 = .ok (.lookupswitch 131 #[(0, 98), (1, 101), (2, 104), (3, 107), (10, 110), (21, 113), (32, 116), (43, 119), (51, 122), (62, 125), (63, 128)], 98) := by decide +kernel
theorem dX5_bodyOf_104 : decode cX5_bodyOf 104 = .ok (.bipush 10, 2) := by decide +kernel
theorem dX5_bodyOf_106 : decode cX5_bodyOf 106 = .ok (.ireturn, 1) := by decide +kernel
theorem dX5_bodyOf_107 : decode cX5_bodyOf 107 = .ok (.bipush 11, 2) := by decide +kernel
theorem dX5_bodyOf_109 : decode cX5_bodyOf 109 = .ok (.ireturn, 1) := by decide +kernel
theorem dX5_bodyOf_110 : decode cX5_bodyOf 110 = .ok (.bipush 12, 2) := by decide +kernel
theorem dX5_bodyOf_112 : decode cX5_bodyOf 112 = .ok (.ireturn, 1) := by decide +kernel
theorem dX5_bodyOf_113 : decode cX5_bodyOf 113 = .ok (.bipush 13, 2) := by decide +kernel
theorem dX5_bodyOf_115 : decode cX5_bodyOf 115 = .ok (.ireturn, 1) := by decide +kernel
theorem dX5_bodyOf_116 : decode cX5_bodyOf 116 = .ok (.bipush 20, 2) := by decide +kernel
theorem dX5_bodyOf_118 : decode cX5_bodyOf 118 = .ok (.ireturn, 1) := by decide +kernel
theorem dX5_bodyOf_119 : decode cX5_bodyOf 119 = .ok (.bipush 30, 2) := by decide +kernel
theorem dX5_bodyOf_121 : decode cX5_bodyOf 121 = .ok (.ireturn, 1) := by decide +kernel
theorem dX5_bodyOf_122 : decode cX5_bodyOf 122 = .ok (.bipush 40, 2) := by decide +kernel
theorem dX5_bodyOf_124 : decode cX5_bodyOf 124 = .ok (.ireturn, 1) := by decide +kernel
theorem dX5_bodyOf_125 : decode cX5_bodyOf 125 = .ok (.bipush 50, 2) := by decide +kernel
theorem dX5_bodyOf_127 : decode cX5_bodyOf 127 = .ok (.ireturn, 1) := by decide +kernel
theorem dX5_bodyOf_128 : decode cX5_bodyOf 128 = .ok (.bipush 60, 2) := by decide +kernel
theorem dX5_bodyOf_130 : decode cX5_bodyOf 130 = .ok (.ireturn, 1) := by decide +kernel
theorem dX5_bodyOf_131 : decode cX5_bodyOf 131 = .ok (.bipush 70, 2) := by decide +kernel
theorem dX5_bodyOf_133 : decode cX5_bodyOf 133 = .ok (.ireturn, 1) := by decide +kernel
theorem dX5_bodyOf_134 : decode cX5_bodyOf 134 = .ok (.bipush 71, 2) := by decide +kernel
theorem dX5_bodyOf_136 : decode cX5_bodyOf 136 = .ok (.ireturn, 1) := by decide +kernel
theorem dX5_bodyOf_137 : decode cX5_bodyOf 137 = .ok (.iconst 0, 1) := by decide +kernel
theorem dX5_bodyOf_138 : decode cX5_bodyOf 138 = .ok (.ireturn, 1) := by decide +kernel
theorem dX6_init_0 : decode cX6_init 0 = .ok (.aload_n 0, 1) := by decide +kernel
theorem dX6_init_1 : decode cX6_init 1 = .ok (.invokespecial 3, 3) := by decide +kernel
theorem dX6_init_4 : decode cX6_init 4 = .ok (.aload_n 0, 1) := by decide +kernel
theorem dX6_init_5 : decode cX6_init 5 = .ok (.new 9, 3) := by decide +kernel
theorem dX6_init_8 : decode cX6_init 8 = .ok (.dup, 1) := by decide +kernel
theorem dX6_init_9 : decode cX6_init 9 = .ok (.invokespecial 11, 3) := by decide +kernel
theorem dX6_init_12 : decode cX6_init 12 = .ok (.putfield 12, 3) := by decide +kernel
theorem dX6_init_15 : decode cX6_init 15 = .ok (.aload_n 0, 1) := by decide +kernel
theorem dX6_init_16 : decode cX6_init 16 = .ok (.new 9, 3) := by decide +kernel
theorem dX6_init_19 : decode cX6_init 19 = .ok (.dup, 1) := by decide +kernel
theorem dX6_init_20 : decode cX6_init 20 = .ok (.invokespecial 11, 3) := by decide +kernel
theorem dX6_init_23 : decode cX6_init 23 = .ok (.putfield 16, 3) := by decide +kernel
theorem dX6_init_26 : decode cX6_init 26 = .ok (.aload_n 0, 1) := by decide +kernel
theorem dX6_init_27 : decode cX6_init 27 = .ok (.new 9, 3) := by decide +kernel
theorem dX6_init_30 : decode cX6_init 30 = .ok (.dup, 1) := by decide +kernel
theorem dX6_init_31 : decode cX6_init 31 = .ok (.invokespecial 11, 3) := by decide +kernel
theorem dX6_init_34 : decode cX6_init 34 = .ok (.putfield 19, 3) := by decide +kernel
theorem dX6_init_37 : decode cX6_init 37 = .ok (.aload_n 0, 1) := by decide +kernel
theorem dX6_init_38 : decode cX6_init 38 = .ok (.iconst 0, 1) := by decide +kernel
theorem dX6_init_39 : decode cX6_init 39 = .ok (.putfield 22, 3) := by decide +kernel
theorem dX6_init_42 : decode cX6_init 42 = .ok (.aload_n 0, 1) := by decide +kernel
theorem dX6_init_43 : decode cX6_init 43 = .ok (.iconst 4, 1) := by decide +kernel
theorem dX6_init_44 : decode cX6_init 44 = .ok (.anewarray 26, 3) := by decide +kernel
theorem dX6_init_47 : decode cX6_init 47 = .ok (.putfield 28, 3) := by decide +kernel
theorem dX6_init_50 : decode cX6_init 50 = .ok (.aload_n 0, 1) := by decide +kernel
theorem dX6_init_51 : decode cX6_init 51 = .ok (.new 32, 3) := by decide +kernel
theorem dX6_init_54 : decode cX6_init 54 = .ok (.dup, 1) := by decide +kernel
theorem dX6_init_55 : decode cX6_init 55 = .ok (.invokespecial 34, 3) := by decide +kernel
theorem dX6_init_58 : decode cX6_init 58 = .ok (.putfield 35, 3) := by decide +kernel
theorem dX6_init_61 : decode cX6_init 61 = .ok (.aload_n 0, 1) := by decide +kernel
theorem dX6_init_62 : decode cX6_init 62 = .ok (.new 39, 3) := by decide +kernel
theorem dX6_init_65 : decode cX6_init 65 = .ok (.dup, 1) := by decide +kernel
theorem dX6_init_66 : decode cX6_init 66 = .ok (.invokespecial 41, 3) := by decide +kernel
theorem dX6_init_69 : decode cX6_init 69 = .ok (.putfield 42, 3) := by decide +kernel
theorem dX6_init_72 : decode cX6_init 72 = .ok (.aload_n 0, 1) := by decide +kernel
theorem dX6_init_73 : decode cX6_init 73 = .ok (.bipush 6, 2) := by decide +kernel
theorem dX6_init_75 : decode cX6_init 75 = .ok (.newarray .int, 2) := by decide +kernel
theorem dX6_init_77 : decode cX6_init 77 = .ok (.putfield 46, 3) := by decide +kernel
theorem dX6_init_80 : decode cX6_init 80 = .ok (.iconst 0, 1) := by decide +kernel
theorem dX6_init_81 : decode cX6_init 81 = .ok (.istore_n 1, 1) := by decide +kernel
theorem dX6_init_82 : decode cX6_init 82 = .ok (.iload_n 1, 1) := by decide +kernel
theorem dX6_init_83 : decode cX6_init 83 = .ok (.aload_n 0, 1) := by decide +kernel
theorem dX6_init_84 : decode cX6_init 84 = .ok (.getfield 28, 3) := by decide +kernel
theorem dX6_init_87 : decode cX6_init 87 = .ok (.arraylength, 1) := by decide +kernel
theorem dX6_init_88 : decode cX6_init 88 = .ok (.if_icmp .ge 22, 3) := by decide +kernel
theorem dX6_init_91 : decode cX6_init 91 = .ok (.aload_n 0, 1) := by decide +kernel
theorem dX6_init_92 : decode cX6_init 92 = .ok (.getfield 28, 3) := by decide +kernel
theorem dX6_init_95 : decode cX6_init 95 = .ok (.iload_n 1, 1) := by decide +kernel
theorem dX6_init_96 : decode cX6_init 96 = .ok (.new 26, 3) := by decide +kernel
theorem dX6_init_99 : decode cX6_init 99 = .ok (.dup, 1) := by decide +kernel
theorem dX6_init_100 : decode cX6_init 100 = .ok (.invokespecial 50, 3) := by decide +kernel
theorem dX6_init_103 : decode cX6_init 103 = .ok (.aastore, 1) := by decide +kernel
theorem dX6_init_104 : decode cX6_init 104 = .ok (.iinc 1 1, 3) := by decide +kernel
theorem dX6_init_107 : decode cX6_init 107 = .ok (.goto (-25), 3) := by decide +kernel
theorem dX6_init_110 : decode cX6_init 110 = .ok (.return_, 1) := by decide +kernel
theorem dX6_cloud_0 : decode cX6_cloud 0 = .ok (.iload_n 1, 1) := by decide +kernel
theorem dX6_cloud_1 : decode cX6_cloud 1 = .ok (.iconst 0, 1) := by decide +kernel
theorem dX6_cloud_2 : decode cX6_cloud 2 = .ok (.bipush 69, 2) := by decide +kernel
theorem dX6_cloud_4 : decode cX6_cloud 4 = .ok (.invokestatic 51, 3) := by decide +kernel
theorem dX6_cloud_7 : decode cX6_cloud 7 = .ok (.ifCond .eq 21, 3) := by decide +kernel
theorem dX6_cloud_10 : decode cX6_cloud 10 = .ok (.iload_n 2, 1) := by decide +kernel
theorem dX6_cloud_11 : decode cX6_cloud 11 = .ok (.invokestatic 55, 3) := by decide +kernel
theorem dX6_cloud_14 : decode cX6_cloud 14 = .ok (.ifCond .eq 14, 3) := by decide +kernel
theorem dX6_cloud_17 : decode cX6_cloud 17 = .ok (.iload_n 3, 1) := by decide +kernel
theorem dX6_cloud_18 : decode cX6_cloud 18 = .ok (.iconst 0, 1) := by decide +kernel
theorem dX6_cloud_19 : decode cX6_cloud 19 = .ok (.sipush 999, 3) := by decide +kernel
theorem dX6_cloud_22 : decode cX6_cloud 22 = .ok (.invokestatic 51, 3) := by decide +kernel
theorem dX6_cloud_25 : decode cX6_cloud 25 = .ok (.ifCond .ne 10, 3) := by decide +kernel
theorem dX6_cloud_28 : decode cX6_cloud 28 = .ok (.aload_n 0, 1) := by decide +kernel
theorem dX6_cloud_29 : decode cX6_cloud 29 = .ok (.ldc 59, 2) := by decide +kernel
theorem dX6_cloud_31 : decode cX6_cloud 31 = .ok (.invokevirtual 60, 3) := by decide +kernel
theorem dX6_cloud_34 : decode cX6_cloud 34 = .ok (.ireturn, 1) := by decide +kernel
theorem dX6_cloud_35 : decode cX6_cloud 35 = .ok (.aload_n 0, 1) := by decide +kernel
theorem dX6_cloud_36 : decode cX6_cloud 36 = .ok (.getfield 12, 3) := by decide +kernel
theorem dX6_cloud_39 : decode cX6_cloud 39 = .ok (.getfield 64, 3) := by decide +kernel
theorem dX6_cloud_42 : decode cX6_cloud 42 = .ok (.bipush 8, 2) := by decide +kernel
theorem dX6_cloud_44 : decode cX6_cloud 44 = .ok (.if_icmp .lt 10, 3) := by decide +kernel
theorem dX6_cloud_47 : decode cX6_cloud 47 = .ok (.aload_n 0, 1) := by decide +kernel
theorem dX6_cloud_48 : decode cX6_cloud 48 = .ok (.ldc 67, 2) := by decide +kernel
theorem dX6_cloud_50 : decode cX6_cloud 50 = .ok (.invokevirtual 60, 3) := by decide +kernel
theorem dX6_cloud_53 : decode cX6_cloud 53 = .ok (.ireturn, 1) := by decide +kernel
theorem dX6_cloud_54 : decode cX6_cloud 54 = .ok (.aload_n 0, 1) := by decide +kernel
theorem dX6_cloud_55 : decode cX6_cloud 55 = .ok (.getfield 12, 3) := by decide +kernel
theorem dX6_cloud_58 : decode cX6_cloud 58 = .ok (.iload_n 1, 1) := by decide +kernel
theorem dX6_cloud_59 : decode cX6_cloud 59 = .ok (.iload_n 2, 1) := by decide +kernel
theorem dX6_cloud_60 : decode cX6_cloud 60 = .ok (.iload_n 3, 1) := by decide +kernel
theorem dX6_cloud_61 : decode cX6_cloud 61 = .ok (.invokevirtual 68, 3) := by decide +kernel
theorem dX6_cloud_64 : decode cX6_cloud 64 = .ok (.ireturn, 1) := by decide +kernel
theorem dX6_ofCloud_0 : decode cX6_ofCloud 0 = .ok (.aload_n 0, 1) := by decide +kernel
theorem dX6_ofCloud_1 : decode cX6_ofCloud 1 = .ok (.iload_n 1, 1) := by decide +kernel
theorem dX6_ofCloud_2 : decode cX6_ofCloud 2 = .ok (.invokevirtual 72, 3) := by decide +kernel
theorem dX6_ofCloud_5 : decode cX6_ofCloud 5 = .ok (.ifCond .eq 13, 3) := by decide +kernel
theorem dX6_ofCloud_8 : decode cX6_ofCloud 8 = .ok (.iload_n 2, 1) := by decide +kernel
theorem dX6_ofCloud_9 : decode cX6_ofCloud 9 = .ok (.iconst 0, 1) := by decide +kernel
theorem dX6_ofCloud_10 : decode cX6_ofCloud 10 = .ok (.bipush 11, 2) := by decide +kernel
theorem dX6_ofCloud_12 : decode cX6_ofCloud 12 = .ok (.invokestatic 51, 3) := by decide +kernel
theorem dX6_ofCloud_15 : decode cX6_ofCloud 15 = .ok (.ifCond .ne 10, 3) := by decide +kernel
theorem dX6_ofCloud_18 : decode cX6_ofCloud 18 = .ok (.aload_n 0, 1) := by decide +kernel
theorem dX6_ofCloud_19 : decode cX6_ofCloud 19 = .ok (.ldc 59, 2) := by decide +kernel
theorem dX6_ofCloud_21 : decode cX6_ofCloud 21 = .ok (.invokevirtual 60, 3) := by decide +kernel
theorem dX6_ofCloud_24 : decode cX6_ofCloud 24 = .ok (.ireturn, 1) := by decide +kernel
theorem dX6_ofCloud_25 : decode cX6_ofCloud 25 = .ok (.aload_n 0, 1) := by decide +kernel
theorem dX6_ofCloud_26 : decode cX6_ofCloud 26 = .ok (.getfield 12, 3) := by decide +kernel
theorem dX6_ofCloud_29 : decode cX6_ofCloud 29 = .ok (.iload_n 1, 1) := by decide +kernel
theorem dX6_ofCloud_30 : decode cX6_ofCloud 30 = .ok (.iload_n 2, 1) := by decide +kernel
theorem dX6_ofCloud_31 : decode cX6_ofCloud 31 = .ok (.invokevirtual 75, 3) := by decide +kernel
theorem dX6_ofCloud_34 : decode cX6_ofCloud 34 = .ok (.ireturn, 1) := by decide +kernel
theorem dX6_become_0 : decode cX6_become 0 = .ok (.aload_n 0, 1) := by decide +kernel
theorem dX6_become_1 : decode cX6_become 1 = .ok (.iload_n 1, 1) := by decide +kernel
theorem dX6_become_2 : decode cX6_become 2 = .ok (.invokevirtual 72, 3) := by decide +kernel
theorem dX6_become_5 : decode cX6_become 5 = .ok (.ifCond .eq 13, 3) := by decide +kernel
theorem dX6_become_8 : decode cX6_become 8 = .ok (.iload_n 2, 1) := by decide +kernel
theorem dX6_become_9 : decode cX6_become 9 = .ok (.iconst 0, 1) := by decide +kernel
theorem dX6_become_10 : decode cX6_become 10 = .ok (.bipush 69, 2) := by decide +kernel
theorem dX6_become_12 : decode cX6_become 12 = .ok (.invokestatic 51, 3) := by decide +kernel
theorem dX6_become_15 : decode cX6_become 15 = .ok (.ifCond .ne 10, 3) := by decide +kernel
theorem dX6_become_18 : decode cX6_become 18 = .ok (.aload_n 0, 1) := by decide +kernel
theorem dX6_become_19 : decode cX6_become 19 = .ok (.ldc 59, 2) := by decide +kernel
theorem dX6_become_21 : decode cX6_become 21 = .ok (.invokevirtual 60, 3) := by decide +kernel
theorem dX6_become_24 : decode cX6_become 24 = .ok (.ireturn, 1) := by decide +kernel
theorem dX6_become_25 : decode cX6_become 25 = .ok (.aload_n 0, 1) := by decide +kernel
theorem dX6_become_26 : decode cX6_become 26 = .ok (.getfield 12, 3) := by decide +kernel
theorem dX6_become_29 : decode cX6_become 29 = .ok (.getfield 79, 3) := by decide +kernel
theorem dX6_become_32 : decode cX6_become 32 = .ok (.iload_n 1, 1) := by decide +kernel
theorem dX6_become_33 : decode cX6_become 33 = .ok (.aaload, 1) := by decide +kernel
theorem dX6_become_34 : decode cX6_become 34 = .ok (.getfield 83, 3) := by decide +kernel
theorem dX6_become_37 : decode cX6_become 37 = .ok (.istore_n 3, 1) := by decide +kernel
theorem dX6_become_38 : decode cX6_become 38 = .ok (.aload_n 0, 1) := by decide +kernel
theorem dX6_become_39 : decode cX6_become 39 = .ok (.getfield 12, 3) := by decide +kernel
theorem dX6_become_42 : decode cX6_become 42 = .ok (.getfield 79, 3) := by decide +kernel
theorem dX6_become_45 : decode cX6_become 45 = .ok (.iload_n 1, 1) := by decide +kernel
theorem dX6_become_46 : decode cX6_become 46 = .ok (.aaload, 1) := by decide +kernel
theorem dX6_become_47 : decode cX6_become 47 = .ok (.iload_n 2, 1) := by decide +kernel
theorem dX6_become_48 : decode cX6_become 48 = .ok (.invokevirtual 88, 3) := by decide +kernel
theorem dX6_become_51 : decode cX6_become 51 = .ok (.iload_n 3, 1) := by decide +kernel
theorem dX6_become_52 : decode cX6_become 52 = .ok (.ireturn, 1) := by decide +kernel
theorem dX6_as_0 : decode cX6_as 0 = .ok (.aload_n 0, 1) := by decide +kernel
theorem dX6_as_1 : decode cX6_as 1 = .ok (.iload_n 1, 1) := by decide +kernel
theorem dX6_as_2 : decode cX6_as 2 = .ok (.invokevirtual 72, 3) := by decide +kernel
theorem dX6_as_5 : decode cX6_as 5 = .ok (.ifCond .eq 13, 3) := by decide +kernel
theorem dX6_as_8 : decode cX6_as 8 = .ok (.iload_n 2, 1) := by decide +kernel
theorem dX6_as_9 : decode cX6_as 9 = .ok (.iconst 0, 1) := by decide +kernel
theorem dX6_as_10 : decode cX6_as 10 = .ok (.bipush 6, 2) := by decide +kernel
theorem dX6_as_12 : decode cX6_as 12 = .ok (.invokestatic 51, 3) := by decide +kernel
theorem dX6_as_15 : decode cX6_as 15 = .ok (.ifCond .ne 10, 3) := by decide +kernel
theorem dX6_as_18 : decode cX6_as 18 = .ok (.aload_n 0, 1) := by decide +kernel
theorem dX6_as_19 : decode cX6_as 19 = .ok (.ldc 59, 2) := by decide +kernel
theorem dX6_as_21 : decode cX6_as 21 = .ok (.invokevirtual 60, 3) := by decide +kernel
theorem dX6_as_24 : decode cX6_as 24 = .ok (.ireturn, 1) := by decide +kernel
theorem dX6_as_25 : decode cX6_as 25 = .ok (.aload_n 0, 1) := by decide +kernel
theorem dX6_as_26 : decode cX6_as 26 = .ok (.getfield 12, 3) := by decide +kernel
theorem dX6_as_29 : decode cX6_as 29 = .ok (.getfield 79, 3) := by decide +kernel
theorem dX6_as_32 : decode cX6_as 32 = .ok (.iload_n 1, 1) := by decide +kernel
theorem dX6_as_33 : decode cX6_as 33 = .ok (.aaload, 1) := by decide +kernel
theorem dX6_as_34 : decode cX6_as 34 = .ok (.getfield 83, 3) := by decide +kernel
theorem dX6_as_37 : decode cX6_as 37 = .ok (.iload_n 2, 1) := by decide +kernel
theorem dX6_as_38 : decode cX6_as 38 = .ok (.invokestatic 92, 3) := by decide +kernel
theorem dX6_as_41 : decode cX6_as 41 = .ok (.ifCond .ne 10, 3) := by decide +kernel
theorem dX6_as_44 : decode cX6_as 44 = .ok (.aload_n 0, 1) := by decide +kernel
theorem dX6_as_45 : decode cX6_as 45 = .ok (.ldc 96, 2) := by decide +kernel
theorem dX6_as_47 : decode cX6_as 47 = .ok (.invokevirtual 60, 3) := by decide +kernel
theorem dX6_as_50 : decode cX6_as 50 = .ok (.ireturn, 1) := by decide +kernel
theorem dX6_as_51 : decode cX6_as 51 = .ok (.aload_n 0, 1) := by decide +kernel
theorem dX6_as_52 : decode cX6_as 52 = .ok (.getfield 12, 3) := by decide +kernel
theorem dX6_as_55 : decode cX6_as 55 = .ok (.getfield 79, 3) := by decide +kernel
theorem dX6_as_58 : decode cX6_as 58 = .ok (.iload_n 1, 1) := by decide +kernel
theorem dX6_as_59 : decode cX6_as 59 = .ok (.aaload, 1) := by decide +kernel
theorem dX6_as_60 : decode cX6_as 60 = .ok (.getfield 97, 3) := by decide +kernel
theorem dX6_as_63 : decode cX6_as 63 = .ok (.ireturn, 1) := by decide +kernel
theorem dX6_set_0 : decode cX6_set 0 = .ok (.aload_n 0, 1) := by decide +kernel
theorem dX6_set_1 : decode cX6_set 1 = .ok (.iload_n 1, 1) := by decide +kernel
theorem dX6_set_2 : decode cX6_set 2 = .ok (.invokevirtual 72, 3) := by decide +kernel
theorem dX6_set_5 : decode cX6_set 5 = .ok (.ifCond .eq 24, 3) := by decide +kernel
theorem dX6_set_8 : decode cX6_set 8 = .ok (.iload_n 2, 1) := by decide +kernel
theorem dX6_set_9 : decode cX6_set 9 = .ok (.iconst 0, 1) := by decide +kernel
theorem dX6_set_10 : decode cX6_set 10 = .ok (.iconst 4, 1) := by decide +kernel
theorem dX6_set_11 : decode cX6_set 11 = .ok (.invokestatic 51, 3) := by decide +kernel
theorem dX6_set_14 : decode cX6_set 14 = .ok (.ifCond .eq 15, 3) := by decide +kernel
theorem dX6_set_17 : decode cX6_set 17 = .ok (.iload_n 3, 1) := by decide +kernel
theorem dX6_set_18 : decode cX6_set 18 = .ok (.iconst 0, 1) := by decide +kernel
theorem dX6_set_19 : decode cX6_set 19 = .ok (.iload_n 2, 1) := by decide +kernel
theorem dX6_set_20 : decode cX6_set 20 = .ok (.invokestatic 100, 3) := by decide +kernel
theorem dX6_set_23 : decode cX6_set 23 = .ok (.invokestatic 51, 3) := by decide +kernel
theorem dX6_set_26 : decode cX6_set 26 = .ok (.ifCond .ne 10, 3) := by decide +kernel
theorem dX6_set_29 : decode cX6_set 29 = .ok (.aload_n 0, 1) := by decide +kernel
theorem dX6_set_30 : decode cX6_set 30 = .ok (.ldc 59, 2) := by decide +kernel
theorem dX6_set_32 : decode cX6_set 32 = .ok (.invokevirtual 60, 3) := by decide +kernel
theorem dX6_set_35 : decode cX6_set 35 = .ok (.ireturn, 1) := by decide +kernel
theorem dX6_set_36 : decode cX6_set 36 = .ok (.aload_n 0, 1) := by decide +kernel
theorem dX6_set_37 : decode cX6_set 37 = .ok (.getfield 12, 3) := by decide +kernel
theorem dX6_set_40 : decode cX6_set 40 = .ok (.getfield 79, 3) := by decide +kernel
theorem dX6_set_43 : decode cX6_set 43 = .ok (.iload_n 1, 1) := by decide +kernel
theorem dX6_set_44 : decode cX6_set 44 = .ok (.aaload, 1) := by decide +kernel
theorem dX6_set_45 : decode cX6_set 45 = .ok (.getfield 103, 3) := by decide +kernel
theorem dX6_set_48 : decode cX6_set 48 = .ok (.ifCond .ne 10, 3) := by decide +kernel
theorem dX6_set_51 : decode cX6_set 51 = .ok (.aload_n 0, 1) := by decide +kernel
theorem dX6_set_52 : decode cX6_set 52 = .ok (.ldc 107, 2) := by decide +kernel
theorem dX6_set_54 : decode cX6_set 54 = .ok (.invokevirtual 60, 3) := by decide +kernel
theorem dX6_set_57 : decode cX6_set 57 = .ok (.ireturn, 1) := by decide +kernel
theorem dX6_set_58 : decode cX6_set 58 = .ok (.aload_n 0, 1) := by decide +kernel
theorem dX6_set_59 : decode cX6_set 59 = .ok (.getfield 12, 3) := by decide +kernel
theorem dX6_set_62 : decode cX6_set 62 = .ok (.getfield 79, 3) := by decide +kernel
theorem dX6_set_65 : decode cX6_set 65 = .ok (.iload_n 1, 1) := by decide +kernel
theorem dX6_set_66 : decode cX6_set 66 = .ok (.aaload, 1) := by decide +kernel
theorem dX6_set_67 : decode cX6_set 67 = .ok (.iload_n 2, 1) := by decide +kernel
theorem dX6_set_68 : decode cX6_set 68 = .ok (.iload_n 3, 1) := by decide +kernel
theorem dX6_set_69 : decode cX6_set 69 = .ok (.invokevirtual 108, 3) := by decide +kernel
theorem dX6_set_72 : decode cX6_set 72 = .ok (.ireturn, 1) := by decide +kernel
theorem dX6_hill_0 : decode cX6_hill 0 = .ok (.iload_n 1, 1) := by decide +kernel
theorem dX6_hill_1 : decode cX6_hill 1 = .ok (.invokestatic 55, 3) := by decide +kernel
theorem dX6_hill_4 : decode cX6_hill 4 = .ok (.ifCond .eq 13, 3) := by decide +kernel
theorem dX6_hill_7 : decode cX6_hill 7 = .ok (.iload_n 2, 1) := by decide +kernel
theorem dX6_hill_8 : decode cX6_hill 8 = .ok (.iconst 0, 1) := by decide +kernel
theorem dX6_hill_9 : decode cX6_hill 9 = .ok (.bipush 9, 2) := by decide +kernel
theorem dX6_hill_11 : decode cX6_hill 11 = .ok (.invokestatic 51, 3) := by decide +kernel
theorem dX6_hill_14 : decode cX6_hill 14 = .ok (.ifCond .ne 10, 3) := by decide +kernel
theorem dX6_hill_17 : decode cX6_hill 17 = .ok (.aload_n 0, 1) := by decide +kernel
theorem dX6_hill_18 : decode cX6_hill 18 = .ok (.ldc 59, 2) := by decide +kernel
theorem dX6_hill_20 : decode cX6_hill 20 = .ok (.invokevirtual 60, 3) := by decide +kernel
theorem dX6_hill_23 : decode cX6_hill 23 = .ok (.ireturn, 1) := by decide +kernel
theorem dX6_hill_24 : decode cX6_hill 24 = .ok (.aload_n 0, 1) := by decide +kernel
theorem dX6_hill_25 : decode cX6_hill 25 = .ok (.getfield 12, 3) := by decide +kernel
theorem dX6_hill_28 : decode cX6_hill 28 = .ok (.getfield 111, 3) := by decide +kernel
theorem dX6_hill_31 : decode cX6_hill 31 = .ok (.iload_n 1, 1) := by decide +kernel
theorem dX6_hill_32 : decode cX6_hill 32 = .ok (.iaload, 1) := by decide +kernel
theorem dX6_hill_33 : decode cX6_hill 33 = .ok (.istore_n 3, 1) := by decide +kernel
theorem dX6_hill_34 : decode cX6_hill 34 = .ok (.aload_n 0, 1) := by decide +kernel
theorem dX6_hill_35 : decode cX6_hill 35 = .ok (.getfield 12, 3) := by decide +kernel
theorem dX6_hill_38 : decode cX6_hill 38 = .ok (.getfield 111, 3) := by decide +kernel
theorem dX6_hill_41 : decode cX6_hill 41 = .ok (.iload_n 1, 1) := by decide +kernel
theorem dX6_hill_42 : decode cX6_hill 42 = .ok (.iload_n 2, 1) := by decide +kernel
theorem dX6_hill_43 : decode cX6_hill 43 = .ok (.iastore, 1) := by decide +kernel
theorem dX6_hill_44 : decode cX6_hill 44 = .ok (.iload_n 3, 1) := by decide +kernel
theorem dX6_hill_45 : decode cX6_hill 45 = .ok (.ireturn, 1) := by decide +kernel
theorem dX6_wind_0 : decode cX6_wind 0 = .ok (.iload_n 1, 1) := by decide +kernel
theorem dX6_wind_1 : decode cX6_wind 1 = .ok (.iconst 0, 1) := by decide +kernel
theorem dX6_wind_2 : decode cX6_wind 2 = .ok (.bipush 7, 2) := by decide +kernel
theorem dX6_wind_4 : decode cX6_wind 4 = .ok (.invokestatic 51, 3) := by decide +kernel
theorem dX6_wind_7 : decode cX6_wind 7 = .ok (.ifCond .eq 13, 3) := by decide +kernel
theorem dX6_wind_10 : decode cX6_wind 10 = .ok (.iload_n 2, 1) := by decide +kernel
theorem dX6_wind_11 : decode cX6_wind 11 = .ok (.bipush (-3), 2) := by decide +kernel
theorem dX6_wind_13 : decode cX6_wind 13 = .ok (.iconst 3, 1) := by decide +kernel
theorem dX6_wind_14 : decode cX6_wind 14 = .ok (.invokestatic 51, 3) := by decide +kernel
theorem dX6_wind_17 : decode cX6_wind 17 = .ok (.ifCond .ne 10, 3) := by decide +kernel
theorem dX6_wind_20 : decode cX6_wind 20 = .ok (.aload_n 0, 1) := by decide +kernel
theorem dX6_wind_21 : decode cX6_wind 21 = .ok (.ldc 59, 2) := by decide +kernel
theorem dX6_wind_23 : decode cX6_wind 23 = .ok (.invokevirtual 60, 3) := by decide +kernel
theorem dX6_wind_26 : decode cX6_wind 26 = .ok (.ireturn, 1) := by decide +kernel
theorem dX6_wind_27 : decode cX6_wind 27 = .ok (.aload_n 0, 1) := by decide +kernel
theorem dX6_wind_28 : decode cX6_wind 28 = .ok (.getfield 12, 3) := by decide +kernel
theorem dX6_wind_31 : decode cX6_wind 31 = .ok (.getfield 114, 3) := by decide +kernel
theorem dX6_wind_34 : decode cX6_wind 34 = .ok (.iload_n 1, 1) := by decide +kernel
theorem dX6_wind_35 : decode cX6_wind 35 = .ok (.iaload, 1) := by decide +kernel
theorem dX6_wind_36 : decode cX6_wind 36 = .ok (.istore_n 3, 1) := by decide +kernel
theorem dX6_wind_37 : decode cX6_wind 37 = .ok (.aload_n 0, 1) := by decide +kernel
theorem dX6_wind_38 : decode cX6_wind 38 = .ok (.getfield 12, 3) := by decide +kernel
theorem dX6_wind_41 : decode cX6_wind 41 = .ok (.getfield 114, 3) := by decide +kernel
theorem dX6_wind_44 : decode cX6_wind 44 = .ok (.iload_n 1, 1) := by decide +kernel
theorem dX6_wind_45 : decode cX6_wind 45 = .ok (.iload_n 2, 1) := by decide +kernel
theorem dX6_wind_46 : decode cX6_wind 46 = .ok (.iastore, 1) := by decide +kernel
theorem dX6_wind_47 : decode cX6_wind 47 = .ok (.iload_n 3, 1) := by decide +kernel
theorem dX6_wind_48 : decode cX6_wind 48 = .ok (.ireturn, 1) := by decide +kernel
theorem dX6_join_0 : decode cX6_join 0 = .ok (.aload_n 0, 1) := by decide +kernel
theorem dX6_join_1 : decode cX6_join 1 = .ok (.iload_n 1, 1) := by decide +kernel
theorem dX6_join_2 : decode cX6_join 2 = .ok (.iload_n 2, 1) := by decide +kernel
theorem dX6_join_3 : decode cX6_join 3 = .ok (.invokevirtual 117, 3) := by decide +kernel
theorem dX6_join_6 : decode cX6_join 6 = .ok (.ifCond .ne 10, 3) := by decide +kernel
theorem dX6_join_9 : decode cX6_join 9 = .ok (.aload_n 0, 1) := by decide +kernel
theorem dX6_join_10 : decode cX6_join 10 = .ok (.ldc 59, 2) := by decide +kernel
theorem dX6_join_12 : decode cX6_join 12 = .ok (.invokevirtual 60, 3) := by decide +kernel
theorem dX6_join_15 : decode cX6_join 15 = .ok (.ireturn, 1) := by decide +kernel
theorem dX6_join_16 : decode cX6_join 16 = .ok (.aload_n 0, 1) := by decide +kernel
theorem dX6_join_17 : decode cX6_join 17 = .ok (.getfield 12, 3) := by decide +kernel
theorem dX6_join_20 : decode cX6_join 20 = .ok (.iload_n 1, 1) := by decide +kernel
theorem dX6_join_21 : decode cX6_join 21 = .ok (.iload_n 2, 1) := by decide +kernel
theorem dX6_join_22 : decode cX6_join 22 = .ok (.invokevirtual 120, 3) := by decide +kernel
theorem dX6_join_25 : decode cX6_join 25 = .ok (.ifCond .ne 10, 3) := by decide +kernel
theorem dX6_join_28 : decode cX6_join 28 = .ok (.aload_n 0, 1) := by decide +kernel
theorem dX6_join_29 : decode cX6_join 29 = .ok (.ldc 107, 2) := by decide +kernel
theorem dX6_join_31 : decode cX6_join 31 = .ok (.invokevirtual 60, 3) := by decide +kernel
theorem dX6_join_34 : decode cX6_join 34 = .ok (.ireturn, 1) := by decide +kernel
theorem dX6_join_35 : decode cX6_join 35 = .ok (.aload_n 0, 1) := by decide +kernel
theorem dX6_join_36 : decode cX6_join 36 = .ok (.getfield 12, 3) := by decide +kernel
theorem dX6_join_39 : decode cX6_join 39 = .ok (.getfield 79, 3) := by decide +kernel
theorem dX6_join_42 : decode cX6_join 42 = .ok (.iload_n 1, 1) := by decide +kernel
theorem dX6_join_43 : decode cX6_join 43 = .ok (.aaload, 1) := by decide +kernel
theorem dX6_join_44 : decode cX6_join 44 = .ok (.aload_n 0, 1) := by decide +kernel
theorem dX6_join_45 : decode cX6_join 45 = .ok (.getfield 12, 3) := by decide +kernel
theorem dX6_join_48 : decode cX6_join 48 = .ok (.getfield 79, 3) := by decide +kernel
theorem dX6_join_51 : decode cX6_join 51 = .ok (.iload_n 2, 1) := by decide +kernel
theorem dX6_join_52 : decode cX6_join 52 = .ok (.aaload, 1) := by decide +kernel
theorem dX6_join_53 : decode cX6_join 53 = .ok (.invokevirtual 123, 3) := by decide +kernel
theorem dX6_join_56 : decode cX6_join 56 = .ok (.aload_n 0, 1) := by decide +kernel
theorem dX6_join_57 : decode cX6_join 57 = .ok (.getfield 12, 3) := by decide +kernel
theorem dX6_join_60 : decode cX6_join 60 = .ok (.getfield 79, 3) := by decide +kernel
theorem dX6_join_63 : decode cX6_join 63 = .ok (.iload_n 1, 1) := by decide +kernel
theorem dX6_join_64 : decode cX6_join 64 = .ok (.aaload, 1) := by decide +kernel
theorem dX6_join_65 : decode cX6_join 65 = .ok (.getfield 127, 3) := by decide +kernel
theorem dX6_join_68 : decode cX6_join 68 = .ok (.ireturn, 1) := by decide +kernel
theorem dX6_part_0 : decode cX6_part 0 = .ok (.aload_n 0, 1) := by decide +kernel
theorem dX6_part_1 : decode cX6_part 1 = .ok (.iload_n 1, 1) := by decide +kernel
theorem dX6_part_2 : decode cX6_part 2 = .ok (.iload_n 2, 1) := by decide +kernel
theorem dX6_part_3 : decode cX6_part 3 = .ok (.invokevirtual 117, 3) := by decide +kernel
theorem dX6_part_6 : decode cX6_part 6 = .ok (.ifCond .ne 10, 3) := by decide +kernel
theorem dX6_part_9 : decode cX6_part 9 = .ok (.aload_n 0, 1) := by decide +kernel
theorem dX6_part_10 : decode cX6_part 10 = .ok (.ldc 59, 2) := by decide +kernel
theorem dX6_part_12 : decode cX6_part 12 = .ok (.invokevirtual 60, 3) := by decide +kernel
theorem dX6_part_15 : decode cX6_part 15 = .ok (.ireturn, 1) := by decide +kernel
theorem dX6_part_16 : decode cX6_part 16 = .ok (.aload_n 0, 1) := by decide +kernel
theorem dX6_part_17 : decode cX6_part 17 = .ok (.getfield 12, 3) := by decide +kernel
theorem dX6_part_20 : decode cX6_part 20 = .ok (.getfield 79, 3) := by decide +kernel
theorem dX6_part_23 : decode cX6_part 23 = .ok (.iload_n 1, 1) := by decide +kernel
theorem dX6_part_24 : decode cX6_part 24 = .ok (.aaload, 1) := by decide +kernel
theorem dX6_part_25 : decode cX6_part 25 = .ok (.getfield 103, 3) := by decide +kernel
theorem dX6_part_28 : decode cX6_part 28 = .ok (.ifCond .eq 18, 3) := by decide +kernel
theorem dX6_part_31 : decode cX6_part 31 = .ok (.aload_n 0, 1) := by decide +kernel
theorem dX6_part_32 : decode cX6_part 32 = .ok (.getfield 12, 3) := by decide +kernel
theorem dX6_part_35 : decode cX6_part 35 = .ok (.getfield 79, 3) := by decide +kernel
theorem dX6_part_38 : decode cX6_part 38 = .ok (.iload_n 2, 1) := by decide +kernel
theorem dX6_part_39 : decode cX6_part 39 = .ok (.aaload, 1) := by decide +kernel
theorem dX6_part_40 : decode cX6_part 40 = .ok (.getfield 103, 3) := by decide +kernel
theorem dX6_part_43 : decode cX6_part 43 = .ok (.ifCond .eq 10, 3) := by decide +kernel
theorem dX6_part_46 : decode cX6_part 46 = .ok (.aload_n 0, 1) := by decide +kernel
theorem dX6_part_47 : decode cX6_part 47 = .ok (.ldc 107, 2) := by decide +kernel
theorem dX6_part_49 : decode cX6_part 49 = .ok (.invokevirtual 60, 3) := by decide +kernel
theorem dX6_part_52 : decode cX6_part 52 = .ok (.ireturn, 1) := by decide +kernel
theorem dX6_part_53 : decode cX6_part 53 = .ok (.aload_n 0, 1) := by decide +kernel
theorem dX6_part_54 : decode cX6_part 54 = .ok (.getfield 12, 3) := by decide +kernel
theorem dX6_part_57 : decode cX6_part 57 = .ok (.getfield 79, 3) := by decide +kernel
theorem dX6_part_60 : decode cX6_part 60 = .ok (.iload_n 1, 1) := by decide +kernel
theorem dX6_part_61 : decode cX6_part 61 = .ok (.aaload, 1) := by decide +kernel
theorem dX6_part_62 : decode cX6_part 62 = .ok (.aload_n 0, 1) := by decide +kernel
theorem dX6_part_63 : decode cX6_part 63 = .ok (.getfield 12, 3) := by decide +kernel
theorem dX6_part_66 : decode cX6_part 66 = .ok (.getfield 79, 3) := by decide +kernel
theorem dX6_part_69 : decode cX6_part 69 = .ok (.iload_n 2, 1) := by decide +kernel
theorem dX6_part_70 : decode cX6_part 70 = .ok (.aaload, 1) := by decide +kernel
theorem dX6_part_71 : decode cX6_part 71 = .ok (.invokevirtual 130, 3) := by decide +kernel
theorem dX6_part_74 : decode cX6_part 74 = .ok (.aload_n 0, 1) := by decide +kernel
theorem dX6_part_75 : decode cX6_part 75 = .ok (.getfield 12, 3) := by decide +kernel
theorem dX6_part_78 : decode cX6_part 78 = .ok (.getfield 79, 3) := by decide +kernel
theorem dX6_part_81 : decode cX6_part 81 = .ok (.iload_n 2, 1) := by decide +kernel
theorem dX6_part_82 : decode cX6_part 82 = .ok (.aaload, 1) := by decide +kernel
theorem dX6_part_83 : decode cX6_part 83 = .ok (.getfield 127, 3) := by decide +kernel
theorem dX6_part_86 : decode cX6_part 86 = .ok (.ireturn, 1) := by decide +kernel
theorem dX6_feed_0 : decode cX6_feed 0 = .ok (.iload_n 3, 1) := by decide +kernel
theorem dX6_feed_1 : decode cX6_feed 1 = .ok (.iconst 1, 1) := by decide +kernel
theorem dX6_feed_2 : decode cX6_feed 2 = .ok (.bipush 8, 2) := by decide +kernel
theorem dX6_feed_4 : decode cX6_feed 4 = .ok (.invokestatic 51, 3) := by decide +kernel
theorem dX6_feed_7 : decode cX6_feed 7 = .ok (.ifCond .ne 10, 3) := by decide +kernel
theorem dX6_feed_10 : decode cX6_feed 10 = .ok (.aload_n 0, 1) := by decide +kernel
theorem dX6_feed_11 : decode cX6_feed 11 = .ok (.ldc 59, 2) := by decide +kernel
theorem dX6_feed_13 : decode cX6_feed 13 = .ok (.invokevirtual 60, 3) := by decide +kernel
theorem dX6_feed_16 : decode cX6_feed 16 = .ok (.ireturn, 1) := by decide +kernel
theorem dX6_feed_17 : decode cX6_feed 17 = .ok (.aload_n 0, 1) := by decide +kernel
theorem dX6_feed_18 : decode cX6_feed 18 = .ok (.getfield 12, 3) := by decide +kernel
theorem dX6_feed_21 : decode cX6_feed 21 = .ok (.getfield 133, 3) := by decide +kernel
theorem dX6_feed_24 : decode cX6_feed 24 = .ok (.iload_n 3, 1) := by decide +kernel
theorem dX6_feed_25 : decode cX6_feed 25 = .ok (.iadd, 1) := by decide +kernel
theorem dX6_feed_26 : decode cX6_feed 26 = .ok (.bipush 50, 2) := by decide +kernel
theorem dX6_feed_28 : decode cX6_feed 28 = .ok (.if_icmp .le 10, 3) := by decide +kernel
theorem dX6_feed_31 : decode cX6_feed 31 = .ok (.aload_n 0, 1) := by decide +kernel
theorem dX6_feed_32 : decode cX6_feed 32 = .ok (.ldc 67, 2) := by decide +kernel
theorem dX6_feed_34 : decode cX6_feed 34 = .ok (.invokevirtual 60, 3) := by decide +kernel
theorem dX6_feed_37 : decode cX6_feed 37 = .ok (.ireturn, 1) := by decide +kernel
theorem dX6_feed_38 : decode cX6_feed 38 = .ok (.iconst 0, 1) := by decide +kernel
theorem dX6_feed_39 : decode cX6_feed 39 = .ok (.istore 4, 2) := by decide +kernel
theorem dX6_feed_41 : decode cX6_feed 41 = .ok (.iload 4, 2) := by decide +kernel
theorem dX6_feed_43 : decode cX6_feed 43 = .ok (.iload_n 3, 1) := by decide +kernel
theorem dX6_feed_44 : decode cX6_feed 44 = .ok (.if_icmp .ge 39, 3) := by decide +kernel
theorem dX6_feed_47 : decode cX6_feed 47 = .ok (.aload_n 0, 1) := by decide +kernel
theorem dX6_feed_48 : decode cX6_feed 48 = .ok (.getfield 12, 3) := by decide +kernel
theorem dX6_feed_51 : decode cX6_feed 51 = .ok (.getfield 136, 3) := by decide +kernel
theorem dX6_feed_54 : decode cX6_feed 54 = .ok (.aload_n 0, 1) := by decide +kernel
theorem dX6_feed_55 : decode cX6_feed 55 = .ok (.getfield 12, 3) := by decide +kernel
theorem dX6_feed_58 : decode cX6_feed 58 = .ok (.getfield 133, 3) := by decide +kernel
theorem dX6_feed_61 : decode cX6_feed 61 = .ok (.iload 4, 2) := by decide +kernel
theorem dX6_feed_63 : decode cX6_feed 63 = .ok (.iadd, 1) := by decide +kernel
theorem dX6_feed_64 : decode cX6_feed 64 = .ok (.lload_n 1, 1) := by decide +kernel
theorem dX6_feed_65 : decode cX6_feed 65 = .ok (.bipush 8, 2) := by decide +kernel
theorem dX6_feed_67 : decode cX6_feed 67 = .ok (.iload 4, 2) := by decide +kernel
theorem dX6_feed_69 : decode cX6_feed 69 = .ok (.imul, 1) := by decide +kernel
theorem dX6_feed_70 : decode cX6_feed 70 = .ok (.lushr, 1) := by decide +kernel
theorem dX6_feed_71 : decode cX6_feed 71 = .ok (.l2i, 1) := by decide +kernel
theorem dX6_feed_72 : decode cX6_feed 72 = .ok (.sipush 255, 3) := by decide +kernel
theorem dX6_feed_75 : decode cX6_feed 75 = .ok (.iand, 1) := by decide +kernel
theorem dX6_feed_76 : decode cX6_feed 76 = .ok (.iastore, 1) := by decide +kernel
theorem dX6_feed_77 : decode cX6_feed 77 = .ok (.iinc 4 1, 3) := by decide +kernel
theorem dX6_feed_80 : decode cX6_feed 80 = .ok (.goto (-39), 3) := by decide +kernel
theorem dX6_feed_83 : decode cX6_feed 83 = .ok (.aload_n 0, 1) := by decide +kernel
theorem dX6_feed_84 : decode cX6_feed 84 = .ok (.getfield 12, 3) := by decide +kernel
theorem dX6_feed_87 : decode cX6_feed 87 = .ok (.dup, 1) := by decide +kernel
theorem dX6_feed_88 : decode cX6_feed 88 = .ok (.getfield 133, 3) := by decide +kernel
theorem dX6_feed_91 : decode cX6_feed 91 = .ok (.iload_n 3, 1) := by decide +kernel
theorem dX6_feed_92 : decode cX6_feed 92 = .ok (.iadd, 1) := by decide +kernel
theorem dX6_feed_93 : decode cX6_feed 93 = .ok (.putfield 133, 3) := by decide +kernel
theorem dX6_feed_96 : decode cX6_feed 96 = .ok (.aload_n 0, 1) := by decide +kernel
theorem dX6_feed_97 : decode cX6_feed 97 = .ok (.getfield 12, 3) := by decide +kernel
theorem dX6_feed_100 : decode cX6_feed 100 = .ok (.getfield 133, 3) := by decide +kernel
theorem dX6_feed_103 : decode cX6_feed 103 = .ok (.ireturn, 1) := by decide +kernel
theorem dX6_text_0 : decode cX6_text 0 = .ok (.iload_n 1, 1) := by decide +kernel
theorem dX6_text_1 : decode cX6_text 1 = .ok (.iconst 0, 1) := by decide +kernel
theorem dX6_text_2 : decode cX6_text 2 = .ok (.iconst 1, 1) := by decide +kernel
theorem dX6_text_3 : decode cX6_text 3 = .ok (.invokestatic 51, 3) := by decide +kernel
theorem dX6_text_6 : decode cX6_text 6 = .ok (.ifCond .ne 10, 3) := by decide +kernel
theorem dX6_text_9 : decode cX6_text 9 = .ok (.aload_n 0, 1) := by decide +kernel
theorem dX6_text_10 : decode cX6_text 10 = .ok (.ldc 59, 2) := by decide +kernel
theorem dX6_text_12 : decode cX6_text 12 = .ok (.invokevirtual 60, 3) := by decide +kernel
theorem dX6_text_15 : decode cX6_text 15 = .ok (.ireturn, 1) := by decide +kernel
theorem dX6_text_16 : decode cX6_text 16 = .ok (.aload_n 0, 1) := by decide +kernel
theorem dX6_text_17 : decode cX6_text 17 = .ok (.getfield 35, 3) := by decide +kernel
theorem dX6_text_20 : decode cX6_text 20 = .ok (.aload_n 0, 1) := by decide +kernel
theorem dX6_text_21 : decode cX6_text 21 = .ok (.getfield 12, 3) := by decide +kernel
theorem dX6_text_24 : decode cX6_text 24 = .ok (.getfield 136, 3) := by decide +kernel
theorem dX6_text_27 : decode cX6_text 27 = .ok (.aload_n 0, 1) := by decide +kernel
theorem dX6_text_28 : decode cX6_text 28 = .ok (.getfield 12, 3) := by decide +kernel
theorem dX6_text_31 : decode cX6_text 31 = .ok (.getfield 133, 3) := by decide +kernel
theorem dX6_text_34 : decode cX6_text 34 = .ok (.iload_n 1, 1) := by decide +kernel
theorem dX6_text_35 : decode cX6_text 35 = .ok (.invokevirtual 139, 3) := by decide +kernel
theorem dX6_text_38 : decode cX6_text 38 = .ok (.istore_n 2, 1) := by decide +kernel
theorem dX6_text_39 : decode cX6_text 39 = .ok (.aload_n 0, 1) := by decide +kernel
theorem dX6_text_40 : decode cX6_text 40 = .ok (.getfield 12, 3) := by decide +kernel
theorem dX6_text_43 : decode cX6_text 43 = .ok (.iconst 0, 1) := by decide +kernel
theorem dX6_text_44 : decode cX6_text 44 = .ok (.putfield 133, 3) := by decide +kernel
theorem dX6_text_47 : decode cX6_text 47 = .ok (.iload_n 2, 1) := by decide +kernel
theorem dX6_text_48 : decode cX6_text 48 = .ok (.ifCond .lt 8, 3) := by decide +kernel
theorem dX6_text_51 : decode cX6_text 51 = .ok (.bipush (-10), 2) := by decide +kernel
theorem dX6_text_53 : decode cX6_text 53 = .ok (.iload_n 2, 1) := by decide +kernel
theorem dX6_text_54 : decode cX6_text 54 = .ok (.isub, 1) := by decide +kernel
theorem dX6_text_55 : decode cX6_text 55 = .ok (.ireturn, 1) := by decide +kernel
theorem dX6_text_56 : decode cX6_text 56 = .ok (.aload_n 0, 1) := by decide +kernel
theorem dX6_text_57 : decode cX6_text 57 = .ok (.getfield 12, 3) := by decide +kernel
theorem dX6_text_60 : decode cX6_text 60 = .ok (.iload_n 1, 1) := by decide +kernel
theorem dX6_text_61 : decode cX6_text 61 = .ok (.invokevirtual 143, 3) := by decide +kernel
theorem dX6_text_64 : decode cX6_text 64 = .ok (.aload_n 0, 1) := by decide +kernel
theorem dX6_text_65 : decode cX6_text 65 = .ok (.getfield 35, 3) := by decide +kernel
theorem dX6_text_68 : decode cX6_text 68 = .ok (.getfield 147, 3) := by decide +kernel
theorem dX6_text_71 : decode cX6_text 71 = .ok (.invokevirtual 151, 3) := by decide +kernel
theorem dX6_text_74 : decode cX6_text 74 = .ok (.iconst 1, 1) := by decide +kernel
theorem dX6_text_75 : decode cX6_text 75 = .ok (.ireturn, 1) := by decide +kernel
theorem dX6_law_0 : decode cX6_law 0 = .ok (.iload_n 1, 1) := by decide +kernel
theorem dX6_law_1 : decode cX6_law 1 = .ok (.iconst 0, 1) := by decide +kernel
theorem dX6_law_2 : decode cX6_law 2 = .ok (.iconst 1, 1) := by decide +kernel
theorem dX6_law_3 : decode cX6_law 3 = .ok (.invokestatic 51, 3) := by decide +kernel
theorem dX6_law_6 : decode cX6_law 6 = .ok (.ifCond .ne 10, 3) := by decide +kernel
theorem dX6_law_9 : decode cX6_law 9 = .ok (.aload_n 0, 1) := by decide +kernel
theorem dX6_law_10 : decode cX6_law 10 = .ok (.ldc 59, 2) := by decide +kernel
theorem dX6_law_12 : decode cX6_law 12 = .ok (.invokevirtual 60, 3) := by decide +kernel
theorem dX6_law_15 : decode cX6_law 15 = .ok (.ireturn, 1) := by decide +kernel
theorem dX6_law_16 : decode cX6_law 16 = .ok (.iload_n 1, 1) := by decide +kernel
theorem dX6_law_17 : decode cX6_law 17 = .ok (.ifCond .ne 17, 3) := by decide +kernel
theorem dX6_law_20 : decode cX6_law 20 = .ok (.aload_n 0, 1) := by decide +kernel
theorem dX6_law_21 : decode cX6_law 21 = .ok (.getfield 12, 3) := by decide +kernel
theorem dX6_law_24 : decode cX6_law 24 = .ok (.iload_n 2, 1) := by decide +kernel
theorem dX6_law_25 : decode cX6_law 25 = .ok (.iload_n 3, 1) := by decide +kernel
theorem dX6_law_26 : decode cX6_law 26 = .ok (.iload 4, 2) := by decide +kernel
theorem dX6_law_28 : decode cX6_law 28 = .ok (.invokevirtual 157, 3) := by decide +kernel
theorem dX6_law_31 : decode cX6_law 31 = .ok (.goto 14, 3) := by decide +kernel
theorem dX6_law_34 : decode cX6_law 34 = .ok (.aload_n 0, 1) := by decide +kernel
theorem dX6_law_35 : decode cX6_law 35 = .ok (.getfield 12, 3) := by decide +kernel
theorem dX6_law_38 : decode cX6_law 38 = .ok (.iload_n 2, 1) := by decide +kernel
theorem dX6_law_39 : decode cX6_law 39 = .ok (.iload_n 3, 1) := by decide +kernel
theorem dX6_law_40 : decode cX6_law 40 = .ok (.iload 4, 2) := by decide +kernel
theorem dX6_law_42 : decode cX6_law 42 = .ok (.invokevirtual 160, 3) := by decide +kernel
theorem dX6_law_45 : decode cX6_law 45 = .ok (.ireturn, 1) := by decide +kernel
theorem dX6_hours_0 : decode cX6_hours 0 = .ok (.aload_n 0, 1) := by decide +kernel
theorem dX6_hours_1 : decode cX6_hours 1 = .ok (.iload_n 1, 1) := by decide +kernel
theorem dX6_hours_2 : decode cX6_hours 2 = .ok (.invokevirtual 163, 3) := by decide +kernel
theorem dX6_hours_5 : decode cX6_hours 5 = .ok (.istore_n 2, 1) := by decide +kernel
theorem dX6_hours_6 : decode cX6_hours 6 = .ok (.iload_n 2, 1) := by decide +kernel
theorem dX6_hours_7 : decode cX6_hours 7 = .ok (.ifCond .eq 9, 3) := by decide +kernel
theorem dX6_hours_10 : decode cX6_hours 10 = .ok (.aload_n 0, 1) := by decide +kernel
theorem dX6_hours_11 : decode cX6_hours 11 = .ok (.iload_n 2, 1) := by decide +kernel
theorem dX6_hours_12 : decode cX6_hours 12 = .ok (.invokevirtual 60, 3) := by decide +kernel
theorem dX6_hours_15 : decode cX6_hours 15 = .ok (.ireturn, 1) := by decide +kernel
theorem dX6_hours_16 : decode cX6_hours 16 = .ok (.aload_n 0, 1) := by decide +kernel
theorem dX6_hours_17 : decode cX6_hours 17 = .ok (.getfield 12, 3) := by decide +kernel
theorem dX6_hours_20 : decode cX6_hours 20 = .ok (.iload_n 1, 1) := by decide +kernel
theorem dX6_hours_21 : decode cX6_hours 21 = .ok (.invokevirtual 166, 3) := by decide +kernel
theorem dX6_hours_24 : decode cX6_hours 24 = .ok (.aload_n 0, 1) := by decide +kernel
theorem dX6_hours_25 : decode cX6_hours 25 = .ok (.getfield 12, 3) := by decide +kernel
theorem dX6_hours_28 : decode cX6_hours 28 = .ok (.invokevirtual 169, 3) := by decide +kernel
theorem dX6_hours_31 : decode cX6_hours 31 = .ok (.ireturn, 1) := by decide +kernel
theorem dX6_loose_0 : decode cX6_loose 0 = .ok (.aload_n 0, 1) := by decide +kernel
theorem dX6_loose_1 : decode cX6_loose 1 = .ok (.iload_n 1, 1) := by decide +kernel
theorem dX6_loose_2 : decode cX6_loose 2 = .ok (.invokevirtual 163, 3) := by decide +kernel
theorem dX6_loose_5 : decode cX6_loose 5 = .ok (.istore_n 2, 1) := by decide +kernel
theorem dX6_loose_6 : decode cX6_loose 6 = .ok (.iload_n 2, 1) := by decide +kernel
theorem dX6_loose_7 : decode cX6_loose 7 = .ok (.ifCond .eq 9, 3) := by decide +kernel
theorem dX6_loose_10 : decode cX6_loose 10 = .ok (.aload_n 0, 1) := by decide +kernel
theorem dX6_loose_11 : decode cX6_loose 11 = .ok (.iload_n 2, 1) := by decide +kernel
theorem dX6_loose_12 : decode cX6_loose 12 = .ok (.invokevirtual 60, 3) := by decide +kernel
theorem dX6_loose_15 : decode cX6_loose 15 = .ok (.ireturn, 1) := by decide +kernel
theorem dX6_loose_16 : decode cX6_loose 16 = .ok (.iconst 0, 1) := by decide +kernel
theorem dX6_loose_17 : decode cX6_loose 17 = .ok (.istore_n 3, 1) := by decide +kernel
theorem dX6_loose_18 : decode cX6_loose 18 = .ok (.iload_n 3, 1) := by decide +kernel
theorem dX6_loose_19 : decode cX6_loose 19 = .ok (.iload_n 1, 1) := by decide +kernel
theorem dX6_loose_20 : decode cX6_loose 20 = .ok (.if_icmp .ge 23, 3) := by decide +kernel
theorem dX6_loose_23 : decode cX6_loose 23 = .ok (.aload_n 0, 1) := by decide +kernel
theorem dX6_loose_24 : decode cX6_loose 24 = .ok (.getfield 12, 3) := by decide +kernel
theorem dX6_loose_27 : decode cX6_loose 27 = .ok (.aload_n 0, 1) := by decide +kernel
theorem dX6_loose_28 : decode cX6_loose 28 = .ok (.getfield 12, 3) := by decide +kernel
theorem dX6_loose_31 : decode cX6_loose 31 = .ok (.invokevirtual 173, 3) := by decide +kernel
theorem dX6_loose_34 : decode cX6_loose 34 = .ok (.invokevirtual 176, 3) := by decide +kernel
theorem dX6_loose_37 : decode cX6_loose 37 = .ok (.iinc 3 1, 3) := by decide +kernel
theorem dX6_loose_40 : decode cX6_loose 40 = .ok (.goto (-22), 3) := by decide +kernel
theorem dX6_loose_43 : decode cX6_loose 43 = .ok (.aload_n 0, 1) := by decide +kernel
theorem dX6_loose_44 : decode cX6_loose 44 = .ok (.getfield 12, 3) := by decide +kernel
theorem dX6_loose_47 : decode cX6_loose 47 = .ok (.invokevirtual 169, 3) := by decide +kernel
theorem dX6_loose_50 : decode cX6_loose 50 = .ok (.ireturn, 1) := by decide +kernel
theorem dX6_then_0 : decode cX6_then 0 = .ok (.iload_n 3, 1) := by decide +kernel
theorem dX6_then_1 : decode cX6_then 1 = .ok (.iconst 2, 1) := by decide +kernel
theorem dX6_then_2 : decode cX6_then 2 = .ok (.bipush 6, 2) := by decide +kernel
theorem dX6_then_4 : decode cX6_then 4 = .ok (.invokestatic 51, 3) := by decide +kernel
theorem dX6_then_7 : decode cX6_then 7 = .ok (.ifCond .ne 9, 3) := by decide +kernel
theorem dX6_then_10 : decode cX6_then 10 = .ok (.iload_n 3, 1) := by decide +kernel
theorem dX6_then_11 : decode cX6_then 11 = .ok (.bipush 8, 2) := by decide +kernel
theorem dX6_then_13 : decode cX6_then 13 = .ok (.if_icmp .ne 7, 3) := by decide +kernel
theorem dX6_then_16 : decode cX6_then 16 = .ok (.iconst 1, 1) := by decide +kernel
theorem dX6_then_17 : decode cX6_then 17 = .ok (.goto 4, 3) := by decide +kernel
theorem dX6_then_20 : decode cX6_then 20 = .ok (.iconst 0, 1) := by decide +kernel
theorem dX6_then_21 : decode cX6_then 21 = .ok (.istore 4, 2) := by decide +kernel
theorem dX6_then_23 : decode cX6_then 23 = .ok (.iload_n 1, 1) := by decide +kernel
theorem dX6_then_24 : decode cX6_then 24 = .ok (.iconst 0, 1) := by decide +kernel
theorem dX6_then_25 : decode cX6_then 25 = .ok (.sipush 200, 3) := by decide +kernel
theorem dX6_then_28 : decode cX6_then 28 = .ok (.invokestatic 51, 3) := by decide +kernel
theorem dX6_then_31 : decode cX6_then 31 = .ok (.ifCond .eq 16, 3) := by decide +kernel
theorem dX6_then_34 : decode cX6_then 34 = .ok (.aload_n 0, 1) := by decide +kernel
theorem dX6_then_35 : decode cX6_then 35 = .ok (.iload_n 2, 1) := by decide +kernel
theorem dX6_then_36 : decode cX6_then 36 = .ok (.invokevirtual 72, 3) := by decide +kernel
theorem dX6_then_39 : decode cX6_then 39 = .ok (.ifCond .eq 8, 3) := by decide +kernel
theorem dX6_then_42 : decode cX6_then 42 = .ok (.iload 4, 2) := by decide +kernel
theorem dX6_then_44 : decode cX6_then 44 = .ok (.ifCond .ne 10, 3) := by decide +kernel
theorem dX6_then_47 : decode cX6_then 47 = .ok (.aload_n 0, 1) := by decide +kernel
theorem dX6_then_48 : decode cX6_then 48 = .ok (.ldc 59, 2) := by decide +kernel
theorem dX6_then_50 : decode cX6_then 50 = .ok (.invokevirtual 60, 3) := by decide +kernel
theorem dX6_then_53 : decode cX6_then 53 = .ok (.ireturn, 1) := by decide +kernel
theorem dX6_then_54 : decode cX6_then 54 = .ok (.aload_n 0, 1) := by decide +kernel
theorem dX6_then_55 : decode cX6_then 55 = .ok (.getfield 19, 3) := by decide +kernel
theorem dX6_then_58 : decode cX6_then 58 = .ok (.aload_n 0, 1) := by decide +kernel
theorem dX6_then_59 : decode cX6_then 59 = .ok (.getfield 12, 3) := by decide +kernel
theorem dX6_then_62 : decode cX6_then 62 = .ok (.invokevirtual 179, 3) := by decide +kernel
theorem dX6_then_65 : decode cX6_then 65 = .ok (.aload_n 0, 1) := by decide +kernel
theorem dX6_then_66 : decode cX6_then 66 = .ok (.getfield 19, 3) := by decide +kernel
theorem dX6_then_69 : decode cX6_then 69 = .ok (.iload_n 1, 1) := by decide +kernel
theorem dX6_then_70 : decode cX6_then 70 = .ok (.invokevirtual 166, 3) := by decide +kernel
theorem dX6_then_73 : decode cX6_then 73 = .ok (.aload_n 0, 1) := by decide +kernel
theorem dX6_then_74 : decode cX6_then 74 = .ok (.getfield 19, 3) := by decide +kernel
theorem dX6_then_77 : decode cX6_then 77 = .ok (.iload_n 2, 1) := by decide +kernel
theorem dX6_then_78 : decode cX6_then 78 = .ok (.iload_n 3, 1) := by decide +kernel
theorem dX6_then_79 : decode cX6_then 79 = .ok (.invokevirtual 75, 3) := by decide +kernel
theorem dX6_then_82 : decode cX6_then 82 = .ok (.ireturn, 1) := by decide +kernel
theorem dX6_pay_0 : decode cX6_pay 0 = .ok (.aload_n 0, 1) := by decide +kernel
theorem dX6_pay_1 : decode cX6_pay 1 = .ok (.getfield 12, 3) := by decide +kernel
theorem dX6_pay_4 : decode cX6_pay 4 = .ok (.invokevirtual 182, 3) := by decide +kernel
theorem dX6_pay_7 : decode cX6_pay 7 = .ok (.ireturn, 1) := by decide +kernel
theorem dX6_nobodyBy_0 : decode cX6_nobodyBy 0 = .ok (.aload_n 0, 1) := by decide +kernel
theorem dX6_nobodyBy_1 : decode cX6_nobodyBy 1 = .ok (.iload_n 1, 1) := by decide +kernel
theorem dX6_nobodyBy_2 : decode cX6_nobodyBy 2 = .ok (.invokevirtual 72, 3) := by decide +kernel
theorem dX6_nobodyBy_5 : decode cX6_nobodyBy 5 = .ok (.ifCond .ne 10, 3) := by decide +kernel
theorem dX6_nobodyBy_8 : decode cX6_nobodyBy 8 = .ok (.aload_n 0, 1) := by decide +kernel
theorem dX6_nobodyBy_9 : decode cX6_nobodyBy 9 = .ok (.ldc 59, 2) := by decide +kernel
theorem dX6_nobodyBy_11 : decode cX6_nobodyBy 11 = .ok (.invokevirtual 60, 3) := by decide +kernel
theorem dX6_nobodyBy_14 : decode cX6_nobodyBy 14 = .ok (.ireturn, 1) := by decide +kernel
theorem dX6_nobodyBy_15 : decode cX6_nobodyBy 15 = .ok (.aload_n 0, 1) := by decide +kernel
theorem dX6_nobodyBy_16 : decode cX6_nobodyBy 16 = .ok (.getfield 19, 3) := by decide +kernel
theorem dX6_nobodyBy_19 : decode cX6_nobodyBy 19 = .ok (.aload_n 0, 1) := by decide +kernel
theorem dX6_nobodyBy_20 : decode cX6_nobodyBy 20 = .ok (.getfield 12, 3) := by decide +kernel
theorem dX6_nobodyBy_23 : decode cX6_nobodyBy 23 = .ok (.invokevirtual 179, 3) := by decide +kernel
theorem dX6_nobodyBy_26 : decode cX6_nobodyBy 26 = .ok (.iconst 0, 1) := by decide +kernel
theorem dX6_nobodyBy_27 : decode cX6_nobodyBy 27 = .ok (.istore_n 2, 1) := by decide +kernel
theorem dX6_nobodyBy_28 : decode cX6_nobodyBy 28 = .ok (.iload_n 2, 1) := by decide +kernel
theorem dX6_nobodyBy_29 : decode cX6_nobodyBy 29 = .ok (.sipush 200, 3) := by decide +kernel
theorem dX6_nobodyBy_32 : decode cX6_nobodyBy 32 = .ok (.if_icmp .gt 30, 3) := by decide +kernel
theorem dX6_nobodyBy_35 : decode cX6_nobodyBy 35 = .ok (.aload_n 0, 1) := by decide +kernel
theorem dX6_nobodyBy_36 : decode cX6_nobodyBy 36 = .ok (.getfield 19, 3) := by decide +kernel
theorem dX6_nobodyBy_39 : decode cX6_nobodyBy 39 = .ok (.iload_n 1, 1) := by decide +kernel
theorem dX6_nobodyBy_40 : decode cX6_nobodyBy 40 = .ok (.invokevirtual 185, 3) := by decide +kernel
theorem dX6_nobodyBy_43 : decode cX6_nobodyBy 43 = .ok (.ifCond .eq 5, 3) := by decide +kernel
theorem dX6_nobodyBy_46 : decode cX6_nobodyBy 46 = .ok (.iload_n 2, 1) := by decide +kernel
theorem dX6_nobodyBy_47 : decode cX6_nobodyBy 47 = .ok (.ireturn, 1) := by decide +kernel
theorem dX6_nobodyBy_48 : decode cX6_nobodyBy 48 = .ok (.aload_n 0, 1) := by decide +kernel
theorem dX6_nobodyBy_49 : decode cX6_nobodyBy 49 = .ok (.getfield 19, 3) := by decide +kernel
theorem dX6_nobodyBy_52 : decode cX6_nobodyBy 52 = .ok (.iconst 1, 1) := by decide +kernel
theorem dX6_nobodyBy_53 : decode cX6_nobodyBy 53 = .ok (.invokevirtual 166, 3) := by decide +kernel
theorem dX6_nobodyBy_56 : decode cX6_nobodyBy 56 = .ok (.iinc 2 1, 3) := by decide +kernel
theorem dX6_nobodyBy_59 : decode cX6_nobodyBy 59 = .ok (.goto (-31), 3) := by decide +kernel
theorem dX6_nobodyBy_62 : decode cX6_nobodyBy 62 = .ok (.aload_n 0, 1) := by decide +kernel
theorem dX6_nobodyBy_63 : decode cX6_nobodyBy 63 = .ok (.ldc 188, 2) := by decide +kernel
theorem dX6_nobodyBy_65 : decode cX6_nobodyBy 65 = .ok (.invokevirtual 60, 3) := by decide +kernel
theorem dX6_nobodyBy_68 : decode cX6_nobodyBy 68 = .ok (.ireturn, 1) := by decide +kernel
theorem dX6_first_0 : decode cX6_first 0 = .ok (.aload_n 0, 1) := by decide +kernel
theorem dX6_first_1 : decode cX6_first 1 = .ok (.getfield 19, 3) := by decide +kernel
theorem dX6_first_4 : decode cX6_first 4 = .ok (.aload_n 0, 1) := by decide +kernel
theorem dX6_first_5 : decode cX6_first 5 = .ok (.getfield 12, 3) := by decide +kernel
theorem dX6_first_8 : decode cX6_first 8 = .ok (.invokevirtual 179, 3) := by decide +kernel
theorem dX6_first_11 : decode cX6_first 11 = .ok (.iconst 0, 1) := by decide +kernel
theorem dX6_first_12 : decode cX6_first 12 = .ok (.istore_n 1, 1) := by decide +kernel
theorem dX6_first_13 : decode cX6_first 13 = .ok (.iload_n 1, 1) := by decide +kernel
theorem dX6_first_14 : decode cX6_first 14 = .ok (.sipush 200, 3) := by decide +kernel
theorem dX6_first_17 : decode cX6_first 17 = .ok (.if_icmp .gt 31, 3) := by decide +kernel
theorem dX6_first_20 : decode cX6_first 20 = .ok (.aload_n 0, 1) := by decide +kernel
theorem dX6_first_21 : decode cX6_first 21 = .ok (.getfield 19, 3) := by decide +kernel
theorem dX6_first_24 : decode cX6_first 24 = .ok (.invokevirtual 189, 3) := by decide +kernel
theorem dX6_first_27 : decode cX6_first 27 = .ok (.istore_n 2, 1) := by decide +kernel
theorem dX6_first_28 : decode cX6_first 28 = .ok (.iload_n 2, 1) := by decide +kernel
theorem dX6_first_29 : decode cX6_first 29 = .ok (.ifCond .lt 5, 3) := by decide +kernel
theorem dX6_first_32 : decode cX6_first 32 = .ok (.iload_n 2, 1) := by decide +kernel
theorem dX6_first_33 : decode cX6_first 33 = .ok (.ireturn, 1) := by decide +kernel
theorem dX6_first_34 : decode cX6_first 34 = .ok (.aload_n 0, 1) := by decide +kernel
theorem dX6_first_35 : decode cX6_first 35 = .ok (.getfield 19, 3) := by decide +kernel
theorem dX6_first_38 : decode cX6_first 38 = .ok (.iconst 1, 1) := by decide +kernel
theorem dX6_first_39 : decode cX6_first 39 = .ok (.invokevirtual 166, 3) := by decide +kernel
theorem dX6_first_42 : decode cX6_first 42 = .ok (.iinc 1 1, 3) := by decide +kernel
theorem dX6_first_45 : decode cX6_first 45 = .ok (.goto (-32), 3) := by decide +kernel
theorem dX6_first_48 : decode cX6_first 48 = .ok (.aload_n 0, 1) := by decide +kernel
theorem dX6_first_49 : decode cX6_first 49 = .ok (.ldc 188, 2) := by decide +kernel
theorem dX6_first_51 : decode cX6_first 51 = .ok (.invokevirtual 60, 3) := by decide +kernel
theorem dX6_first_54 : decode cX6_first 54 = .ok (.ireturn, 1) := by decide +kernel
theorem dX6_comes_0 : decode cX6_comes 0 = .ok (.iload_n 1, 1) := by decide +kernel
theorem dX6_comes_1 : decode cX6_comes 1 = .ok (.iconst 0, 1) := by decide +kernel
theorem dX6_comes_2 : decode cX6_comes 2 = .ok (.sipush 9999, 3) := by decide +kernel
theorem dX6_comes_5 : decode cX6_comes 5 = .ok (.invokestatic 51, 3) := by decide +kernel
theorem dX6_comes_8 : decode cX6_comes 8 = .ok (.ifCond .eq 12, 3) := by decide +kernel
theorem dX6_comes_11 : decode cX6_comes 11 = .ok (.iload_n 2, 1) := by decide +kernel
theorem dX6_comes_12 : decode cX6_comes 12 = .ok (.iconst 0, 1) := by decide +kernel
theorem dX6_comes_13 : decode cX6_comes 13 = .ok (.iconst 1, 1) := by decide +kernel
theorem dX6_comes_14 : decode cX6_comes 14 = .ok (.invokestatic 51, 3) := by decide +kernel
theorem dX6_comes_17 : decode cX6_comes 17 = .ok (.ifCond .ne 10, 3) := by decide +kernel
theorem dX6_comes_20 : decode cX6_comes 20 = .ok (.aload_n 0, 1) := by decide +kernel
theorem dX6_comes_21 : decode cX6_comes 21 = .ok (.ldc 59, 2) := by decide +kernel
theorem dX6_comes_23 : decode cX6_comes 23 = .ok (.invokevirtual 60, 3) := by decide +kernel
theorem dX6_comes_26 : decode cX6_comes 26 = .ok (.ireturn, 1) := by decide +kernel
theorem dX6_comes_27 : decode cX6_comes 27 = .ok (.aload_n 0, 1) := by decide +kernel
theorem dX6_comes_28 : decode cX6_comes 28 = .ok (.getfield 12, 3) := by decide +kernel
theorem dX6_comes_31 : decode cX6_comes 31 = .ok (.iload_n 1, 1) := by decide +kernel
theorem dX6_comes_32 : decode cX6_comes 32 = .ok (.invokevirtual 192, 3) := by decide +kernel
theorem dX6_comes_35 : decode cX6_comes 35 = .ok (.istore_n 3, 1) := by decide +kernel
theorem dX6_comes_36 : decode cX6_comes 36 = .ok (.iload_n 3, 1) := by decide +kernel
theorem dX6_comes_37 : decode cX6_comes 37 = .ok (.ifCond .ne 10, 3) := by decide +kernel
theorem dX6_comes_40 : decode cX6_comes 40 = .ok (.aload_n 0, 1) := by decide +kernel
theorem dX6_comes_41 : decode cX6_comes 41 = .ok (.ldc 188, 2) := by decide +kernel
theorem dX6_comes_43 : decode cX6_comes 43 = .ok (.invokevirtual 60, 3) := by decide +kernel
theorem dX6_comes_46 : decode cX6_comes 46 = .ok (.ireturn, 1) := by decide +kernel
theorem dX6_comes_47 : decode cX6_comes 47 = .ok (.iload_n 2, 1) := by decide +kernel
theorem dX6_comes_48 : decode cX6_comes 48 = .ok (.ifCond .ne 7, 3) := by decide +kernel
theorem dX6_comes_51 : decode cX6_comes 51 = .ok (.iload_n 3, 1) := by decide +kernel
theorem dX6_comes_52 : decode cX6_comes 52 = .ok (.goto 7, 3) := by decide +kernel
theorem dX6_comes_55 : decode cX6_comes 55 = .ok (.iload_n 3, 1) := by decide +kernel
theorem dX6_comes_56 : decode cX6_comes 56 = .ok (.invokestatic 195, 3) := by decide +kernel
theorem dX6_comes_59 : decode cX6_comes 59 = .ok (.ireturn, 1) := by decide +kernel
theorem dX6_stays_0 : decode cX6_stays 0 = .ok (.iload_n 1, 1) := by decide +kernel
theorem dX6_stays_1 : decode cX6_stays 1 = .ok (.iconst 0, 1) := by decide +kernel
theorem dX6_stays_2 : decode cX6_stays 2 = .ok (.iconst 3, 1) := by decide +kernel
theorem dX6_stays_3 : decode cX6_stays 3 = .ok (.invokestatic 51, 3) := by decide +kernel
theorem dX6_stays_6 : decode cX6_stays 6 = .ok (.ifCond .ne 10, 3) := by decide +kernel
theorem dX6_stays_9 : decode cX6_stays 9 = .ok (.aload_n 0, 1) := by decide +kernel
theorem dX6_stays_10 : decode cX6_stays 10 = .ok (.ldc 59, 2) := by decide +kernel
theorem dX6_stays_12 : decode cX6_stays 12 = .ok (.invokevirtual 60, 3) := by decide +kernel
theorem dX6_stays_15 : decode cX6_stays 15 = .ok (.ireturn, 1) := by decide +kernel
theorem dX6_stays_16 : decode cX6_stays 16 = .ok (.aload_n 0, 1) := by decide +kernel
theorem dX6_stays_17 : decode cX6_stays 17 = .ok (.getfield 12, 3) := by decide +kernel
theorem dX6_stays_20 : decode cX6_stays 20 = .ok (.aload_n 0, 1) := by decide +kernel
theorem dX6_stays_21 : decode cX6_stays 21 = .ok (.getfield 12, 3) := by decide +kernel
theorem dX6_stays_24 : decode cX6_stays 24 = .ok (.invokevirtual 200, 3) := by decide +kernel
theorem dX6_stays_27 : decode cX6_stays 27 = .ok (.iload_n 1, 1) := by decide +kernel
theorem dX6_stays_28 : decode cX6_stays 28 = .ok (.invokevirtual 203, 3) := by decide +kernel
theorem dX6_stays_31 : decode cX6_stays 31 = .ok (.ireturn, 1) := by decide +kernel
theorem dX6_meets_0 : decode cX6_meets 0 = .ok (.aload_n 0, 1) := by decide +kernel
theorem dX6_meets_1 : decode cX6_meets 1 = .ok (.iload_n 1, 1) := by decide +kernel
theorem dX6_meets_2 : decode cX6_meets 2 = .ok (.iload_n 2, 1) := by decide +kernel
theorem dX6_meets_3 : decode cX6_meets 3 = .ok (.invokevirtual 117, 3) := by decide +kernel
theorem dX6_meets_6 : decode cX6_meets 6 = .ok (.ifCond .ne 10, 3) := by decide +kernel
theorem dX6_meets_9 : decode cX6_meets 9 = .ok (.aload_n 0, 1) := by decide +kernel
theorem dX6_meets_10 : decode cX6_meets 10 = .ok (.ldc 59, 2) := by decide +kernel
theorem dX6_meets_12 : decode cX6_meets 12 = .ok (.invokevirtual 60, 3) := by decide +kernel
theorem dX6_meets_15 : decode cX6_meets 15 = .ok (.ireturn, 1) := by decide +kernel
theorem dX6_meets_16 : decode cX6_meets 16 = .ok (.aload_n 0, 1) := by decide +kernel
theorem dX6_meets_17 : decode cX6_meets 17 = .ok (.getfield 12, 3) := by decide +kernel
theorem dX6_meets_20 : decode cX6_meets 20 = .ok (.getfield 79, 3) := by decide +kernel
theorem dX6_meets_23 : decode cX6_meets 23 = .ok (.iload_n 1, 1) := by decide +kernel
theorem dX6_meets_24 : decode cX6_meets 24 = .ok (.aaload, 1) := by decide +kernel
theorem dX6_meets_25 : decode cX6_meets 25 = .ok (.getfield 103, 3) := by decide +kernel
theorem dX6_meets_28 : decode cX6_meets 28 = .ok (.ifCond .eq 18, 3) := by decide +kernel
theorem dX6_meets_31 : decode cX6_meets 31 = .ok (.aload_n 0, 1) := by decide +kernel
theorem dX6_meets_32 : decode cX6_meets 32 = .ok (.getfield 12, 3) := by decide +kernel
theorem dX6_meets_35 : decode cX6_meets 35 = .ok (.getfield 79, 3) := by decide +kernel
theorem dX6_meets_38 : decode cX6_meets 38 = .ok (.iload_n 2, 1) := by decide +kernel
theorem dX6_meets_39 : decode cX6_meets 39 = .ok (.aaload, 1) := by decide +kernel
theorem dX6_meets_40 : decode cX6_meets 40 = .ok (.getfield 103, 3) := by decide +kernel
theorem dX6_meets_43 : decode cX6_meets 43 = .ok (.ifCond .ne 10, 3) := by decide +kernel
theorem dX6_meets_46 : decode cX6_meets 46 = .ok (.aload_n 0, 1) := by decide +kernel
theorem dX6_meets_47 : decode cX6_meets 47 = .ok (.ldc 107, 2) := by decide +kernel
theorem dX6_meets_49 : decode cX6_meets 49 = .ok (.invokevirtual 60, 3) := by decide +kernel
theorem dX6_meets_52 : decode cX6_meets 52 = .ok (.ireturn, 1) := by decide +kernel
theorem dX6_meets_53 : decode cX6_meets 53 = .ok (.aload_n 0, 1) := by decide +kernel
theorem dX6_meets_54 : decode cX6_meets 54 = .ok (.getfield 19, 3) := by decide +kernel
theorem dX6_meets_57 : decode cX6_meets 57 = .ok (.aload_n 0, 1) := by decide +kernel
theorem dX6_meets_58 : decode cX6_meets 58 = .ok (.getfield 12, 3) := by decide +kernel
theorem dX6_meets_61 : decode cX6_meets 61 = .ok (.invokevirtual 179, 3) := by decide +kernel
theorem dX6_meets_64 : decode cX6_meets 64 = .ok (.iconst 0, 1) := by decide +kernel
theorem dX6_meets_65 : decode cX6_meets 65 = .ok (.istore_n 3, 1) := by decide +kernel
theorem dX6_meets_66 : decode cX6_meets 66 = .ok (.iload_n 3, 1) := by decide +kernel
theorem dX6_meets_67 : decode cX6_meets 67 = .ok (.sipush 200, 3) := by decide +kernel
theorem dX6_meets_70 : decode cX6_meets 70 = .ok (.if_icmp .gt 31, 3) := by decide +kernel
theorem dX6_meets_73 : decode cX6_meets 73 = .ok (.aload_n 0, 1) := by decide +kernel
theorem dX6_meets_74 : decode cX6_meets 74 = .ok (.getfield 19, 3) := by decide +kernel
theorem dX6_meets_77 : decode cX6_meets 77 = .ok (.iload_n 1, 1) := by decide +kernel
theorem dX6_meets_78 : decode cX6_meets 78 = .ok (.iload_n 2, 1) := by decide +kernel
theorem dX6_meets_79 : decode cX6_meets 79 = .ok (.invokevirtual 120, 3) := by decide +kernel
theorem dX6_meets_82 : decode cX6_meets 82 = .ok (.ifCond .eq 5, 3) := by decide +kernel
theorem dX6_meets_85 : decode cX6_meets 85 = .ok (.iload_n 3, 1) := by decide +kernel
theorem dX6_meets_86 : decode cX6_meets 86 = .ok (.ireturn, 1) := by decide +kernel
theorem dX6_meets_87 : decode cX6_meets 87 = .ok (.aload_n 0, 1) := by decide +kernel
theorem dX6_meets_88 : decode cX6_meets 88 = .ok (.getfield 19, 3) := by decide +kernel
theorem dX6_meets_91 : decode cX6_meets 91 = .ok (.iconst 1, 1) := by decide +kernel
theorem dX6_meets_92 : decode cX6_meets 92 = .ok (.invokevirtual 166, 3) := by decide +kernel
theorem dX6_meets_95 : decode cX6_meets 95 = .ok (.iinc 3 1, 3) := by decide +kernel
theorem dX6_meets_98 : decode cX6_meets 98 = .ok (.goto (-32), 3) := by decide +kernel
theorem dX6_meets_101 : decode cX6_meets 101 = .ok (.aload_n 0, 1) := by decide +kernel
theorem dX6_meets_102 : decode cX6_meets 102 = .ok (.ldc 188, 2) := by decide +kernel
theorem dX6_meets_104 : decode cX6_meets 104 = .ok (.invokevirtual 60, 3) := by decide +kernel
theorem dX6_meets_107 : decode cX6_meets 107 = .ok (.ireturn, 1) := by decide +kernel
theorem dX6_storm_0 : decode cX6_storm 0 = .ok (.iload_n 1, 1) := by decide +kernel
theorem dX6_storm_1 : decode cX6_storm 1 = .ok (.invokestatic 206, 3) := by decide +kernel
theorem dX6_storm_4 : decode cX6_storm 4 = .ok (.ifCond .eq 12, 3) := by decide +kernel
theorem dX6_storm_7 : decode cX6_storm 7 = .ok (.iload_n 2, 1) := by decide +kernel
theorem dX6_storm_8 : decode cX6_storm 8 = .ok (.iconst 0, 1) := by decide +kernel
theorem dX6_storm_9 : decode cX6_storm 9 = .ok (.iconst 1, 1) := by decide +kernel
theorem dX6_storm_10 : decode cX6_storm 10 = .ok (.invokestatic 51, 3) := by decide +kernel
theorem dX6_storm_13 : decode cX6_storm 13 = .ok (.ifCond .ne 10, 3) := by decide +kernel
theorem dX6_storm_16 : decode cX6_storm 16 = .ok (.aload_n 0, 1) := by decide +kernel
theorem dX6_storm_17 : decode cX6_storm 17 = .ok (.ldc 59, 2) := by decide +kernel
theorem dX6_storm_19 : decode cX6_storm 19 = .ok (.invokevirtual 60, 3) := by decide +kernel
theorem dX6_storm_22 : decode cX6_storm 22 = .ok (.ireturn, 1) := by decide +kernel
theorem dX6_storm_23 : decode cX6_storm 23 = .ok (.aload_n 0, 1) := by decide +kernel
theorem dX6_storm_24 : decode cX6_storm 24 = .ok (.getfield 28, 3) := by decide +kernel
theorem dX6_storm_27 : decode cX6_storm 27 = .ok (.iload_n 1, 1) := by decide +kernel
theorem dX6_storm_28 : decode cX6_storm 28 = .ok (.aaload, 1) := by decide +kernel
theorem dX6_storm_29 : decode cX6_storm 29 = .ok (.invokevirtual 209, 3) := by decide +kernel
theorem dX6_storm_32 : decode cX6_storm 32 = .ok (.ifCond .ne 16, 3) := by decide +kernel
theorem dX6_storm_35 : decode cX6_storm 35 = .ok (.aload_n 0, 1) := by decide +kernel
theorem dX6_storm_36 : decode cX6_storm 36 = .ok (.getfield 28, 3) := by decide +kernel
theorem dX6_storm_39 : decode cX6_storm 39 = .ok (.iload_n 1, 1) := by decide +kernel
theorem dX6_storm_40 : decode cX6_storm 40 = .ok (.aaload, 1) := by decide +kernel
theorem dX6_storm_41 : decode cX6_storm 41 = .ok (.getfield 213, 3) := by decide +kernel
theorem dX6_storm_44 : decode cX6_storm 44 = .ok (.iconst 4, 1) := by decide +kernel
theorem dX6_storm_45 : decode cX6_storm 45 = .ok (.if_icmp .eq 10, 3) := by decide +kernel
theorem dX6_storm_48 : decode cX6_storm 48 = .ok (.aload_n 0, 1) := by decide +kernel
theorem dX6_storm_49 : decode cX6_storm 49 = .ok (.ldc 188, 2) := by decide +kernel
theorem dX6_storm_51 : decode cX6_storm 51 = .ok (.invokevirtual 60, 3) := by decide +kernel
theorem dX6_storm_54 : decode cX6_storm 54 = .ok (.ireturn, 1) := by decide +kernel
theorem dX6_storm_55 : decode cX6_storm 55 = .ok (.aload_n 0, 1) := by decide +kernel
theorem dX6_storm_56 : decode cX6_storm 56 = .ok (.getfield 12, 3) := by decide +kernel
theorem dX6_storm_59 : decode cX6_storm 59 = .ok (.aload_n 0, 1) := by decide +kernel
theorem dX6_storm_60 : decode cX6_storm 60 = .ok (.getfield 28, 3) := by decide +kernel
theorem dX6_storm_63 : decode cX6_storm 63 = .ok (.iload_n 1, 1) := by decide +kernel
theorem dX6_storm_64 : decode cX6_storm 64 = .ok (.aaload, 1) := by decide +kernel
theorem dX6_storm_65 : decode cX6_storm 65 = .ok (.getfield 216, 3) := by decide +kernel
theorem dX6_storm_68 : decode cX6_storm 68 = .ok (.iload_n 2, 1) := by decide +kernel
theorem dX6_storm_69 : decode cX6_storm 69 = .ok (.ifCond .ne 7, 3) := by decide +kernel
theorem dX6_storm_72 : decode cX6_storm 72 = .ok (.iconst 1, 1) := by decide +kernel
theorem dX6_storm_73 : decode cX6_storm 73 = .ok (.goto 4, 3) := by decide +kernel
theorem dX6_storm_76 : decode cX6_storm 76 = .ok (.iconst 0, 1) := by decide +kernel
theorem dX6_storm_77 : decode cX6_storm 77 = .ok (.invokevirtual 219, 3) := by decide +kernel
theorem dX6_storm_80 : decode cX6_storm 80 = .ok (.istore_n 3, 1) := by decide +kernel
theorem dX6_storm_81 : decode cX6_storm 81 = .ok (.iload_n 3, 1) := by decide +kernel
theorem dX6_storm_82 : decode cX6_storm 82 = .ok (.ifCond .ne 12, 3) := by decide +kernel
theorem dX6_storm_85 : decode cX6_storm 85 = .ok (.aload_n 0, 1) := by decide +kernel
theorem dX6_storm_86 : decode cX6_storm 86 = .ok (.ldc 188, 2) := by decide +kernel
theorem dX6_storm_88 : decode cX6_storm 88 = .ok (.invokevirtual 60, 3) := by decide +kernel
theorem dX6_storm_91 : decode cX6_storm 91 = .ok (.goto 4, 3) := by decide +kernel
theorem dX6_storm_94 : decode cX6_storm 94 = .ok (.iload_n 3, 1) := by decide +kernel
theorem dX6_storm_95 : decode cX6_storm 95 = .ok (.ireturn, 1) := by decide +kernel
theorem dX6_paid_0 : decode cX6_paid 0 = .ok (.aload_n 0, 1) := by decide +kernel
theorem dX6_paid_1 : decode cX6_paid 1 = .ok (.getfield 19, 3) := by decide +kernel
theorem dX6_paid_4 : decode cX6_paid 4 = .ok (.aload_n 0, 1) := by decide +kernel
theorem dX6_paid_5 : decode cX6_paid 5 = .ok (.getfield 12, 3) := by decide +kernel
theorem dX6_paid_8 : decode cX6_paid 8 = .ok (.invokevirtual 179, 3) := by decide +kernel
theorem dX6_paid_11 : decode cX6_paid 11 = .ok (.aload_n 0, 1) := by decide +kernel
theorem dX6_paid_12 : decode cX6_paid 12 = .ok (.getfield 19, 3) := by decide +kernel
theorem dX6_paid_15 : decode cX6_paid 15 = .ok (.invokevirtual 182, 3) := by decide +kernel
theorem dX6_paid_18 : decode cX6_paid 18 = .ok (.ireturn, 1) := by decide +kernel
theorem dX6_sun_0 : decode cX6_sun 0 = .ok (.aload_n 0, 1) := by decide +kernel
theorem dX6_sun_1 : decode cX6_sun 1 = .ok (.iload_n 1, 1) := by decide +kernel
theorem dX6_sun_2 : decode cX6_sun 2 = .ok (.invokevirtual 72, 3) := by decide +kernel
theorem dX6_sun_5 : decode cX6_sun 5 = .ok (.ifCond .eq 22, 3) := by decide +kernel
theorem dX6_sun_8 : decode cX6_sun 8 = .ok (.iload_n 2, 1) := by decide +kernel
theorem dX6_sun_9 : decode cX6_sun 9 = .ok (.iconst 1, 1) := by decide +kernel
theorem dX6_sun_10 : decode cX6_sun 10 = .ok (.bipush 99, 2) := by decide +kernel
theorem dX6_sun_12 : decode cX6_sun 12 = .ok (.invokestatic 51, 3) := by decide +kernel
theorem dX6_sun_15 : decode cX6_sun 15 = .ok (.ifCond .eq 12, 3) := by decide +kernel
theorem dX6_sun_18 : decode cX6_sun 18 = .ok (.iload_n 3, 1) := by decide +kernel
theorem dX6_sun_19 : decode cX6_sun 19 = .ok (.iconst 0, 1) := by decide +kernel
theorem dX6_sun_20 : decode cX6_sun 20 = .ok (.iconst 1, 1) := by decide +kernel
theorem dX6_sun_21 : decode cX6_sun 21 = .ok (.invokestatic 51, 3) := by decide +kernel
theorem dX6_sun_24 : decode cX6_sun 24 = .ok (.ifCond .ne 10, 3) := by decide +kernel
theorem dX6_sun_27 : decode cX6_sun 27 = .ok (.aload_n 0, 1) := by decide +kernel
theorem dX6_sun_28 : decode cX6_sun 28 = .ok (.ldc 59, 2) := by decide +kernel
theorem dX6_sun_30 : decode cX6_sun 30 = .ok (.invokevirtual 60, 3) := by decide +kernel
theorem dX6_sun_33 : decode cX6_sun 33 = .ok (.ireturn, 1) := by decide +kernel
theorem dX6_sun_34 : decode cX6_sun 34 = .ok (.aload_n 0, 1) := by decide +kernel
theorem dX6_sun_35 : decode cX6_sun 35 = .ok (.getfield 12, 3) := by decide +kernel
theorem dX6_sun_38 : decode cX6_sun 38 = .ok (.getfield 79, 3) := by decide +kernel
theorem dX6_sun_41 : decode cX6_sun 41 = .ok (.iload_n 1, 1) := by decide +kernel
theorem dX6_sun_42 : decode cX6_sun 42 = .ok (.aaload, 1) := by decide +kernel
theorem dX6_sun_43 : decode cX6_sun 43 = .ok (.iload_n 2, 1) := by decide +kernel
theorem dX6_sun_44 : decode cX6_sun 44 = .ok (.invokevirtual 223, 3) := by decide +kernel
theorem dX6_sun_47 : decode cX6_sun 47 = .ok (.istore 4, 2) := by decide +kernel
theorem dX6_sun_49 : decode cX6_sun 49 = .ok (.iload_n 3, 1) := by decide +kernel
theorem dX6_sun_50 : decode cX6_sun 50 = .ok (.ifCond .ne 8, 3) := by decide +kernel
theorem dX6_sun_53 : decode cX6_sun 53 = .ok (.iload 4, 2) := by decide +kernel
theorem dX6_sun_55 : decode cX6_sun 55 = .ok (.goto 18, 3) := by decide +kernel
theorem dX6_sun_58 : decode cX6_sun 58 = .ok (.aload_n 0, 1) := by decide +kernel
theorem dX6_sun_59 : decode cX6_sun 59 = .ok (.getfield 12, 3) := by decide +kernel
theorem dX6_sun_62 : decode cX6_sun 62 = .ok (.getfield 79, 3) := by decide +kernel
theorem dX6_sun_65 : decode cX6_sun 65 = .ok (.iload_n 1, 1) := by decide +kernel
theorem dX6_sun_66 : decode cX6_sun 66 = .ok (.aaload, 1) := by decide +kernel
theorem dX6_sun_67 : decode cX6_sun 67 = .ok (.iload 4, 2) := by decide +kernel
theorem dX6_sun_69 : decode cX6_sun 69 = .ok (.iload_n 2, 1) := by decide +kernel
theorem dX6_sun_70 : decode cX6_sun 70 = .ok (.invokevirtual 226, 3) := by decide +kernel
theorem dX6_sun_73 : decode cX6_sun 73 = .ok (.ireturn, 1) := by decide +kernel
theorem dX6_winds_0 : decode cX6_winds 0 = .ok (.aload_n 0, 1) := by decide +kernel
theorem dX6_winds_1 : decode cX6_winds 1 = .ok (.iload_n 1, 1) := by decide +kernel
theorem dX6_winds_2 : decode cX6_winds 2 = .ok (.invokevirtual 72, 3) := by decide +kernel
theorem dX6_winds_5 : decode cX6_winds 5 = .ok (.ifCond .eq 20, 3) := by decide +kernel
theorem dX6_winds_8 : decode cX6_winds 8 = .ok (.iload_n 2, 1) := by decide +kernel
theorem dX6_winds_9 : decode cX6_winds 9 = .ok (.invokestatic 206, 3) := by decide +kernel
theorem dX6_winds_12 : decode cX6_winds 12 = .ok (.ifCond .eq 13, 3) := by decide +kernel
theorem dX6_winds_15 : decode cX6_winds 15 = .ok (.iload_n 3, 1) := by decide +kernel
theorem dX6_winds_16 : decode cX6_winds 16 = .ok (.iconst 0, 1) := by decide +kernel
theorem dX6_winds_17 : decode cX6_winds 17 = .ok (.bipush 7, 2) := by decide +kernel
theorem dX6_winds_19 : decode cX6_winds 19 = .ok (.invokestatic 51, 3) := by decide +kernel
theorem dX6_winds_22 : decode cX6_winds 22 = .ok (.ifCond .ne 10, 3) := by decide +kernel
theorem dX6_winds_25 : decode cX6_winds 25 = .ok (.aload_n 0, 1) := by decide +kernel
theorem dX6_winds_26 : decode cX6_winds 26 = .ok (.ldc 59, 2) := by decide +kernel
theorem dX6_winds_28 : decode cX6_winds 28 = .ok (.invokevirtual 60, 3) := by decide +kernel
theorem dX6_winds_31 : decode cX6_winds 31 = .ok (.ireturn, 1) := by decide +kernel
theorem dX6_winds_32 : decode cX6_winds 32 = .ok (.aload_n 0, 1) := by decide +kernel
theorem dX6_winds_33 : decode cX6_winds 33 = .ok (.getfield 12, 3) := by decide +kernel
theorem dX6_winds_36 : decode cX6_winds 36 = .ok (.getfield 79, 3) := by decide +kernel
theorem dX6_winds_39 : decode cX6_winds 39 = .ok (.iload_n 1, 1) := by decide +kernel
theorem dX6_winds_40 : decode cX6_winds 40 = .ok (.aaload, 1) := by decide +kernel
theorem dX6_winds_41 : decode cX6_winds 41 = .ok (.astore 4, 2) := by decide +kernel
theorem dX6_winds_43 : decode cX6_winds 43 = .ok (.aload 4, 2) := by decide +kernel
theorem dX6_winds_45 : decode cX6_winds 45 = .ok (.getfield 103, 3) := by decide +kernel
theorem dX6_winds_48 : decode cX6_winds 48 = .ok (.ifCond .ne 10, 3) := by decide +kernel
theorem dX6_winds_51 : decode cX6_winds 51 = .ok (.aload_n 0, 1) := by decide +kernel
theorem dX6_winds_52 : decode cX6_winds 52 = .ok (.ldc 107, 2) := by decide +kernel
theorem dX6_winds_54 : decode cX6_winds 54 = .ok (.invokevirtual 60, 3) := by decide +kernel
theorem dX6_winds_57 : decode cX6_winds 57 = .ok (.ireturn, 1) := by decide +kernel
theorem dX6_winds_58 : decode cX6_winds 58 = .ok (.aload_n 0, 1) := by decide +kernel
theorem dX6_winds_59 : decode cX6_winds 59 = .ok (.getfield 28, 3) := by decide +kernel
theorem dX6_winds_62 : decode cX6_winds 62 = .ok (.iload_n 2, 1) := by decide +kernel
theorem dX6_winds_63 : decode cX6_winds 63 = .ok (.aaload, 1) := by decide +kernel
theorem dX6_winds_64 : decode cX6_winds 64 = .ok (.astore 5, 2) := by decide +kernel
theorem dX6_winds_66 : decode cX6_winds 66 = .ok (.bipush 8, 2) := by decide +kernel
theorem dX6_winds_68 : decode cX6_winds 68 = .ok (.aload 5, 2) := by decide +kernel
theorem dX6_winds_70 : decode cX6_winds 70 = .ok (.getfield 213, 3) := by decide +kernel
theorem dX6_winds_73 : decode cX6_winds 73 = .ok (.invokestatic 229, 3) := by decide +kernel
theorem dX6_winds_76 : decode cX6_winds 76 = .ok (.istore 6, 2) := by decide +kernel
theorem dX6_winds_78 : decode cX6_winds 78 = .ok (.aload 5, 2) := by decide +kernel
theorem dX6_winds_80 : decode cX6_winds 80 = .ok (.invokevirtual 209, 3) := by decide +kernel
theorem dX6_winds_83 : decode cX6_winds 83 = .ok (.ifCond .ne 9, 3) := by decide +kernel
theorem dX6_winds_86 : decode cX6_winds 86 = .ok (.iload_n 3, 1) := by decide +kernel
theorem dX6_winds_87 : decode cX6_winds 87 = .ok (.iload 6, 2) := by decide +kernel
theorem dX6_winds_89 : decode cX6_winds 89 = .ok (.if_icmp .lt 10, 3) := by decide +kernel
theorem dX6_winds_92 : decode cX6_winds 92 = .ok (.aload_n 0, 1) := by decide +kernel
theorem dX6_winds_93 : decode cX6_winds 93 = .ok (.ldc 188, 2) := by decide +kernel
theorem dX6_winds_95 : decode cX6_winds 95 = .ok (.invokevirtual 60, 3) := by decide +kernel
theorem dX6_winds_98 : decode cX6_winds 98 = .ok (.ireturn, 1) := by decide +kernel
theorem dX6_winds_99 : decode cX6_winds 99 = .ok (.aload 4, 2) := by decide +kernel
theorem dX6_winds_101 : decode cX6_winds 101 = .ok (.getfield 234, 3) := by decide +kernel
theorem dX6_winds_104 : decode cX6_winds 104 = .ok (.istore 7, 2) := by decide +kernel
theorem dX6_winds_106 : decode cX6_winds 106 = .ok (.iconst 0, 1) := by decide +kernel
theorem dX6_winds_107 : decode cX6_winds 107 = .ok (.istore 8, 2) := by decide +kernel
theorem dX6_winds_109 : decode cX6_winds 109 = .ok (.iconst 0, 1) := by decide +kernel
theorem dX6_winds_110 : decode cX6_winds 110 = .ok (.istore 9, 2) := by decide +kernel
theorem dX6_winds_112 : decode cX6_winds 112 = .ok (.iload 9, 2) := by decide +kernel
theorem dX6_winds_114 : decode cX6_winds 114 = .ok (.iload 6, 2) := by decide +kernel
theorem dX6_winds_116 : decode cX6_winds 116 = .ok (.if_icmp .ge 59, 3) := by decide +kernel
theorem dX6_winds_119 : decode cX6_winds 119 = .ok (.aload 4, 2) := by decide +kernel
theorem dX6_winds_121 : decode cX6_winds 121 = .ok (.iload 7, 2) := by decide +kernel
theorem dX6_winds_123 : decode cX6_winds 123 = .ok (.aload 5, 2) := by decide +kernel
theorem dX6_winds_125 : decode cX6_winds 125 = .ok (.getfield 216, 3) := by decide +kernel
theorem dX6_winds_128 : decode cX6_winds 128 = .ok (.iload 9, 2) := by decide +kernel
theorem dX6_winds_130 : decode cX6_winds 130 = .ok (.iaload, 1) := by decide +kernel
theorem dX6_winds_131 : decode cX6_winds 131 = .ok (.invokevirtual 237, 3) := by decide +kernel
theorem dX6_winds_134 : decode cX6_winds 134 = .ok (.istore 10, 2) := by decide +kernel
theorem dX6_winds_136 : decode cX6_winds 136 = .ok (.iload 10, 2) := by decide +kernel
theorem dX6_winds_138 : decode cX6_winds 138 = .ok (.iconst 3, 1) := by decide +kernel
theorem dX6_winds_139 : decode cX6_winds 139 = .ok (.if_icmp .le 10, 3) := by decide +kernel
theorem dX6_winds_142 : decode cX6_winds 142 = .ok (.aload_n 0, 1) := by decide +kernel
theorem dX6_winds_143 : decode cX6_winds 143 = .ok (.ldc 188, 2) := by decide +kernel
theorem dX6_winds_145 : decode cX6_winds 145 = .ok (.invokevirtual 60, 3) := by decide +kernel
theorem dX6_winds_148 : decode cX6_winds 148 = .ok (.ireturn, 1) := by decide +kernel
theorem dX6_winds_149 : decode cX6_winds 149 = .ok (.iload 9, 2) := by decide +kernel
theorem dX6_winds_151 : decode cX6_winds 151 = .ok (.iload_n 3, 1) := by decide +kernel
theorem dX6_winds_152 : decode cX6_winds 152 = .ok (.if_icmp .ne 7, 3) := by decide +kernel
theorem dX6_winds_155 : decode cX6_winds 155 = .ok (.iload 10, 2) := by decide +kernel
theorem dX6_winds_157 : decode cX6_winds 157 = .ok (.istore 8, 2) := by decide +kernel
theorem dX6_winds_159 : decode cX6_winds 159 = .ok (.aload 5, 2) := by decide +kernel
theorem dX6_winds_161 : decode cX6_winds 161 = .ok (.getfield 216, 3) := by decide +kernel
theorem dX6_winds_164 : decode cX6_winds 164 = .ok (.iload 9, 2) := by decide +kernel
theorem dX6_winds_166 : decode cX6_winds 166 = .ok (.iaload, 1) := by decide +kernel
theorem dX6_winds_167 : decode cX6_winds 167 = .ok (.istore 7, 2) := by decide +kernel
theorem dX6_winds_169 : decode cX6_winds 169 = .ok (.iinc 9 1, 3) := by decide +kernel
theorem dX6_winds_172 : decode cX6_winds 172 = .ok (.goto (-60), 3) := by decide +kernel
theorem dX6_winds_175 : decode cX6_winds 175 = .ok (.iload 8, 2) := by decide +kernel
theorem dX6_winds_177 : decode cX6_winds 177 = .ok (.ireturn, 1) := by decide +kernel
theorem dX6_seed_0 : decode cX6_seed 0 = .ok (.aload_n 0, 1) := by decide +kernel
theorem dX6_seed_1 : decode cX6_seed 1 = .ok (.getfield 12, 3) := by decide +kernel
theorem dX6_seed_4 : decode cX6_seed 4 = .ok (.getfield 240, 3) := by decide +kernel
theorem dX6_seed_7 : decode cX6_seed 7 = .ok (.istore_n 2, 1) := by decide +kernel
theorem dX6_seed_8 : decode cX6_seed 8 = .ok (.aload_n 0, 1) := by decide +kernel
theorem dX6_seed_9 : decode cX6_seed 9 = .ok (.getfield 12, 3) := by decide +kernel
theorem dX6_seed_12 : decode cX6_seed 12 = .ok (.iload_n 1, 1) := by decide +kernel
theorem dX6_seed_13 : decode cX6_seed 13 = .ok (.putfield 240, 3) := by decide +kernel
theorem dX6_seed_16 : decode cX6_seed 16 = .ok (.iload_n 2, 1) := by decide +kernel
theorem dX6_seed_17 : decode cX6_seed 17 = .ok (.ireturn, 1) := by decide +kernel
theorem dX6_voice_0 : decode cX6_voice 0 = .ok (.aload_n 0, 1) := by decide +kernel
theorem dX6_voice_1 : decode cX6_voice 1 = .ok (.iload_n 1, 1) := by decide +kernel
theorem dX6_voice_2 : decode cX6_voice 2 = .ok (.invokevirtual 72, 3) := by decide +kernel
theorem dX6_voice_5 : decode cX6_voice 5 = .ok (.ifCond .eq 12, 3) := by decide +kernel
theorem dX6_voice_8 : decode cX6_voice 8 = .ok (.iload_n 2, 1) := by decide +kernel
theorem dX6_voice_9 : decode cX6_voice 9 = .ok (.iconst 0, 1) := by decide +kernel
theorem dX6_voice_10 : decode cX6_voice 10 = .ok (.iconst 3, 1) := by decide +kernel
theorem dX6_voice_11 : decode cX6_voice 11 = .ok (.invokestatic 51, 3) := by decide +kernel
theorem dX6_voice_14 : decode cX6_voice 14 = .ok (.ifCond .ne 10, 3) := by decide +kernel
theorem dX6_voice_17 : decode cX6_voice 17 = .ok (.aload_n 0, 1) := by decide +kernel
theorem dX6_voice_18 : decode cX6_voice 18 = .ok (.ldc 59, 2) := by decide +kernel
theorem dX6_voice_20 : decode cX6_voice 20 = .ok (.invokevirtual 60, 3) := by decide +kernel
theorem dX6_voice_23 : decode cX6_voice 23 = .ok (.ireturn, 1) := by decide +kernel
theorem dX6_voice_24 : decode cX6_voice 24 = .ok (.aload_n 0, 1) := by decide +kernel
theorem dX6_voice_25 : decode cX6_voice 25 = .ok (.getfield 42, 3) := by decide +kernel
theorem dX6_voice_28 : decode cX6_voice 28 = .ok (.iload_n 1, 1) := by decide +kernel
theorem dX6_voice_29 : decode cX6_voice 29 = .ok (.aload_n 0, 1) := by decide +kernel
theorem dX6_voice_30 : decode cX6_voice 30 = .ok (.getfield 12, 3) := by decide +kernel
theorem dX6_voice_33 : decode cX6_voice 33 = .ok (.getfield 79, 3) := by decide +kernel
theorem dX6_voice_36 : decode cX6_voice 36 = .ok (.iload_n 1, 1) := by decide +kernel
theorem dX6_voice_37 : decode cX6_voice 37 = .ok (.aaload, 1) := by decide +kernel
theorem dX6_voice_38 : decode cX6_voice 38 = .ok (.iload_n 2, 1) := by decide +kernel
theorem dX6_voice_39 : decode cX6_voice 39 = .ok (.iload_n 3, 1) := by decide +kernel
theorem dX6_voice_40 : decode cX6_voice 40 = .ok (.invokevirtual 243, 3) := by decide +kernel
theorem dX6_voice_43 : decode cX6_voice 43 = .ok (.ireturn, 1) := by decide +kernel
theorem dX6_trace_0 : decode cX6_trace 0 = .ok (.iload_n 1, 1) := by decide +kernel
theorem dX6_trace_1 : decode cX6_trace 1 = .ok (.iconst 0, 1) := by decide +kernel
theorem dX6_trace_2 : decode cX6_trace 2 = .ok (.aload_n 0, 1) := by decide +kernel
theorem dX6_trace_3 : decode cX6_trace 3 = .ok (.getfield 42, 3) := by decide +kernel
theorem dX6_trace_6 : decode cX6_trace 6 = .ok (.getfield 247, 3) := by decide +kernel
theorem dX6_trace_9 : decode cX6_trace 9 = .ok (.iconst 1, 1) := by decide +kernel
theorem dX6_trace_10 : decode cX6_trace 10 = .ok (.isub, 1) := by decide +kernel
theorem dX6_trace_11 : decode cX6_trace 11 = .ok (.invokestatic 51, 3) := by decide +kernel
theorem dX6_trace_14 : decode cX6_trace 14 = .ok (.ifCond .ne 10, 3) := by decide +kernel
theorem dX6_trace_17 : decode cX6_trace 17 = .ok (.aload_n 0, 1) := by decide +kernel
theorem dX6_trace_18 : decode cX6_trace 18 = .ok (.ldc 188, 2) := by decide +kernel
theorem dX6_trace_20 : decode cX6_trace 20 = .ok (.invokevirtual 60, 3) := by decide +kernel
theorem dX6_trace_23 : decode cX6_trace 23 = .ok (.ireturn, 1) := by decide +kernel
theorem dX6_trace_24 : decode cX6_trace 24 = .ok (.aload_n 0, 1) := by decide +kernel
theorem dX6_trace_25 : decode cX6_trace 25 = .ok (.getfield 42, 3) := by decide +kernel
theorem dX6_trace_28 : decode cX6_trace 28 = .ok (.getfield 250, 3) := by decide +kernel
theorem dX6_trace_31 : decode cX6_trace 31 = .ok (.iload_n 1, 1) := by decide +kernel
theorem dX6_trace_32 : decode cX6_trace 32 = .ok (.iaload, 1) := by decide +kernel
theorem dX6_trace_33 : decode cX6_trace 33 = .ok (.ireturn, 1) := by decide +kernel
theorem dX6_sheet_0 : decode cX6_sheet 0 = .ok (.iload_n 2, 1) := by decide +kernel
theorem dX6_sheet_1 : decode cX6_sheet 1 = .ok (.ifCond .eq 21, 3) := by decide +kernel
theorem dX6_sheet_4 : decode cX6_sheet 4 = .ok (.iload_n 2, 1) := by decide +kernel
theorem dX6_sheet_5 : decode cX6_sheet 5 = .ok (.bipush 8, 2) := by decide +kernel
theorem dX6_sheet_7 : decode cX6_sheet 7 = .ok (.if_icmp .eq 15, 3) := by decide +kernel
theorem dX6_sheet_10 : decode cX6_sheet 10 = .ok (.iload_n 2, 1) := by decide +kernel
theorem dX6_sheet_11 : decode cX6_sheet 11 = .ok (.bipush 16, 2) := by decide +kernel
theorem dX6_sheet_13 : decode cX6_sheet 13 = .ok (.if_icmp .eq 9, 3) := by decide +kernel
theorem dX6_sheet_16 : decode cX6_sheet 16 = .ok (.iload_n 2, 1) := by decide +kernel
theorem dX6_sheet_17 : decode cX6_sheet 17 = .ok (.bipush 32, 2) := by decide +kernel
theorem dX6_sheet_19 : decode cX6_sheet 19 = .ok (.if_icmp .ne 7, 3) := by decide +kernel
theorem dX6_sheet_22 : decode cX6_sheet 22 = .ok (.iconst 1, 1) := by decide +kernel
theorem dX6_sheet_23 : decode cX6_sheet 23 = .ok (.goto 4, 3) := by decide +kernel
theorem dX6_sheet_26 : decode cX6_sheet 26 = .ok (.iconst 0, 1) := by decide +kernel
theorem dX6_sheet_27 : decode cX6_sheet 27 = .ok (.istore 4, 2) := by decide +kernel
theorem dX6_sheet_29 : decode cX6_sheet 29 = .ok (.iload_n 1, 1) := by decide +kernel
theorem dX6_sheet_30 : decode cX6_sheet 30 = .ok (.invokestatic 206, 3) := by decide +kernel
theorem dX6_sheet_33 : decode cX6_sheet 33 = .ok (.ifCond .eq 8, 3) := by decide +kernel
theorem dX6_sheet_36 : decode cX6_sheet 36 = .ok (.iload 4, 2) := by decide +kernel
theorem dX6_sheet_38 : decode cX6_sheet 38 = .ok (.ifCond .ne 10, 3) := by decide +kernel
theorem dX6_sheet_41 : decode cX6_sheet 41 = .ok (.aload_n 0, 1) := by decide +kernel
theorem dX6_sheet_42 : decode cX6_sheet 42 = .ok (.ldc 59, 2) := by decide +kernel
theorem dX6_sheet_44 : decode cX6_sheet 44 = .ok (.invokevirtual 60, 3) := by decide +kernel
theorem dX6_sheet_47 : decode cX6_sheet 47 = .ok (.ireturn, 1) := by decide +kernel
theorem dX6_sheet_48 : decode cX6_sheet 48 = .ok (.iload_n 2, 1) := by decide +kernel
theorem dX6_sheet_49 : decode cX6_sheet 49 = .ok (.ifCond .ne 16, 3) := by decide +kernel
theorem dX6_sheet_52 : decode cX6_sheet 52 = .ok (.aload_n 0, 1) := by decide +kernel
theorem dX6_sheet_53 : decode cX6_sheet 53 = .ok (.getfield 28, 3) := by decide +kernel
theorem dX6_sheet_56 : decode cX6_sheet 56 = .ok (.iload_n 1, 1) := by decide +kernel
theorem dX6_sheet_57 : decode cX6_sheet 57 = .ok (.aaload, 1) := by decide +kernel
theorem dX6_sheet_58 : decode cX6_sheet 58 = .ok (.iconst 0, 1) := by decide +kernel
theorem dX6_sheet_59 : decode cX6_sheet 59 = .ok (.iconst 0, 1) := by decide +kernel
theorem dX6_sheet_60 : decode cX6_sheet 60 = .ok (.invokevirtual 253, 3) := by decide +kernel
theorem dX6_sheet_63 : decode cX6_sheet 63 = .ok (.iconst 1, 1) := by decide +kernel
theorem dX6_sheet_64 : decode cX6_sheet 64 = .ok (.ireturn, 1) := by decide +kernel
theorem dX6_sheet_65 : decode cX6_sheet 65 = .ok (.iload_n 3, 1) := by decide +kernel
theorem dX6_sheet_66 : decode cX6_sheet 66 = .ok (.ifCond .ge 10, 3) := by decide +kernel
theorem dX6_sheet_69 : decode cX6_sheet 69 = .ok (.aload_n 0, 1) := by decide +kernel
theorem dX6_sheet_70 : decode cX6_sheet 70 = .ok (.ldc 107, 2) := by decide +kernel
theorem dX6_sheet_72 : decode cX6_sheet 72 = .ok (.invokevirtual 60, 3) := by decide +kernel
theorem dX6_sheet_75 : decode cX6_sheet 75 = .ok (.ireturn, 1) := by decide +kernel
theorem dX6_sheet_76 : decode cX6_sheet 76 = .ok (.iload_n 3, 1) := by decide +kernel
theorem dX6_sheet_77 : decode cX6_sheet 77 = .ok (.bipush 40, 2) := by decide +kernel
theorem dX6_sheet_79 : decode cX6_sheet 79 = .ok (.if_icmp .le 10, 3) := by decide +kernel
theorem dX6_sheet_82 : decode cX6_sheet 82 = .ok (.aload_n 0, 1) := by decide +kernel
theorem dX6_sheet_83 : decode cX6_sheet 83 = .ok (.ldc 59, 2) := by decide +kernel
theorem dX6_sheet_85 : decode cX6_sheet 85 = .ok (.invokevirtual 60, 3) := by decide +kernel
theorem dX6_sheet_88 : decode cX6_sheet 88 = .ok (.ireturn, 1) := by decide +kernel
theorem dX6_sheet_89 : decode cX6_sheet 89 = .ok (.aload_n 0, 1) := by decide +kernel
theorem dX6_sheet_90 : decode cX6_sheet 90 = .ok (.getfield 28, 3) := by decide +kernel
theorem dX6_sheet_93 : decode cX6_sheet 93 = .ok (.iload_n 1, 1) := by decide +kernel
theorem dX6_sheet_94 : decode cX6_sheet 94 = .ok (.aaload, 1) := by decide +kernel
theorem dX6_sheet_95 : decode cX6_sheet 95 = .ok (.iload_n 2, 1) := by decide +kernel
theorem dX6_sheet_96 : decode cX6_sheet 96 = .ok (.iload_n 3, 1) := by decide +kernel
theorem dX6_sheet_97 : decode cX6_sheet 97 = .ok (.invokevirtual 253, 3) := by decide +kernel
theorem dX6_sheet_100 : decode cX6_sheet 100 = .ok (.iconst 1, 1) := by decide +kernel
theorem dX6_sheet_101 : decode cX6_sheet 101 = .ok (.ireturn, 1) := by decide +kernel
theorem dX6_put_0 : decode cX6_put 0 = .ok (.iload_n 1, 1) := by decide +kernel
theorem dX6_put_1 : decode cX6_put 1 = .ok (.invokestatic 206, 3) := by decide +kernel
theorem dX6_put_4 : decode cX6_put 4 = .ok (.ifCond .ne 10, 3) := by decide +kernel
theorem dX6_put_7 : decode cX6_put 7 = .ok (.aload_n 0, 1) := by decide +kernel
theorem dX6_put_8 : decode cX6_put 8 = .ok (.ldc 59, 2) := by decide +kernel
theorem dX6_put_10 : decode cX6_put 10 = .ok (.invokevirtual 60, 3) := by decide +kernel
theorem dX6_put_13 : decode cX6_put 13 = .ok (.ireturn, 1) := by decide +kernel
theorem dX6_put_14 : decode cX6_put 14 = .ok (.aload_n 0, 1) := by decide +kernel
theorem dX6_put_15 : decode cX6_put 15 = .ok (.getfield 28, 3) := by decide +kernel
theorem dX6_put_18 : decode cX6_put 18 = .ok (.iload_n 1, 1) := by decide +kernel
theorem dX6_put_19 : decode cX6_put 19 = .ok (.aaload, 1) := by decide +kernel
theorem dX6_put_20 : decode cX6_put 20 = .ok (.invokevirtual 209, 3) := by decide +kernel
theorem dX6_put_23 : decode cX6_put 23 = .ok (.ifCond .eq 10, 3) := by decide +kernel
theorem dX6_put_26 : decode cX6_put 26 = .ok (.aload_n 0, 1) := by decide +kernel
theorem dX6_put_27 : decode cX6_put 27 = .ok (.ldc 188, 2) := by decide +kernel
theorem dX6_put_29 : decode cX6_put 29 = .ok (.invokevirtual 60, 3) := by decide +kernel
theorem dX6_put_32 : decode cX6_put 32 = .ok (.ireturn, 1) := by decide +kernel
theorem dX6_put_33 : decode cX6_put 33 = .ok (.iload_n 2, 1) := by decide +kernel
theorem dX6_put_34 : decode cX6_put 34 = .ok (.iconst 0, 1) := by decide +kernel
theorem dX6_put_35 : decode cX6_put 35 = .ok (.aload_n 0, 1) := by decide +kernel
theorem dX6_put_36 : decode cX6_put 36 = .ok (.getfield 28, 3) := by decide +kernel
theorem dX6_put_39 : decode cX6_put 39 = .ok (.iload_n 1, 1) := by decide +kernel
theorem dX6_put_40 : decode cX6_put 40 = .ok (.aaload, 1) := by decide +kernel
theorem dX6_put_41 : decode cX6_put 41 = .ok (.getfield 213, 3) := by decide +kernel
theorem dX6_put_44 : decode cX6_put 44 = .ok (.iconst 1, 1) := by decide +kernel
theorem dX6_put_45 : decode cX6_put 45 = .ok (.isub, 1) := by decide +kernel
theorem dX6_put_46 : decode cX6_put 46 = .ok (.invokestatic 51, 3) := by decide +kernel
theorem dX6_put_49 : decode cX6_put 49 = .ok (.ifCond .ne 10, 3) := by decide +kernel
theorem dX6_put_52 : decode cX6_put 52 = .ok (.aload_n 0, 1) := by decide +kernel
theorem dX6_put_53 : decode cX6_put 53 = .ok (.ldc 59, 2) := by decide +kernel
theorem dX6_put_55 : decode cX6_put 55 = .ok (.invokevirtual 60, 3) := by decide +kernel
theorem dX6_put_58 : decode cX6_put 58 = .ok (.ireturn, 1) := by decide +kernel
theorem dX6_put_59 : decode cX6_put 59 = .ok (.aload_n 0, 1) := by decide +kernel
theorem dX6_put_60 : decode cX6_put 60 = .ok (.getfield 28, 3) := by decide +kernel
theorem dX6_put_63 : decode cX6_put 63 = .ok (.iload_n 1, 1) := by decide +kernel
theorem dX6_put_64 : decode cX6_put 64 = .ok (.aaload, 1) := by decide +kernel
theorem dX6_put_65 : decode cX6_put 65 = .ok (.iload_n 2, 1) := by decide +kernel
theorem dX6_put_66 : decode cX6_put 66 = .ok (.iload_n 3, 1) := by decide +kernel
theorem dX6_put_67 : decode cX6_put 67 = .ok (.invokevirtual 257, 3) := by decide +kernel
theorem dX6_put_70 : decode cX6_put 70 = .ok (.iconst 1, 1) := by decide +kernel
theorem dX6_put_71 : decode cX6_put 71 = .ok (.ireturn, 1) := by decide +kernel
theorem dX6_move_0 : decode cX6_move 0 = .ok (.iload_n 1, 1) := by decide +kernel
theorem dX6_move_1 : decode cX6_move 1 = .ok (.invokestatic 206, 3) := by decide +kernel
theorem dX6_move_4 : decode cX6_move 4 = .ok (.ifCond .eq 10, 3) := by decide +kernel
theorem dX6_move_7 : decode cX6_move 7 = .ok (.iload_n 3, 1) := by decide +kernel
theorem dX6_move_8 : decode cX6_move 8 = .ok (.invokestatic 206, 3) := by decide +kernel
theorem dX6_move_11 : decode cX6_move 11 = .ok (.ifCond .ne 10, 3) := by decide +kernel
theorem dX6_move_14 : decode cX6_move 14 = .ok (.aload_n 0, 1) := by decide +kernel
theorem dX6_move_15 : decode cX6_move 15 = .ok (.ldc 59, 2) := by decide +kernel
theorem dX6_move_17 : decode cX6_move 17 = .ok (.invokevirtual 60, 3) := by decide +kernel
theorem dX6_move_20 : decode cX6_move 20 = .ok (.ireturn, 1) := by decide +kernel
theorem dX6_move_21 : decode cX6_move 21 = .ok (.aload_n 0, 1) := by decide +kernel
theorem dX6_move_22 : decode cX6_move 22 = .ok (.getfield 28, 3) := by decide +kernel
theorem dX6_move_25 : decode cX6_move 25 = .ok (.iload_n 1, 1) := by decide +kernel
theorem dX6_move_26 : decode cX6_move 26 = .ok (.aaload, 1) := by decide +kernel
theorem dX6_move_27 : decode cX6_move 27 = .ok (.astore 6, 2) := by decide +kernel
theorem dX6_move_29 : decode cX6_move 29 = .ok (.aload_n 0, 1) := by decide +kernel
theorem dX6_move_30 : decode cX6_move 30 = .ok (.getfield 28, 3) := by decide +kernel
theorem dX6_move_33 : decode cX6_move 33 = .ok (.iload_n 3, 1) := by decide +kernel
theorem dX6_move_34 : decode cX6_move 34 = .ok (.aaload, 1) := by decide +kernel
theorem dX6_move_35 : decode cX6_move 35 = .ok (.astore 7, 2) := by decide +kernel
theorem dX6_move_37 : decode cX6_move 37 = .ok (.aload 6, 2) := by decide +kernel
theorem dX6_move_39 : decode cX6_move 39 = .ok (.invokevirtual 209, 3) := by decide +kernel
theorem dX6_move_42 : decode cX6_move 42 = .ok (.ifCond .ne 11, 3) := by decide +kernel
theorem dX6_move_45 : decode cX6_move 45 = .ok (.aload 7, 2) := by decide +kernel
theorem dX6_move_47 : decode cX6_move 47 = .ok (.invokevirtual 209, 3) := by decide +kernel
theorem dX6_move_50 : decode cX6_move 50 = .ok (.ifCond .eq 10, 3) := by decide +kernel
theorem dX6_move_53 : decode cX6_move 53 = .ok (.aload_n 0, 1) := by decide +kernel
theorem dX6_move_54 : decode cX6_move 54 = .ok (.ldc 188, 2) := by decide +kernel
theorem dX6_move_56 : decode cX6_move 56 = .ok (.invokevirtual 60, 3) := by decide +kernel
theorem dX6_move_59 : decode cX6_move 59 = .ok (.ireturn, 1) := by decide +kernel
theorem dX6_move_60 : decode cX6_move 60 = .ok (.aload 6, 2) := by decide +kernel
theorem dX6_move_62 : decode cX6_move 62 = .ok (.getfield 260, 3) := by decide +kernel
theorem dX6_move_65 : decode cX6_move 65 = .ok (.aload 7, 2) := by decide +kernel
theorem dX6_move_67 : decode cX6_move 67 = .ok (.getfield 260, 3) := by decide +kernel
theorem dX6_move_70 : decode cX6_move 70 = .ok (.if_icmp .eq 10, 3) := by decide +kernel
theorem dX6_move_73 : decode cX6_move 73 = .ok (.aload_n 0, 1) := by decide +kernel
theorem dX6_move_74 : decode cX6_move 74 = .ok (.ldc 96, 2) := by decide +kernel
theorem dX6_move_76 : decode cX6_move 76 = .ok (.invokevirtual 60, 3) := by decide +kernel
theorem dX6_move_79 : decode cX6_move 79 = .ok (.ireturn, 1) := by decide +kernel
theorem dX6_move_80 : decode cX6_move 80 = .ok (.aload 6, 2) := by decide +kernel
theorem dX6_move_82 : decode cX6_move 82 = .ok (.iload_n 2, 1) := by decide +kernel
theorem dX6_move_83 : decode cX6_move 83 = .ok (.iload 5, 2) := by decide +kernel
theorem dX6_move_85 : decode cX6_move 85 = .ok (.invokevirtual 263, 3) := by decide +kernel
theorem dX6_move_88 : decode cX6_move 88 = .ok (.ifCond .eq 15, 3) := by decide +kernel
theorem dX6_move_91 : decode cX6_move 91 = .ok (.aload 7, 2) := by decide +kernel
theorem dX6_move_93 : decode cX6_move 93 = .ok (.iload 4, 2) := by decide +kernel
theorem dX6_move_95 : decode cX6_move 95 = .ok (.iload 5, 2) := by decide +kernel
theorem dX6_move_97 : decode cX6_move 97 = .ok (.invokevirtual 263, 3) := by decide +kernel
theorem dX6_move_100 : decode cX6_move 100 = .ok (.ifCond .ne 10, 3) := by decide +kernel
theorem dX6_move_103 : decode cX6_move 103 = .ok (.aload_n 0, 1) := by decide +kernel
theorem dX6_move_104 : decode cX6_move 104 = .ok (.ldc 59, 2) := by decide +kernel
theorem dX6_move_106 : decode cX6_move 106 = .ok (.invokevirtual 60, 3) := by decide +kernel
theorem dX6_move_109 : decode cX6_move 109 = .ok (.ireturn, 1) := by decide +kernel
theorem dX6_move_110 : decode cX6_move 110 = .ok (.aload 6, 2) := by decide +kernel
theorem dX6_move_112 : decode cX6_move 112 = .ok (.getfield 216, 3) := by decide +kernel
theorem dX6_move_115 : decode cX6_move 115 = .ok (.iload_n 2, 1) := by decide +kernel
theorem dX6_move_116 : decode cX6_move 116 = .ok (.aload 7, 2) := by decide +kernel
theorem dX6_move_118 : decode cX6_move 118 = .ok (.getfield 216, 3) := by decide +kernel
theorem dX6_move_121 : decode cX6_move 121 = .ok (.iload 4, 2) := by decide +kernel
theorem dX6_move_123 : decode cX6_move 123 = .ok (.iload 5, 2) := by decide +kernel
theorem dX6_move_125 : decode cX6_move 125 = .ok (.invokestatic 266, 3) := by decide +kernel
theorem dX6_move_128 : decode cX6_move 128 = .ok (.iload 5, 2) := by decide +kernel
theorem dX6_move_130 : decode cX6_move 130 = .ok (.ireturn, 1) := by decide +kernel
theorem dX6_hills_0 : decode cX6_hills 0 = .ok (.iload_n 1, 1) := by decide +kernel
theorem dX6_hills_1 : decode cX6_hills 1 = .ok (.invokestatic 206, 3) := by decide +kernel
theorem dX6_hills_4 : decode cX6_hills 4 = .ok (.ifCond .ne 10, 3) := by decide +kernel
theorem dX6_hills_7 : decode cX6_hills 7 = .ok (.aload_n 0, 1) := by decide +kernel
theorem dX6_hills_8 : decode cX6_hills 8 = .ok (.ldc 59, 2) := by decide +kernel
theorem dX6_hills_10 : decode cX6_hills 10 = .ok (.invokevirtual 60, 3) := by decide +kernel
theorem dX6_hills_13 : decode cX6_hills 13 = .ok (.ireturn, 1) := by decide +kernel
theorem dX6_hills_14 : decode cX6_hills 14 = .ok (.aload_n 0, 1) := by decide +kernel
theorem dX6_hills_15 : decode cX6_hills 15 = .ok (.getfield 28, 3) := by decide +kernel
theorem dX6_hills_18 : decode cX6_hills 18 = .ok (.iload_n 1, 1) := by decide +kernel
theorem dX6_hills_19 : decode cX6_hills 19 = .ok (.aaload, 1) := by decide +kernel
theorem dX6_hills_20 : decode cX6_hills 20 = .ok (.invokevirtual 209, 3) := by decide +kernel
theorem dX6_hills_23 : decode cX6_hills 23 = .ok (.ifCond .eq 10, 3) := by decide +kernel
theorem dX6_hills_26 : decode cX6_hills 26 = .ok (.aload_n 0, 1) := by decide +kernel
theorem dX6_hills_27 : decode cX6_hills 27 = .ok (.ldc 188, 2) := by decide +kernel
theorem dX6_hills_29 : decode cX6_hills 29 = .ok (.invokevirtual 60, 3) := by decide +kernel
theorem dX6_hills_32 : decode cX6_hills 32 = .ok (.ireturn, 1) := by decide +kernel
theorem dX6_hills_33 : decode cX6_hills 33 = .ok (.bipush 12, 2) := by decide +kernel
theorem dX6_hills_35 : decode cX6_hills 35 = .ok (.aload_n 0, 1) := by decide +kernel
theorem dX6_hills_36 : decode cX6_hills 36 = .ok (.getfield 28, 3) := by decide +kernel
theorem dX6_hills_39 : decode cX6_hills 39 = .ok (.iload_n 1, 1) := by decide +kernel
theorem dX6_hills_40 : decode cX6_hills 40 = .ok (.aaload, 1) := by decide +kernel
theorem dX6_hills_41 : decode cX6_hills 41 = .ok (.getfield 213, 3) := by decide +kernel
theorem dX6_hills_44 : decode cX6_hills 44 = .ok (.invokestatic 229, 3) := by decide +kernel
theorem dX6_hills_47 : decode cX6_hills 47 = .ok (.istore_n 2, 1) := by decide +kernel
theorem dX6_hills_48 : decode cX6_hills 48 = .ok (.iconst 0, 1) := by decide +kernel
theorem dX6_hills_49 : decode cX6_hills 49 = .ok (.istore_n 3, 1) := by decide +kernel
theorem dX6_hills_50 : decode cX6_hills 50 = .ok (.iload_n 3, 1) := by decide +kernel
theorem dX6_hills_51 : decode cX6_hills 51 = .ok (.iload_n 2, 1) := by decide +kernel
theorem dX6_hills_52 : decode cX6_hills 52 = .ok (.if_icmp .ge 49, 3) := by decide +kernel
theorem dX6_hills_55 : decode cX6_hills 55 = .ok (.aload_n 0, 1) := by decide +kernel
theorem dX6_hills_56 : decode cX6_hills 56 = .ok (.getfield 28, 3) := by decide +kernel
theorem dX6_hills_59 : decode cX6_hills 59 = .ok (.iload_n 1, 1) := by decide +kernel
theorem dX6_hills_60 : decode cX6_hills 60 = .ok (.aaload, 1) := by decide +kernel
theorem dX6_hills_61 : decode cX6_hills 61 = .ok (.getfield 216, 3) := by decide +kernel
theorem dX6_hills_64 : decode cX6_hills 64 = .ok (.iload_n 3, 1) := by decide +kernel
theorem dX6_hills_65 : decode cX6_hills 65 = .ok (.iaload, 1) := by decide +kernel
theorem dX6_hills_66 : decode cX6_hills 66 = .ok (.iconst 0, 1) := by decide +kernel
theorem dX6_hills_67 : decode cX6_hills 67 = .ok (.bipush 9, 2) := by decide +kernel
theorem dX6_hills_69 : decode cX6_hills 69 = .ok (.invokestatic 51, 3) := by decide +kernel
theorem dX6_hills_72 : decode cX6_hills 72 = .ok (.ifCond .eq 29, 3) := by decide +kernel
theorem dX6_hills_75 : decode cX6_hills 75 = .ok (.aload_n 0, 1) := by decide +kernel
theorem dX6_hills_76 : decode cX6_hills 76 = .ok (.getfield 12, 3) := by decide +kernel
theorem dX6_hills_79 : decode cX6_hills 79 = .ok (.getfield 111, 3) := by decide +kernel
theorem dX6_hills_82 : decode cX6_hills 82 = .ok (.iload_n 3, 1) := by decide +kernel
theorem dX6_hills_83 : decode cX6_hills 83 = .ok (.aload_n 0, 1) := by decide +kernel
theorem dX6_hills_84 : decode cX6_hills 84 = .ok (.getfield 28, 3) := by decide +kernel
theorem dX6_hills_87 : decode cX6_hills 87 = .ok (.iload_n 1, 1) := by decide +kernel
theorem dX6_hills_88 : decode cX6_hills 88 = .ok (.aaload, 1) := by decide +kernel
theorem dX6_hills_89 : decode cX6_hills 89 = .ok (.getfield 216, 3) := by decide +kernel
theorem dX6_hills_92 : decode cX6_hills 92 = .ok (.iload_n 3, 1) := by decide +kernel
theorem dX6_hills_93 : decode cX6_hills 93 = .ok (.iaload, 1) := by decide +kernel
theorem dX6_hills_94 : decode cX6_hills 94 = .ok (.iastore, 1) := by decide +kernel
theorem dX6_hills_95 : decode cX6_hills 95 = .ok (.iinc 3 1, 3) := by decide +kernel
theorem dX6_hills_98 : decode cX6_hills 98 = .ok (.goto (-48), 3) := by decide +kernel
theorem dX6_hills_101 : decode cX6_hills 101 = .ok (.iload_n 3, 1) := by decide +kernel
theorem dX6_hills_102 : decode cX6_hills 102 = .ok (.ireturn, 1) := by decide +kernel
theorem dX6_judge_0 : decode cX6_judge 0 = .ok (.iload_n 1, 1) := by decide +kernel
theorem dX6_judge_1 : decode cX6_judge 1 = .ok (.invokestatic 206, 3) := by decide +kernel
theorem dX6_judge_4 : decode cX6_judge 4 = .ok (.ifCond .ne 10, 3) := by decide +kernel
theorem dX6_judge_7 : decode cX6_judge 7 = .ok (.aload_n 0, 1) := by decide +kernel
theorem dX6_judge_8 : decode cX6_judge 8 = .ok (.ldc 59, 2) := by decide +kernel
theorem dX6_judge_10 : decode cX6_judge 10 = .ok (.invokevirtual 60, 3) := by decide +kernel
theorem dX6_judge_13 : decode cX6_judge 13 = .ok (.ireturn, 1) := by decide +kernel
theorem dX6_judge_14 : decode cX6_judge 14 = .ok (.aload_n 0, 1) := by decide +kernel
theorem dX6_judge_15 : decode cX6_judge 15 = .ok (.getfield 28, 3) := by decide +kernel
theorem dX6_judge_18 : decode cX6_judge 18 = .ok (.iload_n 1, 1) := by decide +kernel
theorem dX6_judge_19 : decode cX6_judge 19 = .ok (.aaload, 1) := by decide +kernel
theorem dX6_judge_20 : decode cX6_judge 20 = .ok (.invokevirtual 209, 3) := by decide +kernel
theorem dX6_judge_23 : decode cX6_judge 23 = .ok (.ifCond .eq 10, 3) := by decide +kernel
theorem dX6_judge_26 : decode cX6_judge 26 = .ok (.aload_n 0, 1) := by decide +kernel
theorem dX6_judge_27 : decode cX6_judge 27 = .ok (.ldc 188, 2) := by decide +kernel
theorem dX6_judge_29 : decode cX6_judge 29 = .ok (.invokevirtual 60, 3) := by decide +kernel
theorem dX6_judge_32 : decode cX6_judge 32 = .ok (.ireturn, 1) := by decide +kernel
theorem dX6_judge_33 : decode cX6_judge 33 = .ok (.aload_n 0, 1) := by decide +kernel
theorem dX6_judge_34 : decode cX6_judge 34 = .ok (.getfield 28, 3) := by decide +kernel
theorem dX6_judge_37 : decode cX6_judge 37 = .ok (.iload_n 1, 1) := by decide +kernel
theorem dX6_judge_38 : decode cX6_judge 38 = .ok (.aaload, 1) := by decide +kernel
theorem dX6_judge_39 : decode cX6_judge 39 = .ok (.getfield 213, 3) := by decide +kernel
theorem dX6_judge_42 : decode cX6_judge 42 = .ok (.aload_n 0, 1) := by decide +kernel
theorem dX6_judge_43 : decode cX6_judge 43 = .ok (.getfield 12, 3) := by decide +kernel
theorem dX6_judge_46 : decode cX6_judge 46 = .ok (.getfield 64, 3) := by decide +kernel
theorem dX6_judge_49 : decode cX6_judge 49 = .ok (.invokestatic 229, 3) := by decide +kernel
theorem dX6_judge_52 : decode cX6_judge 52 = .ok (.istore_n 2, 1) := by decide +kernel
theorem dX6_judge_53 : decode cX6_judge 53 = .ok (.iconst 0, 1) := by decide +kernel
theorem dX6_judge_54 : decode cX6_judge 54 = .ok (.istore_n 3, 1) := by decide +kernel
theorem dX6_judge_55 : decode cX6_judge 55 = .ok (.iload_n 3, 1) := by decide +kernel
theorem dX6_judge_56 : decode cX6_judge 56 = .ok (.iload_n 2, 1) := by decide +kernel
theorem dX6_judge_57 : decode cX6_judge 57 = .ok (.if_icmp .ge 37, 3) := by decide +kernel
theorem dX6_judge_60 : decode cX6_judge 60 = .ok (.aload_n 0, 1) := by decide +kernel
theorem dX6_judge_61 : decode cX6_judge 61 = .ok (.getfield 28, 3) := by decide +kernel
theorem dX6_judge_64 : decode cX6_judge 64 = .ok (.iload_n 1, 1) := by decide +kernel
theorem dX6_judge_65 : decode cX6_judge 65 = .ok (.aaload, 1) := by decide +kernel
theorem dX6_judge_66 : decode cX6_judge 66 = .ok (.getfield 216, 3) := by decide +kernel
theorem dX6_judge_69 : decode cX6_judge 69 = .ok (.iload_n 3, 1) := by decide +kernel
theorem dX6_judge_70 : decode cX6_judge 70 = .ok (.iaload, 1) := by decide +kernel
theorem dX6_judge_71 : decode cX6_judge 71 = .ok (.aload_n 0, 1) := by decide +kernel
theorem dX6_judge_72 : decode cX6_judge 72 = .ok (.getfield 12, 3) := by decide +kernel
theorem dX6_judge_75 : decode cX6_judge 75 = .ok (.getfield 79, 3) := by decide +kernel
theorem dX6_judge_78 : decode cX6_judge 78 = .ok (.iload_n 3, 1) := by decide +kernel
theorem dX6_judge_79 : decode cX6_judge 79 = .ok (.aaload, 1) := by decide +kernel
theorem dX6_judge_80 : decode cX6_judge 80 = .ok (.getfield 127, 3) := by decide +kernel
theorem dX6_judge_83 : decode cX6_judge 83 = .ok (.if_icmp .eq 5, 3) := by decide +kernel
theorem dX6_judge_86 : decode cX6_judge 86 = .ok (.iload_n 3, 1) := by decide +kernel
theorem dX6_judge_87 : decode cX6_judge 87 = .ok (.ireturn, 1) := by decide +kernel
theorem dX6_judge_88 : decode cX6_judge 88 = .ok (.iinc 3 1, 3) := by decide +kernel
theorem dX6_judge_91 : decode cX6_judge 91 = .ok (.goto (-36), 3) := by decide +kernel
theorem dX6_judge_94 : decode cX6_judge 94 = .ok (.aload_n 0, 1) := by decide +kernel
theorem dX6_judge_95 : decode cX6_judge 95 = .ok (.getfield 28, 3) := by decide +kernel
theorem dX6_judge_98 : decode cX6_judge 98 = .ok (.iload_n 1, 1) := by decide +kernel
theorem dX6_judge_99 : decode cX6_judge 99 = .ok (.aaload, 1) := by decide +kernel
theorem dX6_judge_100 : decode cX6_judge 100 = .ok (.getfield 213, 3) := by decide +kernel
theorem dX6_judge_103 : decode cX6_judge 103 = .ok (.aload_n 0, 1) := by decide +kernel
theorem dX6_judge_104 : decode cX6_judge 104 = .ok (.getfield 12, 3) := by decide +kernel
theorem dX6_judge_107 : decode cX6_judge 107 = .ok (.getfield 64, 3) := by decide +kernel
theorem dX6_judge_110 : decode cX6_judge 110 = .ok (.if_icmp .ne 7, 3) := by decide +kernel
theorem dX6_judge_113 : decode cX6_judge 113 = .ok (.iconst (-1), 1) := by decide +kernel
theorem dX6_judge_114 : decode cX6_judge 114 = .ok (.goto 4, 3) := by decide +kernel
theorem dX6_judge_117 : decode cX6_judge 117 = .ok (.iload_n 2, 1) := by decide +kernel
theorem dX6_judge_118 : decode cX6_judge 118 = .ok (.ireturn, 1) := by decide +kernel
theorem dX6_image_0 : decode cX6_image 0 = .ok (.aload_n 0, 1) := by decide +kernel
theorem dX6_image_1 : decode cX6_image 1 = .ok (.getfield 16, 3) := by decide +kernel
theorem dX6_image_4 : decode cX6_image 4 = .ok (.aload_n 0, 1) := by decide +kernel
theorem dX6_image_5 : decode cX6_image 5 = .ok (.getfield 12, 3) := by decide +kernel
theorem dX6_image_8 : decode cX6_image 8 = .ok (.invokevirtual 179, 3) := by decide +kernel
theorem dX6_image_11 : decode cX6_image 11 = .ok (.aload_n 0, 1) := by decide +kernel
theorem dX6_image_12 : decode cX6_image 12 = .ok (.dup, 1) := by decide +kernel
theorem dX6_image_13 : decode cX6_image 13 = .ok (.getfield 22, 3) := by decide +kernel
theorem dX6_image_16 : decode cX6_image 16 = .ok (.iconst 1, 1) := by decide +kernel
theorem dX6_image_17 : decode cX6_image 17 = .ok (.iadd, 1) := by decide +kernel
theorem dX6_image_18 : decode cX6_image 18 = .ok (.putfield 22, 3) := by decide +kernel
theorem dX6_image_21 : decode cX6_image 21 = .ok (.aload_n 0, 1) := by decide +kernel
theorem dX6_image_22 : decode cX6_image 22 = .ok (.getfield 22, 3) := by decide +kernel
theorem dX6_image_25 : decode cX6_image 25 = .ok (.ireturn, 1) := by decide +kernel
theorem dX6_restore_0 : decode cX6_restore 0 = .ok (.aload_n 0, 1) := by decide +kernel
theorem dX6_restore_1 : decode cX6_restore 1 = .ok (.getfield 22, 3) := by decide +kernel
theorem dX6_restore_4 : decode cX6_restore 4 = .ok (.ifCond .ne 10, 3) := by decide +kernel
theorem dX6_restore_7 : decode cX6_restore 7 = .ok (.aload_n 0, 1) := by decide +kernel
theorem dX6_restore_8 : decode cX6_restore 8 = .ok (.ldc 188, 2) := by decide +kernel
theorem dX6_restore_10 : decode cX6_restore 10 = .ok (.invokevirtual 60, 3) := by decide +kernel
theorem dX6_restore_13 : decode cX6_restore 13 = .ok (.ireturn, 1) := by decide +kernel
theorem dX6_restore_14 : decode cX6_restore 14 = .ok (.aload_n 0, 1) := by decide +kernel
theorem dX6_restore_15 : decode cX6_restore 15 = .ok (.getfield 12, 3) := by decide +kernel
theorem dX6_restore_18 : decode cX6_restore 18 = .ok (.aload_n 0, 1) := by decide +kernel
theorem dX6_restore_19 : decode cX6_restore 19 = .ok (.getfield 16, 3) := by decide +kernel
theorem dX6_restore_22 : decode cX6_restore 22 = .ok (.invokevirtual 179, 3) := by decide +kernel
theorem dX6_restore_25 : decode cX6_restore 25 = .ok (.aload_n 0, 1) := by decide +kernel
theorem dX6_restore_26 : decode cX6_restore 26 = .ok (.getfield 12, 3) := by decide +kernel
theorem dX6_restore_29 : decode cX6_restore 29 = .ok (.getfield 272, 3) := by decide +kernel
theorem dX6_restore_32 : decode cX6_restore 32 = .ok (.ireturn, 1) := by decide +kernel
theorem dX6_tell_0 : decode cX6_tell 0 = .ok (.aload_n 0, 1) := by decide +kernel
theorem dX6_tell_1 : decode cX6_tell 1 = .ok (.getfield 12, 3) := by decide +kernel
theorem dX6_tell_4 : decode cX6_tell 4 = .ok (.getfield 275, 3) := by decide +kernel
theorem dX6_tell_7 : decode cX6_tell 7 = .ok (.bipush 20, 2) := by decide +kernel
theorem dX6_tell_9 : decode cX6_tell 9 = .ok (.if_icmp .lt 10, 3) := by decide +kernel
theorem dX6_tell_12 : decode cX6_tell 12 = .ok (.aload_n 0, 1) := by decide +kernel
theorem dX6_tell_13 : decode cX6_tell 13 = .ok (.ldc 67, 2) := by decide +kernel
theorem dX6_tell_15 : decode cX6_tell 15 = .ok (.invokevirtual 60, 3) := by decide +kernel
theorem dX6_tell_18 : decode cX6_tell 18 = .ok (.ireturn, 1) := by decide +kernel
theorem dX6_tell_19 : decode cX6_tell 19 = .ok (.aload_n 0, 1) := by decide +kernel
theorem dX6_tell_20 : decode cX6_tell 20 = .ok (.getfield 12, 3) := by decide +kernel
theorem dX6_tell_23 : decode cX6_tell 23 = .ok (.getfield 278, 3) := by decide +kernel
theorem dX6_tell_26 : decode cX6_tell 26 = .ok (.aload_n 0, 1) := by decide +kernel
theorem dX6_tell_27 : decode cX6_tell 27 = .ok (.getfield 12, 3) := by decide +kernel
theorem dX6_tell_30 : decode cX6_tell 30 = .ok (.getfield 275, 3) := by decide +kernel
theorem dX6_tell_33 : decode cX6_tell 33 = .ok (.iload_n 1, 1) := by decide +kernel
theorem dX6_tell_34 : decode cX6_tell 34 = .ok (.iastore, 1) := by decide +kernel
theorem dX6_tell_35 : decode cX6_tell 35 = .ok (.aload_n 0, 1) := by decide +kernel
theorem dX6_tell_36 : decode cX6_tell 36 = .ok (.getfield 12, 3) := by decide +kernel
theorem dX6_tell_39 : decode cX6_tell 39 = .ok (.dup, 1) := by decide +kernel
theorem dX6_tell_40 : decode cX6_tell 40 = .ok (.getfield 275, 3) := by decide +kernel
theorem dX6_tell_43 : decode cX6_tell 43 = .ok (.iconst 1, 1) := by decide +kernel
theorem dX6_tell_44 : decode cX6_tell 44 = .ok (.iadd, 1) := by decide +kernel
theorem dX6_tell_45 : decode cX6_tell 45 = .ok (.putfield 275, 3) := by decide +kernel
theorem dX6_tell_48 : decode cX6_tell 48 = .ok (.aload_n 0, 1) := by decide +kernel
theorem dX6_tell_49 : decode cX6_tell 49 = .ok (.getfield 12, 3) := by decide +kernel
theorem dX6_tell_52 : decode cX6_tell 52 = .ok (.getfield 275, 3) := by decide +kernel
theorem dX6_tell_55 : decode cX6_tell 55 = .ok (.ireturn, 1) := by decide +kernel
theorem dX6_check_0 : decode cX6_check 0 = .ok (.aload_n 0, 1) := by decide +kernel
theorem dX6_check_1 : decode cX6_check 1 = .ok (.getfield 12, 3) := by decide +kernel
theorem dX6_check_4 : decode cX6_check 4 = .ok (.getfield 275, 3) := by decide +kernel
theorem dX6_check_7 : decode cX6_check 7 = .ok (.istore_n 1, 1) := by decide +kernel
theorem dX6_check_8 : decode cX6_check 8 = .ok (.aload_n 0, 1) := by decide +kernel
theorem dX6_check_9 : decode cX6_check 9 = .ok (.getfield 12, 3) := by decide +kernel
theorem dX6_check_12 : decode cX6_check 12 = .ok (.iconst 0, 1) := by decide +kernel
theorem dX6_check_13 : decode cX6_check 13 = .ok (.putfield 275, 3) := by decide +kernel
theorem dX6_check_16 : decode cX6_check 16 = .ok (.aload_n 0, 1) := by decide +kernel
theorem dX6_check_17 : decode cX6_check 17 = .ok (.getfield 19, 3) := by decide +kernel
theorem dX6_check_20 : decode cX6_check 20 = .ok (.aload_n 0, 1) := by decide +kernel
theorem dX6_check_21 : decode cX6_check 21 = .ok (.getfield 12, 3) := by decide +kernel
theorem dX6_check_24 : decode cX6_check 24 = .ok (.invokevirtual 179, 3) := by decide +kernel
theorem dX6_check_27 : decode cX6_check 27 = .ok (.iconst 0, 1) := by decide +kernel
theorem dX6_check_28 : decode cX6_check 28 = .ok (.istore_n 2, 1) := by decide +kernel
theorem dX6_check_29 : decode cX6_check 29 = .ok (.iload_n 2, 1) := by decide +kernel
theorem dX6_check_30 : decode cX6_check 30 = .ok (.iload_n 1, 1) := by decide +kernel
theorem dX6_check_31 : decode cX6_check 31 = .ok (.if_icmp .ge 48, 3) := by decide +kernel
theorem dX6_check_34 : decode cX6_check 34 = .ok (.aload_n 0, 1) := by decide +kernel
theorem dX6_check_35 : decode cX6_check 35 = .ok (.getfield 19, 3) := by decide +kernel
theorem dX6_check_38 : decode cX6_check 38 = .ok (.iconst 1, 1) := by decide +kernel
theorem dX6_check_39 : decode cX6_check 39 = .ok (.invokevirtual 166, 3) := by decide +kernel
theorem dX6_check_42 : decode cX6_check 42 = .ok (.aload_n 0, 1) := by decide +kernel
theorem dX6_check_43 : decode cX6_check 43 = .ok (.getfield 19, 3) := by decide +kernel
theorem dX6_check_46 : decode cX6_check 46 = .ok (.aload_n 0, 1) := by decide +kernel
theorem dX6_check_47 : decode cX6_check 47 = .ok (.getfield 19, 3) := by decide +kernel
theorem dX6_check_50 : decode cX6_check 50 = .ok (.invokevirtual 200, 3) := by decide +kernel
theorem dX6_check_53 : decode cX6_check 53 = .ok (.iconst 0, 1) := by decide +kernel
theorem dX6_check_54 : decode cX6_check 54 = .ok (.invokevirtual 203, 3) := by decide +kernel
theorem dX6_check_57 : decode cX6_check 57 = .ok (.aload_n 0, 1) := by decide +kernel
theorem dX6_check_58 : decode cX6_check 58 = .ok (.getfield 12, 3) := by decide +kernel
theorem dX6_check_61 : decode cX6_check 61 = .ok (.getfield 278, 3) := by decide +kernel
theorem dX6_check_64 : decode cX6_check 64 = .ok (.iload_n 2, 1) := by decide +kernel
theorem dX6_check_65 : decode cX6_check 65 = .ok (.iaload, 1) := by decide +kernel
theorem dX6_check_66 : decode cX6_check 66 = .ok (.if_icmp .eq 7, 3) := by decide +kernel
theorem dX6_check_69 : decode cX6_check 69 = .ok (.iconst 1, 1) := by decide +kernel
theorem dX6_check_70 : decode cX6_check 70 = .ok (.iload_n 2, 1) := by decide +kernel
theorem dX6_check_71 : decode cX6_check 71 = .ok (.iadd, 1) := by decide +kernel
theorem dX6_check_72 : decode cX6_check 72 = .ok (.ireturn, 1) := by decide +kernel
theorem dX6_check_73 : decode cX6_check 73 = .ok (.iinc 2 1, 3) := by decide +kernel
theorem dX6_check_76 : decode cX6_check 76 = .ok (.goto (-47), 3) := by decide +kernel
theorem dX6_check_79 : decode cX6_check 79 = .ok (.iconst 0, 1) := by decide +kernel
theorem dX6_check_80 : decode cX6_check 80 = .ok (.ireturn, 1) := by decide +kernel
theorem dX6_count_0 : decode cX6_count 0 = .ok (.iload_n 1, 1) := by decide +kernel
theorem dX6_count_1 : decode cX6_count 1 = .ok (.tableswitch 146 0 9 #[55, 63, 71, 79, 90, 98, 114, 122, 130, 138], 55) := by decide +kernel
theorem dX6_count_56 : decode cX6_count 56 = .ok (.aload_n 0, 1) := by decide +kernel
theorem dX6_count_57 : decode cX6_count 57 = .ok (.getfield 12, 3) := by decide +kernel
theorem dX6_count_60 : decode cX6_count 60 = .ok (.getfield 64, 3) := by decide +kernel
theorem dX6_count_63 : decode cX6_count 63 = .ok (.ireturn, 1) := by decide +kernel
theorem dX6_count_64 : decode cX6_count 64 = .ok (.aload_n 0, 1) := by decide +kernel
theorem dX6_count_65 : decode cX6_count 65 = .ok (.getfield 12, 3) := by decide +kernel
theorem dX6_count_68 : decode cX6_count 68 = .ok (.getfield 272, 3) := by decide +kernel
theorem dX6_count_71 : decode cX6_count 71 = .ok (.ireturn, 1) := by decide +kernel
theorem dX6_count_72 : decode cX6_count 72 = .ok (.aload_n 0, 1) := by decide +kernel
theorem dX6_count_73 : decode cX6_count 73 = .ok (.getfield 12, 3) := by decide +kernel
theorem dX6_count_76 : decode cX6_count 76 = .ok (.getfield 281, 3) := by decide +kernel
theorem dX6_count_79 : decode cX6_count 79 = .ok (.ireturn, 1) := by decide +kernel
theorem dX6_count_80 : decode cX6_count 80 = .ok (.aload_n 0, 1) := by decide +kernel
theorem dX6_count_81 : decode cX6_count 81 = .ok (.getfield 12, 3) := by decide +kernel
theorem dX6_count_84 : decode cX6_count 84 = .ok (.invokevirtual 200, 3) := by decide +kernel
theorem dX6_count_87 : decode cX6_count 87 = .ok (.invokestatic 195, 3) := by decide +kernel
theorem dX6_count_90 : decode cX6_count 90 = .ok (.ireturn, 1) := by decide +kernel
theorem dX6_count_91 : decode cX6_count 91 = .ok (.aload_n 0, 1) := by decide +kernel
theorem dX6_count_92 : decode cX6_count 92 = .ok (.getfield 12, 3) := by decide +kernel
theorem dX6_count_95 : decode cX6_count 95 = .ok (.invokevirtual 169, 3) := by decide +kernel
theorem dX6_count_98 : decode cX6_count 98 = .ok (.ireturn, 1) := by decide +kernel
theorem dX6_count_99 : decode cX6_count 99 = .ok (.aload_n 0, 1) := by decide +kernel
theorem dX6_count_100 : decode cX6_count 100 = .ok (.getfield 12, 3) := by decide +kernel
theorem dX6_count_103 : decode cX6_count 103 = .ok (.aload_n 0, 1) := by decide +kernel
theorem dX6_count_104 : decode cX6_count 104 = .ok (.getfield 12, 3) := by decide +kernel
theorem dX6_count_107 : decode cX6_count 107 = .ok (.invokevirtual 200, 3) := by decide +kernel
theorem dX6_count_110 : decode cX6_count 110 = .ok (.iconst 0, 1) := by decide +kernel
theorem dX6_count_111 : decode cX6_count 111 = .ok (.invokevirtual 203, 3) := by decide +kernel
theorem dX6_count_114 : decode cX6_count 114 = .ok (.ireturn, 1) := by decide +kernel
theorem dX6_count_115 : decode cX6_count 115 = .ok (.aload_n 0, 1) := by decide +kernel
theorem dX6_count_116 : decode cX6_count 116 = .ok (.getfield 12, 3) := by decide +kernel
theorem dX6_count_119 : decode cX6_count 119 = .ok (.getfield 133, 3) := by decide +kernel
theorem dX6_count_122 : decode cX6_count 122 = .ok (.ireturn, 1) := by decide +kernel
theorem dX6_count_123 : decode cX6_count 123 = .ok (.aload_n 0, 1) := by decide +kernel
theorem dX6_count_124 : decode cX6_count 124 = .ok (.getfield 12, 3) := by decide +kernel
theorem dX6_count_127 : decode cX6_count 127 = .ok (.getfield 275, 3) := by decide +kernel
theorem dX6_count_130 : decode cX6_count 130 = .ok (.ireturn, 1) := by decide +kernel
theorem dX6_count_131 : decode cX6_count 131 = .ok (.aload_n 0, 1) := by decide +kernel
theorem dX6_count_132 : decode cX6_count 132 = .ok (.getfield 42, 3) := by decide +kernel
theorem dX6_count_135 : decode cX6_count 135 = .ok (.getfield 247, 3) := by decide +kernel
theorem dX6_count_138 : decode cX6_count 138 = .ok (.ireturn, 1) := by decide +kernel
theorem dX6_count_139 : decode cX6_count 139 = .ok (.aload_n 0, 1) := by decide +kernel
theorem dX6_count_140 : decode cX6_count 140 = .ok (.getfield 12, 3) := by decide +kernel
theorem dX6_count_143 : decode cX6_count 143 = .ok (.getfield 240, 3) := by decide +kernel
theorem dX6_count_146 : decode cX6_count 146 = .ok (.ireturn, 1) := by decide +kernel
theorem dX6_count_147 : decode cX6_count 147 = .ok (.aload_n 0, 1) := by decide +kernel
theorem dX6_count_148 : decode cX6_count 148 = .ok (.ldc 59, 2) := by decide +kernel
theorem dX6_count_150 : decode cX6_count 150 = .ok (.invokevirtual 60, 3) := by decide +kernel
theorem dX6_count_153 : decode cX6_count 153 = .ok (.ireturn, 1) := by decide +kernel
theorem dX6_told_0 : decode cX6_told 0 = .ok (.iload_n 1, 1) := by decide +kernel
theorem dX6_told_1 : decode cX6_told 1 = .ok (.iconst 1, 1) := by decide +kernel
theorem dX6_told_2 : decode cX6_told 2 = .ok (.iconst 5, 1) := by decide +kernel
theorem dX6_told_3 : decode cX6_told 3 = .ok (.invokestatic 51, 3) := by decide +kernel
theorem dX6_told_6 : decode cX6_told 6 = .ok (.ifCond .ne 10, 3) := by decide +kernel
theorem dX6_told_9 : decode cX6_told 9 = .ok (.aload_n 0, 1) := by decide +kernel
theorem dX6_told_10 : decode cX6_told 10 = .ok (.ldc 59, 2) := by decide +kernel
theorem dX6_told_12 : decode cX6_told 12 = .ok (.invokevirtual 60, 3) := by decide +kernel
theorem dX6_told_15 : decode cX6_told 15 = .ok (.ireturn, 1) := by decide +kernel
theorem dX6_told_16 : decode cX6_told 16 = .ok (.aload_n 0, 1) := by decide +kernel
theorem dX6_told_17 : decode cX6_told 17 = .ok (.getfield 46, 3) := by decide +kernel
theorem dX6_told_20 : decode cX6_told 20 = .ok (.iload_n 1, 1) := by decide +kernel
theorem dX6_told_21 : decode cX6_told 21 = .ok (.iaload, 1) := by decide +kernel
theorem dX6_told_22 : decode cX6_told 22 = .ok (.ireturn, 1) := by decide +kernel
theorem dX6_refuse_0 : decode cX6_refuse 0 = .ok (.ldc_w 284, 3) := by decide +kernel
theorem dX6_refuse_3 : decode cX6_refuse 3 = .ok (.iload_n 1, 1) := by decide +kernel
theorem dX6_refuse_4 : decode cX6_refuse 4 = .ok (.isub, 1) := by decide +kernel
theorem dX6_refuse_5 : decode cX6_refuse 5 = .ok (.istore_n 2, 1) := by decide +kernel
theorem dX6_refuse_6 : decode cX6_refuse 6 = .ok (.iload_n 2, 1) := by decide +kernel
theorem dX6_refuse_7 : decode cX6_refuse 7 = .ok (.iconst 1, 1) := by decide +kernel
theorem dX6_refuse_8 : decode cX6_refuse 8 = .ok (.iconst 5, 1) := by decide +kernel
theorem dX6_refuse_9 : decode cX6_refuse 9 = .ok (.invokestatic 51, 3) := by decide +kernel
theorem dX6_refuse_12 : decode cX6_refuse 12 = .ok (.ifCond .eq 13, 3) := by decide +kernel
theorem dX6_refuse_15 : decode cX6_refuse 15 = .ok (.aload_n 0, 1) := by decide +kernel
theorem dX6_refuse_16 : decode cX6_refuse 16 = .ok (.getfield 46, 3) := by decide +kernel
theorem dX6_refuse_19 : decode cX6_refuse 19 = .ok (.iload_n 2, 1) := by decide +kernel
theorem dX6_refuse_20 : decode cX6_refuse 20 = .ok (.dup2, 1) := by decide +kernel
theorem dX6_refuse_21 : decode cX6_refuse 21 = .ok (.iaload, 1) := by decide +kernel
theorem dX6_refuse_22 : decode cX6_refuse 22 = .ok (.iconst 1, 1) := by decide +kernel
theorem dX6_refuse_23 : decode cX6_refuse 23 = .ok (.iadd, 1) := by decide +kernel
theorem dX6_refuse_24 : decode cX6_refuse 24 = .ok (.iastore, 1) := by decide +kernel
theorem dX6_refuse_25 : decode cX6_refuse 25 = .ok (.iload_n 1, 1) := by decide +kernel
theorem dX6_refuse_26 : decode cX6_refuse 26 = .ok (.ireturn, 1) := by decide +kernel
theorem dX6_hasCloud_0 : decode cX6_hasCloud 0 = .ok (.iload_n 1, 1) := by decide +kernel
theorem dX6_hasCloud_1 : decode cX6_hasCloud 1 = .ok (.iconst 0, 1) := by decide +kernel
theorem dX6_hasCloud_2 : decode cX6_hasCloud 2 = .ok (.aload_n 0, 1) := by decide +kernel
theorem dX6_hasCloud_3 : decode cX6_hasCloud 3 = .ok (.getfield 12, 3) := by decide +kernel
theorem dX6_hasCloud_6 : decode cX6_hasCloud 6 = .ok (.getfield 64, 3) := by decide +kernel
theorem dX6_hasCloud_9 : decode cX6_hasCloud 9 = .ok (.iconst 1, 1) := by decide +kernel
theorem dX6_hasCloud_10 : decode cX6_hasCloud 10 = .ok (.isub, 1) := by decide +kernel
theorem dX6_hasCloud_11 : decode cX6_hasCloud 11 = .ok (.invokestatic 51, 3) := by decide +kernel
theorem dX6_hasCloud_14 : decode cX6_hasCloud 14 = .ok (.ireturn, 1) := by decide +kernel
theorem dX6_areTwo_0 : decode cX6_areTwo 0 = .ok (.aload_n 0, 1) := by decide +kernel
theorem dX6_areTwo_1 : decode cX6_areTwo 1 = .ok (.iload_n 1, 1) := by decide +kernel
theorem dX6_areTwo_2 : decode cX6_areTwo 2 = .ok (.invokevirtual 72, 3) := by decide +kernel
theorem dX6_areTwo_5 : decode cX6_areTwo 5 = .ok (.ifCond .eq 20, 3) := by decide +kernel
theorem dX6_areTwo_8 : decode cX6_areTwo 8 = .ok (.aload_n 0, 1) := by decide +kernel
theorem dX6_areTwo_9 : decode cX6_areTwo 9 = .ok (.iload_n 2, 1) := by decide +kernel
theorem dX6_areTwo_10 : decode cX6_areTwo 10 = .ok (.invokevirtual 72, 3) := by decide +kernel
theorem dX6_areTwo_13 : decode cX6_areTwo 13 = .ok (.ifCond .eq 12, 3) := by decide +kernel
theorem dX6_areTwo_16 : decode cX6_areTwo 16 = .ok (.iload_n 1, 1) := by decide +kernel
theorem dX6_areTwo_17 : decode cX6_areTwo 17 = .ok (.iload_n 2, 1) := by decide +kernel
theorem dX6_areTwo_18 : decode cX6_areTwo 18 = .ok (.if_icmp .eq 7, 3) := by decide +kernel
theorem dX6_areTwo_21 : decode cX6_areTwo 21 = .ok (.iconst 1, 1) := by decide +kernel
theorem dX6_areTwo_22 : decode cX6_areTwo 22 = .ok (.goto 4, 3) := by decide +kernel
theorem dX6_areTwo_25 : decode cX6_areTwo 25 = .ok (.iconst 0, 1) := by decide +kernel
theorem dX6_areTwo_26 : decode cX6_areTwo 26 = .ok (.ireturn, 1) := by decide +kernel
theorem dX6_errorOfHours_0 : decode cX6_errorOfHours 0 = .ok (.iload_n 1, 1) := by decide +kernel
theorem dX6_errorOfHours_1 : decode cX6_errorOfHours 1 = .ok (.iconst 1, 1) := by decide +kernel
theorem dX6_errorOfHours_2 : decode cX6_errorOfHours 2 = .ok (.sipush 200, 3) := by decide +kernel
theorem dX6_errorOfHours_5 : decode cX6_errorOfHours 5 = .ok (.invokestatic 51, 3) := by decide +kernel
theorem dX6_errorOfHours_8 : decode cX6_errorOfHours 8 = .ok (.ifCond .ne 6, 3) := by decide +kernel
theorem dX6_errorOfHours_11 : decode cX6_errorOfHours 11 = .ok (.ldc 59, 2) := by decide +kernel
theorem dX6_errorOfHours_13 : decode cX6_errorOfHours 13 = .ok (.ireturn, 1) := by decide +kernel
theorem dX6_errorOfHours_14 : decode cX6_errorOfHours 14 = .ok (.aload_n 0, 1) := by decide +kernel
theorem dX6_errorOfHours_15 : decode cX6_errorOfHours 15 = .ok (.getfield 12, 3) := by decide +kernel
theorem dX6_errorOfHours_18 : decode cX6_errorOfHours 18 = .ok (.getfield 272, 3) := by decide +kernel
theorem dX6_errorOfHours_21 : decode cX6_errorOfHours 21 = .ok (.iload_n 1, 1) := by decide +kernel
theorem dX6_errorOfHours_22 : decode cX6_errorOfHours 22 = .ok (.iadd, 1) := by decide +kernel
theorem dX6_errorOfHours_23 : decode cX6_errorOfHours 23 = .ok (.sipush 9999, 3) := by decide +kernel
theorem dX6_errorOfHours_26 : decode cX6_errorOfHours 26 = .ok (.if_icmp .le 8, 3) := by decide +kernel
theorem dX6_errorOfHours_29 : decode cX6_errorOfHours 29 = .ok (.ldc 107, 2) := by decide +kernel
theorem dX6_errorOfHours_31 : decode cX6_errorOfHours 31 = .ok (.goto 4, 3) := by decide +kernel
theorem dX6_errorOfHours_34 : decode cX6_errorOfHours 34 = .ok (.iconst 0, 1) := by decide +kernel
theorem dX6_errorOfHours_35 : decode cX6_errorOfHours 35 = .ok (.ireturn, 1) := by decide +kernel
theorem dX6_within_0 : decode cX6_within 0 = .ok (.iload_n 0, 1) := by decide +kernel
theorem dX6_within_1 : decode cX6_within 1 = .ok (.iload_n 1, 1) := by decide +kernel
theorem dX6_within_2 : decode cX6_within 2 = .ok (.if_icmp .lt 12, 3) := by decide +kernel
theorem dX6_within_5 : decode cX6_within 5 = .ok (.iload_n 0, 1) := by decide +kernel
theorem dX6_within_6 : decode cX6_within 6 = .ok (.iload_n 2, 1) := by decide +kernel
theorem dX6_within_7 : decode cX6_within 7 = .ok (.if_icmp .gt 7, 3) := by decide +kernel
theorem dX6_within_10 : decode cX6_within 10 = .ok (.iconst 1, 1) := by decide +kernel
theorem dX6_within_11 : decode cX6_within 11 = .ok (.goto 4, 3) := by decide +kernel
theorem dX6_within_14 : decode cX6_within 14 = .ok (.iconst 0, 1) := by decide +kernel
theorem dX6_within_15 : decode cX6_within 15 = .ok (.ireturn, 1) := by decide +kernel
theorem dX6_isPlace_0 : decode cX6_isPlace 0 = .ok (.iload_n 0, 1) := by decide +kernel
theorem dX6_isPlace_1 : decode cX6_isPlace 1 = .ok (.iconst 0, 1) := by decide +kernel
theorem dX6_isPlace_2 : decode cX6_isPlace 2 = .ok (.bipush 11, 2) := by decide +kernel
theorem dX6_isPlace_4 : decode cX6_isPlace 4 = .ok (.invokestatic 51, 3) := by decide +kernel
theorem dX6_isPlace_7 : decode cX6_isPlace 7 = .ok (.ireturn, 1) := by decide +kernel
theorem dX6_isSheet_0 : decode cX6_isSheet 0 = .ok (.iload_n 0, 1) := by decide +kernel
theorem dX6_isSheet_1 : decode cX6_isSheet 1 = .ok (.iconst 0, 1) := by decide +kernel
theorem dX6_isSheet_2 : decode cX6_isSheet 2 = .ok (.iconst 3, 1) := by decide +kernel
theorem dX6_isSheet_3 : decode cX6_isSheet 3 = .ok (.invokestatic 51, 3) := by decide +kernel
theorem dX6_isSheet_6 : decode cX6_isSheet 6 = .ok (.ireturn, 1) := by decide +kernel
theorem dX6_mostToSet_0 : decode cX6_mostToSet 0 = .ok (.iload_n 0, 1) := by decide +kernel
theorem dX6_mostToSet_1 : decode cX6_mostToSet 1 = .ok (.lookupswitch 34 #[(0, 27), (1, 30)], 27) := by decide +kernel
theorem dX6_mostToSet_28 : decode cX6_mostToSet 28 = .ok (.bipush 11, 2) := by decide +kernel
theorem dX6_mostToSet_30 : decode cX6_mostToSet 30 = .ok (.ireturn, 1) := by decide +kernel
theorem dX6_mostToSet_31 : decode cX6_mostToSet 31 = .ok (.sipush 999, 3) := by decide +kernel
theorem dX6_mostToSet_34 : decode cX6_mostToSet 34 = .ok (.ireturn, 1) := by decide +kernel
theorem dX6_mostToSet_35 : decode cX6_mostToSet 35 = .ok (.bipush 99, 2) := by decide +kernel
theorem dX6_mostToSet_37 : decode cX6_mostToSet 37 = .ok (.ireturn, 1) := by decide +kernel
theorem dX6_kindAbove_0 : decode cX6_kindAbove 0 = .ok (.iload_n 0, 1) := by decide +kernel
theorem dX6_kindAbove_1 : decode cX6_kindAbove 1 = .ok (.tableswitch 47 1 6 #[39, 39, 39, 41, 43, 45], 39) := by decide +kernel
theorem dX6_kindAbove_40 : decode cX6_kindAbove 40 = .ok (.iconst 0, 1) := by decide +kernel
theorem dX6_kindAbove_41 : decode cX6_kindAbove 41 = .ok (.ireturn, 1) := by decide +kernel
theorem dX6_kindAbove_42 : decode cX6_kindAbove 42 = .ok (.iconst 1, 1) := by decide +kernel
theorem dX6_kindAbove_43 : decode cX6_kindAbove 43 = .ok (.ireturn, 1) := by decide +kernel
theorem dX6_kindAbove_44 : decode cX6_kindAbove 44 = .ok (.iconst 2, 1) := by decide +kernel
theorem dX6_kindAbove_45 : decode cX6_kindAbove 45 = .ok (.ireturn, 1) := by decide +kernel
theorem dX6_kindAbove_46 : decode cX6_kindAbove 46 = .ok (.iconst 3, 1) := by decide +kernel
theorem dX6_kindAbove_47 : decode cX6_kindAbove 47 = .ok (.ireturn, 1) := by decide +kernel
theorem dX6_kindAbove_48 : decode cX6_kindAbove 48 = .ok (.iconst (-1), 1) := by decide +kernel
theorem dX6_kindAbove_49 : decode cX6_kindAbove 49 = .ok (.ireturn, 1) := by decide +kernel
theorem dX6_isUnder_0 : decode cX6_isUnder 0 = .ok (.iload_n 0, 1) := by decide +kernel
theorem dX6_isUnder_1 : decode cX6_isUnder 1 = .ok (.istore_n 2, 1) := by decide +kernel
theorem dX6_isUnder_2 : decode cX6_isUnder 2 = .ok (.iconst 0, 1) := by decide +kernel
theorem dX6_isUnder_3 : decode cX6_isUnder 3 = .ok (.istore_n 3, 1) := by decide +kernel
theorem dX6_isUnder_4 : decode cX6_isUnder 4 = .ok (.iload_n 3, 1) := by decide +kernel
theorem dX6_isUnder_5 : decode cX6_isUnder 5 = .ok (.bipush 6, 2) := by decide +kernel
theorem dX6_isUnder_7 : decode cX6_isUnder 7 = .ok (.if_icmp .gt 25, 3) := by decide +kernel
theorem dX6_isUnder_10 : decode cX6_isUnder 10 = .ok (.iload_n 2, 1) := by decide +kernel
theorem dX6_isUnder_11 : decode cX6_isUnder 11 = .ok (.ifCond .lt 21, 3) := by decide +kernel
theorem dX6_isUnder_14 : decode cX6_isUnder 14 = .ok (.iload_n 2, 1) := by decide +kernel
theorem dX6_isUnder_15 : decode cX6_isUnder 15 = .ok (.iload_n 1, 1) := by decide +kernel
theorem dX6_isUnder_16 : decode cX6_isUnder 16 = .ok (.if_icmp .ne 5, 3) := by decide +kernel
theorem dX6_isUnder_19 : decode cX6_isUnder 19 = .ok (.iconst 1, 1) := by decide +kernel
theorem dX6_isUnder_20 : decode cX6_isUnder 20 = .ok (.ireturn, 1) := by decide +kernel
theorem dX6_isUnder_21 : decode cX6_isUnder 21 = .ok (.iload_n 2, 1) := by decide +kernel
theorem dX6_isUnder_22 : decode cX6_isUnder 22 = .ok (.invokestatic 285, 3) := by decide +kernel
theorem dX6_isUnder_25 : decode cX6_isUnder 25 = .ok (.istore_n 2, 1) := by decide +kernel
theorem dX6_isUnder_26 : decode cX6_isUnder 26 = .ok (.iinc 3 1, 3) := by decide +kernel
theorem dX6_isUnder_29 : decode cX6_isUnder 29 = .ok (.goto (-25), 3) := by decide +kernel
theorem dX6_isUnder_32 : decode cX6_isUnder 32 = .ok (.iconst 0, 1) := by decide +kernel
theorem dX6_isUnder_33 : decode cX6_isUnder 33 = .ok (.ireturn, 1) := by decide +kernel
theorem dX6_tasteBy_0 : decode cX6_tasteBy 0 = .ok (.iload_n 1, 1) := by decide +kernel
theorem dX6_tasteBy_1 : decode cX6_tasteBy 1 = .ok (.ifCond .gt 9, 3) := by decide +kernel
theorem dX6_tasteBy_4 : decode cX6_tasteBy 4 = .ok (.sipush 9999, 3) := by decide +kernel
theorem dX6_tasteBy_7 : decode cX6_tasteBy 7 = .ok (.goto 15, 3) := by decide +kernel
theorem dX6_tasteBy_10 : decode cX6_tasteBy 10 = .ok (.sipush 9999, 3) := by decide +kernel
theorem dX6_tasteBy_13 : decode cX6_tasteBy 13 = .ok (.bipush 100, 2) := by decide +kernel
theorem dX6_tasteBy_15 : decode cX6_tasteBy 15 = .ok (.iload_n 0, 1) := by decide +kernel
theorem dX6_tasteBy_16 : decode cX6_tasteBy 16 = .ok (.imul, 1) := by decide +kernel
theorem dX6_tasteBy_17 : decode cX6_tasteBy 17 = .ok (.iload_n 1, 1) := by decide +kernel
theorem dX6_tasteBy_18 : decode cX6_tasteBy 18 = .ok (.idiv, 1) := by decide +kernel
theorem dX6_tasteBy_19 : decode cX6_tasteBy 19 = .ok (.invokestatic 229, 3) := by decide +kernel
theorem dX6_tasteBy_22 : decode cX6_tasteBy 22 = .ok (.ireturn, 1) := by decide +kernel
theorem dX7_init_0 : decode cX7_init 0 = .ok (.aload_n 0, 1) := by decide +kernel
theorem dX7_init_1 : decode cX7_init 1 = .ok (.invokespecial 1, 3) := by decide +kernel
theorem dX7_init_4 : decode cX7_init 4 = .ok (.aload_n 0, 1) := by decide +kernel
theorem dX7_init_5 : decode cX7_init 5 = .ok (.sipush 262, 3) := by decide +kernel
theorem dX7_init_8 : decode cX7_init 8 = .ok (.newarray .int, 2) := by decide +kernel
theorem dX7_init_10 : decode cX7_init 10 = .ok (.putfield 7, 3) := by decide +kernel
theorem dX7_init_13 : decode cX7_init 13 = .ok (.aload_n 0, 1) := by decide +kernel
theorem dX7_init_14 : decode cX7_init 14 = .ok (.sipush 262, 3) := by decide +kernel
theorem dX7_init_17 : decode cX7_init 17 = .ok (.newarray .int, 2) := by decide +kernel
theorem dX7_init_19 : decode cX7_init 19 = .ok (.putfield 13, 3) := by decide +kernel
theorem dX7_init_22 : decode cX7_init 22 = .ok (.aload_n 0, 1) := by decide +kernel
theorem dX7_init_23 : decode cX7_init 23 = .ok (.sipush 262, 3) := by decide +kernel
theorem dX7_init_26 : decode cX7_init 26 = .ok (.newarray .int, 2) := by decide +kernel
theorem dX7_init_28 : decode cX7_init 28 = .ok (.putfield 16, 3) := by decide +kernel
theorem dX7_init_31 : decode cX7_init 31 = .ok (.aload_n 0, 1) := by decide +kernel
theorem dX7_init_32 : decode cX7_init 32 = .ok (.sipush 262, 3) := by decide +kernel
theorem dX7_init_35 : decode cX7_init 35 = .ok (.newarray .int, 2) := by decide +kernel
theorem dX7_init_37 : decode cX7_init 37 = .ok (.putfield 19, 3) := by decide +kernel
theorem dX7_init_40 : decode cX7_init 40 = .ok (.aload_n 0, 1) := by decide +kernel
theorem dX7_init_41 : decode cX7_init 41 = .ok (.bipush 6, 2) := by decide +kernel
theorem dX7_init_43 : decode cX7_init 43 = .ok (.newarray .int, 2) := by decide +kernel
theorem dX7_init_45 : decode cX7_init 45 = .ok (.putfield 22, 3) := by decide +kernel
theorem dX7_init_48 : decode cX7_init 48 = .ok (.aload_n 0, 1) := by decide +kernel
theorem dX7_init_49 : decode cX7_init 49 = .ok (.iconst 4, 1) := by decide +kernel
theorem dX7_init_50 : decode cX7_init 50 = .ok (.newarray .int, 2) := by decide +kernel
theorem dX7_init_52 : decode cX7_init 52 = .ok (.putfield 25, 3) := by decide +kernel
theorem dX7_init_55 : decode cX7_init 55 = .ok (.aload_n 0, 1) := by decide +kernel
theorem dX7_init_56 : decode cX7_init 56 = .ok (.iconst 4, 1) := by decide +kernel
theorem dX7_init_57 : decode cX7_init 57 = .ok (.newarray .int, 2) := by decide +kernel
theorem dX7_init_59 : decode cX7_init 59 = .ok (.putfield 28, 3) := by decide +kernel
theorem dX7_init_62 : decode cX7_init 62 = .ok (.aload_n 0, 1) := by decide +kernel
theorem dX7_init_63 : decode cX7_init 63 = .ok (.sipush 160, 3) := by decide +kernel
theorem dX7_init_66 : decode cX7_init 66 = .ok (.newarray .int, 2) := by decide +kernel
theorem dX7_init_68 : decode cX7_init 68 = .ok (.putfield 31, 3) := by decide +kernel
theorem dX7_init_71 : decode cX7_init 71 = .ok (.aload_n 0, 1) := by decide +kernel
theorem dX7_init_72 : decode cX7_init 72 = .ok (.bipush 40, 2) := by decide +kernel
theorem dX7_init_74 : decode cX7_init 74 = .ok (.newarray .int, 2) := by decide +kernel
theorem dX7_init_76 : decode cX7_init 76 = .ok (.putfield 34, 3) := by decide +kernel
theorem dX7_init_79 : decode cX7_init 79 = .ok (.aload_n 0, 1) := by decide +kernel
theorem dX7_init_80 : decode cX7_init 80 = .ok (.bipush 40, 2) := by decide +kernel
theorem dX7_init_82 : decode cX7_init 82 = .ok (.newarray .int, 2) := by decide +kernel
theorem dX7_init_84 : decode cX7_init 84 = .ok (.putfield 37, 3) := by decide +kernel
theorem dX7_init_87 : decode cX7_init 87 = .ok (.aload_n 0, 1) := by decide +kernel
theorem dX7_init_88 : decode cX7_init 88 = .ok (.getfield 7, 3) := by decide +kernel
theorem dX7_init_91 : decode cX7_init 91 = .ok (.iconst 3, 1) := by decide +kernel
theorem dX7_init_92 : decode cX7_init 92 = .ok (.iconst 1, 1) := by decide +kernel
theorem dX7_init_93 : decode cX7_init 93 = .ok (.iastore, 1) := by decide +kernel
theorem dX7_init_94 : decode cX7_init 94 = .ok (.aload_n 0, 1) := by decide +kernel
theorem dX7_init_95 : decode cX7_init 95 = .ok (.getfield 7, 3) := by decide +kernel
theorem dX7_init_98 : decode cX7_init 98 = .ok (.bipush 6, 2) := by decide +kernel
theorem dX7_init_100 : decode cX7_init 100 = .ok (.iconst (-1), 1) := by decide +kernel
theorem dX7_init_101 : decode cX7_init 101 = .ok (.iastore, 1) := by decide +kernel
theorem dX7_init_102 : decode cX7_init 102 = .ok (.aload_n 0, 1) := by decide +kernel
theorem dX7_init_103 : decode cX7_init 103 = .ok (.getfield 7, 3) := by decide +kernel
theorem dX7_init_106 : decode cX7_init 106 = .ok (.bipush 7, 2) := by decide +kernel
theorem dX7_init_108 : decode cX7_init 108 = .ok (.iconst (-1), 1) := by decide +kernel
theorem dX7_init_109 : decode cX7_init 109 = .ok (.iastore, 1) := by decide +kernel
theorem dX7_init_110 : decode cX7_init 110 = .ok (.return_, 1) := by decide +kernel
theorem dX7_in_0 : decode cX7_in 0 = .ok (.iload_n 0, 1) := by decide +kernel
theorem dX7_in_1 : decode cX7_in 1 = .ok (.iload_n 1, 1) := by decide +kernel
theorem dX7_in_2 : decode cX7_in 2 = .ok (.if_icmp .lt 12, 3) := by decide +kernel
theorem dX7_in_5 : decode cX7_in 5 = .ok (.iload_n 0, 1) := by decide +kernel
theorem dX7_in_6 : decode cX7_in 6 = .ok (.iload_n 2, 1) := by decide +kernel
theorem dX7_in_7 : decode cX7_in 7 = .ok (.if_icmp .gt 7, 3) := by decide +kernel
theorem dX7_in_10 : decode cX7_in 10 = .ok (.iconst 1, 1) := by decide +kernel
theorem dX7_in_11 : decode cX7_in 11 = .ok (.goto 4, 3) := by decide +kernel
theorem dX7_in_14 : decode cX7_in 14 = .ok (.iconst 0, 1) := by decide +kernel
theorem dX7_in_15 : decode cX7_in 15 = .ok (.ireturn, 1) := by decide +kernel
theorem dX7_errs_0 : decode cX7_errs 0 = .ok (.aload_n 0, 1) := by decide +kernel
theorem dX7_errs_1 : decode cX7_errs 1 = .ok (.getfield 22, 3) := by decide +kernel
theorem dX7_errs_4 : decode cX7_errs 4 = .ok (.ldc 40, 2) := by decide +kernel
theorem dX7_errs_6 : decode cX7_errs 6 = .ok (.iload_n 1, 1) := by decide +kernel
theorem dX7_errs_7 : decode cX7_errs 7 = .ok (.isub, 1) := by decide +kernel
theorem dX7_errs_8 : decode cX7_errs 8 = .ok (.dup2, 1) := by decide +kernel
theorem dX7_errs_9 : decode cX7_errs 9 = .ok (.iaload, 1) := by decide +kernel
theorem dX7_errs_10 : decode cX7_errs 10 = .ok (.iconst 1, 1) := by decide +kernel
theorem dX7_errs_11 : decode cX7_errs 11 = .ok (.iadd, 1) := by decide +kernel
theorem dX7_errs_12 : decode cX7_errs 12 = .ok (.iastore, 1) := by decide +kernel
theorem dX7_errs_13 : decode cX7_errs 13 = .ok (.iload_n 1, 1) := by decide +kernel
theorem dX7_errs_14 : decode cX7_errs 14 = .ok (.ireturn, 1) := by decide +kernel
theorem dX7_held_0 : decode cX7_held 0 = .ok (.iload_n 0, 1) := by decide +kernel
theorem dX7_held_1 : decode cX7_held 1 = .ok (.iload_n 1, 1) := by decide +kernel
theorem dX7_held_2 : decode cX7_held 2 = .ok (.if_icmp .ge 7, 3) := by decide +kernel
theorem dX7_held_5 : decode cX7_held 5 = .ok (.iload_n 1, 1) := by decide +kernel
theorem dX7_held_6 : decode cX7_held 6 = .ok (.goto 13, 3) := by decide +kernel
theorem dX7_held_9 : decode cX7_held 9 = .ok (.iload_n 0, 1) := by decide +kernel
theorem dX7_held_10 : decode cX7_held 10 = .ok (.iload_n 2, 1) := by decide +kernel
theorem dX7_held_11 : decode cX7_held 11 = .ok (.if_icmp .le 7, 3) := by decide +kernel
theorem dX7_held_14 : decode cX7_held 14 = .ok (.iload_n 2, 1) := by decide +kernel
theorem dX7_held_15 : decode cX7_held 15 = .ok (.goto 4, 3) := by decide +kernel
theorem dX7_held_18 : decode cX7_held 18 = .ok (.iload_n 0, 1) := by decide +kernel
theorem dX7_held_19 : decode cX7_held 19 = .ok (.ireturn, 1) := by decide +kernel
theorem dX7_moveAll_0 : decode cX7_moveAll 0 = .ok (.iconst 0, 1) := by decide +kernel
theorem dX7_moveAll_1 : decode cX7_moveAll 1 = .ok (.istore_n 3, 1) := by decide +kernel
theorem dX7_moveAll_2 : decode cX7_moveAll 2 = .ok (.iload_n 3, 1) := by decide +kernel
theorem dX7_moveAll_3 : decode cX7_moveAll 3 = .ok (.sipush 262, 3) := by decide +kernel
theorem dX7_moveAll_6 : decode cX7_moveAll 6 = .ok (.if_icmp .ge 15, 3) := by decide +kernel
theorem dX7_moveAll_9 : decode cX7_moveAll 9 = .ok (.aload_n 2, 1) := by decide +kernel
theorem dX7_moveAll_10 : decode cX7_moveAll 10 = .ok (.iload_n 3, 1) := by decide +kernel
theorem dX7_moveAll_11 : decode cX7_moveAll 11 = .ok (.aload_n 1, 1) := by decide +kernel
theorem dX7_moveAll_12 : decode cX7_moveAll 12 = .ok (.iload_n 3, 1) := by decide +kernel
theorem dX7_moveAll_13 : decode cX7_moveAll 13 = .ok (.iaload, 1) := by decide +kernel
theorem dX7_moveAll_14 : decode cX7_moveAll 14 = .ok (.iastore, 1) := by decide +kernel
theorem dX7_moveAll_15 : decode cX7_moveAll 15 = .ok (.iinc 3 1, 3) := by decide +kernel
theorem dX7_moveAll_18 : decode cX7_moveAll 18 = .ok (.goto (-16), 3) := by decide +kernel
theorem dX7_moveAll_21 : decode cX7_moveAll 21 = .ok (.return_, 1) := by decide +kernel
theorem dX7_isCloud_0 : decode cX7_isCloud 0 = .ok (.iload_n 1, 1) := by decide +kernel
theorem dX7_isCloud_1 : decode cX7_isCloud 1 = .ok (.iconst 0, 1) := by decide +kernel
theorem dX7_isCloud_2 : decode cX7_isCloud 2 = .ok (.aload_n 0, 1) := by decide +kernel
theorem dX7_isCloud_3 : decode cX7_isCloud 3 = .ok (.getfield 7, 3) := by decide +kernel
theorem dX7_isCloud_6 : decode cX7_isCloud 6 = .ok (.iconst 0, 1) := by decide +kernel
theorem dX7_isCloud_7 : decode cX7_isCloud 7 = .ok (.iaload, 1) := by decide +kernel
theorem dX7_isCloud_8 : decode cX7_isCloud 8 = .ok (.iconst 1, 1) := by decide +kernel
theorem dX7_isCloud_9 : decode cX7_isCloud 9 = .ok (.isub, 1) := by decide +kernel
theorem dX7_isCloud_10 : decode cX7_isCloud 10 = .ok (.invokestatic 41, 3) := by decide +kernel
theorem dX7_isCloud_13 : decode cX7_isCloud 13 = .ok (.ireturn, 1) := by decide +kernel
theorem dX7_isPlace_0 : decode cX7_isPlace 0 = .ok (.iload_n 0, 1) := by decide +kernel
theorem dX7_isPlace_1 : decode cX7_isPlace 1 = .ok (.iconst 0, 1) := by decide +kernel
theorem dX7_isPlace_2 : decode cX7_isPlace 2 = .ok (.bipush 11, 2) := by decide +kernel
theorem dX7_isPlace_4 : decode cX7_isPlace 4 = .ok (.invokestatic 41, 3) := by decide +kernel
theorem dX7_isPlace_7 : decode cX7_isPlace 7 = .ok (.ireturn, 1) := by decide +kernel
theorem dX7_its_0 : decode cX7_its 0 = .ok (.aload_n 0, 1) := by decide +kernel
theorem dX7_its_1 : decode cX7_its 1 = .ok (.getfield 7, 3) := by decide +kernel
theorem dX7_its_4 : decode cX7_its 4 = .ok (.bipush 28, 2) := by decide +kernel
theorem dX7_its_6 : decode cX7_its 6 = .ok (.bipush 8, 2) := by decide +kernel
theorem dX7_its_8 : decode cX7_its 8 = .ok (.iload_n 1, 1) := by decide +kernel
theorem dX7_its_9 : decode cX7_its 9 = .ok (.imul, 1) := by decide +kernel
theorem dX7_its_10 : decode cX7_its 10 = .ok (.iadd, 1) := by decide +kernel
theorem dX7_its_11 : decode cX7_its 11 = .ok (.iload_n 2, 1) := by decide +kernel
theorem dX7_its_12 : decode cX7_its 12 = .ok (.iadd, 1) := by decide +kernel
theorem dX7_its_13 : decode cX7_its 13 = .ok (.iaload, 1) := by decide +kernel
theorem dX7_its_14 : decode cX7_its 14 = .ok (.ireturn, 1) := by decide +kernel
theorem dX7_puts_0 : decode cX7_puts 0 = .ok (.aload_n 0, 1) := by decide +kernel
theorem dX7_puts_1 : decode cX7_puts 1 = .ok (.getfield 7, 3) := by decide +kernel
theorem dX7_puts_4 : decode cX7_puts 4 = .ok (.bipush 28, 2) := by decide +kernel
theorem dX7_puts_6 : decode cX7_puts 6 = .ok (.bipush 8, 2) := by decide +kernel
theorem dX7_puts_8 : decode cX7_puts 8 = .ok (.iload_n 1, 1) := by decide +kernel
theorem dX7_puts_9 : decode cX7_puts 9 = .ok (.imul, 1) := by decide +kernel
theorem dX7_puts_10 : decode cX7_puts 10 = .ok (.iadd, 1) := by decide +kernel
theorem dX7_puts_11 : decode cX7_puts 11 = .ok (.iload_n 2, 1) := by decide +kernel
theorem dX7_puts_12 : decode cX7_puts 12 = .ok (.iadd, 1) := by decide +kernel
theorem dX7_puts_13 : decode cX7_puts 13 = .ok (.iload_n 3, 1) := by decide +kernel
theorem dX7_puts_14 : decode cX7_puts 14 = .ok (.iastore, 1) := by decide +kernel
theorem dX7_puts_15 : decode cX7_puts 15 = .ok (.return_, 1) := by decide +kernel
theorem dX7_isThere_0 : decode cX7_isThere 0 = .ok (.aload_n 0, 1) := by decide +kernel
theorem dX7_isThere_1 : decode cX7_isThere 1 = .ok (.iload_n 1, 1) := by decide +kernel
theorem dX7_isThere_2 : decode cX7_isThere 2 = .ok (.bipush 7, 2) := by decide +kernel
theorem dX7_isThere_4 : decode cX7_isThere 4 = .ok (.invokevirtual 45, 3) := by decide +kernel
theorem dX7_isThere_7 : decode cX7_isThere 7 = .ok (.iconst 1, 1) := by decide +kernel
theorem dX7_isThere_8 : decode cX7_isThere 8 = .ok (.if_icmp .ne 7, 3) := by decide +kernel
theorem dX7_isThere_11 : decode cX7_isThere 11 = .ok (.iconst 1, 1) := by decide +kernel
theorem dX7_isThere_12 : decode cX7_isThere 12 = .ok (.goto 4, 3) := by decide +kernel
theorem dX7_isThere_15 : decode cX7_isThere 15 = .ok (.iconst 0, 1) := by decide +kernel
theorem dX7_isThere_16 : decode cX7_isThere 16 = .ok (.ireturn, 1) := by decide +kernel
theorem dX7_cloud_0 : decode cX7_cloud 0 = .ok (.iload_n 1, 1) := by decide +kernel
theorem dX7_cloud_1 : decode cX7_cloud 1 = .ok (.iconst 0, 1) := by decide +kernel
theorem dX7_cloud_2 : decode cX7_cloud 2 = .ok (.bipush 69, 2) := by decide +kernel
theorem dX7_cloud_4 : decode cX7_cloud 4 = .ok (.invokestatic 41, 3) := by decide +kernel
theorem dX7_cloud_7 : decode cX7_cloud 7 = .ok (.ifCond .eq 21, 3) := by decide +kernel
theorem dX7_cloud_10 : decode cX7_cloud 10 = .ok (.iload_n 2, 1) := by decide +kernel
theorem dX7_cloud_11 : decode cX7_cloud 11 = .ok (.invokestatic 49, 3) := by decide +kernel
theorem dX7_cloud_14 : decode cX7_cloud 14 = .ok (.ifCond .eq 14, 3) := by decide +kernel
theorem dX7_cloud_17 : decode cX7_cloud 17 = .ok (.iload_n 3, 1) := by decide +kernel
theorem dX7_cloud_18 : decode cX7_cloud 18 = .ok (.iconst 0, 1) := by decide +kernel
theorem dX7_cloud_19 : decode cX7_cloud 19 = .ok (.sipush 999, 3) := by decide +kernel
theorem dX7_cloud_22 : decode cX7_cloud 22 = .ok (.invokestatic 41, 3) := by decide +kernel
theorem dX7_cloud_25 : decode cX7_cloud 25 = .ok (.ifCond .ne 10, 3) := by decide +kernel
theorem dX7_cloud_28 : decode cX7_cloud 28 = .ok (.aload_n 0, 1) := by decide +kernel
theorem dX7_cloud_29 : decode cX7_cloud 29 = .ok (.ldc 53, 2) := by decide +kernel
theorem dX7_cloud_31 : decode cX7_cloud 31 = .ok (.invokevirtual 54, 3) := by decide +kernel
theorem dX7_cloud_34 : decode cX7_cloud 34 = .ok (.ireturn, 1) := by decide +kernel
theorem dX7_cloud_35 : decode cX7_cloud 35 = .ok (.aload_n 0, 1) := by decide +kernel
theorem dX7_cloud_36 : decode cX7_cloud 36 = .ok (.getfield 7, 3) := by decide +kernel
theorem dX7_cloud_39 : decode cX7_cloud 39 = .ok (.iconst 0, 1) := by decide +kernel
theorem dX7_cloud_40 : decode cX7_cloud 40 = .ok (.iaload, 1) := by decide +kernel
theorem dX7_cloud_41 : decode cX7_cloud 41 = .ok (.bipush 8, 2) := by decide +kernel
theorem dX7_cloud_43 : decode cX7_cloud 43 = .ok (.if_icmp .ne 10, 3) := by decide +kernel
theorem dX7_cloud_46 : decode cX7_cloud 46 = .ok (.aload_n 0, 1) := by decide +kernel
theorem dX7_cloud_47 : decode cX7_cloud 47 = .ok (.ldc 58, 2) := by decide +kernel
theorem dX7_cloud_49 : decode cX7_cloud 49 = .ok (.invokevirtual 54, 3) := by decide +kernel
theorem dX7_cloud_52 : decode cX7_cloud 52 = .ok (.ireturn, 1) := by decide +kernel
theorem dX7_cloud_53 : decode cX7_cloud 53 = .ok (.aload_n 0, 1) := by decide +kernel
theorem dX7_cloud_54 : decode cX7_cloud 54 = .ok (.getfield 7, 3) := by decide +kernel
theorem dX7_cloud_57 : decode cX7_cloud 57 = .ok (.iconst 0, 1) := by decide +kernel
theorem dX7_cloud_58 : decode cX7_cloud 58 = .ok (.iaload, 1) := by decide +kernel
theorem dX7_cloud_59 : decode cX7_cloud 59 = .ok (.istore 4, 2) := by decide +kernel
theorem dX7_cloud_61 : decode cX7_cloud 61 = .ok (.aload_n 0, 1) := by decide +kernel
theorem dX7_cloud_62 : decode cX7_cloud 62 = .ok (.iload 4, 2) := by decide +kernel
theorem dX7_cloud_64 : decode cX7_cloud 64 = .ok (.iconst 0, 1) := by decide +kernel
theorem dX7_cloud_65 : decode cX7_cloud 65 = .ok (.iload_n 1, 1) := by decide +kernel
theorem dX7_cloud_66 : decode cX7_cloud 66 = .ok (.bipush 10, 2) := by decide +kernel
theorem dX7_cloud_68 : decode cX7_cloud 68 = .ok (.idiv, 1) := by decide +kernel
theorem dX7_cloud_69 : decode cX7_cloud 69 = .ok (.invokevirtual 59, 3) := by decide +kernel
theorem dX7_cloud_72 : decode cX7_cloud 72 = .ok (.aload_n 0, 1) := by decide +kernel
theorem dX7_cloud_73 : decode cX7_cloud 73 = .ok (.iload 4, 2) := by decide +kernel
theorem dX7_cloud_75 : decode cX7_cloud 75 = .ok (.iconst 1, 1) := by decide +kernel
theorem dX7_cloud_76 : decode cX7_cloud 76 = .ok (.iload_n 1, 1) := by decide +kernel
theorem dX7_cloud_77 : decode cX7_cloud 77 = .ok (.bipush 10, 2) := by decide +kernel
theorem dX7_cloud_79 : decode cX7_cloud 79 = .ok (.irem, 1) := by decide +kernel
theorem dX7_cloud_80 : decode cX7_cloud 80 = .ok (.invokevirtual 59, 3) := by decide +kernel
theorem dX7_cloud_83 : decode cX7_cloud 83 = .ok (.aload_n 0, 1) := by decide +kernel
theorem dX7_cloud_84 : decode cX7_cloud 84 = .ok (.iload 4, 2) := by decide +kernel
theorem dX7_cloud_86 : decode cX7_cloud 86 = .ok (.iconst 2, 1) := by decide +kernel
theorem dX7_cloud_87 : decode cX7_cloud 87 = .ok (.iload_n 2, 1) := by decide +kernel
theorem dX7_cloud_88 : decode cX7_cloud 88 = .ok (.invokevirtual 59, 3) := by decide +kernel
theorem dX7_cloud_91 : decode cX7_cloud 91 = .ok (.aload_n 0, 1) := by decide +kernel
theorem dX7_cloud_92 : decode cX7_cloud 92 = .ok (.iload 4, 2) := by decide +kernel
theorem dX7_cloud_94 : decode cX7_cloud 94 = .ok (.iconst 3, 1) := by decide +kernel
theorem dX7_cloud_95 : decode cX7_cloud 95 = .ok (.iload_n 3, 1) := by decide +kernel
theorem dX7_cloud_96 : decode cX7_cloud 96 = .ok (.invokevirtual 59, 3) := by decide +kernel
theorem dX7_cloud_99 : decode cX7_cloud 99 = .ok (.iconst 0, 1) := by decide +kernel
theorem dX7_cloud_100 : decode cX7_cloud 100 = .ok (.istore 5, 2) := by decide +kernel
theorem dX7_cloud_102 : decode cX7_cloud 102 = .ok (.iload 5, 2) := by decide +kernel
theorem dX7_cloud_104 : decode cX7_cloud 104 = .ok (.iconst 3, 1) := by decide +kernel
theorem dX7_cloud_105 : decode cX7_cloud 105 = .ok (.if_icmp .ge 20, 3) := by decide +kernel
theorem dX7_cloud_108 : decode cX7_cloud 108 = .ok (.aload_n 0, 1) := by decide +kernel
theorem dX7_cloud_109 : decode cX7_cloud 109 = .ok (.iload 4, 2) := by decide +kernel
theorem dX7_cloud_111 : decode cX7_cloud 111 = .ok (.iconst 4, 1) := by decide +kernel
theorem dX7_cloud_112 : decode cX7_cloud 112 = .ok (.iload 5, 2) := by decide +kernel
theorem dX7_cloud_114 : decode cX7_cloud 114 = .ok (.iadd, 1) := by decide +kernel
theorem dX7_cloud_115 : decode cX7_cloud 115 = .ok (.iconst 0, 1) := by decide +kernel
theorem dX7_cloud_116 : decode cX7_cloud 116 = .ok (.invokevirtual 59, 3) := by decide +kernel
theorem dX7_cloud_119 : decode cX7_cloud 119 = .ok (.iinc 5 1, 3) := by decide +kernel
theorem dX7_cloud_122 : decode cX7_cloud 122 = .ok (.goto (-20), 3) := by decide +kernel
theorem dX7_cloud_125 : decode cX7_cloud 125 = .ok (.aload_n 0, 1) := by decide +kernel
theorem dX7_cloud_126 : decode cX7_cloud 126 = .ok (.iload 4, 2) := by decide +kernel
theorem dX7_cloud_128 : decode cX7_cloud 128 = .ok (.bipush 7, 2) := by decide +kernel
theorem dX7_cloud_130 : decode cX7_cloud 130 = .ok (.iconst 1, 1) := by decide +kernel
theorem dX7_cloud_131 : decode cX7_cloud 131 = .ok (.invokevirtual 59, 3) := by decide +kernel
theorem dX7_cloud_134 : decode cX7_cloud 134 = .ok (.aload_n 0, 1) := by decide +kernel
theorem dX7_cloud_135 : decode cX7_cloud 135 = .ok (.getfield 7, 3) := by decide +kernel
theorem dX7_cloud_138 : decode cX7_cloud 138 = .ok (.iconst 0, 1) := by decide +kernel
theorem dX7_cloud_139 : decode cX7_cloud 139 = .ok (.dup2, 1) := by decide +kernel
theorem dX7_cloud_140 : decode cX7_cloud 140 = .ok (.iaload, 1) := by decide +kernel
theorem dX7_cloud_141 : decode cX7_cloud 141 = .ok (.iconst 1, 1) := by decide +kernel
theorem dX7_cloud_142 : decode cX7_cloud 142 = .ok (.iadd, 1) := by decide +kernel
theorem dX7_cloud_143 : decode cX7_cloud 143 = .ok (.iastore, 1) := by decide +kernel
theorem dX7_cloud_144 : decode cX7_cloud 144 = .ok (.iload 4, 2) := by decide +kernel
theorem dX7_cloud_146 : decode cX7_cloud 146 = .ok (.ireturn, 1) := by decide +kernel
theorem dX7_driftsBy_0 : decode cX7_driftsBy 0 = .ok (.aload_n 0, 1) := by decide +kernel
theorem dX7_driftsBy_1 : decode cX7_driftsBy 1 = .ok (.iload_n 1, 1) := by decide +kernel
theorem dX7_driftsBy_2 : decode cX7_driftsBy 2 = .ok (.iconst 0, 1) := by decide +kernel
theorem dX7_driftsBy_3 : decode cX7_driftsBy 3 = .ok (.invokevirtual 45, 3) := by decide +kernel
theorem dX7_driftsBy_6 : decode cX7_driftsBy 6 = .ok (.istore_n 3, 1) := by decide +kernel
theorem dX7_driftsBy_7 : decode cX7_driftsBy 7 = .ok (.iload_n 3, 1) := by decide +kernel
theorem dX7_driftsBy_8 : decode cX7_driftsBy 8 = .ok (.iconst 1, 1) := by decide +kernel
theorem dX7_driftsBy_9 : decode cX7_driftsBy 9 = .ok (.if_icmp .ne 9, 3) := by decide +kernel
theorem dX7_driftsBy_12 : decode cX7_driftsBy 12 = .ok (.iload_n 2, 1) := by decide +kernel
theorem dX7_driftsBy_13 : decode cX7_driftsBy 13 = .ok (.iconst 2, 1) := by decide +kernel
theorem dX7_driftsBy_14 : decode cX7_driftsBy 14 = .ok (.idiv, 1) := by decide +kernel
theorem dX7_driftsBy_15 : decode cX7_driftsBy 15 = .ok (.goto 50, 3) := by decide +kernel
theorem dX7_driftsBy_18 : decode cX7_driftsBy 18 = .ok (.iload_n 3, 1) := by decide +kernel
theorem dX7_driftsBy_19 : decode cX7_driftsBy 19 = .ok (.iconst 4, 1) := by decide +kernel
theorem dX7_driftsBy_20 : decode cX7_driftsBy 20 = .ok (.if_icmp .ne 18, 3) := by decide +kernel
theorem dX7_driftsBy_23 : decode cX7_driftsBy 23 = .ok (.iload_n 2, 1) := by decide +kernel
theorem dX7_driftsBy_24 : decode cX7_driftsBy 24 = .ok (.iconst 2, 1) := by decide +kernel
theorem dX7_driftsBy_25 : decode cX7_driftsBy 25 = .ok (.idiv, 1) := by decide +kernel
theorem dX7_driftsBy_26 : decode cX7_driftsBy 26 = .ok (.aload_n 0, 1) := by decide +kernel
theorem dX7_driftsBy_27 : decode cX7_driftsBy 27 = .ok (.iload_n 1, 1) := by decide +kernel
theorem dX7_driftsBy_28 : decode cX7_driftsBy 28 = .ok (.iconst 1, 1) := by decide +kernel
theorem dX7_driftsBy_29 : decode cX7_driftsBy 29 = .ok (.invokevirtual 45, 3) := by decide +kernel
theorem dX7_driftsBy_32 : decode cX7_driftsBy 32 = .ok (.iconst 2, 1) := by decide +kernel
theorem dX7_driftsBy_33 : decode cX7_driftsBy 33 = .ok (.irem, 1) := by decide +kernel
theorem dX7_driftsBy_34 : decode cX7_driftsBy 34 = .ok (.iadd, 1) := by decide +kernel
theorem dX7_driftsBy_35 : decode cX7_driftsBy 35 = .ok (.goto 30, 3) := by decide +kernel
theorem dX7_driftsBy_38 : decode cX7_driftsBy 38 = .ok (.iload_n 3, 1) := by decide +kernel
theorem dX7_driftsBy_39 : decode cX7_driftsBy 39 = .ok (.iconst 2, 1) := by decide +kernel
theorem dX7_driftsBy_40 : decode cX7_driftsBy 40 = .ok (.if_icmp .eq 8, 3) := by decide +kernel
theorem dX7_driftsBy_43 : decode cX7_driftsBy 43 = .ok (.iload_n 3, 1) := by decide +kernel
theorem dX7_driftsBy_44 : decode cX7_driftsBy 44 = .ok (.iconst 5, 1) := by decide +kernel
theorem dX7_driftsBy_45 : decode cX7_driftsBy 45 = .ok (.if_icmp .ne 9, 3) := by decide +kernel
theorem dX7_driftsBy_48 : decode cX7_driftsBy 48 = .ok (.iconst 2, 1) := by decide +kernel
theorem dX7_driftsBy_49 : decode cX7_driftsBy 49 = .ok (.iload_n 2, 1) := by decide +kernel
theorem dX7_driftsBy_50 : decode cX7_driftsBy 50 = .ok (.imul, 1) := by decide +kernel
theorem dX7_driftsBy_51 : decode cX7_driftsBy 51 = .ok (.goto 14, 3) := by decide +kernel
theorem dX7_driftsBy_54 : decode cX7_driftsBy 54 = .ok (.iload_n 3, 1) := by decide +kernel
theorem dX7_driftsBy_55 : decode cX7_driftsBy 55 = .ok (.bipush 6, 2) := by decide +kernel
theorem dX7_driftsBy_57 : decode cX7_driftsBy 57 = .ok (.if_icmp .ne 7, 3) := by decide +kernel
theorem dX7_driftsBy_60 : decode cX7_driftsBy 60 = .ok (.iconst 0, 1) := by decide +kernel
theorem dX7_driftsBy_61 : decode cX7_driftsBy 61 = .ok (.goto 4, 3) := by decide +kernel
theorem dX7_driftsBy_64 : decode cX7_driftsBy 64 = .ok (.iload_n 2, 1) := by decide +kernel
theorem dX7_driftsBy_65 : decode cX7_driftsBy 65 = .ok (.ireturn, 1) := by decide +kernel
theorem dX7_rainsAt_0 : decode cX7_rainsAt 0 = .ok (.aload_n 0, 1) := by decide +kernel
theorem dX7_rainsAt_1 : decode cX7_rainsAt 1 = .ok (.iload_n 1, 1) := by decide +kernel
theorem dX7_rainsAt_2 : decode cX7_rainsAt 2 = .ok (.iconst 0, 1) := by decide +kernel
theorem dX7_rainsAt_3 : decode cX7_rainsAt 3 = .ok (.invokevirtual 45, 3) := by decide +kernel
theorem dX7_rainsAt_6 : decode cX7_rainsAt 6 = .ok (.istore_n 3, 1) := by decide +kernel
theorem dX7_rainsAt_7 : decode cX7_rainsAt 7 = .ok (.aload_n 0, 1) := by decide +kernel
theorem dX7_rainsAt_8 : decode cX7_rainsAt 8 = .ok (.iload_n 1, 1) := by decide +kernel
theorem dX7_rainsAt_9 : decode cX7_rainsAt 9 = .ok (.iconst 1, 1) := by decide +kernel
theorem dX7_rainsAt_10 : decode cX7_rainsAt 10 = .ok (.invokevirtual 45, 3) := by decide +kernel
theorem dX7_rainsAt_13 : decode cX7_rainsAt 13 = .ok (.istore 4, 2) := by decide +kernel
theorem dX7_rainsAt_15 : decode cX7_rainsAt 15 = .ok (.iconst 2, 1) := by decide +kernel
theorem dX7_rainsAt_16 : decode cX7_rainsAt 16 = .ok (.iload_n 2, 1) := by decide +kernel
theorem dX7_rainsAt_17 : decode cX7_rainsAt 17 = .ok (.imul, 1) := by decide +kernel
theorem dX7_rainsAt_18 : decode cX7_rainsAt 18 = .ok (.istore 5, 2) := by decide +kernel
theorem dX7_rainsAt_20 : decode cX7_rainsAt 20 = .ok (.iload_n 3, 1) := by decide +kernel
theorem dX7_rainsAt_21 : decode cX7_rainsAt 21 = .ok (.iconst 1, 1) := by decide +kernel
theorem dX7_rainsAt_22 : decode cX7_rainsAt 22 = .ok (.if_icmp .eq 8, 3) := by decide +kernel
theorem dX7_rainsAt_25 : decode cX7_rainsAt 25 = .ok (.iload_n 3, 1) := by decide +kernel
theorem dX7_rainsAt_26 : decode cX7_rainsAt 26 = .ok (.iconst 4, 1) := by decide +kernel
theorem dX7_rainsAt_27 : decode cX7_rainsAt 27 = .ok (.if_icmp .ne 7, 3) := by decide +kernel
theorem dX7_rainsAt_30 : decode cX7_rainsAt 30 = .ok (.iconst 0, 1) := by decide +kernel
theorem dX7_rainsAt_31 : decode cX7_rainsAt 31 = .ok (.goto 52, 3) := by decide +kernel
theorem dX7_rainsAt_34 : decode cX7_rainsAt 34 = .ok (.iload_n 3, 1) := by decide +kernel
theorem dX7_rainsAt_35 : decode cX7_rainsAt 35 = .ok (.iconst 2, 1) := by decide +kernel
theorem dX7_rainsAt_36 : decode cX7_rainsAt 36 = .ok (.if_icmp .ne 11, 3) := by decide +kernel
theorem dX7_rainsAt_39 : decode cX7_rainsAt 39 = .ok (.iload 5, 2) := by decide +kernel
theorem dX7_rainsAt_41 : decode cX7_rainsAt 41 = .ok (.iload 4, 2) := by decide +kernel
theorem dX7_rainsAt_43 : decode cX7_rainsAt 43 = .ok (.iadd, 1) := by decide +kernel
theorem dX7_rainsAt_44 : decode cX7_rainsAt 44 = .ok (.goto 39, 3) := by decide +kernel
theorem dX7_rainsAt_47 : decode cX7_rainsAt 47 = .ok (.iload_n 3, 1) := by decide +kernel
theorem dX7_rainsAt_48 : decode cX7_rainsAt 48 = .ok (.iconst 5, 1) := by decide +kernel
theorem dX7_rainsAt_49 : decode cX7_rainsAt 49 = .ok (.if_icmp .ne 13, 3) := by decide +kernel
theorem dX7_rainsAt_52 : decode cX7_rainsAt 52 = .ok (.iconst 2, 1) := by decide +kernel
theorem dX7_rainsAt_53 : decode cX7_rainsAt 53 = .ok (.iload 5, 2) := by decide +kernel
theorem dX7_rainsAt_55 : decode cX7_rainsAt 55 = .ok (.iload 4, 2) := by decide +kernel
theorem dX7_rainsAt_57 : decode cX7_rainsAt 57 = .ok (.iadd, 1) := by decide +kernel
theorem dX7_rainsAt_58 : decode cX7_rainsAt 58 = .ok (.imul, 1) := by decide +kernel
theorem dX7_rainsAt_59 : decode cX7_rainsAt 59 = .ok (.goto 24, 3) := by decide +kernel
theorem dX7_rainsAt_62 : decode cX7_rainsAt 62 = .ok (.iload_n 3, 1) := by decide +kernel
theorem dX7_rainsAt_63 : decode cX7_rainsAt 63 = .ok (.iconst 3, 1) := by decide +kernel
theorem dX7_rainsAt_64 : decode cX7_rainsAt 64 = .ok (.if_icmp .eq 9, 3) := by decide +kernel
theorem dX7_rainsAt_67 : decode cX7_rainsAt 67 = .ok (.iload_n 3, 1) := by decide +kernel
theorem dX7_rainsAt_68 : decode cX7_rainsAt 68 = .ok (.bipush 6, 2) := by decide +kernel
theorem dX7_rainsAt_70 : decode cX7_rainsAt 70 = .ok (.if_icmp .ne 11, 3) := by decide +kernel
theorem dX7_rainsAt_73 : decode cX7_rainsAt 73 = .ok (.iload 5, 2) := by decide +kernel
theorem dX7_rainsAt_75 : decode cX7_rainsAt 75 = .ok (.iload 4, 2) := by decide +kernel
theorem dX7_rainsAt_77 : decode cX7_rainsAt 77 = .ok (.isub, 1) := by decide +kernel
theorem dX7_rainsAt_78 : decode cX7_rainsAt 78 = .ok (.goto 5, 3) := by decide +kernel
theorem dX7_rainsAt_81 : decode cX7_rainsAt 81 = .ok (.iload 5, 2) := by decide +kernel
theorem dX7_rainsAt_83 : decode cX7_rainsAt 83 = .ok (.istore 6, 2) := by decide +kernel
theorem dX7_rainsAt_85 : decode cX7_rainsAt 85 = .ok (.iload 6, 2) := by decide +kernel
theorem dX7_rainsAt_87 : decode cX7_rainsAt 87 = .ok (.iconst 0, 1) := by decide +kernel
theorem dX7_rainsAt_88 : decode cX7_rainsAt 88 = .ok (.aload_n 0, 1) := by decide +kernel
theorem dX7_rainsAt_89 : decode cX7_rainsAt 89 = .ok (.iload_n 1, 1) := by decide +kernel
theorem dX7_rainsAt_90 : decode cX7_rainsAt 90 = .ok (.iconst 3, 1) := by decide +kernel
theorem dX7_rainsAt_91 : decode cX7_rainsAt 91 = .ok (.invokevirtual 45, 3) := by decide +kernel
theorem dX7_rainsAt_94 : decode cX7_rainsAt 94 = .ok (.invokestatic 63, 3) := by decide +kernel
theorem dX7_rainsAt_97 : decode cX7_rainsAt 97 = .ok (.ireturn, 1) := by decide +kernel
theorem dX7_keeps_0 : decode cX7_keeps 0 = .ok (.aload_n 0, 1) := by decide +kernel
theorem dX7_keeps_1 : decode cX7_keeps 1 = .ok (.iload_n 1, 1) := by decide +kernel
theorem dX7_keeps_2 : decode cX7_keeps 2 = .ok (.iconst 0, 1) := by decide +kernel
theorem dX7_keeps_3 : decode cX7_keeps 3 = .ok (.invokevirtual 45, 3) := by decide +kernel
theorem dX7_keeps_6 : decode cX7_keeps 6 = .ok (.istore_n 3, 1) := by decide +kernel
theorem dX7_keeps_7 : decode cX7_keeps 7 = .ok (.iload_n 3, 1) := by decide +kernel
theorem dX7_keeps_8 : decode cX7_keeps 8 = .ok (.iconst 2, 1) := by decide +kernel
theorem dX7_keeps_9 : decode cX7_keeps 9 = .ok (.if_icmp .ne 16, 3) := by decide +kernel
theorem dX7_keeps_12 : decode cX7_keeps 12 = .ok (.iload_n 2, 1) := by decide +kernel
theorem dX7_keeps_13 : decode cX7_keeps 13 = .ok (.iconst 2, 1) := by decide +kernel
theorem dX7_keeps_14 : decode cX7_keeps 14 = .ok (.if_icmp .eq 7, 3) := by decide +kernel
theorem dX7_keeps_17 : decode cX7_keeps 17 = .ok (.iconst 1, 1) := by decide +kernel
theorem dX7_keeps_18 : decode cX7_keeps 18 = .ok (.goto 48, 3) := by decide +kernel
theorem dX7_keeps_21 : decode cX7_keeps 21 = .ok (.iconst 0, 1) := by decide +kernel
theorem dX7_keeps_22 : decode cX7_keeps 22 = .ok (.goto 44, 3) := by decide +kernel
theorem dX7_keeps_25 : decode cX7_keeps 25 = .ok (.iload_n 3, 1) := by decide +kernel
theorem dX7_keeps_26 : decode cX7_keeps 26 = .ok (.iconst 5, 1) := by decide +kernel
theorem dX7_keeps_27 : decode cX7_keeps 27 = .ok (.if_icmp .ne 15, 3) := by decide +kernel
theorem dX7_keeps_30 : decode cX7_keeps 30 = .ok (.iload_n 2, 1) := by decide +kernel
theorem dX7_keeps_31 : decode cX7_keeps 31 = .ok (.ifCond .ne 7, 3) := by decide +kernel
theorem dX7_keeps_34 : decode cX7_keeps 34 = .ok (.iconst 1, 1) := by decide +kernel
theorem dX7_keeps_35 : decode cX7_keeps 35 = .ok (.goto 31, 3) := by decide +kernel
theorem dX7_keeps_38 : decode cX7_keeps 38 = .ok (.iconst 0, 1) := by decide +kernel
theorem dX7_keeps_39 : decode cX7_keeps 39 = .ok (.goto 27, 3) := by decide +kernel
theorem dX7_keeps_42 : decode cX7_keeps 42 = .ok (.iload_n 3, 1) := by decide +kernel
theorem dX7_keeps_43 : decode cX7_keeps 43 = .ok (.iconst 3, 1) := by decide +kernel
theorem dX7_keeps_44 : decode cX7_keeps 44 = .ok (.if_icmp .eq 9, 3) := by decide +kernel
theorem dX7_keeps_47 : decode cX7_keeps 47 = .ok (.iload_n 3, 1) := by decide +kernel
theorem dX7_keeps_48 : decode cX7_keeps 48 = .ok (.bipush 6, 2) := by decide +kernel
theorem dX7_keeps_50 : decode cX7_keeps 50 = .ok (.if_icmp .ne 15, 3) := by decide +kernel
theorem dX7_keeps_53 : decode cX7_keeps 53 = .ok (.iload_n 2, 1) := by decide +kernel
theorem dX7_keeps_54 : decode cX7_keeps 54 = .ok (.ifCond .eq 7, 3) := by decide +kernel
theorem dX7_keeps_57 : decode cX7_keeps 57 = .ok (.iconst 1, 1) := by decide +kernel
theorem dX7_keeps_58 : decode cX7_keeps 58 = .ok (.goto 8, 3) := by decide +kernel
theorem dX7_keeps_61 : decode cX7_keeps 61 = .ok (.iconst 0, 1) := by decide +kernel
theorem dX7_keeps_62 : decode cX7_keeps 62 = .ok (.goto 4, 3) := by decide +kernel
theorem dX7_keeps_65 : decode cX7_keeps 65 = .ok (.iconst 1, 1) := by decide +kernel
theorem dX7_keeps_66 : decode cX7_keeps 66 = .ok (.ireturn, 1) := by decide +kernel
theorem dX7_taste_0 : decode cX7_taste 0 = .ok (.iload_n 1, 1) := by decide +kernel
theorem dX7_taste_1 : decode cX7_taste 1 = .ok (.ifCond .ne 9, 3) := by decide +kernel
theorem dX7_taste_4 : decode cX7_taste 4 = .ok (.sipush 9999, 3) := by decide +kernel
theorem dX7_taste_7 : decode cX7_taste 7 = .ok (.goto 16, 3) := by decide +kernel
theorem dX7_taste_10 : decode cX7_taste 10 = .ok (.bipush 100, 2) := by decide +kernel
theorem dX7_taste_12 : decode cX7_taste 12 = .ok (.iload_n 0, 1) := by decide +kernel
theorem dX7_taste_13 : decode cX7_taste 13 = .ok (.imul, 1) := by decide +kernel
theorem dX7_taste_14 : decode cX7_taste 14 = .ok (.iload_n 1, 1) := by decide +kernel
theorem dX7_taste_15 : decode cX7_taste 15 = .ok (.idiv, 1) := by decide +kernel
theorem dX7_taste_16 : decode cX7_taste 16 = .ok (.iconst 0, 1) := by decide +kernel
theorem dX7_taste_17 : decode cX7_taste 17 = .ok (.sipush 9999, 3) := by decide +kernel
theorem dX7_taste_20 : decode cX7_taste 20 = .ok (.invokestatic 63, 3) := by decide +kernel
theorem dX7_taste_23 : decode cX7_taste 23 = .ok (.ireturn, 1) := by decide +kernel
theorem dX7_tasteOf_0 : decode cX7_tasteOf 0 = .ok (.aload_n 0, 1) := by decide +kernel
theorem dX7_tasteOf_1 : decode cX7_tasteOf 1 = .ok (.iload_n 1, 1) := by decide +kernel
theorem dX7_tasteOf_2 : decode cX7_tasteOf 2 = .ok (.iconst 4, 1) := by decide +kernel
theorem dX7_tasteOf_3 : decode cX7_tasteOf 3 = .ok (.invokevirtual 45, 3) := by decide +kernel
theorem dX7_tasteOf_6 : decode cX7_tasteOf 6 = .ok (.aload_n 0, 1) := by decide +kernel
theorem dX7_tasteOf_7 : decode cX7_tasteOf 7 = .ok (.iload_n 1, 1) := by decide +kernel
theorem dX7_tasteOf_8 : decode cX7_tasteOf 8 = .ok (.iconst 5, 1) := by decide +kernel
theorem dX7_tasteOf_9 : decode cX7_tasteOf 9 = .ok (.invokevirtual 45, 3) := by decide +kernel
theorem dX7_tasteOf_12 : decode cX7_tasteOf 12 = .ok (.iadd, 1) := by decide +kernel
theorem dX7_tasteOf_13 : decode cX7_tasteOf 13 = .ok (.aload_n 0, 1) := by decide +kernel
theorem dX7_tasteOf_14 : decode cX7_tasteOf 14 = .ok (.iload_n 1, 1) := by decide +kernel
theorem dX7_tasteOf_15 : decode cX7_tasteOf 15 = .ok (.bipush 6, 2) := by decide +kernel
theorem dX7_tasteOf_17 : decode cX7_tasteOf 17 = .ok (.invokevirtual 45, 3) := by decide +kernel
theorem dX7_tasteOf_20 : decode cX7_tasteOf 20 = .ok (.iadd, 1) := by decide +kernel
theorem dX7_tasteOf_21 : decode cX7_tasteOf 21 = .ok (.aload_n 0, 1) := by decide +kernel
theorem dX7_tasteOf_22 : decode cX7_tasteOf 22 = .ok (.iload_n 1, 1) := by decide +kernel
theorem dX7_tasteOf_23 : decode cX7_tasteOf 23 = .ok (.iconst 3, 1) := by decide +kernel
theorem dX7_tasteOf_24 : decode cX7_tasteOf 24 = .ok (.invokevirtual 45, 3) := by decide +kernel
theorem dX7_tasteOf_27 : decode cX7_tasteOf 27 = .ok (.invokestatic 67, 3) := by decide +kernel
theorem dX7_tasteOf_30 : decode cX7_tasteOf 30 = .ok (.ireturn, 1) := by decide +kernel
theorem dX7_nameOf_0 : decode cX7_nameOf 0 = .ok (.aload_n 0, 1) := by decide +kernel
theorem dX7_nameOf_1 : decode cX7_nameOf 1 = .ok (.iconst 0, 1) := by decide +kernel
theorem dX7_nameOf_2 : decode cX7_nameOf 2 = .ok (.aload_n 0, 1) := by decide +kernel
theorem dX7_nameOf_3 : decode cX7_nameOf 3 = .ok (.iload_n 1, 1) := by decide +kernel
theorem dX7_nameOf_4 : decode cX7_nameOf 4 = .ok (.invokevirtual 70, 3) := by decide +kernel
theorem dX7_nameOf_7 : decode cX7_nameOf 7 = .ok (.aload_n 0, 1) := by decide +kernel
theorem dX7_nameOf_8 : decode cX7_nameOf 8 = .ok (.iload_n 1, 1) := by decide +kernel
theorem dX7_nameOf_9 : decode cX7_nameOf 9 = .ok (.iconst 3, 1) := by decide +kernel
theorem dX7_nameOf_10 : decode cX7_nameOf 10 = .ok (.invokevirtual 45, 3) := by decide +kernel
theorem dX7_nameOf_13 : decode cX7_nameOf 13 = .ok (.aload_n 0, 1) := by decide +kernel
theorem dX7_nameOf_14 : decode cX7_nameOf 14 = .ok (.iload_n 1, 1) := by decide +kernel
theorem dX7_nameOf_15 : decode cX7_nameOf 15 = .ok (.iconst 4, 1) := by decide +kernel
theorem dX7_nameOf_16 : decode cX7_nameOf 16 = .ok (.invokevirtual 45, 3) := by decide +kernel
theorem dX7_nameOf_19 : decode cX7_nameOf 19 = .ok (.invokevirtual 73, 3) := by decide +kernel
theorem dX7_nameOf_22 : decode cX7_nameOf 22 = .ok (.ireturn, 1) := by decide +kernel
theorem dX7_isNobody_0 : decode cX7_isNobody 0 = .ok (.aload_n 0, 1) := by decide +kernel
theorem dX7_isNobody_1 : decode cX7_isNobody 1 = .ok (.iload_n 1, 1) := by decide +kernel
theorem dX7_isNobody_2 : decode cX7_isNobody 2 = .ok (.invokevirtual 77, 3) := by decide +kernel
theorem dX7_isNobody_5 : decode cX7_isNobody 5 = .ok (.ifCond .eq 11, 3) := by decide +kernel
theorem dX7_isNobody_8 : decode cX7_isNobody 8 = .ok (.aload_n 0, 1) := by decide +kernel
theorem dX7_isNobody_9 : decode cX7_isNobody 9 = .ok (.iload_n 1, 1) := by decide +kernel
theorem dX7_isNobody_10 : decode cX7_isNobody 10 = .ok (.invokevirtual 80, 3) := by decide +kernel
theorem dX7_isNobody_13 : decode cX7_isNobody 13 = .ok (.ifCond .ne 7, 3) := by decide +kernel
theorem dX7_isNobody_16 : decode cX7_isNobody 16 = .ok (.iconst 1, 1) := by decide +kernel
theorem dX7_isNobody_17 : decode cX7_isNobody 17 = .ok (.goto 4, 3) := by decide +kernel
theorem dX7_isNobody_20 : decode cX7_isNobody 20 = .ok (.iconst 0, 1) := by decide +kernel
theorem dX7_isNobody_21 : decode cX7_isNobody 21 = .ok (.ireturn, 1) := by decide +kernel
theorem dX7_windNow_0 : decode cX7_windNow 0 = .ok (.aload_n 0, 1) := by decide +kernel
theorem dX7_windNow_1 : decode cX7_windNow 1 = .ok (.getfield 7, 3) := by decide +kernel
theorem dX7_windNow_4 : decode cX7_windNow 4 = .ok (.bipush 8, 2) := by decide +kernel
theorem dX7_windNow_6 : decode cX7_windNow 6 = .ok (.aload_n 0, 1) := by decide +kernel
theorem dX7_windNow_7 : decode cX7_windNow 7 = .ok (.getfield 7, 3) := by decide +kernel
theorem dX7_windNow_10 : decode cX7_windNow 10 = .ok (.iconst 1, 1) := by decide +kernel
theorem dX7_windNow_11 : decode cX7_windNow 11 = .ok (.iaload, 1) := by decide +kernel
theorem dX7_windNow_12 : decode cX7_windNow 12 = .ok (.bipush 8, 2) := by decide +kernel
theorem dX7_windNow_14 : decode cX7_windNow 14 = .ok (.irem, 1) := by decide +kernel
theorem dX7_windNow_15 : decode cX7_windNow 15 = .ok (.iadd, 1) := by decide +kernel
theorem dX7_windNow_16 : decode cX7_windNow 16 = .ok (.iaload, 1) := by decide +kernel
theorem dX7_windNow_17 : decode cX7_windNow 17 = .ok (.ireturn, 1) := by decide +kernel
theorem dX7_heightOf_0 : decode cX7_heightOf 0 = .ok (.aload_n 0, 1) := by decide +kernel
theorem dX7_heightOf_1 : decode cX7_heightOf 1 = .ok (.getfield 7, 3) := by decide +kernel
theorem dX7_heightOf_4 : decode cX7_heightOf 4 = .ok (.bipush 16, 2) := by decide +kernel
theorem dX7_heightOf_6 : decode cX7_heightOf 6 = .ok (.aload_n 0, 1) := by decide +kernel
theorem dX7_heightOf_7 : decode cX7_heightOf 7 = .ok (.iload_n 1, 1) := by decide +kernel
theorem dX7_heightOf_8 : decode cX7_heightOf 8 = .ok (.iconst 2, 1) := by decide +kernel
theorem dX7_heightOf_9 : decode cX7_heightOf 9 = .ok (.invokevirtual 45, 3) := by decide +kernel
theorem dX7_heightOf_12 : decode cX7_heightOf 12 = .ok (.iadd, 1) := by decide +kernel
theorem dX7_heightOf_13 : decode cX7_heightOf 13 = .ok (.iaload, 1) := by decide +kernel
theorem dX7_heightOf_14 : decode cX7_heightOf 14 = .ok (.ireturn, 1) := by decide +kernel
theorem dX7_ofCloud_0 : decode cX7_ofCloud 0 = .ok (.aload_n 0, 1) := by decide +kernel
theorem dX7_ofCloud_1 : decode cX7_ofCloud 1 = .ok (.iload_n 1, 1) := by decide +kernel
theorem dX7_ofCloud_2 : decode cX7_ofCloud 2 = .ok (.invokevirtual 83, 3) := by decide +kernel
theorem dX7_ofCloud_5 : decode cX7_ofCloud 5 = .ok (.ifCond .eq 13, 3) := by decide +kernel
theorem dX7_ofCloud_8 : decode cX7_ofCloud 8 = .ok (.iload_n 2, 1) := by decide +kernel
theorem dX7_ofCloud_9 : decode cX7_ofCloud 9 = .ok (.iconst 0, 1) := by decide +kernel
theorem dX7_ofCloud_10 : decode cX7_ofCloud 10 = .ok (.bipush 11, 2) := by decide +kernel
theorem dX7_ofCloud_12 : decode cX7_ofCloud 12 = .ok (.invokestatic 41, 3) := by decide +kernel
theorem dX7_ofCloud_15 : decode cX7_ofCloud 15 = .ok (.ifCond .ne 10, 3) := by decide +kernel
theorem dX7_ofCloud_18 : decode cX7_ofCloud 18 = .ok (.aload_n 0, 1) := by decide +kernel
theorem dX7_ofCloud_19 : decode cX7_ofCloud 19 = .ok (.ldc 53, 2) := by decide +kernel
theorem dX7_ofCloud_21 : decode cX7_ofCloud 21 = .ok (.invokevirtual 54, 3) := by decide +kernel
theorem dX7_ofCloud_24 : decode cX7_ofCloud 24 = .ok (.ireturn, 1) := by decide +kernel
theorem dX7_ofCloud_25 : decode cX7_ofCloud 25 = .ok (.iload_n 2, 1) := by decide +kernel
theorem dX7_ofCloud_26 : decode cX7_ofCloud 26 = .ok (.tableswitch 75 8 11 #[30, 36, 42, 52], 30) := by decide +kernel
theorem dX7_ofCloud_56 : decode cX7_ofCloud 56 = .ok (.aload_n 0, 1) := by decide +kernel
theorem dX7_ofCloud_57 : decode cX7_ofCloud 57 = .ok (.iload_n 1, 1) := by decide +kernel
theorem dX7_ofCloud_58 : decode cX7_ofCloud 58 = .ok (.invokevirtual 70, 3) := by decide +kernel
theorem dX7_ofCloud_61 : decode cX7_ofCloud 61 = .ok (.ireturn, 1) := by decide +kernel
theorem dX7_ofCloud_62 : decode cX7_ofCloud 62 = .ok (.aload_n 0, 1) := by decide +kernel
theorem dX7_ofCloud_63 : decode cX7_ofCloud 63 = .ok (.iload_n 1, 1) := by decide +kernel
theorem dX7_ofCloud_64 : decode cX7_ofCloud 64 = .ok (.invokevirtual 80, 3) := by decide +kernel
theorem dX7_ofCloud_67 : decode cX7_ofCloud 67 = .ok (.ireturn, 1) := by decide +kernel
theorem dX7_ofCloud_68 : decode cX7_ofCloud 68 = .ok (.aload_n 0, 1) := by decide +kernel
theorem dX7_ofCloud_69 : decode cX7_ofCloud 69 = .ok (.iload_n 1, 1) := by decide +kernel
theorem dX7_ofCloud_70 : decode cX7_ofCloud 70 = .ok (.aload_n 0, 1) := by decide +kernel
theorem dX7_ofCloud_71 : decode cX7_ofCloud 71 = .ok (.invokevirtual 86, 3) := by decide +kernel
theorem dX7_ofCloud_74 : decode cX7_ofCloud 74 = .ok (.invokevirtual 90, 3) := by decide +kernel
theorem dX7_ofCloud_77 : decode cX7_ofCloud 77 = .ok (.ireturn, 1) := by decide +kernel
theorem dX7_ofCloud_78 : decode cX7_ofCloud 78 = .ok (.aload_n 0, 1) := by decide +kernel
theorem dX7_ofCloud_79 : decode cX7_ofCloud 79 = .ok (.iload_n 1, 1) := by decide +kernel
theorem dX7_ofCloud_80 : decode cX7_ofCloud 80 = .ok (.invokevirtual 93, 3) := by decide +kernel
theorem dX7_ofCloud_83 : decode cX7_ofCloud 83 = .ok (.ifCond .ne 7, 3) := by decide +kernel
theorem dX7_ofCloud_86 : decode cX7_ofCloud 86 = .ok (.iconst 0, 1) := by decide +kernel
theorem dX7_ofCloud_87 : decode cX7_ofCloud 87 = .ok (.goto 13, 3) := by decide +kernel
theorem dX7_ofCloud_90 : decode cX7_ofCloud 90 = .ok (.aload_n 0, 1) := by decide +kernel
theorem dX7_ofCloud_91 : decode cX7_ofCloud 91 = .ok (.iload_n 1, 1) := by decide +kernel
theorem dX7_ofCloud_92 : decode cX7_ofCloud 92 = .ok (.aload_n 0, 1) := by decide +kernel
theorem dX7_ofCloud_93 : decode cX7_ofCloud 93 = .ok (.iload_n 1, 1) := by decide +kernel
theorem dX7_ofCloud_94 : decode cX7_ofCloud 94 = .ok (.invokevirtual 93, 3) := by decide +kernel
theorem dX7_ofCloud_97 : decode cX7_ofCloud 97 = .ok (.invokevirtual 96, 3) := by decide +kernel
theorem dX7_ofCloud_100 : decode cX7_ofCloud 100 = .ok (.ireturn, 1) := by decide +kernel
theorem dX7_ofCloud_101 : decode cX7_ofCloud 101 = .ok (.aload_n 0, 1) := by decide +kernel
theorem dX7_ofCloud_102 : decode cX7_ofCloud 102 = .ok (.iload_n 1, 1) := by decide +kernel
theorem dX7_ofCloud_103 : decode cX7_ofCloud 103 = .ok (.iload_n 2, 1) := by decide +kernel
theorem dX7_ofCloud_104 : decode cX7_ofCloud 104 = .ok (.invokevirtual 45, 3) := by decide +kernel
theorem dX7_ofCloud_107 : decode cX7_ofCloud 107 = .ok (.ireturn, 1) := by decide +kernel
theorem dX7_become_0 : decode cX7_become 0 = .ok (.aload_n 0, 1) := by decide +kernel
theorem dX7_become_1 : decode cX7_become 1 = .ok (.iload_n 1, 1) := by decide +kernel
theorem dX7_become_2 : decode cX7_become 2 = .ok (.invokevirtual 83, 3) := by decide +kernel
theorem dX7_become_5 : decode cX7_become 5 = .ok (.ifCond .eq 13, 3) := by decide +kernel
theorem dX7_become_8 : decode cX7_become 8 = .ok (.iload_n 2, 1) := by decide +kernel
theorem dX7_become_9 : decode cX7_become 9 = .ok (.iconst 0, 1) := by decide +kernel
theorem dX7_become_10 : decode cX7_become 10 = .ok (.bipush 69, 2) := by decide +kernel
theorem dX7_become_12 : decode cX7_become 12 = .ok (.invokestatic 41, 3) := by decide +kernel
theorem dX7_become_15 : decode cX7_become 15 = .ok (.ifCond .ne 10, 3) := by decide +kernel
theorem dX7_become_18 : decode cX7_become 18 = .ok (.aload_n 0, 1) := by decide +kernel
theorem dX7_become_19 : decode cX7_become 19 = .ok (.ldc 53, 2) := by decide +kernel
theorem dX7_become_21 : decode cX7_become 21 = .ok (.invokevirtual 54, 3) := by decide +kernel
theorem dX7_become_24 : decode cX7_become 24 = .ok (.ireturn, 1) := by decide +kernel
theorem dX7_become_25 : decode cX7_become 25 = .ok (.aload_n 0, 1) := by decide +kernel
theorem dX7_become_26 : decode cX7_become 26 = .ok (.iload_n 1, 1) := by decide +kernel
theorem dX7_become_27 : decode cX7_become 27 = .ok (.iconst 0, 1) := by decide +kernel
theorem dX7_become_28 : decode cX7_become 28 = .ok (.invokevirtual 45, 3) := by decide +kernel
theorem dX7_become_31 : decode cX7_become 31 = .ok (.istore_n 3, 1) := by decide +kernel
theorem dX7_become_32 : decode cX7_become 32 = .ok (.aload_n 0, 1) := by decide +kernel
theorem dX7_become_33 : decode cX7_become 33 = .ok (.iload_n 1, 1) := by decide +kernel
theorem dX7_become_34 : decode cX7_become 34 = .ok (.iconst 0, 1) := by decide +kernel
theorem dX7_become_35 : decode cX7_become 35 = .ok (.iload_n 2, 1) := by decide +kernel
theorem dX7_become_36 : decode cX7_become 36 = .ok (.bipush 10, 2) := by decide +kernel
theorem dX7_become_38 : decode cX7_become 38 = .ok (.idiv, 1) := by decide +kernel
theorem dX7_become_39 : decode cX7_become 39 = .ok (.invokevirtual 59, 3) := by decide +kernel
theorem dX7_become_42 : decode cX7_become 42 = .ok (.aload_n 0, 1) := by decide +kernel
theorem dX7_become_43 : decode cX7_become 43 = .ok (.iload_n 1, 1) := by decide +kernel
theorem dX7_become_44 : decode cX7_become 44 = .ok (.iconst 1, 1) := by decide +kernel
theorem dX7_become_45 : decode cX7_become 45 = .ok (.iload_n 2, 1) := by decide +kernel
theorem dX7_become_46 : decode cX7_become 46 = .ok (.bipush 10, 2) := by decide +kernel
theorem dX7_become_48 : decode cX7_become 48 = .ok (.irem, 1) := by decide +kernel
theorem dX7_become_49 : decode cX7_become 49 = .ok (.invokevirtual 59, 3) := by decide +kernel
theorem dX7_become_52 : decode cX7_become 52 = .ok (.iload_n 3, 1) := by decide +kernel
theorem dX7_become_53 : decode cX7_become 53 = .ok (.ireturn, 1) := by decide +kernel
theorem dX7_above_0 : decode cX7_above 0 = .ok (.iload_n 0, 1) := by decide +kernel
theorem dX7_above_1 : decode cX7_above 1 = .ok (.ifCond .ne 7, 3) := by decide +kernel
theorem dX7_above_4 : decode cX7_above 4 = .ok (.iconst (-1), 1) := by decide +kernel
theorem dX7_above_5 : decode cX7_above 5 = .ok (.goto 32, 3) := by decide +kernel
theorem dX7_above_8 : decode cX7_above 8 = .ok (.iload_n 0, 1) := by decide +kernel
theorem dX7_above_9 : decode cX7_above 9 = .ok (.iconst 4, 1) := by decide +kernel
theorem dX7_above_10 : decode cX7_above 10 = .ok (.if_icmp .ne 7, 3) := by decide +kernel
theorem dX7_above_13 : decode cX7_above 13 = .ok (.iconst 1, 1) := by decide +kernel
theorem dX7_above_14 : decode cX7_above 14 = .ok (.goto 23, 3) := by decide +kernel
theorem dX7_above_17 : decode cX7_above 17 = .ok (.iload_n 0, 1) := by decide +kernel
theorem dX7_above_18 : decode cX7_above 18 = .ok (.iconst 5, 1) := by decide +kernel
theorem dX7_above_19 : decode cX7_above 19 = .ok (.if_icmp .ne 7, 3) := by decide +kernel
theorem dX7_above_22 : decode cX7_above 22 = .ok (.iconst 2, 1) := by decide +kernel
theorem dX7_above_23 : decode cX7_above 23 = .ok (.goto 14, 3) := by decide +kernel
theorem dX7_above_26 : decode cX7_above 26 = .ok (.iload_n 0, 1) := by decide +kernel
theorem dX7_above_27 : decode cX7_above 27 = .ok (.bipush 6, 2) := by decide +kernel
theorem dX7_above_29 : decode cX7_above 29 = .ok (.if_icmp .ne 7, 3) := by decide +kernel
theorem dX7_above_32 : decode cX7_above 32 = .ok (.iconst 3, 1) := by decide +kernel
theorem dX7_above_33 : decode cX7_above 33 = .ok (.goto 4, 3) := by decide +kernel
theorem dX7_above_36 : decode cX7_above 36 = .ok (.iconst 0, 1) := by decide +kernel
theorem dX7_above_37 : decode cX7_above 37 = .ok (.ireturn, 1) := by decide +kernel
theorem dX7_as_0 : decode cX7_as 0 = .ok (.aload_n 0, 1) := by decide +kernel
theorem dX7_as_1 : decode cX7_as 1 = .ok (.iload_n 1, 1) := by decide +kernel
theorem dX7_as_2 : decode cX7_as 2 = .ok (.invokevirtual 83, 3) := by decide +kernel
theorem dX7_as_5 : decode cX7_as 5 = .ok (.ifCond .eq 13, 3) := by decide +kernel
theorem dX7_as_8 : decode cX7_as 8 = .ok (.iload_n 2, 1) := by decide +kernel
theorem dX7_as_9 : decode cX7_as 9 = .ok (.iconst 0, 1) := by decide +kernel
theorem dX7_as_10 : decode cX7_as 10 = .ok (.bipush 6, 2) := by decide +kernel
theorem dX7_as_12 : decode cX7_as 12 = .ok (.invokestatic 41, 3) := by decide +kernel
theorem dX7_as_15 : decode cX7_as 15 = .ok (.ifCond .ne 10, 3) := by decide +kernel
theorem dX7_as_18 : decode cX7_as 18 = .ok (.aload_n 0, 1) := by decide +kernel
theorem dX7_as_19 : decode cX7_as 19 = .ok (.ldc 53, 2) := by decide +kernel
theorem dX7_as_21 : decode cX7_as 21 = .ok (.invokevirtual 54, 3) := by decide +kernel
theorem dX7_as_24 : decode cX7_as 24 = .ok (.ireturn, 1) := by decide +kernel
theorem dX7_as_25 : decode cX7_as 25 = .ok (.aload_n 0, 1) := by decide +kernel
theorem dX7_as_26 : decode cX7_as 26 = .ok (.iload_n 1, 1) := by decide +kernel
theorem dX7_as_27 : decode cX7_as 27 = .ok (.iconst 0, 1) := by decide +kernel
theorem dX7_as_28 : decode cX7_as 28 = .ok (.invokevirtual 45, 3) := by decide +kernel
theorem dX7_as_31 : decode cX7_as 31 = .ok (.istore_n 3, 1) := by decide +kernel
theorem dX7_as_32 : decode cX7_as 32 = .ok (.iload_n 3, 1) := by decide +kernel
theorem dX7_as_33 : decode cX7_as 33 = .ok (.ifCond .lt 16, 3) := by decide +kernel
theorem dX7_as_36 : decode cX7_as 36 = .ok (.iload_n 3, 1) := by decide +kernel
theorem dX7_as_37 : decode cX7_as 37 = .ok (.iload_n 2, 1) := by decide +kernel
theorem dX7_as_38 : decode cX7_as 38 = .ok (.if_icmp .eq 11, 3) := by decide +kernel
theorem dX7_as_41 : decode cX7_as 41 = .ok (.iload_n 3, 1) := by decide +kernel
theorem dX7_as_42 : decode cX7_as 42 = .ok (.invokestatic 99, 3) := by decide +kernel
theorem dX7_as_45 : decode cX7_as 45 = .ok (.istore_n 3, 1) := by decide +kernel
theorem dX7_as_46 : decode cX7_as 46 = .ok (.goto (-14), 3) := by decide +kernel
theorem dX7_as_49 : decode cX7_as 49 = .ok (.iload_n 3, 1) := by decide +kernel
theorem dX7_as_50 : decode cX7_as 50 = .ok (.ifCond .ge 12, 3) := by decide +kernel
theorem dX7_as_53 : decode cX7_as 53 = .ok (.aload_n 0, 1) := by decide +kernel
theorem dX7_as_54 : decode cX7_as 54 = .ok (.ldc 102, 2) := by decide +kernel
theorem dX7_as_56 : decode cX7_as 56 = .ok (.invokevirtual 54, 3) := by decide +kernel
theorem dX7_as_59 : decode cX7_as 59 = .ok (.goto 9, 3) := by decide +kernel
theorem dX7_as_62 : decode cX7_as 62 = .ok (.aload_n 0, 1) := by decide +kernel
theorem dX7_as_63 : decode cX7_as 63 = .ok (.iload_n 1, 1) := by decide +kernel
theorem dX7_as_64 : decode cX7_as 64 = .ok (.iconst 1, 1) := by decide +kernel
theorem dX7_as_65 : decode cX7_as 65 = .ok (.invokevirtual 45, 3) := by decide +kernel
theorem dX7_as_68 : decode cX7_as 68 = .ok (.ireturn, 1) := by decide +kernel
theorem dX7_set_0 : decode cX7_set 0 = .ok (.iload_n 2, 1) := by decide +kernel
theorem dX7_set_1 : decode cX7_set 1 = .ok (.ifCond .ne 10, 3) := by decide +kernel
theorem dX7_set_4 : decode cX7_set 4 = .ok (.iload_n 3, 1) := by decide +kernel
theorem dX7_set_5 : decode cX7_set 5 = .ok (.invokestatic 49, 3) := by decide +kernel
theorem dX7_set_8 : decode cX7_set 8 = .ok (.goto 43, 3) := by decide +kernel
theorem dX7_set_11 : decode cX7_set 11 = .ok (.iload_n 2, 1) := by decide +kernel
theorem dX7_set_12 : decode cX7_set 12 = .ok (.iconst 1, 1) := by decide +kernel
theorem dX7_set_13 : decode cX7_set 13 = .ok (.if_icmp .ne 14, 3) := by decide +kernel
theorem dX7_set_16 : decode cX7_set 16 = .ok (.iload_n 3, 1) := by decide +kernel
theorem dX7_set_17 : decode cX7_set 17 = .ok (.iconst 0, 1) := by decide +kernel
theorem dX7_set_18 : decode cX7_set 18 = .ok (.sipush 999, 3) := by decide +kernel
theorem dX7_set_21 : decode cX7_set 21 = .ok (.invokestatic 41, 3) := by decide +kernel
theorem dX7_set_24 : decode cX7_set 24 = .ok (.goto 27, 3) := by decide +kernel
theorem dX7_set_27 : decode cX7_set 27 = .ok (.iload_n 2, 1) := by decide +kernel
theorem dX7_set_28 : decode cX7_set 28 = .ok (.iconst 2, 1) := by decide +kernel
theorem dX7_set_29 : decode cX7_set 29 = .ok (.iconst 4, 1) := by decide +kernel
theorem dX7_set_30 : decode cX7_set 30 = .ok (.invokestatic 41, 3) := by decide +kernel
theorem dX7_set_33 : decode cX7_set 33 = .ok (.ifCond .eq 17, 3) := by decide +kernel
theorem dX7_set_36 : decode cX7_set 36 = .ok (.iload_n 3, 1) := by decide +kernel
theorem dX7_set_37 : decode cX7_set 37 = .ok (.iconst 0, 1) := by decide +kernel
theorem dX7_set_38 : decode cX7_set 38 = .ok (.bipush 99, 2) := by decide +kernel
theorem dX7_set_40 : decode cX7_set 40 = .ok (.invokestatic 41, 3) := by decide +kernel
theorem dX7_set_43 : decode cX7_set 43 = .ok (.ifCond .eq 7, 3) := by decide +kernel
theorem dX7_set_46 : decode cX7_set 46 = .ok (.iconst 1, 1) := by decide +kernel
theorem dX7_set_47 : decode cX7_set 47 = .ok (.goto 4, 3) := by decide +kernel
theorem dX7_set_50 : decode cX7_set 50 = .ok (.iconst 0, 1) := by decide +kernel
theorem dX7_set_51 : decode cX7_set 51 = .ok (.istore 4, 2) := by decide +kernel
theorem dX7_set_53 : decode cX7_set 53 = .ok (.aload_n 0, 1) := by decide +kernel
theorem dX7_set_54 : decode cX7_set 54 = .ok (.iload_n 1, 1) := by decide +kernel
theorem dX7_set_55 : decode cX7_set 55 = .ok (.invokevirtual 83, 3) := by decide +kernel
theorem dX7_set_58 : decode cX7_set 58 = .ok (.ifCond .eq 8, 3) := by decide +kernel
theorem dX7_set_61 : decode cX7_set 61 = .ok (.iload 4, 2) := by decide +kernel
theorem dX7_set_63 : decode cX7_set 63 = .ok (.ifCond .ne 10, 3) := by decide +kernel
theorem dX7_set_66 : decode cX7_set 66 = .ok (.aload_n 0, 1) := by decide +kernel
theorem dX7_set_67 : decode cX7_set 67 = .ok (.ldc 53, 2) := by decide +kernel
theorem dX7_set_69 : decode cX7_set 69 = .ok (.invokevirtual 54, 3) := by decide +kernel
theorem dX7_set_72 : decode cX7_set 72 = .ok (.ireturn, 1) := by decide +kernel
theorem dX7_set_73 : decode cX7_set 73 = .ok (.aload_n 0, 1) := by decide +kernel
theorem dX7_set_74 : decode cX7_set 74 = .ok (.iload_n 1, 1) := by decide +kernel
theorem dX7_set_75 : decode cX7_set 75 = .ok (.invokevirtual 77, 3) := by decide +kernel
theorem dX7_set_78 : decode cX7_set 78 = .ok (.ifCond .ne 10, 3) := by decide +kernel
theorem dX7_set_81 : decode cX7_set 81 = .ok (.aload_n 0, 1) := by decide +kernel
theorem dX7_set_82 : decode cX7_set 82 = .ok (.ldc 103, 2) := by decide +kernel
theorem dX7_set_84 : decode cX7_set 84 = .ok (.invokevirtual 54, 3) := by decide +kernel
theorem dX7_set_87 : decode cX7_set 87 = .ok (.ireturn, 1) := by decide +kernel
theorem dX7_set_88 : decode cX7_set 88 = .ok (.aload_n 0, 1) := by decide +kernel
theorem dX7_set_89 : decode cX7_set 89 = .ok (.iload_n 1, 1) := by decide +kernel
theorem dX7_set_90 : decode cX7_set 90 = .ok (.iconst 2, 1) := by decide +kernel
theorem dX7_set_91 : decode cX7_set 91 = .ok (.iload_n 2, 1) := by decide +kernel
theorem dX7_set_92 : decode cX7_set 92 = .ok (.iadd, 1) := by decide +kernel
theorem dX7_set_93 : decode cX7_set 93 = .ok (.invokevirtual 45, 3) := by decide +kernel
theorem dX7_set_96 : decode cX7_set 96 = .ok (.istore 5, 2) := by decide +kernel
theorem dX7_set_98 : decode cX7_set 98 = .ok (.aload_n 0, 1) := by decide +kernel
theorem dX7_set_99 : decode cX7_set 99 = .ok (.iload_n 1, 1) := by decide +kernel
theorem dX7_set_100 : decode cX7_set 100 = .ok (.iconst 2, 1) := by decide +kernel
theorem dX7_set_101 : decode cX7_set 101 = .ok (.iload_n 2, 1) := by decide +kernel
theorem dX7_set_102 : decode cX7_set 102 = .ok (.iadd, 1) := by decide +kernel
theorem dX7_set_103 : decode cX7_set 103 = .ok (.iload_n 3, 1) := by decide +kernel
theorem dX7_set_104 : decode cX7_set 104 = .ok (.invokevirtual 59, 3) := by decide +kernel
theorem dX7_set_107 : decode cX7_set 107 = .ok (.iload 5, 2) := by decide +kernel
theorem dX7_set_109 : decode cX7_set 109 = .ok (.ireturn, 1) := by decide +kernel
theorem dX7_hill_0 : decode cX7_hill 0 = .ok (.iload_n 1, 1) := by decide +kernel
theorem dX7_hill_1 : decode cX7_hill 1 = .ok (.invokestatic 49, 3) := by decide +kernel
theorem dX7_hill_4 : decode cX7_hill 4 = .ok (.ifCond .eq 13, 3) := by decide +kernel
theorem dX7_hill_7 : decode cX7_hill 7 = .ok (.iload_n 2, 1) := by decide +kernel
theorem dX7_hill_8 : decode cX7_hill 8 = .ok (.iconst 0, 1) := by decide +kernel
theorem dX7_hill_9 : decode cX7_hill 9 = .ok (.bipush 9, 2) := by decide +kernel
theorem dX7_hill_11 : decode cX7_hill 11 = .ok (.invokestatic 41, 3) := by decide +kernel
theorem dX7_hill_14 : decode cX7_hill 14 = .ok (.ifCond .ne 10, 3) := by decide +kernel
theorem dX7_hill_17 : decode cX7_hill 17 = .ok (.aload_n 0, 1) := by decide +kernel
theorem dX7_hill_18 : decode cX7_hill 18 = .ok (.ldc 53, 2) := by decide +kernel
theorem dX7_hill_20 : decode cX7_hill 20 = .ok (.invokevirtual 54, 3) := by decide +kernel
theorem dX7_hill_23 : decode cX7_hill 23 = .ok (.ireturn, 1) := by decide +kernel
theorem dX7_hill_24 : decode cX7_hill 24 = .ok (.aload_n 0, 1) := by decide +kernel
theorem dX7_hill_25 : decode cX7_hill 25 = .ok (.getfield 7, 3) := by decide +kernel
theorem dX7_hill_28 : decode cX7_hill 28 = .ok (.bipush 16, 2) := by decide +kernel
theorem dX7_hill_30 : decode cX7_hill 30 = .ok (.iload_n 1, 1) := by decide +kernel
theorem dX7_hill_31 : decode cX7_hill 31 = .ok (.iadd, 1) := by decide +kernel
theorem dX7_hill_32 : decode cX7_hill 32 = .ok (.iaload, 1) := by decide +kernel
theorem dX7_hill_33 : decode cX7_hill 33 = .ok (.istore_n 3, 1) := by decide +kernel
theorem dX7_hill_34 : decode cX7_hill 34 = .ok (.aload_n 0, 1) := by decide +kernel
theorem dX7_hill_35 : decode cX7_hill 35 = .ok (.getfield 7, 3) := by decide +kernel
theorem dX7_hill_38 : decode cX7_hill 38 = .ok (.bipush 16, 2) := by decide +kernel
theorem dX7_hill_40 : decode cX7_hill 40 = .ok (.iload_n 1, 1) := by decide +kernel
theorem dX7_hill_41 : decode cX7_hill 41 = .ok (.iadd, 1) := by decide +kernel
theorem dX7_hill_42 : decode cX7_hill 42 = .ok (.iload_n 2, 1) := by decide +kernel
theorem dX7_hill_43 : decode cX7_hill 43 = .ok (.iastore, 1) := by decide +kernel
theorem dX7_hill_44 : decode cX7_hill 44 = .ok (.iload_n 3, 1) := by decide +kernel
theorem dX7_hill_45 : decode cX7_hill 45 = .ok (.ireturn, 1) := by decide +kernel
theorem dX7_wind_0 : decode cX7_wind 0 = .ok (.iload_n 1, 1) := by decide +kernel
theorem dX7_wind_1 : decode cX7_wind 1 = .ok (.iconst 0, 1) := by decide +kernel
theorem dX7_wind_2 : decode cX7_wind 2 = .ok (.bipush 7, 2) := by decide +kernel
theorem dX7_wind_4 : decode cX7_wind 4 = .ok (.invokestatic 41, 3) := by decide +kernel
theorem dX7_wind_7 : decode cX7_wind 7 = .ok (.ifCond .eq 13, 3) := by decide +kernel
theorem dX7_wind_10 : decode cX7_wind 10 = .ok (.iload_n 2, 1) := by decide +kernel
theorem dX7_wind_11 : decode cX7_wind 11 = .ok (.bipush (-3), 2) := by decide +kernel
theorem dX7_wind_13 : decode cX7_wind 13 = .ok (.iconst 3, 1) := by decide +kernel
theorem dX7_wind_14 : decode cX7_wind 14 = .ok (.invokestatic 41, 3) := by decide +kernel
theorem dX7_wind_17 : decode cX7_wind 17 = .ok (.ifCond .ne 10, 3) := by decide +kernel
theorem dX7_wind_20 : decode cX7_wind 20 = .ok (.aload_n 0, 1) := by decide +kernel
theorem dX7_wind_21 : decode cX7_wind 21 = .ok (.ldc 53, 2) := by decide +kernel
theorem dX7_wind_23 : decode cX7_wind 23 = .ok (.invokevirtual 54, 3) := by decide +kernel
theorem dX7_wind_26 : decode cX7_wind 26 = .ok (.ireturn, 1) := by decide +kernel
theorem dX7_wind_27 : decode cX7_wind 27 = .ok (.aload_n 0, 1) := by decide +kernel
theorem dX7_wind_28 : decode cX7_wind 28 = .ok (.getfield 7, 3) := by decide +kernel
theorem dX7_wind_31 : decode cX7_wind 31 = .ok (.bipush 8, 2) := by decide +kernel
theorem dX7_wind_33 : decode cX7_wind 33 = .ok (.iload_n 1, 1) := by decide +kernel
theorem dX7_wind_34 : decode cX7_wind 34 = .ok (.iadd, 1) := by decide +kernel
theorem dX7_wind_35 : decode cX7_wind 35 = .ok (.iaload, 1) := by decide +kernel
theorem dX7_wind_36 : decode cX7_wind 36 = .ok (.istore_n 3, 1) := by decide +kernel
theorem dX7_wind_37 : decode cX7_wind 37 = .ok (.aload_n 0, 1) := by decide +kernel
theorem dX7_wind_38 : decode cX7_wind 38 = .ok (.getfield 7, 3) := by decide +kernel
theorem dX7_wind_41 : decode cX7_wind 41 = .ok (.bipush 8, 2) := by decide +kernel
theorem dX7_wind_43 : decode cX7_wind 43 = .ok (.iload_n 1, 1) := by decide +kernel
theorem dX7_wind_44 : decode cX7_wind 44 = .ok (.iadd, 1) := by decide +kernel
theorem dX7_wind_45 : decode cX7_wind 45 = .ok (.iload_n 2, 1) := by decide +kernel
theorem dX7_wind_46 : decode cX7_wind 46 = .ok (.iastore, 1) := by decide +kernel
theorem dX7_wind_47 : decode cX7_wind 47 = .ok (.iload_n 3, 1) := by decide +kernel
theorem dX7_wind_48 : decode cX7_wind 48 = .ok (.ireturn, 1) := by decide +kernel
theorem dX7_join_0 : decode cX7_join 0 = .ok (.aload_n 0, 1) := by decide +kernel
theorem dX7_join_1 : decode cX7_join 1 = .ok (.iload_n 1, 1) := by decide +kernel
theorem dX7_join_2 : decode cX7_join 2 = .ok (.invokevirtual 83, 3) := by decide +kernel
theorem dX7_join_5 : decode cX7_join 5 = .ok (.ifCond .eq 16, 3) := by decide +kernel
theorem dX7_join_8 : decode cX7_join 8 = .ok (.aload_n 0, 1) := by decide +kernel
theorem dX7_join_9 : decode cX7_join 9 = .ok (.iload_n 2, 1) := by decide +kernel
theorem dX7_join_10 : decode cX7_join 10 = .ok (.invokevirtual 83, 3) := by decide +kernel
theorem dX7_join_13 : decode cX7_join 13 = .ok (.ifCond .eq 8, 3) := by decide +kernel
theorem dX7_join_16 : decode cX7_join 16 = .ok (.iload_n 1, 1) := by decide +kernel
theorem dX7_join_17 : decode cX7_join 17 = .ok (.iload_n 2, 1) := by decide +kernel
theorem dX7_join_18 : decode cX7_join 18 = .ok (.if_icmp .ne 10, 3) := by decide +kernel
theorem dX7_join_21 : decode cX7_join 21 = .ok (.aload_n 0, 1) := by decide +kernel
theorem dX7_join_22 : decode cX7_join 22 = .ok (.ldc 53, 2) := by decide +kernel
theorem dX7_join_24 : decode cX7_join 24 = .ok (.invokevirtual 54, 3) := by decide +kernel
theorem dX7_join_27 : decode cX7_join 27 = .ok (.ireturn, 1) := by decide +kernel
theorem dX7_join_28 : decode cX7_join 28 = .ok (.aload_n 0, 1) := by decide +kernel
theorem dX7_join_29 : decode cX7_join 29 = .ok (.iload_n 1, 1) := by decide +kernel
theorem dX7_join_30 : decode cX7_join 30 = .ok (.invokevirtual 77, 3) := by decide +kernel
theorem dX7_join_33 : decode cX7_join 33 = .ok (.ifCond .eq 26, 3) := by decide +kernel
theorem dX7_join_36 : decode cX7_join 36 = .ok (.aload_n 0, 1) := by decide +kernel
theorem dX7_join_37 : decode cX7_join 37 = .ok (.iload_n 2, 1) := by decide +kernel
theorem dX7_join_38 : decode cX7_join 38 = .ok (.invokevirtual 77, 3) := by decide +kernel
theorem dX7_join_41 : decode cX7_join 41 = .ok (.ifCond .eq 18, 3) := by decide +kernel
theorem dX7_join_44 : decode cX7_join 44 = .ok (.aload_n 0, 1) := by decide +kernel
theorem dX7_join_45 : decode cX7_join 45 = .ok (.iload_n 1, 1) := by decide +kernel
theorem dX7_join_46 : decode cX7_join 46 = .ok (.iconst 2, 1) := by decide +kernel
theorem dX7_join_47 : decode cX7_join 47 = .ok (.invokevirtual 45, 3) := by decide +kernel
theorem dX7_join_50 : decode cX7_join 50 = .ok (.aload_n 0, 1) := by decide +kernel
theorem dX7_join_51 : decode cX7_join 51 = .ok (.iload_n 2, 1) := by decide +kernel
theorem dX7_join_52 : decode cX7_join 52 = .ok (.iconst 2, 1) := by decide +kernel
theorem dX7_join_53 : decode cX7_join 53 = .ok (.invokevirtual 45, 3) := by decide +kernel
theorem dX7_join_56 : decode cX7_join 56 = .ok (.if_icmp .eq 10, 3) := by decide +kernel
theorem dX7_join_59 : decode cX7_join 59 = .ok (.aload_n 0, 1) := by decide +kernel
theorem dX7_join_60 : decode cX7_join 60 = .ok (.ldc 103, 2) := by decide +kernel
theorem dX7_join_62 : decode cX7_join 62 = .ok (.invokevirtual 54, 3) := by decide +kernel
theorem dX7_join_65 : decode cX7_join 65 = .ok (.ireturn, 1) := by decide +kernel
theorem dX7_join_66 : decode cX7_join 66 = .ok (.iconst 3, 1) := by decide +kernel
theorem dX7_join_67 : decode cX7_join 67 = .ok (.istore_n 3, 1) := by decide +kernel
theorem dX7_join_68 : decode cX7_join 68 = .ok (.iload_n 3, 1) := by decide +kernel
theorem dX7_join_69 : decode cX7_join 69 = .ok (.bipush 7, 2) := by decide +kernel
theorem dX7_join_71 : decode cX7_join 71 = .ok (.if_icmp .ge 52, 3) := by decide +kernel
theorem dX7_join_74 : decode cX7_join 74 = .ok (.aload_n 0, 1) := by decide +kernel
theorem dX7_join_75 : decode cX7_join 75 = .ok (.iload_n 1, 1) := by decide +kernel
theorem dX7_join_76 : decode cX7_join 76 = .ok (.iload_n 3, 1) := by decide +kernel
theorem dX7_join_77 : decode cX7_join 77 = .ok (.aload_n 0, 1) := by decide +kernel
theorem dX7_join_78 : decode cX7_join 78 = .ok (.iload_n 1, 1) := by decide +kernel
theorem dX7_join_79 : decode cX7_join 79 = .ok (.iload_n 3, 1) := by decide +kernel
theorem dX7_join_80 : decode cX7_join 80 = .ok (.invokevirtual 45, 3) := by decide +kernel
theorem dX7_join_83 : decode cX7_join 83 = .ok (.aload_n 0, 1) := by decide +kernel
theorem dX7_join_84 : decode cX7_join 84 = .ok (.iload_n 2, 1) := by decide +kernel
theorem dX7_join_85 : decode cX7_join 85 = .ok (.iload_n 3, 1) := by decide +kernel
theorem dX7_join_86 : decode cX7_join 86 = .ok (.invokevirtual 45, 3) := by decide +kernel
theorem dX7_join_89 : decode cX7_join 89 = .ok (.iadd, 1) := by decide +kernel
theorem dX7_join_90 : decode cX7_join 90 = .ok (.iconst 0, 1) := by decide +kernel
theorem dX7_join_91 : decode cX7_join 91 = .ok (.iload_n 3, 1) := by decide +kernel
theorem dX7_join_92 : decode cX7_join 92 = .ok (.iconst 3, 1) := by decide +kernel
theorem dX7_join_93 : decode cX7_join 93 = .ok (.if_icmp .ne 9, 3) := by decide +kernel
theorem dX7_join_96 : decode cX7_join 96 = .ok (.sipush 999, 3) := by decide +kernel
theorem dX7_join_99 : decode cX7_join 99 = .ok (.goto 5, 3) := by decide +kernel
theorem dX7_join_102 : decode cX7_join 102 = .ok (.bipush 99, 2) := by decide +kernel
theorem dX7_join_104 : decode cX7_join 104 = .ok (.invokestatic 63, 3) := by decide +kernel
theorem dX7_join_107 : decode cX7_join 107 = .ok (.invokevirtual 59, 3) := by decide +kernel
theorem dX7_join_110 : decode cX7_join 110 = .ok (.aload_n 0, 1) := by decide +kernel
theorem dX7_join_111 : decode cX7_join 111 = .ok (.iload_n 2, 1) := by decide +kernel
theorem dX7_join_112 : decode cX7_join 112 = .ok (.iload_n 3, 1) := by decide +kernel
theorem dX7_join_113 : decode cX7_join 113 = .ok (.iconst 0, 1) := by decide +kernel
theorem dX7_join_114 : decode cX7_join 114 = .ok (.invokevirtual 59, 3) := by decide +kernel
theorem dX7_join_117 : decode cX7_join 117 = .ok (.iinc 3 1, 3) := by decide +kernel
theorem dX7_join_120 : decode cX7_join 120 = .ok (.goto (-52), 3) := by decide +kernel
theorem dX7_join_123 : decode cX7_join 123 = .ok (.aload_n 0, 1) := by decide +kernel
theorem dX7_join_124 : decode cX7_join 124 = .ok (.iload_n 2, 1) := by decide +kernel
theorem dX7_join_125 : decode cX7_join 125 = .ok (.bipush 7, 2) := by decide +kernel
theorem dX7_join_127 : decode cX7_join 127 = .ok (.iconst 0, 1) := by decide +kernel
theorem dX7_join_128 : decode cX7_join 128 = .ok (.invokevirtual 59, 3) := by decide +kernel
theorem dX7_join_131 : decode cX7_join 131 = .ok (.aload_n 0, 1) := by decide +kernel
theorem dX7_join_132 : decode cX7_join 132 = .ok (.iload_n 1, 1) := by decide +kernel
theorem dX7_join_133 : decode cX7_join 133 = .ok (.iconst 3, 1) := by decide +kernel
theorem dX7_join_134 : decode cX7_join 134 = .ok (.invokevirtual 45, 3) := by decide +kernel
theorem dX7_join_137 : decode cX7_join 137 = .ok (.ireturn, 1) := by decide +kernel
theorem dX7_part_0 : decode cX7_part 0 = .ok (.aload_n 0, 1) := by decide +kernel
theorem dX7_part_1 : decode cX7_part 1 = .ok (.iload_n 1, 1) := by decide +kernel
theorem dX7_part_2 : decode cX7_part 2 = .ok (.invokevirtual 83, 3) := by decide +kernel
theorem dX7_part_5 : decode cX7_part 5 = .ok (.ifCond .eq 16, 3) := by decide +kernel
theorem dX7_part_8 : decode cX7_part 8 = .ok (.aload_n 0, 1) := by decide +kernel
theorem dX7_part_9 : decode cX7_part 9 = .ok (.iload_n 2, 1) := by decide +kernel
theorem dX7_part_10 : decode cX7_part 10 = .ok (.invokevirtual 83, 3) := by decide +kernel
theorem dX7_part_13 : decode cX7_part 13 = .ok (.ifCond .eq 8, 3) := by decide +kernel
theorem dX7_part_16 : decode cX7_part 16 = .ok (.iload_n 1, 1) := by decide +kernel
theorem dX7_part_17 : decode cX7_part 17 = .ok (.iload_n 2, 1) := by decide +kernel
theorem dX7_part_18 : decode cX7_part 18 = .ok (.if_icmp .ne 10, 3) := by decide +kernel
theorem dX7_part_21 : decode cX7_part 21 = .ok (.aload_n 0, 1) := by decide +kernel
theorem dX7_part_22 : decode cX7_part 22 = .ok (.ldc 53, 2) := by decide +kernel
theorem dX7_part_24 : decode cX7_part 24 = .ok (.invokevirtual 54, 3) := by decide +kernel
theorem dX7_part_27 : decode cX7_part 27 = .ok (.ireturn, 1) := by decide +kernel
theorem dX7_part_28 : decode cX7_part 28 = .ok (.aload_n 0, 1) := by decide +kernel
theorem dX7_part_29 : decode cX7_part 29 = .ok (.iload_n 1, 1) := by decide +kernel
theorem dX7_part_30 : decode cX7_part 30 = .ok (.invokevirtual 77, 3) := by decide +kernel
theorem dX7_part_33 : decode cX7_part 33 = .ok (.ifCond .eq 11, 3) := by decide +kernel
theorem dX7_part_36 : decode cX7_part 36 = .ok (.aload_n 0, 1) := by decide +kernel
theorem dX7_part_37 : decode cX7_part 37 = .ok (.iload_n 2, 1) := by decide +kernel
theorem dX7_part_38 : decode cX7_part 38 = .ok (.invokevirtual 77, 3) := by decide +kernel
theorem dX7_part_41 : decode cX7_part 41 = .ok (.ifCond .eq 10, 3) := by decide +kernel
theorem dX7_part_44 : decode cX7_part 44 = .ok (.aload_n 0, 1) := by decide +kernel
theorem dX7_part_45 : decode cX7_part 45 = .ok (.ldc 103, 2) := by decide +kernel
theorem dX7_part_47 : decode cX7_part 47 = .ok (.invokevirtual 54, 3) := by decide +kernel
theorem dX7_part_50 : decode cX7_part 50 = .ok (.ireturn, 1) := by decide +kernel
theorem dX7_part_51 : decode cX7_part 51 = .ok (.iconst 3, 1) := by decide +kernel
theorem dX7_part_52 : decode cX7_part 52 = .ok (.istore_n 3, 1) := by decide +kernel
theorem dX7_part_53 : decode cX7_part 53 = .ok (.iload_n 3, 1) := by decide +kernel
theorem dX7_part_54 : decode cX7_part 54 = .ok (.bipush 7, 2) := by decide +kernel
theorem dX7_part_56 : decode cX7_part 56 = .ok (.if_icmp .ge 42, 3) := by decide +kernel
theorem dX7_part_59 : decode cX7_part 59 = .ok (.aload_n 0, 1) := by decide +kernel
theorem dX7_part_60 : decode cX7_part 60 = .ok (.iload_n 2, 1) := by decide +kernel
theorem dX7_part_61 : decode cX7_part 61 = .ok (.iload_n 3, 1) := by decide +kernel
theorem dX7_part_62 : decode cX7_part 62 = .ok (.aload_n 0, 1) := by decide +kernel
theorem dX7_part_63 : decode cX7_part 63 = .ok (.iload_n 1, 1) := by decide +kernel
theorem dX7_part_64 : decode cX7_part 64 = .ok (.iload_n 3, 1) := by decide +kernel
theorem dX7_part_65 : decode cX7_part 65 = .ok (.invokevirtual 45, 3) := by decide +kernel
theorem dX7_part_68 : decode cX7_part 68 = .ok (.iconst 2, 1) := by decide +kernel
theorem dX7_part_69 : decode cX7_part 69 = .ok (.idiv, 1) := by decide +kernel
theorem dX7_part_70 : decode cX7_part 70 = .ok (.invokevirtual 59, 3) := by decide +kernel
theorem dX7_part_73 : decode cX7_part 73 = .ok (.aload_n 0, 1) := by decide +kernel
theorem dX7_part_74 : decode cX7_part 74 = .ok (.iload_n 1, 1) := by decide +kernel
theorem dX7_part_75 : decode cX7_part 75 = .ok (.iload_n 3, 1) := by decide +kernel
theorem dX7_part_76 : decode cX7_part 76 = .ok (.aload_n 0, 1) := by decide +kernel
theorem dX7_part_77 : decode cX7_part 77 = .ok (.iload_n 1, 1) := by decide +kernel
theorem dX7_part_78 : decode cX7_part 78 = .ok (.iload_n 3, 1) := by decide +kernel
theorem dX7_part_79 : decode cX7_part 79 = .ok (.invokevirtual 45, 3) := by decide +kernel
theorem dX7_part_82 : decode cX7_part 82 = .ok (.aload_n 0, 1) := by decide +kernel
theorem dX7_part_83 : decode cX7_part 83 = .ok (.iload_n 2, 1) := by decide +kernel
theorem dX7_part_84 : decode cX7_part 84 = .ok (.iload_n 3, 1) := by decide +kernel
theorem dX7_part_85 : decode cX7_part 85 = .ok (.invokevirtual 45, 3) := by decide +kernel
theorem dX7_part_88 : decode cX7_part 88 = .ok (.isub, 1) := by decide +kernel
theorem dX7_part_89 : decode cX7_part 89 = .ok (.invokevirtual 59, 3) := by decide +kernel
theorem dX7_part_92 : decode cX7_part 92 = .ok (.iinc 3 1, 3) := by decide +kernel
theorem dX7_part_95 : decode cX7_part 95 = .ok (.goto (-42), 3) := by decide +kernel
theorem dX7_part_98 : decode cX7_part 98 = .ok (.aload_n 0, 1) := by decide +kernel
theorem dX7_part_99 : decode cX7_part 99 = .ok (.iload_n 2, 1) := by decide +kernel
theorem dX7_part_100 : decode cX7_part 100 = .ok (.bipush 7, 2) := by decide +kernel
theorem dX7_part_102 : decode cX7_part 102 = .ok (.iconst 1, 1) := by decide +kernel
theorem dX7_part_103 : decode cX7_part 103 = .ok (.invokevirtual 59, 3) := by decide +kernel
theorem dX7_part_106 : decode cX7_part 106 = .ok (.aload_n 0, 1) := by decide +kernel
theorem dX7_part_107 : decode cX7_part 107 = .ok (.iload_n 2, 1) := by decide +kernel
theorem dX7_part_108 : decode cX7_part 108 = .ok (.iconst 2, 1) := by decide +kernel
theorem dX7_part_109 : decode cX7_part 109 = .ok (.aload_n 0, 1) := by decide +kernel
theorem dX7_part_110 : decode cX7_part 110 = .ok (.iload_n 1, 1) := by decide +kernel
theorem dX7_part_111 : decode cX7_part 111 = .ok (.iconst 2, 1) := by decide +kernel
theorem dX7_part_112 : decode cX7_part 112 = .ok (.invokevirtual 45, 3) := by decide +kernel
theorem dX7_part_115 : decode cX7_part 115 = .ok (.invokevirtual 59, 3) := by decide +kernel
theorem dX7_part_118 : decode cX7_part 118 = .ok (.aload_n 0, 1) := by decide +kernel
theorem dX7_part_119 : decode cX7_part 119 = .ok (.iload_n 2, 1) := by decide +kernel
theorem dX7_part_120 : decode cX7_part 120 = .ok (.iconst 3, 1) := by decide +kernel
theorem dX7_part_121 : decode cX7_part 121 = .ok (.invokevirtual 45, 3) := by decide +kernel
theorem dX7_part_124 : decode cX7_part 124 = .ok (.ireturn, 1) := by decide +kernel
theorem dX7_byteAt_0 : decode cX7_byteAt 0 = .ok (.iload_n 1, 1) := by decide +kernel
theorem dX7_byteAt_1 : decode cX7_byteAt 1 = .ok (.aload_n 0, 1) := by decide +kernel
theorem dX7_byteAt_2 : decode cX7_byteAt 2 = .ok (.getfield 104, 3) := by decide +kernel
theorem dX7_byteAt_5 : decode cX7_byteAt 5 = .ok (.if_icmp .ge 24, 3) := by decide +kernel
theorem dX7_byteAt_8 : decode cX7_byteAt 8 = .ok (.aload_n 0, 1) := by decide +kernel
theorem dX7_byteAt_9 : decode cX7_byteAt 9 = .ok (.getfield 7, 3) := by decide +kernel
theorem dX7_byteAt_12 : decode cX7_byteAt 12 = .ok (.sipush 162, 3) := by decide +kernel
theorem dX7_byteAt_15 : decode cX7_byteAt 15 = .ok (.bipush 50, 2) := by decide +kernel
theorem dX7_byteAt_17 : decode cX7_byteAt 17 = .ok (.aload_n 0, 1) := by decide +kernel
theorem dX7_byteAt_18 : decode cX7_byteAt 18 = .ok (.getfield 108, 3) := by decide +kernel
theorem dX7_byteAt_21 : decode cX7_byteAt 21 = .ok (.imul, 1) := by decide +kernel
theorem dX7_byteAt_22 : decode cX7_byteAt 22 = .ok (.iadd, 1) := by decide +kernel
theorem dX7_byteAt_23 : decode cX7_byteAt 23 = .ok (.iload_n 1, 1) := by decide +kernel
theorem dX7_byteAt_24 : decode cX7_byteAt 24 = .ok (.iadd, 1) := by decide +kernel
theorem dX7_byteAt_25 : decode cX7_byteAt 25 = .ok (.iaload, 1) := by decide +kernel
theorem dX7_byteAt_26 : decode cX7_byteAt 26 = .ok (.goto 4, 3) := by decide +kernel
theorem dX7_byteAt_29 : decode cX7_byteAt 29 = .ok (.iconst (-1), 1) := by decide +kernel
theorem dX7_byteAt_30 : decode cX7_byteAt 30 = .ok (.ireturn, 1) := by decide +kernel
theorem dX7_isDigit_0 : decode cX7_isDigit 0 = .ok (.iload_n 0, 1) := by decide +kernel
theorem dX7_isDigit_1 : decode cX7_isDigit 1 = .ok (.bipush 48, 2) := by decide +kernel
theorem dX7_isDigit_3 : decode cX7_isDigit 3 = .ok (.bipush 57, 2) := by decide +kernel
theorem dX7_isDigit_5 : decode cX7_isDigit 5 = .ok (.invokestatic 41, 3) := by decide +kernel
theorem dX7_isDigit_8 : decode cX7_isDigit 8 = .ok (.ireturn, 1) := by decide +kernel
theorem dX7_fails_0 : decode cX7_fails 0 = .ok (.aload_n 0, 1) := by decide +kernel
theorem dX7_fails_1 : decode cX7_fails 1 = .ok (.iconst 0, 1) := by decide +kernel
theorem dX7_fails_2 : decode cX7_fails 2 = .ok (.putfield 111, 3) := by decide +kernel
theorem dX7_fails_5 : decode cX7_fails 5 = .ok (.iconst 0, 1) := by decide +kernel
theorem dX7_fails_6 : decode cX7_fails 6 = .ok (.ireturn, 1) := by decide +kernel
theorem dX7_number_0 : decode cX7_number 0 = .ok (.iconst 0, 1) := by decide +kernel
theorem dX7_number_1 : decode cX7_number 1 = .ok (.istore_n 1, 1) := by decide +kernel
theorem dX7_number_2 : decode cX7_number 2 = .ok (.iconst 0, 1) := by decide +kernel
theorem dX7_number_3 : decode cX7_number 3 = .ok (.istore_n 2, 1) := by decide +kernel
theorem dX7_number_4 : decode cX7_number 4 = .ok (.iload_n 2, 1) := by decide +kernel
theorem dX7_number_5 : decode cX7_number 5 = .ok (.iconst 4, 1) := by decide +kernel
theorem dX7_number_6 : decode cX7_number 6 = .ok (.if_icmp .ge 50, 3) := by decide +kernel
theorem dX7_number_9 : decode cX7_number 9 = .ok (.aload_n 0, 1) := by decide +kernel
theorem dX7_number_10 : decode cX7_number 10 = .ok (.aload_n 0, 1) := by decide +kernel
theorem dX7_number_11 : decode cX7_number 11 = .ok (.getfield 115, 3) := by decide +kernel
theorem dX7_number_14 : decode cX7_number 14 = .ok (.invokevirtual 118, 3) := by decide +kernel
theorem dX7_number_17 : decode cX7_number 17 = .ok (.invokestatic 121, 3) := by decide +kernel
theorem dX7_number_20 : decode cX7_number 20 = .ok (.ifCond .eq 36, 3) := by decide +kernel
theorem dX7_number_23 : decode cX7_number 23 = .ok (.bipush 10, 2) := by decide +kernel
theorem dX7_number_25 : decode cX7_number 25 = .ok (.iload_n 1, 1) := by decide +kernel
theorem dX7_number_26 : decode cX7_number 26 = .ok (.imul, 1) := by decide +kernel
theorem dX7_number_27 : decode cX7_number 27 = .ok (.aload_n 0, 1) := by decide +kernel
theorem dX7_number_28 : decode cX7_number 28 = .ok (.aload_n 0, 1) := by decide +kernel
theorem dX7_number_29 : decode cX7_number 29 = .ok (.getfield 115, 3) := by decide +kernel
theorem dX7_number_32 : decode cX7_number 32 = .ok (.invokevirtual 118, 3) := by decide +kernel
theorem dX7_number_35 : decode cX7_number 35 = .ok (.iadd, 1) := by decide +kernel
theorem dX7_number_36 : decode cX7_number 36 = .ok (.bipush 48, 2) := by decide +kernel
theorem dX7_number_38 : decode cX7_number 38 = .ok (.isub, 1) := by decide +kernel
theorem dX7_number_39 : decode cX7_number 39 = .ok (.istore_n 1, 1) := by decide +kernel
theorem dX7_number_40 : decode cX7_number 40 = .ok (.aload_n 0, 1) := by decide +kernel
theorem dX7_number_41 : decode cX7_number 41 = .ok (.dup, 1) := by decide +kernel
theorem dX7_number_42 : decode cX7_number 42 = .ok (.getfield 115, 3) := by decide +kernel
theorem dX7_number_45 : decode cX7_number 45 = .ok (.iconst 1, 1) := by decide +kernel
theorem dX7_number_46 : decode cX7_number 46 = .ok (.iadd, 1) := by decide +kernel
theorem dX7_number_47 : decode cX7_number 47 = .ok (.putfield 115, 3) := by decide +kernel
theorem dX7_number_50 : decode cX7_number 50 = .ok (.iinc 2 1, 3) := by decide +kernel
theorem dX7_number_53 : decode cX7_number 53 = .ok (.goto (-49), 3) := by decide +kernel
theorem dX7_number_56 : decode cX7_number 56 = .ok (.iload_n 1, 1) := by decide +kernel
theorem dX7_number_57 : decode cX7_number 57 = .ok (.ireturn, 1) := by decide +kernel
theorem dX7_named_0 : decode cX7_named 0 = .ok (.iload_n 1, 1) := by decide +kernel
theorem dX7_named_1 : decode cX7_named 1 = .ok (.aload_n 0, 1) := by decide +kernel
theorem dX7_named_2 : decode cX7_named 2 = .ok (.getfield 108, 3) := by decide +kernel
theorem dX7_named_5 : decode cX7_named 5 = .ok (.ifCond .ne 8, 3) := by decide +kernel
theorem dX7_named_8 : decode cX7_named 8 = .ok (.bipush 116, 2) := by decide +kernel
theorem dX7_named_10 : decode cX7_named 10 = .ok (.goto 5, 3) := by decide +kernel
theorem dX7_named_13 : decode cX7_named 13 = .ok (.bipush 97, 2) := by decide +kernel
theorem dX7_named_15 : decode cX7_named 15 = .ok (.if_icmp .ne 7, 3) := by decide +kernel
theorem dX7_named_18 : decode cX7_named 18 = .ok (.iconst 1, 1) := by decide +kernel
theorem dX7_named_19 : decode cX7_named 19 = .ok (.goto 4, 3) := by decide +kernel
theorem dX7_named_22 : decode cX7_named 22 = .ok (.iconst 0, 1) := by decide +kernel
theorem dX7_named_23 : decode cX7_named 23 = .ok (.istore_n 2, 1) := by decide +kernel
theorem dX7_named_24 : decode cX7_named 24 = .ok (.iload_n 1, 1) := by decide +kernel
theorem dX7_named_25 : decode cX7_named 25 = .ok (.aload_n 0, 1) := by decide +kernel
theorem dX7_named_26 : decode cX7_named 26 = .ok (.getfield 108, 3) := by decide +kernel
theorem dX7_named_29 : decode cX7_named 29 = .ok (.ifCond .ne 8, 3) := by decide +kernel
theorem dX7_named_32 : decode cX7_named 32 = .ok (.bipush 119, 2) := by decide +kernel
theorem dX7_named_34 : decode cX7_named 34 = .ok (.goto 5, 3) := by decide +kernel
theorem dX7_named_37 : decode cX7_named 37 = .ok (.bipush 98, 2) := by decide +kernel
theorem dX7_named_39 : decode cX7_named 39 = .ok (.if_icmp .ne 7, 3) := by decide +kernel
theorem dX7_named_42 : decode cX7_named 42 = .ok (.iconst 1, 1) := by decide +kernel
theorem dX7_named_43 : decode cX7_named 43 = .ok (.goto 4, 3) := by decide +kernel
theorem dX7_named_46 : decode cX7_named 46 = .ok (.iconst 0, 1) := by decide +kernel
theorem dX7_named_47 : decode cX7_named 47 = .ok (.istore_n 3, 1) := by decide +kernel
theorem dX7_named_48 : decode cX7_named 48 = .ok (.iload_n 1, 1) := by decide +kernel
theorem dX7_named_49 : decode cX7_named 49 = .ok (.aload_n 0, 1) := by decide +kernel
theorem dX7_named_50 : decode cX7_named 50 = .ok (.getfield 108, 3) := by decide +kernel
theorem dX7_named_53 : decode cX7_named 53 = .ok (.ifCond .ne 8, 3) := by decide +kernel
theorem dX7_named_56 : decode cX7_named 56 = .ok (.bipush 115, 2) := by decide +kernel
theorem dX7_named_58 : decode cX7_named 58 = .ok (.goto 5, 3) := by decide +kernel
theorem dX7_named_61 : decode cX7_named 61 = .ok (.bipush 104, 2) := by decide +kernel
theorem dX7_named_63 : decode cX7_named 63 = .ok (.if_icmp .ne 7, 3) := by decide +kernel
theorem dX7_named_66 : decode cX7_named 66 = .ok (.iconst 1, 1) := by decide +kernel
theorem dX7_named_67 : decode cX7_named 67 = .ok (.goto 4, 3) := by decide +kernel
theorem dX7_named_70 : decode cX7_named 70 = .ok (.iconst 0, 1) := by decide +kernel
theorem dX7_named_71 : decode cX7_named 71 = .ok (.istore 4, 2) := by decide +kernel
theorem dX7_named_73 : decode cX7_named 73 = .ok (.iload_n 2, 1) := by decide +kernel
theorem dX7_named_74 : decode cX7_named 74 = .ok (.ifCond .ne 17, 3) := by decide +kernel
theorem dX7_named_77 : decode cX7_named 77 = .ok (.iload_n 3, 1) := by decide +kernel
theorem dX7_named_78 : decode cX7_named 78 = .ok (.ifCond .ne 13, 3) := by decide +kernel
theorem dX7_named_81 : decode cX7_named 81 = .ok (.iload 4, 2) := by decide +kernel
theorem dX7_named_83 : decode cX7_named 83 = .ok (.ifCond .ne 8, 3) := by decide +kernel
theorem dX7_named_86 : decode cX7_named 86 = .ok (.aload_n 0, 1) := by decide +kernel
theorem dX7_named_87 : decode cX7_named 87 = .ok (.invokevirtual 124, 3) := by decide +kernel
theorem dX7_named_90 : decode cX7_named 90 = .ok (.ireturn, 1) := by decide +kernel
theorem dX7_named_91 : decode cX7_named 91 = .ok (.aload_n 0, 1) := by decide +kernel
theorem dX7_named_92 : decode cX7_named 92 = .ok (.dup, 1) := by decide +kernel
theorem dX7_named_93 : decode cX7_named 93 = .ok (.getfield 115, 3) := by decide +kernel
theorem dX7_named_96 : decode cX7_named 96 = .ok (.iconst 1, 1) := by decide +kernel
theorem dX7_named_97 : decode cX7_named 97 = .ok (.iadd, 1) := by decide +kernel
theorem dX7_named_98 : decode cX7_named 98 = .ok (.putfield 115, 3) := by decide +kernel
theorem dX7_named_101 : decode cX7_named 101 = .ok (.iload_n 2, 1) := by decide +kernel
theorem dX7_named_102 : decode cX7_named 102 = .ok (.ifCond .eq 10, 3) := by decide +kernel
theorem dX7_named_105 : decode cX7_named 105 = .ok (.aload_n 0, 1) := by decide +kernel
theorem dX7_named_106 : decode cX7_named 106 = .ok (.getfield 127, 3) := by decide +kernel
theorem dX7_named_109 : decode cX7_named 109 = .ok (.goto 18, 3) := by decide +kernel
theorem dX7_named_112 : decode cX7_named 112 = .ok (.iload_n 3, 1) := by decide +kernel
theorem dX7_named_113 : decode cX7_named 113 = .ok (.ifCond .eq 10, 3) := by decide +kernel
theorem dX7_named_116 : decode cX7_named 116 = .ok (.aload_n 0, 1) := by decide +kernel
theorem dX7_named_117 : decode cX7_named 117 = .ok (.getfield 130, 3) := by decide +kernel
theorem dX7_named_120 : decode cX7_named 120 = .ok (.goto 7, 3) := by decide +kernel
theorem dX7_named_123 : decode cX7_named 123 = .ok (.aload_n 0, 1) := by decide +kernel
theorem dX7_named_124 : decode cX7_named 124 = .ok (.getfield 133, 3) := by decide +kernel
theorem dX7_named_127 : decode cX7_named 127 = .ok (.ireturn, 1) := by decide +kernel
theorem dX7_factor_0 : decode cX7_factor 0 = .ok (.aload_n 0, 1) := by decide +kernel
theorem dX7_factor_1 : decode cX7_factor 1 = .ok (.aload_n 0, 1) := by decide +kernel
theorem dX7_factor_2 : decode cX7_factor 2 = .ok (.getfield 115, 3) := by decide +kernel
theorem dX7_factor_5 : decode cX7_factor 5 = .ok (.invokevirtual 118, 3) := by decide +kernel
theorem dX7_factor_8 : decode cX7_factor 8 = .ok (.istore_n 1, 1) := by decide +kernel
theorem dX7_factor_9 : decode cX7_factor 9 = .ok (.iload_n 1, 1) := by decide +kernel
theorem dX7_factor_10 : decode cX7_factor 10 = .ok (.invokestatic 121, 3) := by decide +kernel
theorem dX7_factor_13 : decode cX7_factor 13 = .ok (.ifCond .eq 8, 3) := by decide +kernel
theorem dX7_factor_16 : decode cX7_factor 16 = .ok (.aload_n 0, 1) := by decide +kernel
theorem dX7_factor_17 : decode cX7_factor 17 = .ok (.invokevirtual 136, 3) := by decide +kernel
theorem dX7_factor_20 : decode cX7_factor 20 = .ok (.ireturn, 1) := by decide +kernel
theorem dX7_factor_21 : decode cX7_factor 21 = .ok (.iload_n 1, 1) := by decide +kernel
theorem dX7_factor_22 : decode cX7_factor 22 = .ok (.bipush 33, 2) := by decide +kernel
theorem dX7_factor_24 : decode cX7_factor 24 = .ok (.if_icmp .eq 15, 3) := by decide +kernel
theorem dX7_factor_27 : decode cX7_factor 27 = .ok (.iload_n 1, 1) := by decide +kernel
theorem dX7_factor_28 : decode cX7_factor 28 = .ok (.bipush 40, 2) := by decide +kernel
theorem dX7_factor_30 : decode cX7_factor 30 = .ok (.if_icmp .eq 9, 3) := by decide +kernel
theorem dX7_factor_33 : decode cX7_factor 33 = .ok (.aload_n 0, 1) := by decide +kernel
theorem dX7_factor_34 : decode cX7_factor 34 = .ok (.iload_n 1, 1) := by decide +kernel
theorem dX7_factor_35 : decode cX7_factor 35 = .ok (.invokevirtual 139, 3) := by decide +kernel
theorem dX7_factor_38 : decode cX7_factor 38 = .ok (.ireturn, 1) := by decide +kernel
theorem dX7_factor_39 : decode cX7_factor 39 = .ok (.aload_n 0, 1) := by decide +kernel
theorem dX7_factor_40 : decode cX7_factor 40 = .ok (.getfield 142, 3) := by decide +kernel
theorem dX7_factor_43 : decode cX7_factor 43 = .ok (.iconst 5, 1) := by decide +kernel
theorem dX7_factor_44 : decode cX7_factor 44 = .ok (.if_icmp .ne 8, 3) := by decide +kernel
theorem dX7_factor_47 : decode cX7_factor 47 = .ok (.aload_n 0, 1) := by decide +kernel
theorem dX7_factor_48 : decode cX7_factor 48 = .ok (.invokevirtual 124, 3) := by decide +kernel
theorem dX7_factor_51 : decode cX7_factor 51 = .ok (.ireturn, 1) := by decide +kernel
theorem dX7_factor_52 : decode cX7_factor 52 = .ok (.aload_n 0, 1) := by decide +kernel
theorem dX7_factor_53 : decode cX7_factor 53 = .ok (.dup, 1) := by decide +kernel
theorem dX7_factor_54 : decode cX7_factor 54 = .ok (.getfield 142, 3) := by decide +kernel
theorem dX7_factor_57 : decode cX7_factor 57 = .ok (.iconst 1, 1) := by decide +kernel
theorem dX7_factor_58 : decode cX7_factor 58 = .ok (.iadd, 1) := by decide +kernel
theorem dX7_factor_59 : decode cX7_factor 59 = .ok (.putfield 142, 3) := by decide +kernel
theorem dX7_factor_62 : decode cX7_factor 62 = .ok (.aload_n 0, 1) := by decide +kernel
theorem dX7_factor_63 : decode cX7_factor 63 = .ok (.dup, 1) := by decide +kernel
theorem dX7_factor_64 : decode cX7_factor 64 = .ok (.getfield 115, 3) := by decide +kernel
theorem dX7_factor_67 : decode cX7_factor 67 = .ok (.iconst 1, 1) := by decide +kernel
theorem dX7_factor_68 : decode cX7_factor 68 = .ok (.iadd, 1) := by decide +kernel
theorem dX7_factor_69 : decode cX7_factor 69 = .ok (.putfield 115, 3) := by decide +kernel
theorem dX7_factor_72 : decode cX7_factor 72 = .ok (.iload_n 1, 1) := by decide +kernel
theorem dX7_factor_73 : decode cX7_factor 73 = .ok (.bipush 33, 2) := by decide +kernel
theorem dX7_factor_75 : decode cX7_factor 75 = .ok (.if_icmp .ne 10, 3) := by decide +kernel
theorem dX7_factor_78 : decode cX7_factor 78 = .ok (.aload_n 0, 1) := by decide +kernel
theorem dX7_factor_79 : decode cX7_factor 79 = .ok (.invokevirtual 145, 3) := by decide +kernel
theorem dX7_factor_82 : decode cX7_factor 82 = .ok (.goto 7, 3) := by decide +kernel
theorem dX7_factor_85 : decode cX7_factor 85 = .ok (.aload_n 0, 1) := by decide +kernel
theorem dX7_factor_86 : decode cX7_factor 86 = .ok (.invokevirtual 148, 3) := by decide +kernel
theorem dX7_factor_89 : decode cX7_factor 89 = .ok (.istore_n 2, 1) := by decide +kernel
theorem dX7_factor_90 : decode cX7_factor 90 = .ok (.aload_n 0, 1) := by decide +kernel
theorem dX7_factor_91 : decode cX7_factor 91 = .ok (.dup, 1) := by decide +kernel
theorem dX7_factor_92 : decode cX7_factor 92 = .ok (.getfield 142, 3) := by decide +kernel
theorem dX7_factor_95 : decode cX7_factor 95 = .ok (.iconst 1, 1) := by decide +kernel
theorem dX7_factor_96 : decode cX7_factor 96 = .ok (.isub, 1) := by decide +kernel
theorem dX7_factor_97 : decode cX7_factor 97 = .ok (.putfield 142, 3) := by decide +kernel
theorem dX7_factor_100 : decode cX7_factor 100 = .ok (.iload_n 1, 1) := by decide +kernel
theorem dX7_factor_101 : decode cX7_factor 101 = .ok (.bipush 33, 2) := by decide +kernel
theorem dX7_factor_103 : decode cX7_factor 103 = .ok (.if_icmp .ne 13, 3) := by decide +kernel
theorem dX7_factor_106 : decode cX7_factor 106 = .ok (.iload_n 2, 1) := by decide +kernel
theorem dX7_factor_107 : decode cX7_factor 107 = .ok (.ifCond .ne 7, 3) := by decide +kernel
theorem dX7_factor_110 : decode cX7_factor 110 = .ok (.iconst 1, 1) := by decide +kernel
theorem dX7_factor_111 : decode cX7_factor 111 = .ok (.goto 4, 3) := by decide +kernel
theorem dX7_factor_114 : decode cX7_factor 114 = .ok (.iconst 0, 1) := by decide +kernel
theorem dX7_factor_115 : decode cX7_factor 115 = .ok (.ireturn, 1) := by decide +kernel
theorem dX7_factor_116 : decode cX7_factor 116 = .ok (.aload_n 0, 1) := by decide +kernel
theorem dX7_factor_117 : decode cX7_factor 117 = .ok (.getfield 111, 3) := by decide +kernel
theorem dX7_factor_120 : decode cX7_factor 120 = .ok (.ifCond .eq 28, 3) := by decide +kernel
theorem dX7_factor_123 : decode cX7_factor 123 = .ok (.aload_n 0, 1) := by decide +kernel
theorem dX7_factor_124 : decode cX7_factor 124 = .ok (.aload_n 0, 1) := by decide +kernel
theorem dX7_factor_125 : decode cX7_factor 125 = .ok (.getfield 115, 3) := by decide +kernel
theorem dX7_factor_128 : decode cX7_factor 128 = .ok (.invokevirtual 118, 3) := by decide +kernel
theorem dX7_factor_131 : decode cX7_factor 131 = .ok (.bipush 41, 2) := by decide +kernel
theorem dX7_factor_133 : decode cX7_factor 133 = .ok (.if_icmp .ne 15, 3) := by decide +kernel
theorem dX7_factor_136 : decode cX7_factor 136 = .ok (.aload_n 0, 1) := by decide +kernel
theorem dX7_factor_137 : decode cX7_factor 137 = .ok (.dup, 1) := by decide +kernel
theorem dX7_factor_138 : decode cX7_factor 138 = .ok (.getfield 115, 3) := by decide +kernel
theorem dX7_factor_141 : decode cX7_factor 141 = .ok (.iconst 1, 1) := by decide +kernel
theorem dX7_factor_142 : decode cX7_factor 142 = .ok (.iadd, 1) := by decide +kernel
theorem dX7_factor_143 : decode cX7_factor 143 = .ok (.putfield 115, 3) := by decide +kernel
theorem dX7_factor_146 : decode cX7_factor 146 = .ok (.iload_n 2, 1) := by decide +kernel
theorem dX7_factor_147 : decode cX7_factor 147 = .ok (.ireturn, 1) := by decide +kernel
theorem dX7_factor_148 : decode cX7_factor 148 = .ok (.aload_n 0, 1) := by decide +kernel
theorem dX7_factor_149 : decode cX7_factor 149 = .ok (.invokevirtual 124, 3) := by decide +kernel
theorem dX7_factor_152 : decode cX7_factor 152 = .ok (.ireturn, 1) := by decide +kernel
theorem dX7_product_0 : decode cX7_product 0 = .ok (.aload_n 0, 1) := by decide +kernel
theorem dX7_product_1 : decode cX7_product 1 = .ok (.invokevirtual 145, 3) := by decide +kernel
theorem dX7_product_4 : decode cX7_product 4 = .ok (.istore_n 1, 1) := by decide +kernel
theorem dX7_product_5 : decode cX7_product 5 = .ok (.aload_n 0, 1) := by decide +kernel
theorem dX7_product_6 : decode cX7_product 6 = .ok (.getfield 111, 3) := by decide +kernel
theorem dX7_product_9 : decode cX7_product 9 = .ok (.ifCond .eq 105, 3) := by decide +kernel
theorem dX7_product_12 : decode cX7_product 12 = .ok (.aload_n 0, 1) := by decide +kernel
theorem dX7_product_13 : decode cX7_product 13 = .ok (.aload_n 0, 1) := by decide +kernel
theorem dX7_product_14 : decode cX7_product 14 = .ok (.getfield 115, 3) := by decide +kernel
theorem dX7_product_17 : decode cX7_product 17 = .ok (.invokevirtual 118, 3) := by decide +kernel
theorem dX7_product_20 : decode cX7_product 20 = .ok (.bipush 42, 2) := by decide +kernel
theorem dX7_product_22 : decode cX7_product 22 = .ok (.if_icmp .eq 29, 3) := by decide +kernel
theorem dX7_product_25 : decode cX7_product 25 = .ok (.aload_n 0, 1) := by decide +kernel
theorem dX7_product_26 : decode cX7_product 26 = .ok (.aload_n 0, 1) := by decide +kernel
theorem dX7_product_27 : decode cX7_product 27 = .ok (.getfield 115, 3) := by decide +kernel
theorem dX7_product_30 : decode cX7_product 30 = .ok (.invokevirtual 118, 3) := by decide +kernel
theorem dX7_product_33 : decode cX7_product 33 = .ok (.bipush 47, 2) := by decide +kernel
theorem dX7_product_35 : decode cX7_product 35 = .ok (.if_icmp .eq 16, 3) := by decide +kernel
theorem dX7_product_38 : decode cX7_product 38 = .ok (.aload_n 0, 1) := by decide +kernel
theorem dX7_product_39 : decode cX7_product 39 = .ok (.aload_n 0, 1) := by decide +kernel
theorem dX7_product_40 : decode cX7_product 40 = .ok (.getfield 115, 3) := by decide +kernel
theorem dX7_product_43 : decode cX7_product 43 = .ok (.invokevirtual 118, 3) := by decide +kernel
theorem dX7_product_46 : decode cX7_product 46 = .ok (.bipush 37, 2) := by decide +kernel
theorem dX7_product_48 : decode cX7_product 48 = .ok (.if_icmp .ne 66, 3) := by decide +kernel
theorem dX7_product_51 : decode cX7_product 51 = .ok (.aload_n 0, 1) := by decide +kernel
theorem dX7_product_52 : decode cX7_product 52 = .ok (.aload_n 0, 1) := by decide +kernel
theorem dX7_product_53 : decode cX7_product 53 = .ok (.getfield 115, 3) := by decide +kernel
theorem dX7_product_56 : decode cX7_product 56 = .ok (.invokevirtual 118, 3) := by decide +kernel
theorem dX7_product_59 : decode cX7_product 59 = .ok (.istore_n 2, 1) := by decide +kernel
theorem dX7_product_60 : decode cX7_product 60 = .ok (.aload_n 0, 1) := by decide +kernel
theorem dX7_product_61 : decode cX7_product 61 = .ok (.dup, 1) := by decide +kernel
theorem dX7_product_62 : decode cX7_product 62 = .ok (.getfield 115, 3) := by decide +kernel
theorem dX7_product_65 : decode cX7_product 65 = .ok (.iconst 1, 1) := by decide +kernel
theorem dX7_product_66 : decode cX7_product 66 = .ok (.iadd, 1) := by decide +kernel
theorem dX7_product_67 : decode cX7_product 67 = .ok (.putfield 115, 3) := by decide +kernel
theorem dX7_product_70 : decode cX7_product 70 = .ok (.aload_n 0, 1) := by decide +kernel
theorem dX7_product_71 : decode cX7_product 71 = .ok (.invokevirtual 145, 3) := by decide +kernel
theorem dX7_product_74 : decode cX7_product 74 = .ok (.istore_n 3, 1) := by decide +kernel
theorem dX7_product_75 : decode cX7_product 75 = .ok (.iload_n 2, 1) := by decide +kernel
theorem dX7_product_76 : decode cX7_product 76 = .ok (.bipush 42, 2) := by decide +kernel
theorem dX7_product_78 : decode cX7_product 78 = .ok (.if_icmp .ne 9, 3) := by decide +kernel
theorem dX7_product_81 : decode cX7_product 81 = .ok (.iload_n 1, 1) := by decide +kernel
theorem dX7_product_82 : decode cX7_product 82 = .ok (.iload_n 3, 1) := by decide +kernel
theorem dX7_product_83 : decode cX7_product 83 = .ok (.imul, 1) := by decide +kernel
theorem dX7_product_84 : decode cX7_product 84 = .ok (.goto 26, 3) := by decide +kernel
theorem dX7_product_87 : decode cX7_product 87 = .ok (.iload_n 3, 1) := by decide +kernel
theorem dX7_product_88 : decode cX7_product 88 = .ok (.ifCond .ne 7, 3) := by decide +kernel
theorem dX7_product_91 : decode cX7_product 91 = .ok (.iconst 0, 1) := by decide +kernel
theorem dX7_product_92 : decode cX7_product 92 = .ok (.goto 18, 3) := by decide +kernel
theorem dX7_product_95 : decode cX7_product 95 = .ok (.iload_n 2, 1) := by decide +kernel
theorem dX7_product_96 : decode cX7_product 96 = .ok (.bipush 47, 2) := by decide +kernel
theorem dX7_product_98 : decode cX7_product 98 = .ok (.if_icmp .ne 9, 3) := by decide +kernel
theorem dX7_product_101 : decode cX7_product 101 = .ok (.iload_n 1, 1) := by decide +kernel
theorem dX7_product_102 : decode cX7_product 102 = .ok (.iload_n 3, 1) := by decide +kernel
theorem dX7_product_103 : decode cX7_product 103 = .ok (.idiv, 1) := by decide +kernel
theorem dX7_product_104 : decode cX7_product 104 = .ok (.goto 6, 3) := by decide +kernel
theorem dX7_product_107 : decode cX7_product 107 = .ok (.iload_n 1, 1) := by decide +kernel
theorem dX7_product_108 : decode cX7_product 108 = .ok (.iload_n 3, 1) := by decide +kernel
theorem dX7_product_109 : decode cX7_product 109 = .ok (.irem, 1) := by decide +kernel
theorem dX7_product_110 : decode cX7_product 110 = .ok (.istore_n 1, 1) := by decide +kernel
theorem dX7_product_111 : decode cX7_product 111 = .ok (.goto (-106), 3) := by decide +kernel
theorem dX7_product_114 : decode cX7_product 114 = .ok (.iload_n 1, 1) := by decide +kernel
theorem dX7_product_115 : decode cX7_product 115 = .ok (.ireturn, 1) := by decide +kernel
theorem dX7_sum_0 : decode cX7_sum 0 = .ok (.aload_n 0, 1) := by decide +kernel
theorem dX7_sum_1 : decode cX7_sum 1 = .ok (.invokevirtual 151, 3) := by decide +kernel
theorem dX7_sum_4 : decode cX7_sum 4 = .ok (.istore_n 1, 1) := by decide +kernel
theorem dX7_sum_5 : decode cX7_sum 5 = .ok (.aload_n 0, 1) := by decide +kernel
theorem dX7_sum_6 : decode cX7_sum 6 = .ok (.getfield 111, 3) := by decide +kernel
theorem dX7_sum_9 : decode cX7_sum 9 = .ok (.ifCond .eq 72, 3) := by decide +kernel
theorem dX7_sum_12 : decode cX7_sum 12 = .ok (.aload_n 0, 1) := by decide +kernel
theorem dX7_sum_13 : decode cX7_sum 13 = .ok (.aload_n 0, 1) := by decide +kernel
theorem dX7_sum_14 : decode cX7_sum 14 = .ok (.getfield 115, 3) := by decide +kernel
theorem dX7_sum_17 : decode cX7_sum 17 = .ok (.invokevirtual 118, 3) := by decide +kernel
theorem dX7_sum_20 : decode cX7_sum 20 = .ok (.bipush 43, 2) := by decide +kernel
theorem dX7_sum_22 : decode cX7_sum 22 = .ok (.if_icmp .eq 16, 3) := by decide +kernel
theorem dX7_sum_25 : decode cX7_sum 25 = .ok (.aload_n 0, 1) := by decide +kernel
theorem dX7_sum_26 : decode cX7_sum 26 = .ok (.aload_n 0, 1) := by decide +kernel
theorem dX7_sum_27 : decode cX7_sum 27 = .ok (.getfield 115, 3) := by decide +kernel
theorem dX7_sum_30 : decode cX7_sum 30 = .ok (.invokevirtual 118, 3) := by decide +kernel
theorem dX7_sum_33 : decode cX7_sum 33 = .ok (.bipush 45, 2) := by decide +kernel
theorem dX7_sum_35 : decode cX7_sum 35 = .ok (.if_icmp .ne 46, 3) := by decide +kernel
theorem dX7_sum_38 : decode cX7_sum 38 = .ok (.aload_n 0, 1) := by decide +kernel
theorem dX7_sum_39 : decode cX7_sum 39 = .ok (.aload_n 0, 1) := by decide +kernel
theorem dX7_sum_40 : decode cX7_sum 40 = .ok (.getfield 115, 3) := by decide +kernel
theorem dX7_sum_43 : decode cX7_sum 43 = .ok (.invokevirtual 118, 3) := by decide +kernel
theorem dX7_sum_46 : decode cX7_sum 46 = .ok (.istore_n 2, 1) := by decide +kernel
theorem dX7_sum_47 : decode cX7_sum 47 = .ok (.aload_n 0, 1) := by decide +kernel
theorem dX7_sum_48 : decode cX7_sum 48 = .ok (.dup, 1) := by decide +kernel
theorem dX7_sum_49 : decode cX7_sum 49 = .ok (.getfield 115, 3) := by decide +kernel
theorem dX7_sum_52 : decode cX7_sum 52 = .ok (.iconst 1, 1) := by decide +kernel
theorem dX7_sum_53 : decode cX7_sum 53 = .ok (.iadd, 1) := by decide +kernel
theorem dX7_sum_54 : decode cX7_sum 54 = .ok (.putfield 115, 3) := by decide +kernel
theorem dX7_sum_57 : decode cX7_sum 57 = .ok (.aload_n 0, 1) := by decide +kernel
theorem dX7_sum_58 : decode cX7_sum 58 = .ok (.invokevirtual 151, 3) := by decide +kernel
theorem dX7_sum_61 : decode cX7_sum 61 = .ok (.istore_n 3, 1) := by decide +kernel
theorem dX7_sum_62 : decode cX7_sum 62 = .ok (.iload_n 2, 1) := by decide +kernel
theorem dX7_sum_63 : decode cX7_sum 63 = .ok (.bipush 43, 2) := by decide +kernel
theorem dX7_sum_65 : decode cX7_sum 65 = .ok (.if_icmp .ne 9, 3) := by decide +kernel
theorem dX7_sum_68 : decode cX7_sum 68 = .ok (.iload_n 1, 1) := by decide +kernel
theorem dX7_sum_69 : decode cX7_sum 69 = .ok (.iload_n 3, 1) := by decide +kernel
theorem dX7_sum_70 : decode cX7_sum 70 = .ok (.iadd, 1) := by decide +kernel
theorem dX7_sum_71 : decode cX7_sum 71 = .ok (.goto 6, 3) := by decide +kernel
theorem dX7_sum_74 : decode cX7_sum 74 = .ok (.iload_n 1, 1) := by decide +kernel
theorem dX7_sum_75 : decode cX7_sum 75 = .ok (.iload_n 3, 1) := by decide +kernel
theorem dX7_sum_76 : decode cX7_sum 76 = .ok (.isub, 1) := by decide +kernel
theorem dX7_sum_77 : decode cX7_sum 77 = .ok (.istore_n 1, 1) := by decide +kernel
theorem dX7_sum_78 : decode cX7_sum 78 = .ok (.goto (-73), 3) := by decide +kernel
theorem dX7_sum_81 : decode cX7_sum 81 = .ok (.iload_n 1, 1) := by decide +kernel
theorem dX7_sum_82 : decode cX7_sum 82 = .ok (.ireturn, 1) := by decide +kernel
theorem dX7_compared_0 : decode cX7_compared 0 = .ok (.aload_n 0, 1) := by decide +kernel
theorem dX7_compared_1 : decode cX7_compared 1 = .ok (.invokevirtual 154, 3) := by decide +kernel
theorem dX7_compared_4 : decode cX7_compared 4 = .ok (.istore_n 1, 1) := by decide +kernel
theorem dX7_compared_5 : decode cX7_compared 5 = .ok (.aload_n 0, 1) := by decide +kernel
theorem dX7_compared_6 : decode cX7_compared 6 = .ok (.getfield 111, 3) := by decide +kernel
theorem dX7_compared_9 : decode cX7_compared 9 = .ok (.ifCond .eq 14, 3) := by decide +kernel
theorem dX7_compared_12 : decode cX7_compared 12 = .ok (.aload_n 0, 1) := by decide +kernel
theorem dX7_compared_13 : decode cX7_compared 13 = .ok (.aload_n 0, 1) := by decide +kernel
theorem dX7_compared_14 : decode cX7_compared 14 = .ok (.getfield 115, 3) := by decide +kernel
theorem dX7_compared_17 : decode cX7_compared 17 = .ok (.invokevirtual 118, 3) := by decide +kernel
theorem dX7_compared_20 : decode cX7_compared 20 = .ok (.goto 4, 3) := by decide +kernel
theorem dX7_compared_23 : decode cX7_compared 23 = .ok (.iconst (-1), 1) := by decide +kernel
theorem dX7_compared_24 : decode cX7_compared 24 = .ok (.istore_n 2, 1) := by decide +kernel
theorem dX7_compared_25 : decode cX7_compared 25 = .ok (.iload_n 2, 1) := by decide +kernel
theorem dX7_compared_26 : decode cX7_compared 26 = .ok (.bipush 60, 2) := by decide +kernel
theorem dX7_compared_28 : decode cX7_compared 28 = .ok (.if_icmp .eq 17, 3) := by decide +kernel
theorem dX7_compared_31 : decode cX7_compared 31 = .ok (.iload_n 2, 1) := by decide +kernel
theorem dX7_compared_32 : decode cX7_compared 32 = .ok (.bipush 61, 2) := by decide +kernel
theorem dX7_compared_34 : decode cX7_compared 34 = .ok (.if_icmp .eq 11, 3) := by decide +kernel
theorem dX7_compared_37 : decode cX7_compared 37 = .ok (.iload_n 2, 1) := by decide +kernel
theorem dX7_compared_38 : decode cX7_compared 38 = .ok (.bipush 62, 2) := by decide +kernel
theorem dX7_compared_40 : decode cX7_compared 40 = .ok (.if_icmp .eq 5, 3) := by decide +kernel
theorem dX7_compared_43 : decode cX7_compared 43 = .ok (.iload_n 1, 1) := by decide +kernel
theorem dX7_compared_44 : decode cX7_compared 44 = .ok (.ireturn, 1) := by decide +kernel
theorem dX7_compared_45 : decode cX7_compared 45 = .ok (.aload_n 0, 1) := by decide +kernel
theorem dX7_compared_46 : decode cX7_compared 46 = .ok (.dup, 1) := by decide +kernel
theorem dX7_compared_47 : decode cX7_compared 47 = .ok (.getfield 115, 3) := by decide +kernel
theorem dX7_compared_50 : decode cX7_compared 50 = .ok (.iconst 1, 1) := by decide +kernel
theorem dX7_compared_51 : decode cX7_compared 51 = .ok (.iadd, 1) := by decide +kernel
theorem dX7_compared_52 : decode cX7_compared 52 = .ok (.putfield 115, 3) := by decide +kernel
theorem dX7_compared_55 : decode cX7_compared 55 = .ok (.aload_n 0, 1) := by decide +kernel
theorem dX7_compared_56 : decode cX7_compared 56 = .ok (.invokevirtual 154, 3) := by decide +kernel
theorem dX7_compared_59 : decode cX7_compared 59 = .ok (.istore_n 3, 1) := by decide +kernel
theorem dX7_compared_60 : decode cX7_compared 60 = .ok (.iload_n 2, 1) := by decide +kernel
theorem dX7_compared_61 : decode cX7_compared 61 = .ok (.bipush 60, 2) := by decide +kernel
theorem dX7_compared_63 : decode cX7_compared 63 = .ok (.if_icmp .ne 16, 3) := by decide +kernel
theorem dX7_compared_66 : decode cX7_compared 66 = .ok (.iload_n 1, 1) := by decide +kernel
theorem dX7_compared_67 : decode cX7_compared 67 = .ok (.iload_n 3, 1) := by decide +kernel
theorem dX7_compared_68 : decode cX7_compared 68 = .ok (.if_icmp .ge 7, 3) := by decide +kernel
theorem dX7_compared_71 : decode cX7_compared 71 = .ok (.iconst 1, 1) := by decide +kernel
theorem dX7_compared_72 : decode cX7_compared 72 = .ok (.goto 36, 3) := by decide +kernel
theorem dX7_compared_75 : decode cX7_compared 75 = .ok (.iconst 0, 1) := by decide +kernel
theorem dX7_compared_76 : decode cX7_compared 76 = .ok (.goto 32, 3) := by decide +kernel
theorem dX7_compared_79 : decode cX7_compared 79 = .ok (.iload_n 2, 1) := by decide +kernel
theorem dX7_compared_80 : decode cX7_compared 80 = .ok (.bipush 61, 2) := by decide +kernel
theorem dX7_compared_82 : decode cX7_compared 82 = .ok (.if_icmp .ne 16, 3) := by decide +kernel
theorem dX7_compared_85 : decode cX7_compared 85 = .ok (.iload_n 1, 1) := by decide +kernel
theorem dX7_compared_86 : decode cX7_compared 86 = .ok (.iload_n 3, 1) := by decide +kernel
theorem dX7_compared_87 : decode cX7_compared 87 = .ok (.if_icmp .ne 7, 3) := by decide +kernel
theorem dX7_compared_90 : decode cX7_compared 90 = .ok (.iconst 1, 1) := by decide +kernel
theorem dX7_compared_91 : decode cX7_compared 91 = .ok (.goto 17, 3) := by decide +kernel
theorem dX7_compared_94 : decode cX7_compared 94 = .ok (.iconst 0, 1) := by decide +kernel
theorem dX7_compared_95 : decode cX7_compared 95 = .ok (.goto 13, 3) := by decide +kernel
theorem dX7_compared_98 : decode cX7_compared 98 = .ok (.iload_n 1, 1) := by decide +kernel
theorem dX7_compared_99 : decode cX7_compared 99 = .ok (.iload_n 3, 1) := by decide +kernel
theorem dX7_compared_100 : decode cX7_compared 100 = .ok (.if_icmp .le 7, 3) := by decide +kernel
theorem dX7_compared_103 : decode cX7_compared 103 = .ok (.iconst 1, 1) := by decide +kernel
theorem dX7_compared_104 : decode cX7_compared 104 = .ok (.goto 4, 3) := by decide +kernel
theorem dX7_compared_107 : decode cX7_compared 107 = .ok (.iconst 0, 1) := by decide +kernel
theorem dX7_compared_108 : decode cX7_compared 108 = .ok (.istore 4, 2) := by decide +kernel
theorem dX7_compared_110 : decode cX7_compared 110 = .ok (.iload 4, 2) := by decide +kernel
theorem dX7_compared_112 : decode cX7_compared 112 = .ok (.ifCond .eq 7, 3) := by decide +kernel
theorem dX7_compared_115 : decode cX7_compared 115 = .ok (.iconst 1, 1) := by decide +kernel
theorem dX7_compared_116 : decode cX7_compared 116 = .ok (.goto 4, 3) := by decide +kernel
theorem dX7_compared_119 : decode cX7_compared 119 = .ok (.iconst 0, 1) := by decide +kernel
theorem dX7_compared_120 : decode cX7_compared 120 = .ok (.ireturn, 1) := by decide +kernel
theorem dX7_both_0 : decode cX7_both 0 = .ok (.aload_n 0, 1) := by decide +kernel
theorem dX7_both_1 : decode cX7_both 1 = .ok (.invokevirtual 157, 3) := by decide +kernel
theorem dX7_both_4 : decode cX7_both 4 = .ok (.istore_n 1, 1) := by decide +kernel
theorem dX7_both_5 : decode cX7_both 5 = .ok (.aload_n 0, 1) := by decide +kernel
theorem dX7_both_6 : decode cX7_both 6 = .ok (.getfield 111, 3) := by decide +kernel
theorem dX7_both_9 : decode cX7_both 9 = .ok (.ifCond .eq 48, 3) := by decide +kernel
theorem dX7_both_12 : decode cX7_both 12 = .ok (.aload_n 0, 1) := by decide +kernel
theorem dX7_both_13 : decode cX7_both 13 = .ok (.aload_n 0, 1) := by decide +kernel
theorem dX7_both_14 : decode cX7_both 14 = .ok (.getfield 115, 3) := by decide +kernel
theorem dX7_both_17 : decode cX7_both 17 = .ok (.invokevirtual 118, 3) := by decide +kernel
theorem dX7_both_20 : decode cX7_both 20 = .ok (.bipush 38, 2) := by decide +kernel
theorem dX7_both_22 : decode cX7_both 22 = .ok (.if_icmp .ne 35, 3) := by decide +kernel
theorem dX7_both_25 : decode cX7_both 25 = .ok (.aload_n 0, 1) := by decide +kernel
theorem dX7_both_26 : decode cX7_both 26 = .ok (.dup, 1) := by decide +kernel
theorem dX7_both_27 : decode cX7_both 27 = .ok (.getfield 115, 3) := by decide +kernel
theorem dX7_both_30 : decode cX7_both 30 = .ok (.iconst 1, 1) := by decide +kernel
theorem dX7_both_31 : decode cX7_both 31 = .ok (.iadd, 1) := by decide +kernel
theorem dX7_both_32 : decode cX7_both 32 = .ok (.putfield 115, 3) := by decide +kernel
theorem dX7_both_35 : decode cX7_both 35 = .ok (.aload_n 0, 1) := by decide +kernel
theorem dX7_both_36 : decode cX7_both 36 = .ok (.invokevirtual 157, 3) := by decide +kernel
theorem dX7_both_39 : decode cX7_both 39 = .ok (.istore_n 2, 1) := by decide +kernel
theorem dX7_both_40 : decode cX7_both 40 = .ok (.iload_n 1, 1) := by decide +kernel
theorem dX7_both_41 : decode cX7_both 41 = .ok (.ifCond .eq 11, 3) := by decide +kernel
theorem dX7_both_44 : decode cX7_both 44 = .ok (.iload_n 2, 1) := by decide +kernel
theorem dX7_both_45 : decode cX7_both 45 = .ok (.ifCond .eq 7, 3) := by decide +kernel
theorem dX7_both_48 : decode cX7_both 48 = .ok (.iconst 1, 1) := by decide +kernel
theorem dX7_both_49 : decode cX7_both 49 = .ok (.goto 4, 3) := by decide +kernel
theorem dX7_both_52 : decode cX7_both 52 = .ok (.iconst 0, 1) := by decide +kernel
theorem dX7_both_53 : decode cX7_both 53 = .ok (.istore_n 1, 1) := by decide +kernel
theorem dX7_both_54 : decode cX7_both 54 = .ok (.goto (-49), 3) := by decide +kernel
theorem dX7_both_57 : decode cX7_both 57 = .ok (.iload_n 1, 1) := by decide +kernel
theorem dX7_both_58 : decode cX7_both 58 = .ok (.ireturn, 1) := by decide +kernel
theorem dX7_whole_0 : decode cX7_whole 0 = .ok (.aload_n 0, 1) := by decide +kernel
theorem dX7_whole_1 : decode cX7_whole 1 = .ok (.invokevirtual 160, 3) := by decide +kernel
theorem dX7_whole_4 : decode cX7_whole 4 = .ok (.istore_n 1, 1) := by decide +kernel
theorem dX7_whole_5 : decode cX7_whole 5 = .ok (.aload_n 0, 1) := by decide +kernel
theorem dX7_whole_6 : decode cX7_whole 6 = .ok (.getfield 111, 3) := by decide +kernel
theorem dX7_whole_9 : decode cX7_whole 9 = .ok (.ifCond .eq 48, 3) := by decide +kernel
theorem dX7_whole_12 : decode cX7_whole 12 = .ok (.aload_n 0, 1) := by decide +kernel
theorem dX7_whole_13 : decode cX7_whole 13 = .ok (.aload_n 0, 1) := by decide +kernel
theorem dX7_whole_14 : decode cX7_whole 14 = .ok (.getfield 115, 3) := by decide +kernel
theorem dX7_whole_17 : decode cX7_whole 17 = .ok (.invokevirtual 118, 3) := by decide +kernel
theorem dX7_whole_20 : decode cX7_whole 20 = .ok (.bipush 124, 2) := by decide +kernel
theorem dX7_whole_22 : decode cX7_whole 22 = .ok (.if_icmp .ne 35, 3) := by decide +kernel
theorem dX7_whole_25 : decode cX7_whole 25 = .ok (.aload_n 0, 1) := by decide +kernel
theorem dX7_whole_26 : decode cX7_whole 26 = .ok (.dup, 1) := by decide +kernel
theorem dX7_whole_27 : decode cX7_whole 27 = .ok (.getfield 115, 3) := by decide +kernel
theorem dX7_whole_30 : decode cX7_whole 30 = .ok (.iconst 1, 1) := by decide +kernel
theorem dX7_whole_31 : decode cX7_whole 31 = .ok (.iadd, 1) := by decide +kernel
theorem dX7_whole_32 : decode cX7_whole 32 = .ok (.putfield 115, 3) := by decide +kernel
theorem dX7_whole_35 : decode cX7_whole 35 = .ok (.aload_n 0, 1) := by decide +kernel
theorem dX7_whole_36 : decode cX7_whole 36 = .ok (.invokevirtual 160, 3) := by decide +kernel
theorem dX7_whole_39 : decode cX7_whole 39 = .ok (.istore_n 2, 1) := by decide +kernel
theorem dX7_whole_40 : decode cX7_whole 40 = .ok (.iload_n 1, 1) := by decide +kernel
theorem dX7_whole_41 : decode cX7_whole 41 = .ok (.ifCond .ne 7, 3) := by decide +kernel
theorem dX7_whole_44 : decode cX7_whole 44 = .ok (.iload_n 2, 1) := by decide +kernel
theorem dX7_whole_45 : decode cX7_whole 45 = .ok (.ifCond .eq 7, 3) := by decide +kernel
theorem dX7_whole_48 : decode cX7_whole 48 = .ok (.iconst 1, 1) := by decide +kernel
theorem dX7_whole_49 : decode cX7_whole 49 = .ok (.goto 4, 3) := by decide +kernel
theorem dX7_whole_52 : decode cX7_whole 52 = .ok (.iconst 0, 1) := by decide +kernel
theorem dX7_whole_53 : decode cX7_whole 53 = .ok (.istore_n 1, 1) := by decide +kernel
theorem dX7_whole_54 : decode cX7_whole 54 = .ok (.goto (-49), 3) := by decide +kernel
theorem dX7_whole_57 : decode cX7_whole 57 = .ok (.iload_n 1, 1) := by decide +kernel
theorem dX7_whole_58 : decode cX7_whole 58 = .ok (.ireturn, 1) := by decide +kernel
theorem dX7_walks_0 : decode cX7_walks 0 = .ok (.aload_n 0, 1) := by decide +kernel
theorem dX7_walks_1 : decode cX7_walks 1 = .ok (.iload_n 1, 1) := by decide +kernel
theorem dX7_walks_2 : decode cX7_walks 2 = .ok (.putfield 108, 3) := by decide +kernel
theorem dX7_walks_5 : decode cX7_walks 5 = .ok (.aload_n 0, 1) := by decide +kernel
theorem dX7_walks_6 : decode cX7_walks 6 = .ok (.iconst 0, 1) := by decide +kernel
theorem dX7_walks_7 : decode cX7_walks 7 = .ok (.putfield 115, 3) := by decide +kernel
theorem dX7_walks_10 : decode cX7_walks 10 = .ok (.aload_n 0, 1) := by decide +kernel
theorem dX7_walks_11 : decode cX7_walks 11 = .ok (.aload_n 0, 1) := by decide +kernel
theorem dX7_walks_12 : decode cX7_walks 12 = .ok (.getfield 7, 3) := by decide +kernel
theorem dX7_walks_15 : decode cX7_walks 15 = .ok (.bipush 6, 2) := by decide +kernel
theorem dX7_walks_17 : decode cX7_walks 17 = .ok (.iload_n 1, 1) := by decide +kernel
theorem dX7_walks_18 : decode cX7_walks 18 = .ok (.iadd, 1) := by decide +kernel
theorem dX7_walks_19 : decode cX7_walks 19 = .ok (.iaload, 1) := by decide +kernel
theorem dX7_walks_20 : decode cX7_walks 20 = .ok (.putfield 104, 3) := by decide +kernel
theorem dX7_walks_23 : decode cX7_walks 23 = .ok (.aload_n 0, 1) := by decide +kernel
theorem dX7_walks_24 : decode cX7_walks 24 = .ok (.iconst 0, 1) := by decide +kernel
theorem dX7_walks_25 : decode cX7_walks 25 = .ok (.putfield 142, 3) := by decide +kernel
theorem dX7_walks_28 : decode cX7_walks 28 = .ok (.aload_n 0, 1) := by decide +kernel
theorem dX7_walks_29 : decode cX7_walks 29 = .ok (.iconst 1, 1) := by decide +kernel
theorem dX7_walks_30 : decode cX7_walks 30 = .ok (.putfield 111, 3) := by decide +kernel
theorem dX7_walks_33 : decode cX7_walks 33 = .ok (.aload_n 0, 1) := by decide +kernel
theorem dX7_walks_34 : decode cX7_walks 34 = .ok (.iload_n 2, 1) := by decide +kernel
theorem dX7_walks_35 : decode cX7_walks 35 = .ok (.putfield 127, 3) := by decide +kernel
theorem dX7_walks_38 : decode cX7_walks 38 = .ok (.aload_n 0, 1) := by decide +kernel
theorem dX7_walks_39 : decode cX7_walks 39 = .ok (.iload_n 3, 1) := by decide +kernel
theorem dX7_walks_40 : decode cX7_walks 40 = .ok (.putfield 130, 3) := by decide +kernel
theorem dX7_walks_43 : decode cX7_walks 43 = .ok (.aload_n 0, 1) := by decide +kernel
theorem dX7_walks_44 : decode cX7_walks 44 = .ok (.iload 4, 2) := by decide +kernel
theorem dX7_walks_46 : decode cX7_walks 46 = .ok (.putfield 133, 3) := by decide +kernel
theorem dX7_walks_49 : decode cX7_walks 49 = .ok (.aload_n 0, 1) := by decide +kernel
theorem dX7_walks_50 : decode cX7_walks 50 = .ok (.invokevirtual 148, 3) := by decide +kernel
theorem dX7_walks_53 : decode cX7_walks 53 = .ok (.istore 5, 2) := by decide +kernel
theorem dX7_walks_55 : decode cX7_walks 55 = .ok (.aload_n 0, 1) := by decide +kernel
theorem dX7_walks_56 : decode cX7_walks 56 = .ok (.aload_n 0, 1) := by decide +kernel
theorem dX7_walks_57 : decode cX7_walks 57 = .ok (.getfield 111, 3) := by decide +kernel
theorem dX7_walks_60 : decode cX7_walks 60 = .ok (.ifCond .eq 18, 3) := by decide +kernel
theorem dX7_walks_63 : decode cX7_walks 63 = .ok (.aload_n 0, 1) := by decide +kernel
theorem dX7_walks_64 : decode cX7_walks 64 = .ok (.getfield 115, 3) := by decide +kernel
theorem dX7_walks_67 : decode cX7_walks 67 = .ok (.aload_n 0, 1) := by decide +kernel
theorem dX7_walks_68 : decode cX7_walks 68 = .ok (.getfield 104, 3) := by decide +kernel
theorem dX7_walks_71 : decode cX7_walks 71 = .ok (.if_icmp .ne 7, 3) := by decide +kernel
theorem dX7_walks_74 : decode cX7_walks 74 = .ok (.iconst 1, 1) := by decide +kernel
theorem dX7_walks_75 : decode cX7_walks 75 = .ok (.goto 4, 3) := by decide +kernel
theorem dX7_walks_78 : decode cX7_walks 78 = .ok (.iconst 0, 1) := by decide +kernel
theorem dX7_walks_79 : decode cX7_walks 79 = .ok (.putfield 111, 3) := by decide +kernel
theorem dX7_walks_82 : decode cX7_walks 82 = .ok (.iload 5, 2) := by decide +kernel
theorem dX7_walks_84 : decode cX7_walks 84 = .ok (.ireturn, 1) := by decide +kernel
theorem dX7_lawOf_0 : decode cX7_lawOf 0 = .ok (.aload_n 0, 1) := by decide +kernel
theorem dX7_lawOf_1 : decode cX7_lawOf 1 = .ok (.getfield 7, 3) := by decide +kernel
theorem dX7_lawOf_4 : decode cX7_lawOf 4 = .ok (.bipush 6, 2) := by decide +kernel
theorem dX7_lawOf_6 : decode cX7_lawOf 6 = .ok (.iload_n 1, 1) := by decide +kernel
theorem dX7_lawOf_7 : decode cX7_lawOf 7 = .ok (.iadd, 1) := by decide +kernel
theorem dX7_lawOf_8 : decode cX7_lawOf 8 = .ok (.iaload, 1) := by decide +kernel
theorem dX7_lawOf_9 : decode cX7_lawOf 9 = .ok (.ifCond .ge 38, 3) := by decide +kernel
theorem dX7_lawOf_12 : decode cX7_lawOf 12 = .ok (.iload_n 1, 1) := by decide +kernel
theorem dX7_lawOf_13 : decode cX7_lawOf 13 = .ok (.ifCond .ne 10, 3) := by decide +kernel
theorem dX7_lawOf_16 : decode cX7_lawOf 16 = .ok (.iload_n 2, 1) := by decide +kernel
theorem dX7_lawOf_17 : decode cX7_lawOf 17 = .ok (.bipush 10, 2) := by decide +kernel
theorem dX7_lawOf_19 : decode cX7_lawOf 19 = .ok (.idiv, 1) := by decide +kernel
theorem dX7_lawOf_20 : decode cX7_lawOf 20 = .ok (.goto 26, 3) := by decide +kernel
theorem dX7_lawOf_23 : decode cX7_lawOf 23 = .ok (.iload_n 2, 1) := by decide +kernel
theorem dX7_lawOf_24 : decode cX7_lawOf 24 = .ok (.iload_n 3, 1) := by decide +kernel
theorem dX7_lawOf_25 : decode cX7_lawOf 25 = .ok (.if_icmp .le 7, 3) := by decide +kernel
theorem dX7_lawOf_28 : decode cX7_lawOf 28 = .ok (.iconst 1, 1) := by decide +kernel
theorem dX7_lawOf_29 : decode cX7_lawOf 29 = .ok (.goto 4, 3) := by decide +kernel
theorem dX7_lawOf_32 : decode cX7_lawOf 32 = .ok (.iconst 0, 1) := by decide +kernel
theorem dX7_lawOf_33 : decode cX7_lawOf 33 = .ok (.iload_n 2, 1) := by decide +kernel
theorem dX7_lawOf_34 : decode cX7_lawOf 34 = .ok (.iload_n 3, 1) := by decide +kernel
theorem dX7_lawOf_35 : decode cX7_lawOf 35 = .ok (.isub, 1) := by decide +kernel
theorem dX7_lawOf_36 : decode cX7_lawOf 36 = .ok (.imul, 1) := by decide +kernel
theorem dX7_lawOf_37 : decode cX7_lawOf 37 = .ok (.bipush 9, 2) := by decide +kernel
theorem dX7_lawOf_39 : decode cX7_lawOf 39 = .ok (.irem, 1) := by decide +kernel
theorem dX7_lawOf_40 : decode cX7_lawOf 40 = .ok (.iconst 0, 1) := by decide +kernel
theorem dX7_lawOf_41 : decode cX7_lawOf 41 = .ok (.bipush 99, 2) := by decide +kernel
theorem dX7_lawOf_43 : decode cX7_lawOf 43 = .ok (.invokestatic 63, 3) := by decide +kernel
theorem dX7_lawOf_46 : decode cX7_lawOf 46 = .ok (.ireturn, 1) := by decide +kernel
theorem dX7_lawOf_47 : decode cX7_lawOf 47 = .ok (.aload_n 0, 1) := by decide +kernel
theorem dX7_lawOf_48 : decode cX7_lawOf 48 = .ok (.iload_n 1, 1) := by decide +kernel
theorem dX7_lawOf_49 : decode cX7_lawOf 49 = .ok (.iload_n 2, 1) := by decide +kernel
theorem dX7_lawOf_50 : decode cX7_lawOf 50 = .ok (.iload_n 3, 1) := by decide +kernel
theorem dX7_lawOf_51 : decode cX7_lawOf 51 = .ok (.iload 4, 2) := by decide +kernel
theorem dX7_lawOf_53 : decode cX7_lawOf 53 = .ok (.invokevirtual 163, 3) := by decide +kernel
theorem dX7_lawOf_56 : decode cX7_lawOf 56 = .ok (.istore 5, 2) := by decide +kernel
theorem dX7_lawOf_58 : decode cX7_lawOf 58 = .ok (.iload_n 1, 1) := by decide +kernel
theorem dX7_lawOf_59 : decode cX7_lawOf 59 = .ok (.ifCond .ne 8, 3) := by decide +kernel
theorem dX7_lawOf_62 : decode cX7_lawOf 62 = .ok (.iload 5, 2) := by decide +kernel
theorem dX7_lawOf_64 : decode cX7_lawOf 64 = .ok (.goto 11, 3) := by decide +kernel
theorem dX7_lawOf_67 : decode cX7_lawOf 67 = .ok (.iload 5, 2) := by decide +kernel
theorem dX7_lawOf_69 : decode cX7_lawOf 69 = .ok (.iconst 0, 1) := by decide +kernel
theorem dX7_lawOf_70 : decode cX7_lawOf 70 = .ok (.bipush 99, 2) := by decide +kernel
theorem dX7_lawOf_72 : decode cX7_lawOf 72 = .ok (.invokestatic 63, 3) := by decide +kernel
theorem dX7_lawOf_75 : decode cX7_lawOf 75 = .ok (.ireturn, 1) := by decide +kernel
theorem dX7_law_0 : decode cX7_law 0 = .ok (.iload_n 1, 1) := by decide +kernel
theorem dX7_law_1 : decode cX7_law 1 = .ok (.iconst 0, 1) := by decide +kernel
theorem dX7_law_2 : decode cX7_law 2 = .ok (.iconst 1, 1) := by decide +kernel
theorem dX7_law_3 : decode cX7_law 3 = .ok (.invokestatic 41, 3) := by decide +kernel
theorem dX7_law_6 : decode cX7_law 6 = .ok (.ifCond .eq 15, 3) := by decide +kernel
theorem dX7_law_9 : decode cX7_law 9 = .ok (.aload_n 0, 1) := by decide +kernel
theorem dX7_law_10 : decode cX7_law 10 = .ok (.iload_n 1, 1) := by decide +kernel
theorem dX7_law_11 : decode cX7_law 11 = .ok (.iload_n 2, 1) := by decide +kernel
theorem dX7_law_12 : decode cX7_law 12 = .ok (.iload_n 3, 1) := by decide +kernel
theorem dX7_law_13 : decode cX7_law 13 = .ok (.iload 4, 2) := by decide +kernel
theorem dX7_law_15 : decode cX7_law 15 = .ok (.invokevirtual 73, 3) := by decide +kernel
theorem dX7_law_18 : decode cX7_law 18 = .ok (.goto 9, 3) := by decide +kernel
theorem dX7_law_21 : decode cX7_law 21 = .ok (.aload_n 0, 1) := by decide +kernel
theorem dX7_law_22 : decode cX7_law 22 = .ok (.ldc 53, 2) := by decide +kernel
theorem dX7_law_24 : decode cX7_law 24 = .ok (.invokevirtual 54, 3) := by decide +kernel
theorem dX7_law_27 : decode cX7_law 27 = .ok (.ireturn, 1) := by decide +kernel
theorem dX7_feed_0 : decode cX7_feed 0 = .ok (.iload_n 3, 1) := by decide +kernel
theorem dX7_feed_1 : decode cX7_feed 1 = .ok (.iconst 1, 1) := by decide +kernel
theorem dX7_feed_2 : decode cX7_feed 2 = .ok (.bipush 8, 2) := by decide +kernel
theorem dX7_feed_4 : decode cX7_feed 4 = .ok (.invokestatic 41, 3) := by decide +kernel
theorem dX7_feed_7 : decode cX7_feed 7 = .ok (.ifCond .ne 10, 3) := by decide +kernel
theorem dX7_feed_10 : decode cX7_feed 10 = .ok (.aload_n 0, 1) := by decide +kernel
theorem dX7_feed_11 : decode cX7_feed 11 = .ok (.ldc 53, 2) := by decide +kernel
theorem dX7_feed_13 : decode cX7_feed 13 = .ok (.invokevirtual 54, 3) := by decide +kernel
theorem dX7_feed_16 : decode cX7_feed 16 = .ok (.ireturn, 1) := by decide +kernel
theorem dX7_feed_17 : decode cX7_feed 17 = .ok (.aload_n 0, 1) := by decide +kernel
theorem dX7_feed_18 : decode cX7_feed 18 = .ok (.getfield 7, 3) := by decide +kernel
theorem dX7_feed_21 : decode cX7_feed 21 = .ok (.iconst 4, 1) := by decide +kernel
theorem dX7_feed_22 : decode cX7_feed 22 = .ok (.iaload, 1) := by decide +kernel
theorem dX7_feed_23 : decode cX7_feed 23 = .ok (.iload_n 3, 1) := by decide +kernel
theorem dX7_feed_24 : decode cX7_feed 24 = .ok (.iadd, 1) := by decide +kernel
theorem dX7_feed_25 : decode cX7_feed 25 = .ok (.bipush 50, 2) := by decide +kernel
theorem dX7_feed_27 : decode cX7_feed 27 = .ok (.if_icmp .le 10, 3) := by decide +kernel
theorem dX7_feed_30 : decode cX7_feed 30 = .ok (.aload_n 0, 1) := by decide +kernel
theorem dX7_feed_31 : decode cX7_feed 31 = .ok (.ldc 58, 2) := by decide +kernel
theorem dX7_feed_33 : decode cX7_feed 33 = .ok (.invokevirtual 54, 3) := by decide +kernel
theorem dX7_feed_36 : decode cX7_feed 36 = .ok (.ireturn, 1) := by decide +kernel
theorem dX7_feed_37 : decode cX7_feed 37 = .ok (.iconst 0, 1) := by decide +kernel
theorem dX7_feed_38 : decode cX7_feed 38 = .ok (.istore 4, 2) := by decide +kernel
theorem dX7_feed_40 : decode cX7_feed 40 = .ok (.iload 4, 2) := by decide +kernel
theorem dX7_feed_42 : decode cX7_feed 42 = .ok (.iload_n 3, 1) := by decide +kernel
theorem dX7_feed_43 : decode cX7_feed 43 = .ok (.if_icmp .ge 45, 3) := by decide +kernel
theorem dX7_feed_46 : decode cX7_feed 46 = .ok (.aload_n 0, 1) := by decide +kernel
theorem dX7_feed_47 : decode cX7_feed 47 = .ok (.getfield 7, 3) := by decide +kernel
theorem dX7_feed_50 : decode cX7_feed 50 = .ok (.bipush 92, 2) := by decide +kernel
theorem dX7_feed_52 : decode cX7_feed 52 = .ok (.aload_n 0, 1) := by decide +kernel
theorem dX7_feed_53 : decode cX7_feed 53 = .ok (.getfield 7, 3) := by decide +kernel
theorem dX7_feed_56 : decode cX7_feed 56 = .ok (.iconst 4, 1) := by decide +kernel
theorem dX7_feed_57 : decode cX7_feed 57 = .ok (.iaload, 1) := by decide +kernel
theorem dX7_feed_58 : decode cX7_feed 58 = .ok (.iadd, 1) := by decide +kernel
theorem dX7_feed_59 : decode cX7_feed 59 = .ok (.lload_n 1, 1) := by decide +kernel
theorem dX7_feed_60 : decode cX7_feed 60 = .ok (.bipush 8, 2) := by decide +kernel
theorem dX7_feed_62 : decode cX7_feed 62 = .ok (.iload 4, 2) := by decide +kernel
theorem dX7_feed_64 : decode cX7_feed 64 = .ok (.imul, 1) := by decide +kernel
theorem dX7_feed_65 : decode cX7_feed 65 = .ok (.lshr, 1) := by decide +kernel
theorem dX7_feed_66 : decode cX7_feed 66 = .ok (.ldc2_w 166, 3) := by decide +kernel
theorem dX7_feed_69 : decode cX7_feed 69 = .ok (.land, 1) := by decide +kernel
theorem dX7_feed_70 : decode cX7_feed 70 = .ok (.l2i, 1) := by decide +kernel
theorem dX7_feed_71 : decode cX7_feed 71 = .ok (.iastore, 1) := by decide +kernel
theorem dX7_feed_72 : decode cX7_feed 72 = .ok (.aload_n 0, 1) := by decide +kernel
theorem dX7_feed_73 : decode cX7_feed 73 = .ok (.getfield 7, 3) := by decide +kernel
theorem dX7_feed_76 : decode cX7_feed 76 = .ok (.iconst 4, 1) := by decide +kernel
theorem dX7_feed_77 : decode cX7_feed 77 = .ok (.dup2, 1) := by decide +kernel
theorem dX7_feed_78 : decode cX7_feed 78 = .ok (.iaload, 1) := by decide +kernel
theorem dX7_feed_79 : decode cX7_feed 79 = .ok (.iconst 1, 1) := by decide +kernel
theorem dX7_feed_80 : decode cX7_feed 80 = .ok (.iadd, 1) := by decide +kernel
theorem dX7_feed_81 : decode cX7_feed 81 = .ok (.iastore, 1) := by decide +kernel
theorem dX7_feed_82 : decode cX7_feed 82 = .ok (.iinc 4 1, 3) := by decide +kernel
theorem dX7_feed_85 : decode cX7_feed 85 = .ok (.goto (-45), 3) := by decide +kernel
theorem dX7_feed_88 : decode cX7_feed 88 = .ok (.aload_n 0, 1) := by decide +kernel
theorem dX7_feed_89 : decode cX7_feed 89 = .ok (.getfield 7, 3) := by decide +kernel
theorem dX7_feed_92 : decode cX7_feed 92 = .ok (.iconst 4, 1) := by decide +kernel
theorem dX7_feed_93 : decode cX7_feed 93 = .ok (.iaload, 1) := by decide +kernel
theorem dX7_feed_94 : decode cX7_feed 94 = .ok (.ireturn, 1) := by decide +kernel
theorem dX7_text_0 : decode cX7_text 0 = .ok (.iload_n 1, 1) := by decide +kernel
theorem dX7_text_1 : decode cX7_text 1 = .ok (.iconst 0, 1) := by decide +kernel
theorem dX7_text_2 : decode cX7_text 2 = .ok (.iconst 1, 1) := by decide +kernel
theorem dX7_text_3 : decode cX7_text 3 = .ok (.invokestatic 41, 3) := by decide +kernel
theorem dX7_text_6 : decode cX7_text 6 = .ok (.ifCond .ne 10, 3) := by decide +kernel
theorem dX7_text_9 : decode cX7_text 9 = .ok (.aload_n 0, 1) := by decide +kernel
theorem dX7_text_10 : decode cX7_text 10 = .ok (.ldc 53, 2) := by decide +kernel
theorem dX7_text_12 : decode cX7_text 12 = .ok (.invokevirtual 54, 3) := by decide +kernel
theorem dX7_text_15 : decode cX7_text 15 = .ok (.ireturn, 1) := by decide +kernel
theorem dX7_text_16 : decode cX7_text 16 = .ok (.aload_n 0, 1) := by decide +kernel
theorem dX7_text_17 : decode cX7_text 17 = .ok (.aload_n 0, 1) := by decide +kernel
theorem dX7_text_18 : decode cX7_text 18 = .ok (.getfield 7, 3) := by decide +kernel
theorem dX7_text_21 : decode cX7_text 21 = .ok (.aload_n 0, 1) := by decide +kernel
theorem dX7_text_22 : decode cX7_text 22 = .ok (.getfield 19, 3) := by decide +kernel
theorem dX7_text_25 : decode cX7_text 25 = .ok (.invokevirtual 168, 3) := by decide +kernel
theorem dX7_text_28 : decode cX7_text 28 = .ok (.iconst 0, 1) := by decide +kernel
theorem dX7_text_29 : decode cX7_text 29 = .ok (.istore_n 2, 1) := by decide +kernel
theorem dX7_text_30 : decode cX7_text 30 = .ok (.iload_n 2, 1) := by decide +kernel
theorem dX7_text_31 : decode cX7_text 31 = .ok (.bipush 50, 2) := by decide +kernel
theorem dX7_text_33 : decode cX7_text 33 = .ok (.if_icmp .ge 33, 3) := by decide +kernel
theorem dX7_text_36 : decode cX7_text 36 = .ok (.aload_n 0, 1) := by decide +kernel
theorem dX7_text_37 : decode cX7_text 37 = .ok (.getfield 7, 3) := by decide +kernel
theorem dX7_text_40 : decode cX7_text 40 = .ok (.sipush 162, 3) := by decide +kernel
theorem dX7_text_43 : decode cX7_text 43 = .ok (.bipush 50, 2) := by decide +kernel
theorem dX7_text_45 : decode cX7_text 45 = .ok (.iload_n 1, 1) := by decide +kernel
theorem dX7_text_46 : decode cX7_text 46 = .ok (.imul, 1) := by decide +kernel
theorem dX7_text_47 : decode cX7_text 47 = .ok (.iadd, 1) := by decide +kernel
theorem dX7_text_48 : decode cX7_text 48 = .ok (.iload_n 2, 1) := by decide +kernel
theorem dX7_text_49 : decode cX7_text 49 = .ok (.iadd, 1) := by decide +kernel
theorem dX7_text_50 : decode cX7_text 50 = .ok (.aload_n 0, 1) := by decide +kernel
theorem dX7_text_51 : decode cX7_text 51 = .ok (.getfield 7, 3) := by decide +kernel
theorem dX7_text_54 : decode cX7_text 54 = .ok (.bipush 92, 2) := by decide +kernel
theorem dX7_text_56 : decode cX7_text 56 = .ok (.iload_n 2, 1) := by decide +kernel
theorem dX7_text_57 : decode cX7_text 57 = .ok (.iadd, 1) := by decide +kernel
theorem dX7_text_58 : decode cX7_text 58 = .ok (.iaload, 1) := by decide +kernel
theorem dX7_text_59 : decode cX7_text 59 = .ok (.iastore, 1) := by decide +kernel
theorem dX7_text_60 : decode cX7_text 60 = .ok (.iinc 2 1, 3) := by decide +kernel
theorem dX7_text_63 : decode cX7_text 63 = .ok (.goto (-33), 3) := by decide +kernel
theorem dX7_text_66 : decode cX7_text 66 = .ok (.aload_n 0, 1) := by decide +kernel
theorem dX7_text_67 : decode cX7_text 67 = .ok (.getfield 7, 3) := by decide +kernel
theorem dX7_text_70 : decode cX7_text 70 = .ok (.bipush 6, 2) := by decide +kernel
theorem dX7_text_72 : decode cX7_text 72 = .ok (.iload_n 1, 1) := by decide +kernel
theorem dX7_text_73 : decode cX7_text 73 = .ok (.iadd, 1) := by decide +kernel
theorem dX7_text_74 : decode cX7_text 74 = .ok (.aload_n 0, 1) := by decide +kernel
theorem dX7_text_75 : decode cX7_text 75 = .ok (.getfield 7, 3) := by decide +kernel
theorem dX7_text_78 : decode cX7_text 78 = .ok (.iconst 4, 1) := by decide +kernel
theorem dX7_text_79 : decode cX7_text 79 = .ok (.iaload, 1) := by decide +kernel
theorem dX7_text_80 : decode cX7_text 80 = .ok (.iastore, 1) := by decide +kernel
theorem dX7_text_81 : decode cX7_text 81 = .ok (.aload_n 0, 1) := by decide +kernel
theorem dX7_text_82 : decode cX7_text 82 = .ok (.iload_n 1, 1) := by decide +kernel
theorem dX7_text_83 : decode cX7_text 83 = .ok (.iconst 1, 1) := by decide +kernel
theorem dX7_text_84 : decode cX7_text 84 = .ok (.iconst 1, 1) := by decide +kernel
theorem dX7_text_85 : decode cX7_text 85 = .ok (.iconst 1, 1) := by decide +kernel
theorem dX7_text_86 : decode cX7_text 86 = .ok (.invokevirtual 163, 3) := by decide +kernel
theorem dX7_text_89 : decode cX7_text 89 = .ok (.istore_n 2, 1) := by decide +kernel
theorem dX7_text_90 : decode cX7_text 90 = .ok (.aload_n 0, 1) := by decide +kernel
theorem dX7_text_91 : decode cX7_text 91 = .ok (.getfield 111, 3) := by decide +kernel
theorem dX7_text_94 : decode cX7_text 94 = .ok (.ifCond .eq 12, 3) := by decide +kernel
theorem dX7_text_97 : decode cX7_text 97 = .ok (.iload_n 2, 1) := by decide +kernel
theorem dX7_text_98 : decode cX7_text 98 = .ok (.iload_n 2, 1) := by decide +kernel
theorem dX7_text_99 : decode cX7_text 99 = .ok (.if_icmp .ne 7, 3) := by decide +kernel
theorem dX7_text_102 : decode cX7_text 102 = .ok (.iconst 1, 1) := by decide +kernel
theorem dX7_text_103 : decode cX7_text 103 = .ok (.goto 4, 3) := by decide +kernel
theorem dX7_text_106 : decode cX7_text 106 = .ok (.iconst 0, 1) := by decide +kernel
theorem dX7_text_107 : decode cX7_text 107 = .ok (.istore_n 3, 1) := by decide +kernel
theorem dX7_text_108 : decode cX7_text 108 = .ok (.aload_n 0, 1) := by decide +kernel
theorem dX7_text_109 : decode cX7_text 109 = .ok (.getfield 115, 3) := by decide +kernel
theorem dX7_text_112 : decode cX7_text 112 = .ok (.istore 4, 2) := by decide +kernel
theorem dX7_text_114 : decode cX7_text 114 = .ok (.iload_n 3, 1) := by decide +kernel
theorem dX7_text_115 : decode cX7_text 115 = .ok (.ifCond .ne 15, 3) := by decide +kernel
theorem dX7_text_118 : decode cX7_text 118 = .ok (.aload_n 0, 1) := by decide +kernel
theorem dX7_text_119 : decode cX7_text 119 = .ok (.aload_n 0, 1) := by decide +kernel
theorem dX7_text_120 : decode cX7_text 120 = .ok (.getfield 19, 3) := by decide +kernel
theorem dX7_text_123 : decode cX7_text 123 = .ok (.aload_n 0, 1) := by decide +kernel
theorem dX7_text_124 : decode cX7_text 124 = .ok (.getfield 7, 3) := by decide +kernel
theorem dX7_text_127 : decode cX7_text 127 = .ok (.invokevirtual 168, 3) := by decide +kernel
theorem dX7_text_130 : decode cX7_text 130 = .ok (.aload_n 0, 1) := by decide +kernel
theorem dX7_text_131 : decode cX7_text 131 = .ok (.getfield 7, 3) := by decide +kernel
theorem dX7_text_134 : decode cX7_text 134 = .ok (.iconst 4, 1) := by decide +kernel
theorem dX7_text_135 : decode cX7_text 135 = .ok (.iconst 0, 1) := by decide +kernel
theorem dX7_text_136 : decode cX7_text 136 = .ok (.iastore, 1) := by decide +kernel
theorem dX7_text_137 : decode cX7_text 137 = .ok (.iload_n 3, 1) := by decide +kernel
theorem dX7_text_138 : decode cX7_text 138 = .ok (.ifCond .eq 7, 3) := by decide +kernel
theorem dX7_text_141 : decode cX7_text 141 = .ok (.iconst 1, 1) := by decide +kernel
theorem dX7_text_142 : decode cX7_text 142 = .ok (.goto 8, 3) := by decide +kernel
theorem dX7_text_145 : decode cX7_text 145 = .ok (.bipush (-10), 2) := by decide +kernel
theorem dX7_text_147 : decode cX7_text 147 = .ok (.iload 4, 2) := by decide +kernel
theorem dX7_text_149 : decode cX7_text 149 = .ok (.isub, 1) := by decide +kernel
theorem dX7_text_150 : decode cX7_text 150 = .ok (.ireturn, 1) := by decide +kernel
theorem dX7_rain_0 : decode cX7_rain 0 = .ok (.aload_n 0, 1) := by decide +kernel
theorem dX7_rain_1 : decode cX7_rain 1 = .ok (.iload_n 1, 1) := by decide +kernel
theorem dX7_rain_2 : decode cX7_rain 2 = .ok (.iload_n 2, 1) := by decide +kernel
theorem dX7_rain_3 : decode cX7_rain 3 = .ok (.invokevirtual 96, 3) := by decide +kernel
theorem dX7_rain_6 : decode cX7_rain 6 = .ok (.istore_n 3, 1) := by decide +kernel
theorem dX7_rain_7 : decode cX7_rain 7 = .ok (.aload_n 0, 1) := by decide +kernel
theorem dX7_rain_8 : decode cX7_rain 8 = .ok (.iload_n 1, 1) := by decide +kernel
theorem dX7_rain_9 : decode cX7_rain 9 = .ok (.iconst 3, 1) := by decide +kernel
theorem dX7_rain_10 : decode cX7_rain 10 = .ok (.aload_n 0, 1) := by decide +kernel
theorem dX7_rain_11 : decode cX7_rain 11 = .ok (.iload_n 1, 1) := by decide +kernel
theorem dX7_rain_12 : decode cX7_rain 12 = .ok (.iconst 3, 1) := by decide +kernel
theorem dX7_rain_13 : decode cX7_rain 13 = .ok (.invokevirtual 45, 3) := by decide +kernel
theorem dX7_rain_16 : decode cX7_rain 16 = .ok (.iload_n 3, 1) := by decide +kernel
theorem dX7_rain_17 : decode cX7_rain 17 = .ok (.isub, 1) := by decide +kernel
theorem dX7_rain_18 : decode cX7_rain 18 = .ok (.invokevirtual 59, 3) := by decide +kernel
theorem dX7_rain_21 : decode cX7_rain 21 = .ok (.aload_n 0, 1) := by decide +kernel
theorem dX7_rain_22 : decode cX7_rain 22 = .ok (.getfield 7, 3) := by decide +kernel
theorem dX7_rain_25 : decode cX7_rain 25 = .ok (.iconst 2, 1) := by decide +kernel
theorem dX7_rain_26 : decode cX7_rain 26 = .ok (.aload_n 0, 1) := by decide +kernel
theorem dX7_rain_27 : decode cX7_rain 27 = .ok (.getfield 7, 3) := by decide +kernel
theorem dX7_rain_30 : decode cX7_rain 30 = .ok (.iconst 2, 1) := by decide +kernel
theorem dX7_rain_31 : decode cX7_rain 31 = .ok (.iaload, 1) := by decide +kernel
theorem dX7_rain_32 : decode cX7_rain 32 = .ok (.iload_n 3, 1) := by decide +kernel
theorem dX7_rain_33 : decode cX7_rain 33 = .ok (.iadd, 1) := by decide +kernel
theorem dX7_rain_34 : decode cX7_rain 34 = .ok (.iconst 0, 1) := by decide +kernel
theorem dX7_rain_35 : decode cX7_rain 35 = .ok (.ldc 172, 2) := by decide +kernel
theorem dX7_rain_37 : decode cX7_rain 37 = .ok (.invokestatic 63, 3) := by decide +kernel
theorem dX7_rain_40 : decode cX7_rain 40 = .ok (.iastore, 1) := by decide +kernel
theorem dX7_rain_41 : decode cX7_rain 41 = .ok (.iconst 0, 1) := by decide +kernel
theorem dX7_rain_42 : decode cX7_rain 42 = .ok (.istore 4, 2) := by decide +kernel
theorem dX7_rain_44 : decode cX7_rain 44 = .ok (.iload 4, 2) := by decide +kernel
theorem dX7_rain_46 : decode cX7_rain 46 = .ok (.iconst 3, 1) := by decide +kernel
theorem dX7_rain_47 : decode cX7_rain 47 = .ok (.if_icmp .ge 56, 3) := by decide +kernel
theorem dX7_rain_50 : decode cX7_rain 50 = .ok (.iload_n 3, 1) := by decide +kernel
theorem dX7_rain_51 : decode cX7_rain 51 = .ok (.ifCond .le 52, 3) := by decide +kernel
theorem dX7_rain_54 : decode cX7_rain 54 = .ok (.aload_n 0, 1) := by decide +kernel
theorem dX7_rain_55 : decode cX7_rain 55 = .ok (.iload_n 1, 1) := by decide +kernel
theorem dX7_rain_56 : decode cX7_rain 56 = .ok (.iconst 4, 1) := by decide +kernel
theorem dX7_rain_57 : decode cX7_rain 57 = .ok (.iload 4, 2) := by decide +kernel
theorem dX7_rain_59 : decode cX7_rain 59 = .ok (.iadd, 1) := by decide +kernel
theorem dX7_rain_60 : decode cX7_rain 60 = .ok (.invokevirtual 45, 3) := by decide +kernel
theorem dX7_rain_63 : decode cX7_rain 63 = .ok (.istore 5, 2) := by decide +kernel
theorem dX7_rain_65 : decode cX7_rain 65 = .ok (.aload_n 0, 1) := by decide +kernel
theorem dX7_rain_66 : decode cX7_rain 66 = .ok (.iload_n 1, 1) := by decide +kernel
theorem dX7_rain_67 : decode cX7_rain 67 = .ok (.iconst 4, 1) := by decide +kernel
theorem dX7_rain_68 : decode cX7_rain 68 = .ok (.iload 4, 2) := by decide +kernel
theorem dX7_rain_70 : decode cX7_rain 70 = .ok (.iadd, 1) := by decide +kernel
theorem dX7_rain_71 : decode cX7_rain 71 = .ok (.aload_n 0, 1) := by decide +kernel
theorem dX7_rain_72 : decode cX7_rain 72 = .ok (.iload_n 1, 1) := by decide +kernel
theorem dX7_rain_73 : decode cX7_rain 73 = .ok (.iload 4, 2) := by decide +kernel
theorem dX7_rain_75 : decode cX7_rain 75 = .ok (.invokevirtual 173, 3) := by decide +kernel
theorem dX7_rain_78 : decode cX7_rain 78 = .ok (.ifCond .eq 8, 3) := by decide +kernel
theorem dX7_rain_81 : decode cX7_rain 81 = .ok (.iload 5, 2) := by decide +kernel
theorem dX7_rain_83 : decode cX7_rain 83 = .ok (.goto 11, 3) := by decide +kernel
theorem dX7_rain_86 : decode cX7_rain 86 = .ok (.iload 5, 2) := by decide +kernel
theorem dX7_rain_88 : decode cX7_rain 88 = .ok (.iload 5, 2) := by decide +kernel
theorem dX7_rain_90 : decode cX7_rain 90 = .ok (.bipush 10, 2) := by decide +kernel
theorem dX7_rain_92 : decode cX7_rain 92 = .ok (.idiv, 1) := by decide +kernel
theorem dX7_rain_93 : decode cX7_rain 93 = .ok (.isub, 1) := by decide +kernel
theorem dX7_rain_94 : decode cX7_rain 94 = .ok (.invokevirtual 59, 3) := by decide +kernel
theorem dX7_rain_97 : decode cX7_rain 97 = .ok (.iinc 4 1, 3) := by decide +kernel
theorem dX7_rain_100 : decode cX7_rain 100 = .ok (.goto (-56), 3) := by decide +kernel
theorem dX7_rain_103 : decode cX7_rain 103 = .ok (.return_, 1) := by decide +kernel
theorem dX7_passes_0 : decode cX7_passes 0 = .ok (.aload_n 0, 1) := by decide +kernel
theorem dX7_passes_1 : decode cX7_passes 1 = .ok (.iload_n 1, 1) := by decide +kernel
theorem dX7_passes_2 : decode cX7_passes 2 = .ok (.iconst 2, 1) := by decide +kernel
theorem dX7_passes_3 : decode cX7_passes 3 = .ok (.aload_n 0, 1) := by decide +kernel
theorem dX7_passes_4 : decode cX7_passes 4 = .ok (.iload_n 1, 1) := by decide +kernel
theorem dX7_passes_5 : decode cX7_passes 5 = .ok (.iconst 2, 1) := by decide +kernel
theorem dX7_passes_6 : decode cX7_passes 6 = .ok (.invokevirtual 45, 3) := by decide +kernel
theorem dX7_passes_9 : decode cX7_passes 9 = .ok (.aload_n 0, 1) := by decide +kernel
theorem dX7_passes_10 : decode cX7_passes 10 = .ok (.iload_n 1, 1) := by decide +kernel
theorem dX7_passes_11 : decode cX7_passes 11 = .ok (.iload_n 2, 1) := by decide +kernel
theorem dX7_passes_12 : decode cX7_passes 12 = .ok (.invokevirtual 90, 3) := by decide +kernel
theorem dX7_passes_15 : decode cX7_passes 15 = .ok (.iadd, 1) := by decide +kernel
theorem dX7_passes_16 : decode cX7_passes 16 = .ok (.bipush 24, 2) := by decide +kernel
theorem dX7_passes_18 : decode cX7_passes 18 = .ok (.iadd, 1) := by decide +kernel
theorem dX7_passes_19 : decode cX7_passes 19 = .ok (.bipush 12, 2) := by decide +kernel
theorem dX7_passes_21 : decode cX7_passes 21 = .ok (.irem, 1) := by decide +kernel
theorem dX7_passes_22 : decode cX7_passes 22 = .ok (.invokevirtual 59, 3) := by decide +kernel
theorem dX7_passes_25 : decode cX7_passes 25 = .ok (.aload_n 0, 1) := by decide +kernel
theorem dX7_passes_26 : decode cX7_passes 26 = .ok (.iload_n 1, 1) := by decide +kernel
theorem dX7_passes_27 : decode cX7_passes 27 = .ok (.invokevirtual 93, 3) := by decide +kernel
theorem dX7_passes_30 : decode cX7_passes 30 = .ok (.ifCond .le 16, 3) := by decide +kernel
theorem dX7_passes_33 : decode cX7_passes 33 = .ok (.aload_n 0, 1) := by decide +kernel
theorem dX7_passes_34 : decode cX7_passes 34 = .ok (.iload_n 1, 1) := by decide +kernel
theorem dX7_passes_35 : decode cX7_passes 35 = .ok (.aload_n 0, 1) := by decide +kernel
theorem dX7_passes_36 : decode cX7_passes 36 = .ok (.iload_n 1, 1) := by decide +kernel
theorem dX7_passes_37 : decode cX7_passes 37 = .ok (.invokevirtual 93, 3) := by decide +kernel
theorem dX7_passes_40 : decode cX7_passes 40 = .ok (.invokevirtual 177, 3) := by decide +kernel
theorem dX7_passes_43 : decode cX7_passes 43 = .ok (.goto 35, 3) := by decide +kernel
theorem dX7_passes_46 : decode cX7_passes 46 = .ok (.aload_n 0, 1) := by decide +kernel
theorem dX7_passes_47 : decode cX7_passes 47 = .ok (.iload_n 1, 1) := by decide +kernel
theorem dX7_passes_48 : decode cX7_passes 48 = .ok (.iconst 1, 1) := by decide +kernel
theorem dX7_passes_49 : decode cX7_passes 49 = .ok (.invokevirtual 45, 3) := by decide +kernel
theorem dX7_passes_52 : decode cX7_passes 52 = .ok (.iconst 2, 1) := by decide +kernel
theorem dX7_passes_53 : decode cX7_passes 53 = .ok (.irem, 1) := by decide +kernel
theorem dX7_passes_54 : decode cX7_passes 54 = .ok (.ifCond .ne 24, 3) := by decide +kernel
theorem dX7_passes_57 : decode cX7_passes 57 = .ok (.aload_n 0, 1) := by decide +kernel
theorem dX7_passes_58 : decode cX7_passes 58 = .ok (.iload_n 1, 1) := by decide +kernel
theorem dX7_passes_59 : decode cX7_passes 59 = .ok (.iconst 3, 1) := by decide +kernel
theorem dX7_passes_60 : decode cX7_passes 60 = .ok (.aload_n 0, 1) := by decide +kernel
theorem dX7_passes_61 : decode cX7_passes 61 = .ok (.iload_n 1, 1) := by decide +kernel
theorem dX7_passes_62 : decode cX7_passes 62 = .ok (.iconst 3, 1) := by decide +kernel
theorem dX7_passes_63 : decode cX7_passes 63 = .ok (.invokevirtual 45, 3) := by decide +kernel
theorem dX7_passes_66 : decode cX7_passes 66 = .ok (.iconst 1, 1) := by decide +kernel
theorem dX7_passes_67 : decode cX7_passes 67 = .ok (.iadd, 1) := by decide +kernel
theorem dX7_passes_68 : decode cX7_passes 68 = .ok (.iconst 0, 1) := by decide +kernel
theorem dX7_passes_69 : decode cX7_passes 69 = .ok (.sipush 999, 3) := by decide +kernel
theorem dX7_passes_72 : decode cX7_passes 72 = .ok (.invokestatic 63, 3) := by decide +kernel
theorem dX7_passes_75 : decode cX7_passes 75 = .ok (.invokevirtual 59, 3) := by decide +kernel
theorem dX7_passes_78 : decode cX7_passes 78 = .ok (.return_, 1) := by decide +kernel
theorem dX7_oneHour_0 : decode cX7_oneHour 0 = .ok (.iconst 0, 1) := by decide +kernel
theorem dX7_oneHour_1 : decode cX7_oneHour 1 = .ok (.istore_n 2, 1) := by decide +kernel
theorem dX7_oneHour_2 : decode cX7_oneHour 2 = .ok (.iload_n 2, 1) := by decide +kernel
theorem dX7_oneHour_3 : decode cX7_oneHour 3 = .ok (.aload_n 0, 1) := by decide +kernel
theorem dX7_oneHour_4 : decode cX7_oneHour 4 = .ok (.getfield 7, 3) := by decide +kernel
theorem dX7_oneHour_7 : decode cX7_oneHour 7 = .ok (.iconst 0, 1) := by decide +kernel
theorem dX7_oneHour_8 : decode cX7_oneHour 8 = .ok (.iaload, 1) := by decide +kernel
theorem dX7_oneHour_9 : decode cX7_oneHour 9 = .ok (.if_icmp .ge 23, 3) := by decide +kernel
theorem dX7_oneHour_12 : decode cX7_oneHour 12 = .ok (.aload_n 0, 1) := by decide +kernel
theorem dX7_oneHour_13 : decode cX7_oneHour 13 = .ok (.iload_n 2, 1) := by decide +kernel
theorem dX7_oneHour_14 : decode cX7_oneHour 14 = .ok (.invokevirtual 77, 3) := by decide +kernel
theorem dX7_oneHour_17 : decode cX7_oneHour 17 = .ok (.ifCond .eq 9, 3) := by decide +kernel
theorem dX7_oneHour_20 : decode cX7_oneHour 20 = .ok (.aload_n 0, 1) := by decide +kernel
theorem dX7_oneHour_21 : decode cX7_oneHour 21 = .ok (.iload_n 2, 1) := by decide +kernel
theorem dX7_oneHour_22 : decode cX7_oneHour 22 = .ok (.iload_n 1, 1) := by decide +kernel
theorem dX7_oneHour_23 : decode cX7_oneHour 23 = .ok (.invokevirtual 181, 3) := by decide +kernel
theorem dX7_oneHour_26 : decode cX7_oneHour 26 = .ok (.iinc 2 1, 3) := by decide +kernel
theorem dX7_oneHour_29 : decode cX7_oneHour 29 = .ok (.goto (-27), 3) := by decide +kernel
theorem dX7_oneHour_32 : decode cX7_oneHour 32 = .ok (.aload_n 0, 1) := by decide +kernel
theorem dX7_oneHour_33 : decode cX7_oneHour 33 = .ok (.getfield 7, 3) := by decide +kernel
theorem dX7_oneHour_36 : decode cX7_oneHour 36 = .ok (.iconst 1, 1) := by decide +kernel
theorem dX7_oneHour_37 : decode cX7_oneHour 37 = .ok (.dup2, 1) := by decide +kernel
theorem dX7_oneHour_38 : decode cX7_oneHour 38 = .ok (.iaload, 1) := by decide +kernel
theorem dX7_oneHour_39 : decode cX7_oneHour 39 = .ok (.iconst 1, 1) := by decide +kernel
theorem dX7_oneHour_40 : decode cX7_oneHour 40 = .ok (.iadd, 1) := by decide +kernel
theorem dX7_oneHour_41 : decode cX7_oneHour 41 = .ok (.iastore, 1) := by decide +kernel
theorem dX7_oneHour_42 : decode cX7_oneHour 42 = .ok (.return_, 1) := by decide +kernel
theorem dX7_nobodies_0 : decode cX7_nobodies 0 = .ok (.iconst 0, 1) := by decide +kernel
theorem dX7_nobodies_1 : decode cX7_nobodies 1 = .ok (.istore_n 1, 1) := by decide +kernel
theorem dX7_nobodies_2 : decode cX7_nobodies 2 = .ok (.iconst 0, 1) := by decide +kernel
theorem dX7_nobodies_3 : decode cX7_nobodies 3 = .ok (.istore_n 2, 1) := by decide +kernel
theorem dX7_nobodies_4 : decode cX7_nobodies 4 = .ok (.iload_n 2, 1) := by decide +kernel
theorem dX7_nobodies_5 : decode cX7_nobodies 5 = .ok (.aload_n 0, 1) := by decide +kernel
theorem dX7_nobodies_6 : decode cX7_nobodies 6 = .ok (.getfield 7, 3) := by decide +kernel
theorem dX7_nobodies_9 : decode cX7_nobodies 9 = .ok (.iconst 0, 1) := by decide +kernel
theorem dX7_nobodies_10 : decode cX7_nobodies 10 = .ok (.iaload, 1) := by decide +kernel
theorem dX7_nobodies_11 : decode cX7_nobodies 11 = .ok (.if_icmp .ge 25, 3) := by decide +kernel
theorem dX7_nobodies_14 : decode cX7_nobodies 14 = .ok (.iload_n 1, 1) := by decide +kernel
theorem dX7_nobodies_15 : decode cX7_nobodies 15 = .ok (.aload_n 0, 1) := by decide +kernel
theorem dX7_nobodies_16 : decode cX7_nobodies 16 = .ok (.iload_n 2, 1) := by decide +kernel
theorem dX7_nobodies_17 : decode cX7_nobodies 17 = .ok (.invokevirtual 184, 3) := by decide +kernel
theorem dX7_nobodies_20 : decode cX7_nobodies 20 = .ok (.ifCond .eq 7, 3) := by decide +kernel
theorem dX7_nobodies_23 : decode cX7_nobodies 23 = .ok (.iconst 1, 1) := by decide +kernel
theorem dX7_nobodies_24 : decode cX7_nobodies 24 = .ok (.goto 4, 3) := by decide +kernel
theorem dX7_nobodies_27 : decode cX7_nobodies 27 = .ok (.iconst 0, 1) := by decide +kernel
theorem dX7_nobodies_28 : decode cX7_nobodies 28 = .ok (.iadd, 1) := by decide +kernel
theorem dX7_nobodies_29 : decode cX7_nobodies 29 = .ok (.istore_n 1, 1) := by decide +kernel
theorem dX7_nobodies_30 : decode cX7_nobodies 30 = .ok (.iinc 2 1, 3) := by decide +kernel
theorem dX7_nobodies_33 : decode cX7_nobodies 33 = .ok (.goto (-29), 3) := by decide +kernel
theorem dX7_nobodies_36 : decode cX7_nobodies 36 = .ok (.iload_n 1, 1) := by decide +kernel
theorem dX7_nobodies_37 : decode cX7_nobodies 37 = .ok (.ireturn, 1) := by decide +kernel
theorem dX7_drawn_0 : decode cX7_drawn 0 = .ok (.aload_n 0, 1) := by decide +kernel
theorem dX7_drawn_1 : decode cX7_drawn 1 = .ok (.getfield 7, 3) := by decide +kernel
theorem dX7_drawn_4 : decode cX7_drawn 4 = .ok (.iconst 3, 1) := by decide +kernel
theorem dX7_drawn_5 : decode cX7_drawn 5 = .ok (.aload_n 0, 1) := by decide +kernel
theorem dX7_drawn_6 : decode cX7_drawn 6 = .ok (.getfield 7, 3) := by decide +kernel
theorem dX7_drawn_9 : decode cX7_drawn 9 = .ok (.iconst 3, 1) := by decide +kernel
theorem dX7_drawn_10 : decode cX7_drawn 10 = .ok (.iaload, 1) := by decide +kernel
theorem dX7_drawn_11 : decode cX7_drawn 11 = .ok (.ldc 187, 2) := by decide +kernel
theorem dX7_drawn_13 : decode cX7_drawn 13 = .ok (.imul, 1) := by decide +kernel
theorem dX7_drawn_14 : decode cX7_drawn 14 = .ok (.sipush 12345, 3) := by decide +kernel
theorem dX7_drawn_17 : decode cX7_drawn 17 = .ok (.iadd, 1) := by decide +kernel
theorem dX7_drawn_18 : decode cX7_drawn 18 = .ok (.iastore, 1) := by decide +kernel
theorem dX7_drawn_19 : decode cX7_drawn 19 = .ok (.aload_n 0, 1) := by decide +kernel
theorem dX7_drawn_20 : decode cX7_drawn 20 = .ok (.getfield 7, 3) := by decide +kernel
theorem dX7_drawn_23 : decode cX7_drawn 23 = .ok (.iconst 3, 1) := by decide +kernel
theorem dX7_drawn_24 : decode cX7_drawn 24 = .ok (.iaload, 1) := by decide +kernel
theorem dX7_drawn_25 : decode cX7_drawn 25 = .ok (.bipush 8, 2) := by decide +kernel
theorem dX7_drawn_27 : decode cX7_drawn 27 = .ok (.iushr, 1) := by decide +kernel
theorem dX7_drawn_28 : decode cX7_drawn 28 = .ok (.iload_n 1, 1) := by decide +kernel
theorem dX7_drawn_29 : decode cX7_drawn 29 = .ok (.irem, 1) := by decide +kernel
theorem dX7_drawn_30 : decode cX7_drawn 30 = .ok (.ireturn, 1) := by decide +kernel
theorem dX7_goes_0 : decode cX7_goes 0 = .ok (.iload_n 1, 1) := by decide +kernel
theorem dX7_goes_1 : decode cX7_goes 1 = .ok (.iconst 1, 1) := by decide +kernel
theorem dX7_goes_2 : decode cX7_goes 2 = .ok (.sipush 200, 3) := by decide +kernel
theorem dX7_goes_5 : decode cX7_goes 5 = .ok (.invokestatic 41, 3) := by decide +kernel
theorem dX7_goes_8 : decode cX7_goes 8 = .ok (.ifCond .ne 10, 3) := by decide +kernel
theorem dX7_goes_11 : decode cX7_goes 11 = .ok (.aload_n 0, 1) := by decide +kernel
theorem dX7_goes_12 : decode cX7_goes 12 = .ok (.ldc 53, 2) := by decide +kernel
theorem dX7_goes_14 : decode cX7_goes 14 = .ok (.invokevirtual 54, 3) := by decide +kernel
theorem dX7_goes_17 : decode cX7_goes 17 = .ok (.ireturn, 1) := by decide +kernel
theorem dX7_goes_18 : decode cX7_goes 18 = .ok (.aload_n 0, 1) := by decide +kernel
theorem dX7_goes_19 : decode cX7_goes 19 = .ok (.getfield 7, 3) := by decide +kernel
theorem dX7_goes_22 : decode cX7_goes 22 = .ok (.iconst 1, 1) := by decide +kernel
theorem dX7_goes_23 : decode cX7_goes 23 = .ok (.iaload, 1) := by decide +kernel
theorem dX7_goes_24 : decode cX7_goes 24 = .ok (.iload_n 1, 1) := by decide +kernel
theorem dX7_goes_25 : decode cX7_goes 25 = .ok (.iadd, 1) := by decide +kernel
theorem dX7_goes_26 : decode cX7_goes 26 = .ok (.sipush 9999, 3) := by decide +kernel
theorem dX7_goes_29 : decode cX7_goes 29 = .ok (.if_icmp .le 10, 3) := by decide +kernel
theorem dX7_goes_32 : decode cX7_goes 32 = .ok (.aload_n 0, 1) := by decide +kernel
theorem dX7_goes_33 : decode cX7_goes 33 = .ok (.ldc 103, 2) := by decide +kernel
theorem dX7_goes_35 : decode cX7_goes 35 = .ok (.invokevirtual 54, 3) := by decide +kernel
theorem dX7_goes_38 : decode cX7_goes 38 = .ok (.ireturn, 1) := by decide +kernel
theorem dX7_goes_39 : decode cX7_goes 39 = .ok (.iconst 0, 1) := by decide +kernel
theorem dX7_goes_40 : decode cX7_goes 40 = .ok (.istore_n 3, 1) := by decide +kernel
theorem dX7_goes_41 : decode cX7_goes 41 = .ok (.iload_n 3, 1) := by decide +kernel
theorem dX7_goes_42 : decode cX7_goes 42 = .ok (.iload_n 1, 1) := by decide +kernel
theorem dX7_goes_43 : decode cX7_goes 43 = .ok (.if_icmp .ge 32, 3) := by decide +kernel
theorem dX7_goes_46 : decode cX7_goes 46 = .ok (.aload_n 0, 1) := by decide +kernel
theorem dX7_goes_47 : decode cX7_goes 47 = .ok (.iload_n 2, 1) := by decide +kernel
theorem dX7_goes_48 : decode cX7_goes 48 = .ok (.ifCond .eq 14, 3) := by decide +kernel
theorem dX7_goes_51 : decode cX7_goes 51 = .ok (.aload_n 0, 1) := by decide +kernel
theorem dX7_goes_52 : decode cX7_goes 52 = .ok (.bipush 7, 2) := by decide +kernel
theorem dX7_goes_54 : decode cX7_goes 54 = .ok (.invokevirtual 188, 3) := by decide +kernel
theorem dX7_goes_57 : decode cX7_goes 57 = .ok (.iconst 3, 1) := by decide +kernel
theorem dX7_goes_58 : decode cX7_goes 58 = .ok (.isub, 1) := by decide +kernel
theorem dX7_goes_59 : decode cX7_goes 59 = .ok (.goto 7, 3) := by decide +kernel
theorem dX7_goes_62 : decode cX7_goes 62 = .ok (.aload_n 0, 1) := by decide +kernel
theorem dX7_goes_63 : decode cX7_goes 63 = .ok (.invokevirtual 86, 3) := by decide +kernel
theorem dX7_goes_66 : decode cX7_goes 66 = .ok (.invokevirtual 191, 3) := by decide +kernel
theorem dX7_goes_69 : decode cX7_goes 69 = .ok (.iinc 3 1, 3) := by decide +kernel
theorem dX7_goes_72 : decode cX7_goes 72 = .ok (.goto (-31), 3) := by decide +kernel
theorem dX7_goes_75 : decode cX7_goes 75 = .ok (.aload_n 0, 1) := by decide +kernel
theorem dX7_goes_76 : decode cX7_goes 76 = .ok (.invokevirtual 195, 3) := by decide +kernel
theorem dX7_goes_79 : decode cX7_goes 79 = .ok (.ireturn, 1) := by decide +kernel
theorem dX7_hours_0 : decode cX7_hours 0 = .ok (.aload_n 0, 1) := by decide +kernel
theorem dX7_hours_1 : decode cX7_hours 1 = .ok (.iload_n 1, 1) := by decide +kernel
theorem dX7_hours_2 : decode cX7_hours 2 = .ok (.iconst 0, 1) := by decide +kernel
theorem dX7_hours_3 : decode cX7_hours 3 = .ok (.invokevirtual 198, 3) := by decide +kernel
theorem dX7_hours_6 : decode cX7_hours 6 = .ok (.ireturn, 1) := by decide +kernel
theorem dX7_loose_0 : decode cX7_loose 0 = .ok (.aload_n 0, 1) := by decide +kernel
theorem dX7_loose_1 : decode cX7_loose 1 = .ok (.iload_n 1, 1) := by decide +kernel
theorem dX7_loose_2 : decode cX7_loose 2 = .ok (.iconst 1, 1) := by decide +kernel
theorem dX7_loose_3 : decode cX7_loose 3 = .ok (.invokevirtual 198, 3) := by decide +kernel
theorem dX7_loose_6 : decode cX7_loose 6 = .ok (.ireturn, 1) := by decide +kernel
theorem dX7_then_0 : decode cX7_then 0 = .ok (.iload_n 1, 1) := by decide +kernel
theorem dX7_then_1 : decode cX7_then 1 = .ok (.iconst 0, 1) := by decide +kernel
theorem dX7_then_2 : decode cX7_then 2 = .ok (.sipush 200, 3) := by decide +kernel
theorem dX7_then_5 : decode cX7_then 5 = .ok (.invokestatic 41, 3) := by decide +kernel
theorem dX7_then_8 : decode cX7_then 8 = .ok (.ifCond .eq 27, 3) := by decide +kernel
theorem dX7_then_11 : decode cX7_then 11 = .ok (.aload_n 0, 1) := by decide +kernel
theorem dX7_then_12 : decode cX7_then 12 = .ok (.iload_n 2, 1) := by decide +kernel
theorem dX7_then_13 : decode cX7_then 13 = .ok (.invokevirtual 83, 3) := by decide +kernel
theorem dX7_then_16 : decode cX7_then 16 = .ok (.ifCond .eq 19, 3) := by decide +kernel
theorem dX7_then_19 : decode cX7_then 19 = .ok (.iload_n 3, 1) := by decide +kernel
theorem dX7_then_20 : decode cX7_then 20 = .ok (.iconst 2, 1) := by decide +kernel
theorem dX7_then_21 : decode cX7_then 21 = .ok (.bipush 6, 2) := by decide +kernel
theorem dX7_then_23 : decode cX7_then 23 = .ok (.invokestatic 41, 3) := by decide +kernel
theorem dX7_then_26 : decode cX7_then 26 = .ok (.ifCond .ne 16, 3) := by decide +kernel
theorem dX7_then_29 : decode cX7_then 29 = .ok (.iload_n 3, 1) := by decide +kernel
theorem dX7_then_30 : decode cX7_then 30 = .ok (.bipush 8, 2) := by decide +kernel
theorem dX7_then_32 : decode cX7_then 32 = .ok (.if_icmp .eq 10, 3) := by decide +kernel
theorem dX7_then_35 : decode cX7_then 35 = .ok (.aload_n 0, 1) := by decide +kernel
theorem dX7_then_36 : decode cX7_then 36 = .ok (.ldc 53, 2) := by decide +kernel
theorem dX7_then_38 : decode cX7_then 38 = .ok (.invokevirtual 54, 3) := by decide +kernel
theorem dX7_then_41 : decode cX7_then 41 = .ok (.ireturn, 1) := by decide +kernel
theorem dX7_then_42 : decode cX7_then 42 = .ok (.aload_n 0, 1) := by decide +kernel
theorem dX7_then_43 : decode cX7_then 43 = .ok (.aload_n 0, 1) := by decide +kernel
theorem dX7_then_44 : decode cX7_then 44 = .ok (.getfield 7, 3) := by decide +kernel
theorem dX7_then_47 : decode cX7_then 47 = .ok (.aload_n 0, 1) := by decide +kernel
theorem dX7_then_48 : decode cX7_then 48 = .ok (.getfield 16, 3) := by decide +kernel
theorem dX7_then_51 : decode cX7_then 51 = .ok (.invokevirtual 168, 3) := by decide +kernel
theorem dX7_then_54 : decode cX7_then 54 = .ok (.iconst 0, 1) := by decide +kernel
theorem dX7_then_55 : decode cX7_then 55 = .ok (.istore 4, 2) := by decide +kernel
theorem dX7_then_57 : decode cX7_then 57 = .ok (.iload 4, 2) := by decide +kernel
theorem dX7_then_59 : decode cX7_then 59 = .ok (.iload_n 1, 1) := by decide +kernel
theorem dX7_then_60 : decode cX7_then 60 = .ok (.if_icmp .ge 17, 3) := by decide +kernel
theorem dX7_then_63 : decode cX7_then 63 = .ok (.aload_n 0, 1) := by decide +kernel
theorem dX7_then_64 : decode cX7_then 64 = .ok (.aload_n 0, 1) := by decide +kernel
theorem dX7_then_65 : decode cX7_then 65 = .ok (.invokevirtual 86, 3) := by decide +kernel
theorem dX7_then_68 : decode cX7_then 68 = .ok (.invokevirtual 191, 3) := by decide +kernel
theorem dX7_then_71 : decode cX7_then 71 = .ok (.iinc 4 1, 3) := by decide +kernel
theorem dX7_then_74 : decode cX7_then 74 = .ok (.goto (-17), 3) := by decide +kernel
theorem dX7_then_77 : decode cX7_then 77 = .ok (.iload_n 3, 1) := by decide +kernel
theorem dX7_then_78 : decode cX7_then 78 = .ok (.bipush 8, 2) := by decide +kernel
theorem dX7_then_80 : decode cX7_then 80 = .ok (.if_icmp .ne 11, 3) := by decide +kernel
theorem dX7_then_83 : decode cX7_then 83 = .ok (.aload_n 0, 1) := by decide +kernel
theorem dX7_then_84 : decode cX7_then 84 = .ok (.iload_n 2, 1) := by decide +kernel
theorem dX7_then_85 : decode cX7_then 85 = .ok (.invokevirtual 70, 3) := by decide +kernel
theorem dX7_then_88 : decode cX7_then 88 = .ok (.goto 9, 3) := by decide +kernel
theorem dX7_then_91 : decode cX7_then 91 = .ok (.aload_n 0, 1) := by decide +kernel
theorem dX7_then_92 : decode cX7_then 92 = .ok (.iload_n 2, 1) := by decide +kernel
theorem dX7_then_93 : decode cX7_then 93 = .ok (.iload_n 3, 1) := by decide +kernel
theorem dX7_then_94 : decode cX7_then 94 = .ok (.invokevirtual 45, 3) := by decide +kernel
theorem dX7_then_97 : decode cX7_then 97 = .ok (.istore 4, 2) := by decide +kernel
theorem dX7_then_99 : decode cX7_then 99 = .ok (.aload_n 0, 1) := by decide +kernel
theorem dX7_then_100 : decode cX7_then 100 = .ok (.aload_n 0, 1) := by decide +kernel
theorem dX7_then_101 : decode cX7_then 101 = .ok (.getfield 16, 3) := by decide +kernel
theorem dX7_then_104 : decode cX7_then 104 = .ok (.aload_n 0, 1) := by decide +kernel
theorem dX7_then_105 : decode cX7_then 105 = .ok (.getfield 7, 3) := by decide +kernel
theorem dX7_then_108 : decode cX7_then 108 = .ok (.invokevirtual 168, 3) := by decide +kernel
theorem dX7_then_111 : decode cX7_then 111 = .ok (.iload 4, 2) := by decide +kernel
theorem dX7_then_113 : decode cX7_then 113 = .ok (.ireturn, 1) := by decide +kernel
theorem dX7_pays_0 : decode cX7_pays 0 = .ok (.aload_n 0, 1) := by decide +kernel
theorem dX7_pays_1 : decode cX7_pays 1 = .ok (.iconst 1, 1) := by decide +kernel
theorem dX7_pays_2 : decode cX7_pays 2 = .ok (.aload_n 0, 1) := by decide +kernel
theorem dX7_pays_3 : decode cX7_pays 3 = .ok (.iload_n 1, 1) := by decide +kernel
theorem dX7_pays_4 : decode cX7_pays 4 = .ok (.invokevirtual 80, 3) := by decide +kernel
theorem dX7_pays_7 : decode cX7_pays 7 = .ok (.aload_n 0, 1) := by decide +kernel
theorem dX7_pays_8 : decode cX7_pays 8 = .ok (.iload_n 2, 1) := by decide +kernel
theorem dX7_pays_9 : decode cX7_pays 9 = .ok (.invokevirtual 80, 3) := by decide +kernel
theorem dX7_pays_12 : decode cX7_pays 12 = .ok (.aload_n 0, 1) := by decide +kernel
theorem dX7_pays_13 : decode cX7_pays 13 = .ok (.iload_n 1, 1) := by decide +kernel
theorem dX7_pays_14 : decode cX7_pays 14 = .ok (.invokevirtual 93, 3) := by decide +kernel
theorem dX7_pays_17 : decode cX7_pays 17 = .ok (.invokevirtual 73, 3) := by decide +kernel
theorem dX7_pays_20 : decode cX7_pays 20 = .ok (.istore_n 3, 1) := by decide +kernel
theorem dX7_pays_21 : decode cX7_pays 21 = .ok (.iload_n 3, 1) := by decide +kernel
theorem dX7_pays_22 : decode cX7_pays 22 = .ok (.aload_n 0, 1) := by decide +kernel
theorem dX7_pays_23 : decode cX7_pays 23 = .ok (.iload_n 1, 1) := by decide +kernel
theorem dX7_pays_24 : decode cX7_pays 24 = .ok (.iconst 3, 1) := by decide +kernel
theorem dX7_pays_25 : decode cX7_pays 25 = .ok (.invokevirtual 45, 3) := by decide +kernel
theorem dX7_pays_28 : decode cX7_pays 28 = .ok (.if_icmp .ge 7, 3) := by decide +kernel
theorem dX7_pays_31 : decode cX7_pays 31 = .ok (.iload_n 3, 1) := by decide +kernel
theorem dX7_pays_32 : decode cX7_pays 32 = .ok (.goto 9, 3) := by decide +kernel
theorem dX7_pays_35 : decode cX7_pays 35 = .ok (.aload_n 0, 1) := by decide +kernel
theorem dX7_pays_36 : decode cX7_pays 36 = .ok (.iload_n 1, 1) := by decide +kernel
theorem dX7_pays_37 : decode cX7_pays 37 = .ok (.iconst 3, 1) := by decide +kernel
theorem dX7_pays_38 : decode cX7_pays 38 = .ok (.invokevirtual 45, 3) := by decide +kernel
theorem dX7_pays_41 : decode cX7_pays 41 = .ok (.istore 4, 2) := by decide +kernel
theorem dX7_pays_43 : decode cX7_pays 43 = .ok (.aload_n 0, 1) := by decide +kernel
theorem dX7_pays_44 : decode cX7_pays 44 = .ok (.iload_n 1, 1) := by decide +kernel
theorem dX7_pays_45 : decode cX7_pays 45 = .ok (.iconst 3, 1) := by decide +kernel
theorem dX7_pays_46 : decode cX7_pays 46 = .ok (.aload_n 0, 1) := by decide +kernel
theorem dX7_pays_47 : decode cX7_pays 47 = .ok (.iload_n 1, 1) := by decide +kernel
theorem dX7_pays_48 : decode cX7_pays 48 = .ok (.iconst 3, 1) := by decide +kernel
theorem dX7_pays_49 : decode cX7_pays 49 = .ok (.invokevirtual 45, 3) := by decide +kernel
theorem dX7_pays_52 : decode cX7_pays 52 = .ok (.iload 4, 2) := by decide +kernel
theorem dX7_pays_54 : decode cX7_pays 54 = .ok (.isub, 1) := by decide +kernel
theorem dX7_pays_55 : decode cX7_pays 55 = .ok (.invokevirtual 59, 3) := by decide +kernel
theorem dX7_pays_58 : decode cX7_pays 58 = .ok (.aload_n 0, 1) := by decide +kernel
theorem dX7_pays_59 : decode cX7_pays 59 = .ok (.iload_n 2, 1) := by decide +kernel
theorem dX7_pays_60 : decode cX7_pays 60 = .ok (.iconst 3, 1) := by decide +kernel
theorem dX7_pays_61 : decode cX7_pays 61 = .ok (.aload_n 0, 1) := by decide +kernel
theorem dX7_pays_62 : decode cX7_pays 62 = .ok (.iload_n 2, 1) := by decide +kernel
theorem dX7_pays_63 : decode cX7_pays 63 = .ok (.iconst 3, 1) := by decide +kernel
theorem dX7_pays_64 : decode cX7_pays 64 = .ok (.invokevirtual 45, 3) := by decide +kernel
theorem dX7_pays_67 : decode cX7_pays 67 = .ok (.iload 4, 2) := by decide +kernel
theorem dX7_pays_69 : decode cX7_pays 69 = .ok (.iadd, 1) := by decide +kernel
theorem dX7_pays_70 : decode cX7_pays 70 = .ok (.iconst 0, 1) := by decide +kernel
theorem dX7_pays_71 : decode cX7_pays 71 = .ok (.sipush 999, 3) := by decide +kernel
theorem dX7_pays_74 : decode cX7_pays 74 = .ok (.invokestatic 63, 3) := by decide +kernel
theorem dX7_pays_77 : decode cX7_pays 77 = .ok (.invokevirtual 59, 3) := by decide +kernel
theorem dX7_pays_80 : decode cX7_pays 80 = .ok (.iload 4, 2) := by decide +kernel
theorem dX7_pays_82 : decode cX7_pays 82 = .ok (.ireturn, 1) := by decide +kernel
theorem dX7_allPay_0 : decode cX7_allPay 0 = .ok (.iconst 0, 1) := by decide +kernel
theorem dX7_allPay_1 : decode cX7_allPay 1 = .ok (.istore_n 1, 1) := by decide +kernel
theorem dX7_allPay_2 : decode cX7_allPay 2 = .ok (.iconst 0, 1) := by decide +kernel
theorem dX7_allPay_3 : decode cX7_allPay 3 = .ok (.istore_n 2, 1) := by decide +kernel
theorem dX7_allPay_4 : decode cX7_allPay 4 = .ok (.iload_n 2, 1) := by decide +kernel
theorem dX7_allPay_5 : decode cX7_allPay 5 = .ok (.aload_n 0, 1) := by decide +kernel
theorem dX7_allPay_6 : decode cX7_allPay 6 = .ok (.getfield 7, 3) := by decide +kernel
theorem dX7_allPay_9 : decode cX7_allPay 9 = .ok (.iconst 0, 1) := by decide +kernel
theorem dX7_allPay_10 : decode cX7_allPay 10 = .ok (.iaload, 1) := by decide +kernel
theorem dX7_allPay_11 : decode cX7_allPay 11 = .ok (.if_icmp .ge 76, 3) := by decide +kernel
theorem dX7_allPay_14 : decode cX7_allPay 14 = .ok (.iconst 0, 1) := by decide +kernel
theorem dX7_allPay_15 : decode cX7_allPay 15 = .ok (.istore_n 3, 1) := by decide +kernel
theorem dX7_allPay_16 : decode cX7_allPay 16 = .ok (.iload_n 3, 1) := by decide +kernel
theorem dX7_allPay_17 : decode cX7_allPay 17 = .ok (.aload_n 0, 1) := by decide +kernel
theorem dX7_allPay_18 : decode cX7_allPay 18 = .ok (.getfield 7, 3) := by decide +kernel
theorem dX7_allPay_21 : decode cX7_allPay 21 = .ok (.iconst 0, 1) := by decide +kernel
theorem dX7_allPay_22 : decode cX7_allPay 22 = .ok (.iaload, 1) := by decide +kernel
theorem dX7_allPay_23 : decode cX7_allPay 23 = .ok (.if_icmp .ge 58, 3) := by decide +kernel
theorem dX7_allPay_26 : decode cX7_allPay 26 = .ok (.iload_n 1, 1) := by decide +kernel
theorem dX7_allPay_27 : decode cX7_allPay 27 = .ok (.iload_n 2, 1) := by decide +kernel
theorem dX7_allPay_28 : decode cX7_allPay 28 = .ok (.iload_n 3, 1) := by decide +kernel
theorem dX7_allPay_29 : decode cX7_allPay 29 = .ok (.if_icmp .eq 43, 3) := by decide +kernel
theorem dX7_allPay_32 : decode cX7_allPay 32 = .ok (.aload_n 0, 1) := by decide +kernel
theorem dX7_allPay_33 : decode cX7_allPay 33 = .ok (.iload_n 2, 1) := by decide +kernel
theorem dX7_allPay_34 : decode cX7_allPay 34 = .ok (.invokevirtual 77, 3) := by decide +kernel
theorem dX7_allPay_37 : decode cX7_allPay 37 = .ok (.ifCond .eq 35, 3) := by decide +kernel
theorem dX7_allPay_40 : decode cX7_allPay 40 = .ok (.aload_n 0, 1) := by decide +kernel
theorem dX7_allPay_41 : decode cX7_allPay 41 = .ok (.iload_n 3, 1) := by decide +kernel
theorem dX7_allPay_42 : decode cX7_allPay 42 = .ok (.invokevirtual 77, 3) := by decide +kernel
theorem dX7_allPay_45 : decode cX7_allPay 45 = .ok (.ifCond .eq 27, 3) := by decide +kernel
theorem dX7_allPay_48 : decode cX7_allPay 48 = .ok (.aload_n 0, 1) := by decide +kernel
theorem dX7_allPay_49 : decode cX7_allPay 49 = .ok (.iload_n 2, 1) := by decide +kernel
theorem dX7_allPay_50 : decode cX7_allPay 50 = .ok (.iconst 2, 1) := by decide +kernel
theorem dX7_allPay_51 : decode cX7_allPay 51 = .ok (.invokevirtual 45, 3) := by decide +kernel
theorem dX7_allPay_54 : decode cX7_allPay 54 = .ok (.aload_n 0, 1) := by decide +kernel
theorem dX7_allPay_55 : decode cX7_allPay 55 = .ok (.iload_n 3, 1) := by decide +kernel
theorem dX7_allPay_56 : decode cX7_allPay 56 = .ok (.iconst 2, 1) := by decide +kernel
theorem dX7_allPay_57 : decode cX7_allPay 57 = .ok (.invokevirtual 45, 3) := by decide +kernel
theorem dX7_allPay_60 : decode cX7_allPay 60 = .ok (.if_icmp .ne 12, 3) := by decide +kernel
theorem dX7_allPay_63 : decode cX7_allPay 63 = .ok (.aload_n 0, 1) := by decide +kernel
theorem dX7_allPay_64 : decode cX7_allPay 64 = .ok (.iload_n 2, 1) := by decide +kernel
theorem dX7_allPay_65 : decode cX7_allPay 65 = .ok (.iload_n 3, 1) := by decide +kernel
theorem dX7_allPay_66 : decode cX7_allPay 66 = .ok (.invokevirtual 202, 3) := by decide +kernel
theorem dX7_allPay_69 : decode cX7_allPay 69 = .ok (.goto 4, 3) := by decide +kernel
theorem dX7_allPay_72 : decode cX7_allPay 72 = .ok (.iconst 0, 1) := by decide +kernel
theorem dX7_allPay_73 : decode cX7_allPay 73 = .ok (.iadd, 1) := by decide +kernel
theorem dX7_allPay_74 : decode cX7_allPay 74 = .ok (.istore_n 1, 1) := by decide +kernel
theorem dX7_allPay_75 : decode cX7_allPay 75 = .ok (.iinc 3 1, 3) := by decide +kernel
theorem dX7_allPay_78 : decode cX7_allPay 78 = .ok (.goto (-62), 3) := by decide +kernel
theorem dX7_allPay_81 : decode cX7_allPay 81 = .ok (.iinc 2 1, 3) := by decide +kernel
theorem dX7_allPay_84 : decode cX7_allPay 84 = .ok (.goto (-80), 3) := by decide +kernel
theorem dX7_allPay_87 : decode cX7_allPay 87 = .ok (.iload_n 1, 1) := by decide +kernel
theorem dX7_allPay_88 : decode cX7_allPay 88 = .ok (.ireturn, 1) := by decide +kernel
theorem dX7_pay_0 : decode cX7_pay 0 = .ok (.aload_n 0, 1) := by decide +kernel
theorem dX7_pay_1 : decode cX7_pay 1 = .ok (.invokevirtual 205, 3) := by decide +kernel
theorem dX7_pay_4 : decode cX7_pay 4 = .ok (.ireturn, 1) := by decide +kernel
theorem dX7_nobodyAt_0 : decode cX7_nobodyAt 0 = .ok (.aload_n 0, 1) := by decide +kernel
theorem dX7_nobodyAt_1 : decode cX7_nobodyAt 1 = .ok (.aload_n 0, 1) := by decide +kernel
theorem dX7_nobodyAt_2 : decode cX7_nobodyAt 2 = .ok (.getfield 7, 3) := by decide +kernel
theorem dX7_nobodyAt_5 : decode cX7_nobodyAt 5 = .ok (.aload_n 0, 1) := by decide +kernel
theorem dX7_nobodyAt_6 : decode cX7_nobodyAt 6 = .ok (.getfield 16, 3) := by decide +kernel
theorem dX7_nobodyAt_9 : decode cX7_nobodyAt 9 = .ok (.invokevirtual 168, 3) := by decide +kernel
theorem dX7_nobodyAt_12 : decode cX7_nobodyAt 12 = .ok (.iconst 0, 1) := by decide +kernel
theorem dX7_nobodyAt_13 : decode cX7_nobodyAt 13 = .ok (.istore_n 2, 1) := by decide +kernel
theorem dX7_nobodyAt_14 : decode cX7_nobodyAt 14 = .ok (.iload_n 2, 1) := by decide +kernel
theorem dX7_nobodyAt_15 : decode cX7_nobodyAt 15 = .ok (.sipush 200, 3) := by decide +kernel
theorem dX7_nobodyAt_18 : decode cX7_nobodyAt 18 = .ok (.if_icmp .gt 25, 3) := by decide +kernel
theorem dX7_nobodyAt_21 : decode cX7_nobodyAt 21 = .ok (.aload_n 0, 1) := by decide +kernel
theorem dX7_nobodyAt_22 : decode cX7_nobodyAt 22 = .ok (.iload_n 1, 1) := by decide +kernel
theorem dX7_nobodyAt_23 : decode cX7_nobodyAt 23 = .ok (.invokevirtual 184, 3) := by decide +kernel
theorem dX7_nobodyAt_26 : decode cX7_nobodyAt 26 = .ok (.ifCond .ne 17, 3) := by decide +kernel
theorem dX7_nobodyAt_29 : decode cX7_nobodyAt 29 = .ok (.aload_n 0, 1) := by decide +kernel
theorem dX7_nobodyAt_30 : decode cX7_nobodyAt 30 = .ok (.aload_n 0, 1) := by decide +kernel
theorem dX7_nobodyAt_31 : decode cX7_nobodyAt 31 = .ok (.invokevirtual 86, 3) := by decide +kernel
theorem dX7_nobodyAt_34 : decode cX7_nobodyAt 34 = .ok (.invokevirtual 191, 3) := by decide +kernel
theorem dX7_nobodyAt_37 : decode cX7_nobodyAt 37 = .ok (.iinc 2 1, 3) := by decide +kernel
theorem dX7_nobodyAt_40 : decode cX7_nobodyAt 40 = .ok (.goto (-26), 3) := by decide +kernel
theorem dX7_nobodyAt_43 : decode cX7_nobodyAt 43 = .ok (.aload_n 0, 1) := by decide +kernel
theorem dX7_nobodyAt_44 : decode cX7_nobodyAt 44 = .ok (.aload_n 0, 1) := by decide +kernel
theorem dX7_nobodyAt_45 : decode cX7_nobodyAt 45 = .ok (.getfield 16, 3) := by decide +kernel
theorem dX7_nobodyAt_48 : decode cX7_nobodyAt 48 = .ok (.aload_n 0, 1) := by decide +kernel
theorem dX7_nobodyAt_49 : decode cX7_nobodyAt 49 = .ok (.getfield 7, 3) := by decide +kernel
theorem dX7_nobodyAt_52 : decode cX7_nobodyAt 52 = .ok (.invokevirtual 168, 3) := by decide +kernel
theorem dX7_nobodyAt_55 : decode cX7_nobodyAt 55 = .ok (.iload_n 2, 1) := by decide +kernel
theorem dX7_nobodyAt_56 : decode cX7_nobodyAt 56 = .ok (.ireturn, 1) := by decide +kernel
theorem dX7_nobodyBy_0 : decode cX7_nobodyBy 0 = .ok (.aload_n 0, 1) := by decide +kernel
theorem dX7_nobodyBy_1 : decode cX7_nobodyBy 1 = .ok (.iload_n 1, 1) := by decide +kernel
theorem dX7_nobodyBy_2 : decode cX7_nobodyBy 2 = .ok (.invokevirtual 83, 3) := by decide +kernel
theorem dX7_nobodyBy_5 : decode cX7_nobodyBy 5 = .ok (.ifCond .ne 10, 3) := by decide +kernel
theorem dX7_nobodyBy_8 : decode cX7_nobodyBy 8 = .ok (.aload_n 0, 1) := by decide +kernel
theorem dX7_nobodyBy_9 : decode cX7_nobodyBy 9 = .ok (.ldc 53, 2) := by decide +kernel
theorem dX7_nobodyBy_11 : decode cX7_nobodyBy 11 = .ok (.invokevirtual 54, 3) := by decide +kernel
theorem dX7_nobodyBy_14 : decode cX7_nobodyBy 14 = .ok (.ireturn, 1) := by decide +kernel
theorem dX7_nobodyBy_15 : decode cX7_nobodyBy 15 = .ok (.aload_n 0, 1) := by decide +kernel
theorem dX7_nobodyBy_16 : decode cX7_nobodyBy 16 = .ok (.iload_n 1, 1) := by decide +kernel
theorem dX7_nobodyBy_17 : decode cX7_nobodyBy 17 = .ok (.invokevirtual 208, 3) := by decide +kernel
theorem dX7_nobodyBy_20 : decode cX7_nobodyBy 20 = .ok (.istore_n 2, 1) := by decide +kernel
theorem dX7_nobodyBy_21 : decode cX7_nobodyBy 21 = .ok (.iload_n 2, 1) := by decide +kernel
theorem dX7_nobodyBy_22 : decode cX7_nobodyBy 22 = .ok (.sipush 200, 3) := by decide +kernel
theorem dX7_nobodyBy_25 : decode cX7_nobodyBy 25 = .ok (.if_icmp .le 12, 3) := by decide +kernel
theorem dX7_nobodyBy_28 : decode cX7_nobodyBy 28 = .ok (.aload_n 0, 1) := by decide +kernel
theorem dX7_nobodyBy_29 : decode cX7_nobodyBy 29 = .ok (.ldc 211, 2) := by decide +kernel
theorem dX7_nobodyBy_31 : decode cX7_nobodyBy 31 = .ok (.invokevirtual 54, 3) := by decide +kernel
theorem dX7_nobodyBy_34 : decode cX7_nobodyBy 34 = .ok (.goto 4, 3) := by decide +kernel
theorem dX7_nobodyBy_37 : decode cX7_nobodyBy 37 = .ok (.iload_n 2, 1) := by decide +kernel
theorem dX7_nobodyBy_38 : decode cX7_nobodyBy 38 = .ok (.ireturn, 1) := by decide +kernel
theorem dX7_first_0 : decode cX7_first 0 = .ok (.iconst (-1), 1) := by decide +kernel
theorem dX7_first_1 : decode cX7_first 1 = .ok (.istore_n 1, 1) := by decide +kernel
theorem dX7_first_2 : decode cX7_first 2 = .ok (.sipush 201, 3) := by decide +kernel
theorem dX7_first_5 : decode cX7_first 5 = .ok (.istore_n 2, 1) := by decide +kernel
theorem dX7_first_6 : decode cX7_first 6 = .ok (.iconst 0, 1) := by decide +kernel
theorem dX7_first_7 : decode cX7_first 7 = .ok (.istore_n 3, 1) := by decide +kernel
theorem dX7_first_8 : decode cX7_first 8 = .ok (.iload_n 3, 1) := by decide +kernel
theorem dX7_first_9 : decode cX7_first 9 = .ok (.aload_n 0, 1) := by decide +kernel
theorem dX7_first_10 : decode cX7_first 10 = .ok (.getfield 7, 3) := by decide +kernel
theorem dX7_first_13 : decode cX7_first 13 = .ok (.iconst 0, 1) := by decide +kernel
theorem dX7_first_14 : decode cX7_first 14 = .ok (.iaload, 1) := by decide +kernel
theorem dX7_first_15 : decode cX7_first 15 = .ok (.if_icmp .ge 55, 3) := by decide +kernel
theorem dX7_first_18 : decode cX7_first 18 = .ok (.aload_n 0, 1) := by decide +kernel
theorem dX7_first_19 : decode cX7_first 19 = .ok (.iload_n 3, 1) := by decide +kernel
theorem dX7_first_20 : decode cX7_first 20 = .ok (.invokevirtual 77, 3) := by decide +kernel
theorem dX7_first_23 : decode cX7_first 23 = .ok (.ifCond .eq 11, 3) := by decide +kernel
theorem dX7_first_26 : decode cX7_first 26 = .ok (.aload_n 0, 1) := by decide +kernel
theorem dX7_first_27 : decode cX7_first 27 = .ok (.iload_n 3, 1) := by decide +kernel
theorem dX7_first_28 : decode cX7_first 28 = .ok (.invokevirtual 208, 3) := by decide +kernel
theorem dX7_first_31 : decode cX7_first 31 = .ok (.goto 6, 3) := by decide +kernel
theorem dX7_first_34 : decode cX7_first 34 = .ok (.sipush 201, 3) := by decide +kernel
theorem dX7_first_37 : decode cX7_first 37 = .ok (.istore 4, 2) := by decide +kernel
theorem dX7_first_39 : decode cX7_first 39 = .ok (.iload 4, 2) := by decide +kernel
theorem dX7_first_41 : decode cX7_first 41 = .ok (.iload_n 2, 1) := by decide +kernel
theorem dX7_first_42 : decode cX7_first 42 = .ok (.if_icmp .ge 7, 3) := by decide +kernel
theorem dX7_first_45 : decode cX7_first 45 = .ok (.iload_n 3, 1) := by decide +kernel
theorem dX7_first_46 : decode cX7_first 46 = .ok (.goto 4, 3) := by decide +kernel
theorem dX7_first_49 : decode cX7_first 49 = .ok (.iload_n 1, 1) := by decide +kernel
theorem dX7_first_50 : decode cX7_first 50 = .ok (.istore_n 1, 1) := by decide +kernel
theorem dX7_first_51 : decode cX7_first 51 = .ok (.iload 4, 2) := by decide +kernel
theorem dX7_first_53 : decode cX7_first 53 = .ok (.iload_n 2, 1) := by decide +kernel
theorem dX7_first_54 : decode cX7_first 54 = .ok (.if_icmp .ge 8, 3) := by decide +kernel
theorem dX7_first_57 : decode cX7_first 57 = .ok (.iload 4, 2) := by decide +kernel
theorem dX7_first_59 : decode cX7_first 59 = .ok (.goto 4, 3) := by decide +kernel
theorem dX7_first_62 : decode cX7_first 62 = .ok (.iload_n 2, 1) := by decide +kernel
theorem dX7_first_63 : decode cX7_first 63 = .ok (.istore_n 2, 1) := by decide +kernel
theorem dX7_first_64 : decode cX7_first 64 = .ok (.iinc 3 1, 3) := by decide +kernel
theorem dX7_first_67 : decode cX7_first 67 = .ok (.goto (-59), 3) := by decide +kernel
theorem dX7_first_70 : decode cX7_first 70 = .ok (.iload_n 1, 1) := by decide +kernel
theorem dX7_first_71 : decode cX7_first 71 = .ok (.ifCond .ge 12, 3) := by decide +kernel
theorem dX7_first_74 : decode cX7_first 74 = .ok (.aload_n 0, 1) := by decide +kernel
theorem dX7_first_75 : decode cX7_first 75 = .ok (.ldc 211, 2) := by decide +kernel
theorem dX7_first_77 : decode cX7_first 77 = .ok (.invokevirtual 54, 3) := by decide +kernel
theorem dX7_first_80 : decode cX7_first 80 = .ok (.goto 4, 3) := by decide +kernel
theorem dX7_first_83 : decode cX7_first 83 = .ok (.iload_n 1, 1) := by decide +kernel
theorem dX7_first_84 : decode cX7_first 84 = .ok (.ireturn, 1) := by decide +kernel
theorem dX7_bits_0 : decode cX7_bits 0 = .ok (.iconst 0, 1) := by decide +kernel
theorem dX7_bits_1 : decode cX7_bits 1 = .ok (.istore_n 1, 1) := by decide +kernel
theorem dX7_bits_2 : decode cX7_bits 2 = .ok (.iconst 0, 1) := by decide +kernel
theorem dX7_bits_3 : decode cX7_bits 3 = .ok (.istore_n 2, 1) := by decide +kernel
theorem dX7_bits_4 : decode cX7_bits 4 = .ok (.iload_n 2, 1) := by decide +kernel
theorem dX7_bits_5 : decode cX7_bits 5 = .ok (.bipush 8, 2) := by decide +kernel
theorem dX7_bits_7 : decode cX7_bits 7 = .ok (.if_icmp .ge 17, 3) := by decide +kernel
theorem dX7_bits_10 : decode cX7_bits 10 = .ok (.iload_n 1, 1) := by decide +kernel
theorem dX7_bits_11 : decode cX7_bits 11 = .ok (.iload_n 0, 1) := by decide +kernel
theorem dX7_bits_12 : decode cX7_bits 12 = .ok (.iload_n 2, 1) := by decide +kernel
theorem dX7_bits_13 : decode cX7_bits 13 = .ok (.ishr, 1) := by decide +kernel
theorem dX7_bits_14 : decode cX7_bits 14 = .ok (.iconst 1, 1) := by decide +kernel
theorem dX7_bits_15 : decode cX7_bits 15 = .ok (.iand, 1) := by decide +kernel
theorem dX7_bits_16 : decode cX7_bits 16 = .ok (.iadd, 1) := by decide +kernel
theorem dX7_bits_17 : decode cX7_bits 17 = .ok (.istore_n 1, 1) := by decide +kernel
theorem dX7_bits_18 : decode cX7_bits 18 = .ok (.iinc 2 1, 3) := by decide +kernel
theorem dX7_bits_21 : decode cX7_bits 21 = .ok (.goto (-17), 3) := by decide +kernel
theorem dX7_bits_24 : decode cX7_bits 24 = .ok (.iload_n 1, 1) := by decide +kernel
theorem dX7_bits_25 : decode cX7_bits 25 = .ok (.ireturn, 1) := by decide +kernel
theorem dX7_thereOnes_0 : decode cX7_thereOnes 0 = .ok (.iconst 0, 1) := by decide +kernel
theorem dX7_thereOnes_1 : decode cX7_thereOnes 1 = .ok (.istore_n 1, 1) := by decide +kernel
theorem dX7_thereOnes_2 : decode cX7_thereOnes 2 = .ok (.iconst 0, 1) := by decide +kernel
theorem dX7_thereOnes_3 : decode cX7_thereOnes 3 = .ok (.istore_n 2, 1) := by decide +kernel
theorem dX7_thereOnes_4 : decode cX7_thereOnes 4 = .ok (.iload_n 2, 1) := by decide +kernel
theorem dX7_thereOnes_5 : decode cX7_thereOnes 5 = .ok (.aload_n 0, 1) := by decide +kernel
theorem dX7_thereOnes_6 : decode cX7_thereOnes 6 = .ok (.getfield 7, 3) := by decide +kernel
theorem dX7_thereOnes_9 : decode cX7_thereOnes 9 = .ok (.iconst 0, 1) := by decide +kernel
theorem dX7_thereOnes_10 : decode cX7_thereOnes 10 = .ok (.iaload, 1) := by decide +kernel
theorem dX7_thereOnes_11 : decode cX7_thereOnes 11 = .ok (.if_icmp .ge 21, 3) := by decide +kernel
theorem dX7_thereOnes_14 : decode cX7_thereOnes 14 = .ok (.iload_n 1, 1) := by decide +kernel
theorem dX7_thereOnes_15 : decode cX7_thereOnes 15 = .ok (.aload_n 0, 1) := by decide +kernel
theorem dX7_thereOnes_16 : decode cX7_thereOnes 16 = .ok (.iload_n 2, 1) := by decide +kernel
theorem dX7_thereOnes_17 : decode cX7_thereOnes 17 = .ok (.bipush 7, 2) := by decide +kernel
theorem dX7_thereOnes_19 : decode cX7_thereOnes 19 = .ok (.invokevirtual 45, 3) := by decide +kernel
theorem dX7_thereOnes_22 : decode cX7_thereOnes 22 = .ok (.iload_n 2, 1) := by decide +kernel
theorem dX7_thereOnes_23 : decode cX7_thereOnes 23 = .ok (.ishl, 1) := by decide +kernel
theorem dX7_thereOnes_24 : decode cX7_thereOnes 24 = .ok (.ior, 1) := by decide +kernel
theorem dX7_thereOnes_25 : decode cX7_thereOnes 25 = .ok (.istore_n 1, 1) := by decide +kernel
theorem dX7_thereOnes_26 : decode cX7_thereOnes 26 = .ok (.iinc 2 1, 3) := by decide +kernel
theorem dX7_thereOnes_29 : decode cX7_thereOnes 29 = .ok (.goto (-25), 3) := by decide +kernel
theorem dX7_thereOnes_32 : decode cX7_thereOnes 32 = .ok (.iload_n 1, 1) := by decide +kernel
theorem dX7_thereOnes_33 : decode cX7_thereOnes 33 = .ok (.ireturn, 1) := by decide +kernel
theorem dX7_sumOf_0 : decode cX7_sumOf 0 = .ok (.iconst 0, 1) := by decide +kernel
theorem dX7_sumOf_1 : decode cX7_sumOf 1 = .ok (.istore_n 3, 1) := by decide +kernel
theorem dX7_sumOf_2 : decode cX7_sumOf 2 = .ok (.iconst 0, 1) := by decide +kernel
theorem dX7_sumOf_3 : decode cX7_sumOf 3 = .ok (.istore 4, 2) := by decide +kernel
theorem dX7_sumOf_5 : decode cX7_sumOf 5 = .ok (.iload 4, 2) := by decide +kernel
theorem dX7_sumOf_7 : decode cX7_sumOf 7 = .ok (.aload_n 0, 1) := by decide +kernel
theorem dX7_sumOf_8 : decode cX7_sumOf 8 = .ok (.getfield 7, 3) := by decide +kernel
theorem dX7_sumOf_11 : decode cX7_sumOf 11 = .ok (.iconst 0, 1) := by decide +kernel
theorem dX7_sumOf_12 : decode cX7_sumOf 12 = .ok (.iaload, 1) := by decide +kernel
theorem dX7_sumOf_13 : decode cX7_sumOf 13 = .ok (.if_icmp .ge 26, 3) := by decide +kernel
theorem dX7_sumOf_16 : decode cX7_sumOf 16 = .ok (.iload_n 3, 1) := by decide +kernel
theorem dX7_sumOf_17 : decode cX7_sumOf 17 = .ok (.iload_n 1, 1) := by decide +kernel
theorem dX7_sumOf_18 : decode cX7_sumOf 18 = .ok (.iload 4, 2) := by decide +kernel
theorem dX7_sumOf_20 : decode cX7_sumOf 20 = .ok (.ishr, 1) := by decide +kernel
theorem dX7_sumOf_21 : decode cX7_sumOf 21 = .ok (.iconst 1, 1) := by decide +kernel
theorem dX7_sumOf_22 : decode cX7_sumOf 22 = .ok (.iand, 1) := by decide +kernel
theorem dX7_sumOf_23 : decode cX7_sumOf 23 = .ok (.aload_n 0, 1) := by decide +kernel
theorem dX7_sumOf_24 : decode cX7_sumOf 24 = .ok (.iload 4, 2) := by decide +kernel
theorem dX7_sumOf_26 : decode cX7_sumOf 26 = .ok (.iload_n 2, 1) := by decide +kernel
theorem dX7_sumOf_27 : decode cX7_sumOf 27 = .ok (.invokevirtual 45, 3) := by decide +kernel
theorem dX7_sumOf_30 : decode cX7_sumOf 30 = .ok (.imul, 1) := by decide +kernel
theorem dX7_sumOf_31 : decode cX7_sumOf 31 = .ok (.iadd, 1) := by decide +kernel
theorem dX7_sumOf_32 : decode cX7_sumOf 32 = .ok (.istore_n 3, 1) := by decide +kernel
theorem dX7_sumOf_33 : decode cX7_sumOf 33 = .ok (.iinc 4 1, 3) := by decide +kernel
theorem dX7_sumOf_36 : decode cX7_sumOf 36 = .ok (.goto (-31), 3) := by decide +kernel
theorem dX7_sumOf_39 : decode cX7_sumOf 39 = .ok (.iload_n 3, 1) := by decide +kernel
theorem dX7_sumOf_40 : decode cX7_sumOf 40 = .ok (.ireturn, 1) := by decide +kernel
theorem dX7_comes_0 : decode cX7_comes 0 = .ok (.iload_n 1, 1) := by decide +kernel
theorem dX7_comes_1 : decode cX7_comes 1 = .ok (.iconst 0, 1) := by decide +kernel
theorem dX7_comes_2 : decode cX7_comes 2 = .ok (.sipush 9999, 3) := by decide +kernel
theorem dX7_comes_5 : decode cX7_comes 5 = .ok (.invokestatic 41, 3) := by decide +kernel
theorem dX7_comes_8 : decode cX7_comes 8 = .ok (.ifCond .eq 12, 3) := by decide +kernel
theorem dX7_comes_11 : decode cX7_comes 11 = .ok (.iload_n 2, 1) := by decide +kernel
theorem dX7_comes_12 : decode cX7_comes 12 = .ok (.iconst 0, 1) := by decide +kernel
theorem dX7_comes_13 : decode cX7_comes 13 = .ok (.iconst 1, 1) := by decide +kernel
theorem dX7_comes_14 : decode cX7_comes 14 = .ok (.invokestatic 41, 3) := by decide +kernel
theorem dX7_comes_17 : decode cX7_comes 17 = .ok (.ifCond .ne 10, 3) := by decide +kernel
theorem dX7_comes_20 : decode cX7_comes 20 = .ok (.aload_n 0, 1) := by decide +kernel
theorem dX7_comes_21 : decode cX7_comes 21 = .ok (.ldc 53, 2) := by decide +kernel
theorem dX7_comes_23 : decode cX7_comes 23 = .ok (.invokevirtual 54, 3) := by decide +kernel
theorem dX7_comes_26 : decode cX7_comes 26 = .ok (.ireturn, 1) := by decide +kernel
theorem dX7_comes_27 : decode cX7_comes 27 = .ok (.aload_n 0, 1) := by decide +kernel
theorem dX7_comes_28 : decode cX7_comes 28 = .ok (.invokevirtual 212, 3) := by decide +kernel
theorem dX7_comes_31 : decode cX7_comes 31 = .ok (.istore_n 3, 1) := by decide +kernel
theorem dX7_comes_32 : decode cX7_comes 32 = .ok (.iconst 0, 1) := by decide +kernel
theorem dX7_comes_33 : decode cX7_comes 33 = .ok (.istore 4, 2) := by decide +kernel
theorem dX7_comes_35 : decode cX7_comes 35 = .ok (.iconst 1, 1) := by decide +kernel
theorem dX7_comes_36 : decode cX7_comes 36 = .ok (.istore 5, 2) := by decide +kernel
theorem dX7_comes_38 : decode cX7_comes 38 = .ok (.iload 5, 2) := by decide +kernel
theorem dX7_comes_40 : decode cX7_comes 40 = .ok (.iconst 1, 1) := by decide +kernel
theorem dX7_comes_41 : decode cX7_comes 41 = .ok (.aload_n 0, 1) := by decide +kernel
theorem dX7_comes_42 : decode cX7_comes 42 = .ok (.getfield 7, 3) := by decide +kernel
theorem dX7_comes_45 : decode cX7_comes 45 = .ok (.iconst 0, 1) := by decide +kernel
theorem dX7_comes_46 : decode cX7_comes 46 = .ok (.iaload, 1) := by decide +kernel
theorem dX7_comes_47 : decode cX7_comes 47 = .ok (.ishl, 1) := by decide +kernel
theorem dX7_comes_48 : decode cX7_comes 48 = .ok (.if_icmp .ge 95, 3) := by decide +kernel
theorem dX7_comes_51 : decode cX7_comes 51 = .ok (.iload 5, 2) := by decide +kernel
theorem dX7_comes_53 : decode cX7_comes 53 = .ok (.iload_n 3, 1) := by decide +kernel
theorem dX7_comes_54 : decode cX7_comes 54 = .ok (.iconst (-1), 1) := by decide +kernel
theorem dX7_comes_55 : decode cX7_comes 55 = .ok (.ixor, 1) := by decide +kernel
theorem dX7_comes_56 : decode cX7_comes 56 = .ok (.iand, 1) := by decide +kernel
theorem dX7_comes_57 : decode cX7_comes 57 = .ok (.ifCond .ne 25, 3) := by decide +kernel
theorem dX7_comes_60 : decode cX7_comes 60 = .ok (.iload 4, 2) := by decide +kernel
theorem dX7_comes_62 : decode cX7_comes 62 = .ok (.ifCond .eq 16, 3) := by decide +kernel
theorem dX7_comes_65 : decode cX7_comes 65 = .ok (.iload 5, 2) := by decide +kernel
theorem dX7_comes_67 : decode cX7_comes 67 = .ok (.invokestatic 215, 3) := by decide +kernel
theorem dX7_comes_70 : decode cX7_comes 70 = .ok (.iload 4, 2) := by decide +kernel
theorem dX7_comes_72 : decode cX7_comes 72 = .ok (.invokestatic 215, 3) := by decide +kernel
theorem dX7_comes_75 : decode cX7_comes 75 = .ok (.if_icmp .ge 7, 3) := by decide +kernel
theorem dX7_comes_78 : decode cX7_comes 78 = .ok (.iconst 1, 1) := by decide +kernel
theorem dX7_comes_79 : decode cX7_comes 79 = .ok (.goto 4, 3) := by decide +kernel
theorem dX7_comes_82 : decode cX7_comes 82 = .ok (.iconst 0, 1) := by decide +kernel
theorem dX7_comes_83 : decode cX7_comes 83 = .ok (.istore 6, 2) := by decide +kernel
theorem dX7_comes_85 : decode cX7_comes 85 = .ok (.iload 6, 2) := by decide +kernel
theorem dX7_comes_87 : decode cX7_comes 87 = .ok (.ifCond .eq 46, 3) := by decide +kernel
theorem dX7_comes_90 : decode cX7_comes 90 = .ok (.aload_n 0, 1) := by decide +kernel
theorem dX7_comes_91 : decode cX7_comes 91 = .ok (.iload 5, 2) := by decide +kernel
theorem dX7_comes_93 : decode cX7_comes 93 = .ok (.iconst 4, 1) := by decide +kernel
theorem dX7_comes_94 : decode cX7_comes 94 = .ok (.invokevirtual 218, 3) := by decide +kernel
theorem dX7_comes_97 : decode cX7_comes 97 = .ok (.aload_n 0, 1) := by decide +kernel
theorem dX7_comes_98 : decode cX7_comes 98 = .ok (.iload 5, 2) := by decide +kernel
theorem dX7_comes_100 : decode cX7_comes 100 = .ok (.iconst 5, 1) := by decide +kernel
theorem dX7_comes_101 : decode cX7_comes 101 = .ok (.invokevirtual 218, 3) := by decide +kernel
theorem dX7_comes_104 : decode cX7_comes 104 = .ok (.iadd, 1) := by decide +kernel
theorem dX7_comes_105 : decode cX7_comes 105 = .ok (.aload_n 0, 1) := by decide +kernel
theorem dX7_comes_106 : decode cX7_comes 106 = .ok (.iload 5, 2) := by decide +kernel
theorem dX7_comes_108 : decode cX7_comes 108 = .ok (.bipush 6, 2) := by decide +kernel
theorem dX7_comes_110 : decode cX7_comes 110 = .ok (.invokevirtual 218, 3) := by decide +kernel
theorem dX7_comes_113 : decode cX7_comes 113 = .ok (.iadd, 1) := by decide +kernel
theorem dX7_comes_114 : decode cX7_comes 114 = .ok (.aload_n 0, 1) := by decide +kernel
theorem dX7_comes_115 : decode cX7_comes 115 = .ok (.iload 5, 2) := by decide +kernel
theorem dX7_comes_117 : decode cX7_comes 117 = .ok (.iconst 3, 1) := by decide +kernel
theorem dX7_comes_118 : decode cX7_comes 118 = .ok (.invokevirtual 218, 3) := by decide +kernel
theorem dX7_comes_121 : decode cX7_comes 121 = .ok (.invokestatic 67, 3) := by decide +kernel
theorem dX7_comes_124 : decode cX7_comes 124 = .ok (.iload_n 1, 1) := by decide +kernel
theorem dX7_comes_125 : decode cX7_comes 125 = .ok (.if_icmp .ne 8, 3) := by decide +kernel
theorem dX7_comes_128 : decode cX7_comes 128 = .ok (.iload 5, 2) := by decide +kernel
theorem dX7_comes_130 : decode cX7_comes 130 = .ok (.goto 5, 3) := by decide +kernel
theorem dX7_comes_133 : decode cX7_comes 133 = .ok (.iload 4, 2) := by decide +kernel
theorem dX7_comes_135 : decode cX7_comes 135 = .ok (.istore 4, 2) := by decide +kernel
theorem dX7_comes_137 : decode cX7_comes 137 = .ok (.iinc 5 1, 3) := by decide +kernel
theorem dX7_comes_140 : decode cX7_comes 140 = .ok (.goto (-102), 3) := by decide +kernel
theorem dX7_comes_143 : decode cX7_comes 143 = .ok (.iload 4, 2) := by decide +kernel
theorem dX7_comes_145 : decode cX7_comes 145 = .ok (.ifCond .ne 10, 3) := by decide +kernel
theorem dX7_comes_148 : decode cX7_comes 148 = .ok (.aload_n 0, 1) := by decide +kernel
theorem dX7_comes_149 : decode cX7_comes 149 = .ok (.ldc 211, 2) := by decide +kernel
theorem dX7_comes_151 : decode cX7_comes 151 = .ok (.invokevirtual 54, 3) := by decide +kernel
theorem dX7_comes_154 : decode cX7_comes 154 = .ok (.ireturn, 1) := by decide +kernel
theorem dX7_comes_155 : decode cX7_comes 155 = .ok (.iload_n 2, 1) := by decide +kernel
theorem dX7_comes_156 : decode cX7_comes 156 = .ok (.ifCond .ne 8, 3) := by decide +kernel
theorem dX7_comes_159 : decode cX7_comes 159 = .ok (.iload 4, 2) := by decide +kernel
theorem dX7_comes_161 : decode cX7_comes 161 = .ok (.goto 8, 3) := by decide +kernel
theorem dX7_comes_164 : decode cX7_comes 164 = .ok (.iload 4, 2) := by decide +kernel
theorem dX7_comes_166 : decode cX7_comes 166 = .ok (.invokestatic 215, 3) := by decide +kernel
theorem dX7_comes_169 : decode cX7_comes 169 = .ok (.ireturn, 1) := by decide +kernel
theorem dX7_stays_0 : decode cX7_stays 0 = .ok (.iload_n 1, 1) := by decide +kernel
theorem dX7_stays_1 : decode cX7_stays 1 = .ok (.iconst 0, 1) := by decide +kernel
theorem dX7_stays_2 : decode cX7_stays 2 = .ok (.iconst 3, 1) := by decide +kernel
theorem dX7_stays_3 : decode cX7_stays 3 = .ok (.invokestatic 41, 3) := by decide +kernel
theorem dX7_stays_6 : decode cX7_stays 6 = .ok (.ifCond .eq 17, 3) := by decide +kernel
theorem dX7_stays_9 : decode cX7_stays 9 = .ok (.aload_n 0, 1) := by decide +kernel
theorem dX7_stays_10 : decode cX7_stays 10 = .ok (.aload_n 0, 1) := by decide +kernel
theorem dX7_stays_11 : decode cX7_stays 11 = .ok (.invokevirtual 212, 3) := by decide +kernel
theorem dX7_stays_14 : decode cX7_stays 14 = .ok (.iconst 3, 1) := by decide +kernel
theorem dX7_stays_15 : decode cX7_stays 15 = .ok (.iload_n 1, 1) := by decide +kernel
theorem dX7_stays_16 : decode cX7_stays 16 = .ok (.iadd, 1) := by decide +kernel
theorem dX7_stays_17 : decode cX7_stays 17 = .ok (.invokevirtual 218, 3) := by decide +kernel
theorem dX7_stays_20 : decode cX7_stays 20 = .ok (.goto 9, 3) := by decide +kernel
theorem dX7_stays_23 : decode cX7_stays 23 = .ok (.aload_n 0, 1) := by decide +kernel
theorem dX7_stays_24 : decode cX7_stays 24 = .ok (.ldc 53, 2) := by decide +kernel
theorem dX7_stays_26 : decode cX7_stays 26 = .ok (.invokevirtual 54, 3) := by decide +kernel
theorem dX7_stays_29 : decode cX7_stays 29 = .ok (.ireturn, 1) := by decide +kernel
theorem dX7_meets_0 : decode cX7_meets 0 = .ok (.aload_n 0, 1) := by decide +kernel
theorem dX7_meets_1 : decode cX7_meets 1 = .ok (.iload_n 1, 1) := by decide +kernel
theorem dX7_meets_2 : decode cX7_meets 2 = .ok (.invokevirtual 83, 3) := by decide +kernel
theorem dX7_meets_5 : decode cX7_meets 5 = .ok (.ifCond .eq 16, 3) := by decide +kernel
theorem dX7_meets_8 : decode cX7_meets 8 = .ok (.aload_n 0, 1) := by decide +kernel
theorem dX7_meets_9 : decode cX7_meets 9 = .ok (.iload_n 2, 1) := by decide +kernel
theorem dX7_meets_10 : decode cX7_meets 10 = .ok (.invokevirtual 83, 3) := by decide +kernel
theorem dX7_meets_13 : decode cX7_meets 13 = .ok (.ifCond .eq 8, 3) := by decide +kernel
theorem dX7_meets_16 : decode cX7_meets 16 = .ok (.iload_n 1, 1) := by decide +kernel
theorem dX7_meets_17 : decode cX7_meets 17 = .ok (.iload_n 2, 1) := by decide +kernel
theorem dX7_meets_18 : decode cX7_meets 18 = .ok (.if_icmp .ne 10, 3) := by decide +kernel
theorem dX7_meets_21 : decode cX7_meets 21 = .ok (.aload_n 0, 1) := by decide +kernel
theorem dX7_meets_22 : decode cX7_meets 22 = .ok (.ldc 53, 2) := by decide +kernel
theorem dX7_meets_24 : decode cX7_meets 24 = .ok (.invokevirtual 54, 3) := by decide +kernel
theorem dX7_meets_27 : decode cX7_meets 27 = .ok (.ireturn, 1) := by decide +kernel
theorem dX7_meets_28 : decode cX7_meets 28 = .ok (.aload_n 0, 1) := by decide +kernel
theorem dX7_meets_29 : decode cX7_meets 29 = .ok (.iload_n 1, 1) := by decide +kernel
theorem dX7_meets_30 : decode cX7_meets 30 = .ok (.invokevirtual 77, 3) := by decide +kernel
theorem dX7_meets_33 : decode cX7_meets 33 = .ok (.ifCond .eq 11, 3) := by decide +kernel
theorem dX7_meets_36 : decode cX7_meets 36 = .ok (.aload_n 0, 1) := by decide +kernel
theorem dX7_meets_37 : decode cX7_meets 37 = .ok (.iload_n 2, 1) := by decide +kernel
theorem dX7_meets_38 : decode cX7_meets 38 = .ok (.invokevirtual 77, 3) := by decide +kernel
theorem dX7_meets_41 : decode cX7_meets 41 = .ok (.ifCond .ne 10, 3) := by decide +kernel
theorem dX7_meets_44 : decode cX7_meets 44 = .ok (.aload_n 0, 1) := by decide +kernel
theorem dX7_meets_45 : decode cX7_meets 45 = .ok (.ldc 103, 2) := by decide +kernel
theorem dX7_meets_47 : decode cX7_meets 47 = .ok (.invokevirtual 54, 3) := by decide +kernel
theorem dX7_meets_50 : decode cX7_meets 50 = .ok (.ireturn, 1) := by decide +kernel
theorem dX7_meets_51 : decode cX7_meets 51 = .ok (.aload_n 0, 1) := by decide +kernel
theorem dX7_meets_52 : decode cX7_meets 52 = .ok (.aload_n 0, 1) := by decide +kernel
theorem dX7_meets_53 : decode cX7_meets 53 = .ok (.getfield 7, 3) := by decide +kernel
theorem dX7_meets_56 : decode cX7_meets 56 = .ok (.aload_n 0, 1) := by decide +kernel
theorem dX7_meets_57 : decode cX7_meets 57 = .ok (.getfield 16, 3) := by decide +kernel
theorem dX7_meets_60 : decode cX7_meets 60 = .ok (.invokevirtual 168, 3) := by decide +kernel
theorem dX7_meets_63 : decode cX7_meets 63 = .ok (.iconst 0, 1) := by decide +kernel
theorem dX7_meets_64 : decode cX7_meets 64 = .ok (.istore_n 3, 1) := by decide +kernel
theorem dX7_meets_65 : decode cX7_meets 65 = .ok (.iload_n 3, 1) := by decide +kernel
theorem dX7_meets_66 : decode cX7_meets 66 = .ok (.sipush 200, 3) := by decide +kernel
theorem dX7_meets_69 : decode cX7_meets 69 = .ok (.if_icmp .gt 32, 3) := by decide +kernel
theorem dX7_meets_72 : decode cX7_meets 72 = .ok (.aload_n 0, 1) := by decide +kernel
theorem dX7_meets_73 : decode cX7_meets 73 = .ok (.iload_n 1, 1) := by decide +kernel
theorem dX7_meets_74 : decode cX7_meets 74 = .ok (.iconst 2, 1) := by decide +kernel
theorem dX7_meets_75 : decode cX7_meets 75 = .ok (.invokevirtual 45, 3) := by decide +kernel
theorem dX7_meets_78 : decode cX7_meets 78 = .ok (.aload_n 0, 1) := by decide +kernel
theorem dX7_meets_79 : decode cX7_meets 79 = .ok (.iload_n 2, 1) := by decide +kernel
theorem dX7_meets_80 : decode cX7_meets 80 = .ok (.iconst 2, 1) := by decide +kernel
theorem dX7_meets_81 : decode cX7_meets 81 = .ok (.invokevirtual 45, 3) := by decide +kernel
theorem dX7_meets_84 : decode cX7_meets 84 = .ok (.if_icmp .eq 17, 3) := by decide +kernel
theorem dX7_meets_87 : decode cX7_meets 87 = .ok (.aload_n 0, 1) := by decide +kernel
theorem dX7_meets_88 : decode cX7_meets 88 = .ok (.aload_n 0, 1) := by decide +kernel
theorem dX7_meets_89 : decode cX7_meets 89 = .ok (.invokevirtual 86, 3) := by decide +kernel
theorem dX7_meets_92 : decode cX7_meets 92 = .ok (.invokevirtual 191, 3) := by decide +kernel
theorem dX7_meets_95 : decode cX7_meets 95 = .ok (.iinc 3 1, 3) := by decide +kernel
theorem dX7_meets_98 : decode cX7_meets 98 = .ok (.goto (-33), 3) := by decide +kernel
theorem dX7_meets_101 : decode cX7_meets 101 = .ok (.aload_n 0, 1) := by decide +kernel
theorem dX7_meets_102 : decode cX7_meets 102 = .ok (.aload_n 0, 1) := by decide +kernel
theorem dX7_meets_103 : decode cX7_meets 103 = .ok (.getfield 16, 3) := by decide +kernel
theorem dX7_meets_106 : decode cX7_meets 106 = .ok (.aload_n 0, 1) := by decide +kernel
theorem dX7_meets_107 : decode cX7_meets 107 = .ok (.getfield 7, 3) := by decide +kernel
theorem dX7_meets_110 : decode cX7_meets 110 = .ok (.invokevirtual 168, 3) := by decide +kernel
theorem dX7_meets_113 : decode cX7_meets 113 = .ok (.iload_n 3, 1) := by decide +kernel
theorem dX7_meets_114 : decode cX7_meets 114 = .ok (.sipush 200, 3) := by decide +kernel
theorem dX7_meets_117 : decode cX7_meets 117 = .ok (.if_icmp .le 12, 3) := by decide +kernel
theorem dX7_meets_120 : decode cX7_meets 120 = .ok (.aload_n 0, 1) := by decide +kernel
theorem dX7_meets_121 : decode cX7_meets 121 = .ok (.ldc 211, 2) := by decide +kernel
theorem dX7_meets_123 : decode cX7_meets 123 = .ok (.invokevirtual 54, 3) := by decide +kernel
theorem dX7_meets_126 : decode cX7_meets 126 = .ok (.goto 4, 3) := by decide +kernel
theorem dX7_meets_129 : decode cX7_meets 129 = .ok (.iload_n 3, 1) := by decide +kernel
theorem dX7_meets_130 : decode cX7_meets 130 = .ok (.ireturn, 1) := by decide +kernel
theorem dX7_isSheet_0 : decode cX7_isSheet 0 = .ok (.iload_n 0, 1) := by decide +kernel
theorem dX7_isSheet_1 : decode cX7_isSheet 1 = .ok (.iconst 0, 1) := by decide +kernel
theorem dX7_isSheet_2 : decode cX7_isSheet 2 = .ok (.iconst 3, 1) := by decide +kernel
theorem dX7_isSheet_3 : decode cX7_isSheet 3 = .ok (.invokestatic 41, 3) := by decide +kernel
theorem dX7_isSheet_6 : decode cX7_isSheet 6 = .ok (.ireturn, 1) := by decide +kernel
theorem dX7_storm_0 : decode cX7_storm 0 = .ok (.iload_n 1, 1) := by decide +kernel
theorem dX7_storm_1 : decode cX7_storm 1 = .ok (.invokestatic 221, 3) := by decide +kernel
theorem dX7_storm_4 : decode cX7_storm 4 = .ok (.ifCond .eq 12, 3) := by decide +kernel
theorem dX7_storm_7 : decode cX7_storm 7 = .ok (.iload_n 2, 1) := by decide +kernel
theorem dX7_storm_8 : decode cX7_storm 8 = .ok (.iconst 0, 1) := by decide +kernel
theorem dX7_storm_9 : decode cX7_storm 9 = .ok (.iconst 1, 1) := by decide +kernel
theorem dX7_storm_10 : decode cX7_storm 10 = .ok (.invokestatic 41, 3) := by decide +kernel
theorem dX7_storm_13 : decode cX7_storm 13 = .ok (.ifCond .ne 10, 3) := by decide +kernel
theorem dX7_storm_16 : decode cX7_storm 16 = .ok (.aload_n 0, 1) := by decide +kernel
theorem dX7_storm_17 : decode cX7_storm 17 = .ok (.ldc 53, 2) := by decide +kernel
theorem dX7_storm_19 : decode cX7_storm 19 = .ok (.invokevirtual 54, 3) := by decide +kernel
theorem dX7_storm_22 : decode cX7_storm 22 = .ok (.ireturn, 1) := by decide +kernel
theorem dX7_storm_23 : decode cX7_storm 23 = .ok (.aload_n 0, 1) := by decide +kernel
theorem dX7_storm_24 : decode cX7_storm 24 = .ok (.getfield 25, 3) := by decide +kernel
theorem dX7_storm_27 : decode cX7_storm 27 = .ok (.iload_n 1, 1) := by decide +kernel
theorem dX7_storm_28 : decode cX7_storm 28 = .ok (.iaload, 1) := by decide +kernel
theorem dX7_storm_29 : decode cX7_storm 29 = .ok (.ifCond .eq 13, 3) := by decide +kernel
theorem dX7_storm_32 : decode cX7_storm 32 = .ok (.aload_n 0, 1) := by decide +kernel
theorem dX7_storm_33 : decode cX7_storm 33 = .ok (.getfield 28, 3) := by decide +kernel
theorem dX7_storm_36 : decode cX7_storm 36 = .ok (.iload_n 1, 1) := by decide +kernel
theorem dX7_storm_37 : decode cX7_storm 37 = .ok (.iaload, 1) := by decide +kernel
theorem dX7_storm_38 : decode cX7_storm 38 = .ok (.iconst 4, 1) := by decide +kernel
theorem dX7_storm_39 : decode cX7_storm 39 = .ok (.if_icmp .eq 10, 3) := by decide +kernel
theorem dX7_storm_42 : decode cX7_storm 42 = .ok (.aload_n 0, 1) := by decide +kernel
theorem dX7_storm_43 : decode cX7_storm 43 = .ok (.ldc 211, 2) := by decide +kernel
theorem dX7_storm_45 : decode cX7_storm 45 = .ok (.invokevirtual 54, 3) := by decide +kernel
theorem dX7_storm_48 : decode cX7_storm 48 = .ok (.ireturn, 1) := by decide +kernel
theorem dX7_storm_49 : decode cX7_storm 49 = .ok (.aload_n 0, 1) := by decide +kernel
theorem dX7_storm_50 : decode cX7_storm 50 = .ok (.invokevirtual 212, 3) := by decide +kernel
theorem dX7_storm_53 : decode cX7_storm 53 = .ok (.istore_n 3, 1) := by decide +kernel
theorem dX7_storm_54 : decode cX7_storm 54 = .ok (.iconst 0, 1) := by decide +kernel
theorem dX7_storm_55 : decode cX7_storm 55 = .ok (.istore 4, 2) := by decide +kernel
theorem dX7_storm_57 : decode cX7_storm 57 = .ok (.iconst 0, 1) := by decide +kernel
theorem dX7_storm_58 : decode cX7_storm 58 = .ok (.istore 5, 2) := by decide +kernel
theorem dX7_storm_60 : decode cX7_storm 60 = .ok (.iconst 1, 1) := by decide +kernel
theorem dX7_storm_61 : decode cX7_storm 61 = .ok (.aload_n 0, 1) := by decide +kernel
theorem dX7_storm_62 : decode cX7_storm 62 = .ok (.getfield 7, 3) := by decide +kernel
theorem dX7_storm_65 : decode cX7_storm 65 = .ok (.iconst 0, 1) := by decide +kernel
theorem dX7_storm_66 : decode cX7_storm 66 = .ok (.iaload, 1) := by decide +kernel
theorem dX7_storm_67 : decode cX7_storm 67 = .ok (.ishl, 1) := by decide +kernel
theorem dX7_storm_68 : decode cX7_storm 68 = .ok (.iconst 1, 1) := by decide +kernel
theorem dX7_storm_69 : decode cX7_storm 69 = .ok (.isub, 1) := by decide +kernel
theorem dX7_storm_70 : decode cX7_storm 70 = .ok (.istore 6, 2) := by decide +kernel
theorem dX7_storm_72 : decode cX7_storm 72 = .ok (.iload 6, 2) := by decide +kernel
theorem dX7_storm_74 : decode cX7_storm 74 = .ok (.ifCond .le 106, 3) := by decide +kernel
theorem dX7_storm_77 : decode cX7_storm 77 = .ok (.iload 6, 2) := by decide +kernel
theorem dX7_storm_79 : decode cX7_storm 79 = .ok (.iload_n 3, 1) := by decide +kernel
theorem dX7_storm_80 : decode cX7_storm 80 = .ok (.iconst (-1), 1) := by decide +kernel
theorem dX7_storm_81 : decode cX7_storm 81 = .ok (.ixor, 1) := by decide +kernel
theorem dX7_storm_82 : decode cX7_storm 82 = .ok (.iand, 1) := by decide +kernel
theorem dX7_storm_83 : decode cX7_storm 83 = .ok (.ifCond .ne 7, 3) := by decide +kernel
theorem dX7_storm_86 : decode cX7_storm 86 = .ok (.iconst 1, 1) := by decide +kernel
theorem dX7_storm_87 : decode cX7_storm 87 = .ok (.goto 4, 3) := by decide +kernel
theorem dX7_storm_90 : decode cX7_storm 90 = .ok (.iconst 0, 1) := by decide +kernel
theorem dX7_storm_91 : decode cX7_storm 91 = .ok (.istore 7, 2) := by decide +kernel
theorem dX7_storm_93 : decode cX7_storm 93 = .ok (.iconst 0, 1) := by decide +kernel
theorem dX7_storm_94 : decode cX7_storm 94 = .ok (.istore 8, 2) := by decide +kernel
theorem dX7_storm_96 : decode cX7_storm 96 = .ok (.iload 8, 2) := by decide +kernel
theorem dX7_storm_98 : decode cX7_storm 98 = .ok (.iconst 4, 1) := by decide +kernel
theorem dX7_storm_99 : decode cX7_storm 99 = .ok (.if_icmp .ge 46, 3) := by decide +kernel
theorem dX7_storm_102 : decode cX7_storm 102 = .ok (.iload 7, 2) := by decide +kernel
theorem dX7_storm_104 : decode cX7_storm 104 = .ok (.ifCond .eq 41, 3) := by decide +kernel
theorem dX7_storm_107 : decode cX7_storm 107 = .ok (.aload_n 0, 1) := by decide +kernel
theorem dX7_storm_108 : decode cX7_storm 108 = .ok (.iload 6, 2) := by decide +kernel
theorem dX7_storm_110 : decode cX7_storm 110 = .ok (.iconst 3, 1) := by decide +kernel
theorem dX7_storm_111 : decode cX7_storm 111 = .ok (.iload 8, 2) := by decide +kernel
theorem dX7_storm_113 : decode cX7_storm 113 = .ok (.iadd, 1) := by decide +kernel
theorem dX7_storm_114 : decode cX7_storm 114 = .ok (.invokevirtual 218, 3) := by decide +kernel
theorem dX7_storm_117 : decode cX7_storm 117 = .ok (.aload_n 0, 1) := by decide +kernel
theorem dX7_storm_118 : decode cX7_storm 118 = .ok (.getfield 31, 3) := by decide +kernel
theorem dX7_storm_121 : decode cX7_storm 121 = .ok (.bipush 40, 2) := by decide +kernel
theorem dX7_storm_123 : decode cX7_storm 123 = .ok (.iload_n 1, 1) := by decide +kernel
theorem dX7_storm_124 : decode cX7_storm 124 = .ok (.imul, 1) := by decide +kernel
theorem dX7_storm_125 : decode cX7_storm 125 = .ok (.iload 8, 2) := by decide +kernel
theorem dX7_storm_127 : decode cX7_storm 127 = .ok (.iadd, 1) := by decide +kernel
theorem dX7_storm_128 : decode cX7_storm 128 = .ok (.iaload, 1) := by decide +kernel
theorem dX7_storm_129 : decode cX7_storm 129 = .ok (.if_icmp .ne 7, 3) := by decide +kernel
theorem dX7_storm_132 : decode cX7_storm 132 = .ok (.iconst 1, 1) := by decide +kernel
theorem dX7_storm_133 : decode cX7_storm 133 = .ok (.goto 4, 3) := by decide +kernel
theorem dX7_storm_136 : decode cX7_storm 136 = .ok (.iconst 0, 1) := by decide +kernel
theorem dX7_storm_137 : decode cX7_storm 137 = .ok (.istore 7, 2) := by decide +kernel
theorem dX7_storm_139 : decode cX7_storm 139 = .ok (.iinc 8 1, 3) := by decide +kernel
theorem dX7_storm_142 : decode cX7_storm 142 = .ok (.goto (-46), 3) := by decide +kernel
theorem dX7_storm_145 : decode cX7_storm 145 = .ok (.iload 7, 2) := by decide +kernel
theorem dX7_storm_147 : decode cX7_storm 147 = .ok (.ifCond .eq 8, 3) := by decide +kernel
theorem dX7_storm_150 : decode cX7_storm 150 = .ok (.iload 6, 2) := by decide +kernel
theorem dX7_storm_152 : decode cX7_storm 152 = .ok (.goto 5, 3) := by decide +kernel
theorem dX7_storm_155 : decode cX7_storm 155 = .ok (.iload 4, 2) := by decide +kernel
theorem dX7_storm_157 : decode cX7_storm 157 = .ok (.istore 4, 2) := by decide +kernel
theorem dX7_storm_159 : decode cX7_storm 159 = .ok (.iload 5, 2) := by decide +kernel
theorem dX7_storm_161 : decode cX7_storm 161 = .ok (.iload 7, 2) := by decide +kernel
theorem dX7_storm_163 : decode cX7_storm 163 = .ok (.ifCond .eq 7, 3) := by decide +kernel
theorem dX7_storm_166 : decode cX7_storm 166 = .ok (.iconst 1, 1) := by decide +kernel
theorem dX7_storm_167 : decode cX7_storm 167 = .ok (.goto 4, 3) := by decide +kernel
theorem dX7_storm_170 : decode cX7_storm 170 = .ok (.iconst 0, 1) := by decide +kernel
theorem dX7_storm_171 : decode cX7_storm 171 = .ok (.iadd, 1) := by decide +kernel
theorem dX7_storm_172 : decode cX7_storm 172 = .ok (.istore 5, 2) := by decide +kernel
theorem dX7_storm_174 : decode cX7_storm 174 = .ok (.iinc 6 (-1), 3) := by decide +kernel
theorem dX7_storm_177 : decode cX7_storm 177 = .ok (.goto (-105), 3) := by decide +kernel
theorem dX7_storm_180 : decode cX7_storm 180 = .ok (.iload 5, 2) := by decide +kernel
theorem dX7_storm_182 : decode cX7_storm 182 = .ok (.ifCond .ne 10, 3) := by decide +kernel
theorem dX7_storm_185 : decode cX7_storm 185 = .ok (.aload_n 0, 1) := by decide +kernel
theorem dX7_storm_186 : decode cX7_storm 186 = .ok (.ldc 211, 2) := by decide +kernel
theorem dX7_storm_188 : decode cX7_storm 188 = .ok (.invokevirtual 54, 3) := by decide +kernel
theorem dX7_storm_191 : decode cX7_storm 191 = .ok (.ireturn, 1) := by decide +kernel
theorem dX7_storm_192 : decode cX7_storm 192 = .ok (.iload_n 2, 1) := by decide +kernel
theorem dX7_storm_193 : decode cX7_storm 193 = .ok (.ifCond .ne 8, 3) := by decide +kernel
theorem dX7_storm_196 : decode cX7_storm 196 = .ok (.iload 4, 2) := by decide +kernel
theorem dX7_storm_198 : decode cX7_storm 198 = .ok (.goto 5, 3) := by decide +kernel
theorem dX7_storm_201 : decode cX7_storm 201 = .ok (.iload 5, 2) := by decide +kernel
theorem dX7_storm_203 : decode cX7_storm 203 = .ok (.ireturn, 1) := by decide +kernel
theorem dX7_paid_0 : decode cX7_paid 0 = .ok (.aload_n 0, 1) := by decide +kernel
theorem dX7_paid_1 : decode cX7_paid 1 = .ok (.aload_n 0, 1) := by decide +kernel
theorem dX7_paid_2 : decode cX7_paid 2 = .ok (.getfield 7, 3) := by decide +kernel
theorem dX7_paid_5 : decode cX7_paid 5 = .ok (.aload_n 0, 1) := by decide +kernel
theorem dX7_paid_6 : decode cX7_paid 6 = .ok (.getfield 16, 3) := by decide +kernel
theorem dX7_paid_9 : decode cX7_paid 9 = .ok (.invokevirtual 168, 3) := by decide +kernel
theorem dX7_paid_12 : decode cX7_paid 12 = .ok (.aload_n 0, 1) := by decide +kernel
theorem dX7_paid_13 : decode cX7_paid 13 = .ok (.invokevirtual 205, 3) := by decide +kernel
theorem dX7_paid_16 : decode cX7_paid 16 = .ok (.istore_n 1, 1) := by decide +kernel
theorem dX7_paid_17 : decode cX7_paid 17 = .ok (.aload_n 0, 1) := by decide +kernel
theorem dX7_paid_18 : decode cX7_paid 18 = .ok (.aload_n 0, 1) := by decide +kernel
theorem dX7_paid_19 : decode cX7_paid 19 = .ok (.getfield 16, 3) := by decide +kernel
theorem dX7_paid_22 : decode cX7_paid 22 = .ok (.aload_n 0, 1) := by decide +kernel
theorem dX7_paid_23 : decode cX7_paid 23 = .ok (.getfield 7, 3) := by decide +kernel
theorem dX7_paid_26 : decode cX7_paid 26 = .ok (.invokevirtual 168, 3) := by decide +kernel
theorem dX7_paid_29 : decode cX7_paid 29 = .ok (.iload_n 1, 1) := by decide +kernel
theorem dX7_paid_30 : decode cX7_paid 30 = .ok (.ireturn, 1) := by decide +kernel
theorem dX7_sun_0 : decode cX7_sun 0 = .ok (.aload_n 0, 1) := by decide +kernel
theorem dX7_sun_1 : decode cX7_sun 1 = .ok (.iload_n 1, 1) := by decide +kernel
theorem dX7_sun_2 : decode cX7_sun 2 = .ok (.invokevirtual 83, 3) := by decide +kernel
theorem dX7_sun_5 : decode cX7_sun 5 = .ok (.ifCond .eq 22, 3) := by decide +kernel
theorem dX7_sun_8 : decode cX7_sun 8 = .ok (.iload_n 2, 1) := by decide +kernel
theorem dX7_sun_9 : decode cX7_sun 9 = .ok (.iconst 1, 1) := by decide +kernel
theorem dX7_sun_10 : decode cX7_sun 10 = .ok (.bipush 99, 2) := by decide +kernel
theorem dX7_sun_12 : decode cX7_sun 12 = .ok (.invokestatic 41, 3) := by decide +kernel
theorem dX7_sun_15 : decode cX7_sun 15 = .ok (.ifCond .eq 12, 3) := by decide +kernel
theorem dX7_sun_18 : decode cX7_sun 18 = .ok (.iload_n 3, 1) := by decide +kernel
theorem dX7_sun_19 : decode cX7_sun 19 = .ok (.iconst 0, 1) := by decide +kernel
theorem dX7_sun_20 : decode cX7_sun 20 = .ok (.iconst 1, 1) := by decide +kernel
theorem dX7_sun_21 : decode cX7_sun 21 = .ok (.invokestatic 41, 3) := by decide +kernel
theorem dX7_sun_24 : decode cX7_sun 24 = .ok (.ifCond .ne 10, 3) := by decide +kernel
theorem dX7_sun_27 : decode cX7_sun 27 = .ok (.aload_n 0, 1) := by decide +kernel
theorem dX7_sun_28 : decode cX7_sun 28 = .ok (.ldc 53, 2) := by decide +kernel
theorem dX7_sun_30 : decode cX7_sun 30 = .ok (.invokevirtual 54, 3) := by decide +kernel
theorem dX7_sun_33 : decode cX7_sun 33 = .ok (.ireturn, 1) := by decide +kernel
theorem dX7_sun_34 : decode cX7_sun 34 = .ok (.iconst 0, 1) := by decide +kernel
theorem dX7_sun_35 : decode cX7_sun 35 = .ok (.istore 4, 2) := by decide +kernel
theorem dX7_sun_37 : decode cX7_sun 37 = .ok (.iconst (-1), 1) := by decide +kernel
theorem dX7_sun_38 : decode cX7_sun 38 = .ok (.istore 5, 2) := by decide +kernel
theorem dX7_sun_40 : decode cX7_sun 40 = .ok (.iconst 0, 1) := by decide +kernel
theorem dX7_sun_41 : decode cX7_sun 41 = .ok (.istore 6, 2) := by decide +kernel
theorem dX7_sun_43 : decode cX7_sun 43 = .ok (.iload 6, 2) := by decide +kernel
theorem dX7_sun_45 : decode cX7_sun 45 = .ok (.iconst 3, 1) := by decide +kernel
theorem dX7_sun_46 : decode cX7_sun 46 = .ok (.if_icmp .ge 81, 3) := by decide +kernel
theorem dX7_sun_49 : decode cX7_sun 49 = .ok (.iconst 0, 1) := by decide +kernel
theorem dX7_sun_50 : decode cX7_sun 50 = .ok (.istore 7, 2) := by decide +kernel
theorem dX7_sun_52 : decode cX7_sun 52 = .ok (.aload_n 0, 1) := by decide +kernel
theorem dX7_sun_53 : decode cX7_sun 53 = .ok (.iload_n 1, 1) := by decide +kernel
theorem dX7_sun_54 : decode cX7_sun 54 = .ok (.iconst 4, 1) := by decide +kernel
theorem dX7_sun_55 : decode cX7_sun 55 = .ok (.iload 6, 2) := by decide +kernel
theorem dX7_sun_57 : decode cX7_sun 57 = .ok (.iadd, 1) := by decide +kernel
theorem dX7_sun_58 : decode cX7_sun 58 = .ok (.invokevirtual 45, 3) := by decide +kernel
theorem dX7_sun_61 : decode cX7_sun 61 = .ok (.iload 6, 2) := by decide +kernel
theorem dX7_sun_63 : decode cX7_sun 63 = .ok (.iconst 1, 1) := by decide +kernel
theorem dX7_sun_64 : decode cX7_sun 64 = .ok (.iadd, 1) := by decide +kernel
theorem dX7_sun_65 : decode cX7_sun 65 = .ok (.iload 7, 2) := by decide +kernel
theorem dX7_sun_67 : decode cX7_sun 67 = .ok (.imul, 1) := by decide +kernel
theorem dX7_sun_68 : decode cX7_sun 68 = .ok (.isub, 1) := by decide +kernel
theorem dX7_sun_69 : decode cX7_sun 69 = .ok (.iload_n 2, 1) := by decide +kernel
theorem dX7_sun_70 : decode cX7_sun 70 = .ok (.if_icmp .lt 9, 3) := by decide +kernel
theorem dX7_sun_73 : decode cX7_sun 73 = .ok (.iinc 7 1, 3) := by decide +kernel
theorem dX7_sun_76 : decode cX7_sun 76 = .ok (.goto (-24), 3) := by decide +kernel
theorem dX7_sun_79 : decode cX7_sun 79 = .ok (.iload 5, 2) := by decide +kernel
theorem dX7_sun_81 : decode cX7_sun 81 = .ok (.ifCond .lt 10, 3) := by decide +kernel
theorem dX7_sun_84 : decode cX7_sun 84 = .ok (.iload 7, 2) := by decide +kernel
theorem dX7_sun_86 : decode cX7_sun 86 = .ok (.iload 5, 2) := by decide +kernel
theorem dX7_sun_88 : decode cX7_sun 88 = .ok (.if_icmp .ge 8, 3) := by decide +kernel
theorem dX7_sun_91 : decode cX7_sun 91 = .ok (.iload 6, 2) := by decide +kernel
theorem dX7_sun_93 : decode cX7_sun 93 = .ok (.goto 5, 3) := by decide +kernel
theorem dX7_sun_96 : decode cX7_sun 96 = .ok (.iload 4, 2) := by decide +kernel
theorem dX7_sun_98 : decode cX7_sun 98 = .ok (.istore 4, 2) := by decide +kernel
theorem dX7_sun_100 : decode cX7_sun 100 = .ok (.iload 5, 2) := by decide +kernel
theorem dX7_sun_102 : decode cX7_sun 102 = .ok (.ifCond .lt 10, 3) := by decide +kernel
theorem dX7_sun_105 : decode cX7_sun 105 = .ok (.iload 7, 2) := by decide +kernel
theorem dX7_sun_107 : decode cX7_sun 107 = .ok (.iload 5, 2) := by decide +kernel
theorem dX7_sun_109 : decode cX7_sun 109 = .ok (.if_icmp .ge 8, 3) := by decide +kernel
theorem dX7_sun_112 : decode cX7_sun 112 = .ok (.iload 7, 2) := by decide +kernel
theorem dX7_sun_114 : decode cX7_sun 114 = .ok (.goto 5, 3) := by decide +kernel
theorem dX7_sun_117 : decode cX7_sun 117 = .ok (.iload 5, 2) := by decide +kernel
theorem dX7_sun_119 : decode cX7_sun 119 = .ok (.istore 5, 2) := by decide +kernel
theorem dX7_sun_121 : decode cX7_sun 121 = .ok (.iinc 6 1, 3) := by decide +kernel
theorem dX7_sun_124 : decode cX7_sun 124 = .ok (.goto (-81), 3) := by decide +kernel
theorem dX7_sun_127 : decode cX7_sun 127 = .ok (.iload_n 3, 1) := by decide +kernel
theorem dX7_sun_128 : decode cX7_sun 128 = .ok (.ifCond .ne 8, 3) := by decide +kernel
theorem dX7_sun_131 : decode cX7_sun 131 = .ok (.iload 4, 2) := by decide +kernel
theorem dX7_sun_133 : decode cX7_sun 133 = .ok (.goto 5, 3) := by decide +kernel
theorem dX7_sun_136 : decode cX7_sun 136 = .ok (.iload 5, 2) := by decide +kernel
theorem dX7_sun_138 : decode cX7_sun 138 = .ok (.ireturn, 1) := by decide +kernel
theorem dX7_windFor_0 : decode cX7_windFor 0 = .ok (.bipush (-3), 2) := by decide +kernel
theorem dX7_windFor_2 : decode cX7_windFor 2 = .ok (.istore 4, 2) := by decide +kernel
theorem dX7_windFor_4 : decode cX7_windFor 4 = .ok (.iload 4, 2) := by decide +kernel
theorem dX7_windFor_6 : decode cX7_windFor 6 = .ok (.iconst 4, 1) := by decide +kernel
theorem dX7_windFor_7 : decode cX7_windFor 7 = .ok (.if_icmp .ge 28, 3) := by decide +kernel
theorem dX7_windFor_10 : decode cX7_windFor 10 = .ok (.iload_n 2, 1) := by decide +kernel
theorem dX7_windFor_11 : decode cX7_windFor 11 = .ok (.aload_n 0, 1) := by decide +kernel
theorem dX7_windFor_12 : decode cX7_windFor 12 = .ok (.iload_n 1, 1) := by decide +kernel
theorem dX7_windFor_13 : decode cX7_windFor 13 = .ok (.iload 4, 2) := by decide +kernel
theorem dX7_windFor_15 : decode cX7_windFor 15 = .ok (.invokevirtual 90, 3) := by decide +kernel
theorem dX7_windFor_18 : decode cX7_windFor 18 = .ok (.iadd, 1) := by decide +kernel
theorem dX7_windFor_19 : decode cX7_windFor 19 = .ok (.bipush 24, 2) := by decide +kernel
theorem dX7_windFor_21 : decode cX7_windFor 21 = .ok (.iadd, 1) := by decide +kernel
theorem dX7_windFor_22 : decode cX7_windFor 22 = .ok (.bipush 12, 2) := by decide +kernel
theorem dX7_windFor_24 : decode cX7_windFor 24 = .ok (.irem, 1) := by decide +kernel
theorem dX7_windFor_25 : decode cX7_windFor 25 = .ok (.iload_n 3, 1) := by decide +kernel
theorem dX7_windFor_26 : decode cX7_windFor 26 = .ok (.if_icmp .eq 9, 3) := by decide +kernel
theorem dX7_windFor_29 : decode cX7_windFor 29 = .ok (.iinc 4 1, 3) := by decide +kernel
theorem dX7_windFor_32 : decode cX7_windFor 32 = .ok (.goto (-28), 3) := by decide +kernel
theorem dX7_windFor_35 : decode cX7_windFor 35 = .ok (.iload 4, 2) := by decide +kernel
theorem dX7_windFor_37 : decode cX7_windFor 37 = .ok (.iconst 4, 1) := by decide +kernel
theorem dX7_windFor_38 : decode cX7_windFor 38 = .ok (.if_icmp .ge 8, 3) := by decide +kernel
theorem dX7_windFor_41 : decode cX7_windFor 41 = .ok (.iload 4, 2) := by decide +kernel
theorem dX7_windFor_43 : decode cX7_windFor 43 = .ok (.goto 5, 3) := by decide +kernel
theorem dX7_windFor_46 : decode cX7_windFor 46 = .ok (.bipush 9, 2) := by decide +kernel
theorem dX7_windFor_48 : decode cX7_windFor 48 = .ok (.ireturn, 1) := by decide +kernel
theorem dX7_winds_0 : decode cX7_winds 0 = .ok (.aload_n 0, 1) := by decide +kernel
theorem dX7_winds_1 : decode cX7_winds 1 = .ok (.iload_n 1, 1) := by decide +kernel
theorem dX7_winds_2 : decode cX7_winds 2 = .ok (.invokevirtual 83, 3) := by decide +kernel
theorem dX7_winds_5 : decode cX7_winds 5 = .ok (.ifCond .eq 20, 3) := by decide +kernel
theorem dX7_winds_8 : decode cX7_winds 8 = .ok (.iload_n 2, 1) := by decide +kernel
theorem dX7_winds_9 : decode cX7_winds 9 = .ok (.invokestatic 221, 3) := by decide +kernel
theorem dX7_winds_12 : decode cX7_winds 12 = .ok (.ifCond .eq 13, 3) := by decide +kernel
theorem dX7_winds_15 : decode cX7_winds 15 = .ok (.iload_n 3, 1) := by decide +kernel
theorem dX7_winds_16 : decode cX7_winds 16 = .ok (.iconst 0, 1) := by decide +kernel
theorem dX7_winds_17 : decode cX7_winds 17 = .ok (.bipush 7, 2) := by decide +kernel
theorem dX7_winds_19 : decode cX7_winds 19 = .ok (.invokestatic 41, 3) := by decide +kernel
theorem dX7_winds_22 : decode cX7_winds 22 = .ok (.ifCond .ne 10, 3) := by decide +kernel
theorem dX7_winds_25 : decode cX7_winds 25 = .ok (.aload_n 0, 1) := by decide +kernel
theorem dX7_winds_26 : decode cX7_winds 26 = .ok (.ldc 53, 2) := by decide +kernel
theorem dX7_winds_28 : decode cX7_winds 28 = .ok (.invokevirtual 54, 3) := by decide +kernel
theorem dX7_winds_31 : decode cX7_winds 31 = .ok (.ireturn, 1) := by decide +kernel
theorem dX7_winds_32 : decode cX7_winds 32 = .ok (.aload_n 0, 1) := by decide +kernel
theorem dX7_winds_33 : decode cX7_winds 33 = .ok (.iload_n 1, 1) := by decide +kernel
theorem dX7_winds_34 : decode cX7_winds 34 = .ok (.invokevirtual 77, 3) := by decide +kernel
theorem dX7_winds_37 : decode cX7_winds 37 = .ok (.ifCond .ne 10, 3) := by decide +kernel
theorem dX7_winds_40 : decode cX7_winds 40 = .ok (.aload_n 0, 1) := by decide +kernel
theorem dX7_winds_41 : decode cX7_winds 41 = .ok (.ldc 103, 2) := by decide +kernel
theorem dX7_winds_43 : decode cX7_winds 43 = .ok (.invokevirtual 54, 3) := by decide +kernel
theorem dX7_winds_46 : decode cX7_winds 46 = .ok (.ireturn, 1) := by decide +kernel
theorem dX7_winds_47 : decode cX7_winds 47 = .ok (.aload_n 0, 1) := by decide +kernel
theorem dX7_winds_48 : decode cX7_winds 48 = .ok (.getfield 25, 3) := by decide +kernel
theorem dX7_winds_51 : decode cX7_winds 51 = .ok (.iload_n 2, 1) := by decide +kernel
theorem dX7_winds_52 : decode cX7_winds 52 = .ok (.iaload, 1) := by decide +kernel
theorem dX7_winds_53 : decode cX7_winds 53 = .ok (.ifCond .eq 13, 3) := by decide +kernel
theorem dX7_winds_56 : decode cX7_winds 56 = .ok (.iload_n 3, 1) := by decide +kernel
theorem dX7_winds_57 : decode cX7_winds 57 = .ok (.aload_n 0, 1) := by decide +kernel
theorem dX7_winds_58 : decode cX7_winds 58 = .ok (.getfield 28, 3) := by decide +kernel
theorem dX7_winds_61 : decode cX7_winds 61 = .ok (.iload_n 2, 1) := by decide +kernel
theorem dX7_winds_62 : decode cX7_winds 62 = .ok (.iaload, 1) := by decide +kernel
theorem dX7_winds_63 : decode cX7_winds 63 = .ok (.if_icmp .lt 10, 3) := by decide +kernel
theorem dX7_winds_66 : decode cX7_winds 66 = .ok (.aload_n 0, 1) := by decide +kernel
theorem dX7_winds_67 : decode cX7_winds 67 = .ok (.ldc 211, 2) := by decide +kernel
theorem dX7_winds_69 : decode cX7_winds 69 = .ok (.invokevirtual 54, 3) := by decide +kernel
theorem dX7_winds_72 : decode cX7_winds 72 = .ok (.ireturn, 1) := by decide +kernel
theorem dX7_winds_73 : decode cX7_winds 73 = .ok (.aload_n 0, 1) := by decide +kernel
theorem dX7_winds_74 : decode cX7_winds 74 = .ok (.iload_n 1, 1) := by decide +kernel
theorem dX7_winds_75 : decode cX7_winds 75 = .ok (.iconst 2, 1) := by decide +kernel
theorem dX7_winds_76 : decode cX7_winds 76 = .ok (.invokevirtual 45, 3) := by decide +kernel
theorem dX7_winds_79 : decode cX7_winds 79 = .ok (.istore 4, 2) := by decide +kernel
theorem dX7_winds_81 : decode cX7_winds 81 = .ok (.bipush 9, 2) := by decide +kernel
theorem dX7_winds_83 : decode cX7_winds 83 = .ok (.istore 5, 2) := by decide +kernel
theorem dX7_winds_85 : decode cX7_winds 85 = .ok (.iconst 1, 1) := by decide +kernel
theorem dX7_winds_86 : decode cX7_winds 86 = .ok (.istore 6, 2) := by decide +kernel
theorem dX7_winds_88 : decode cX7_winds 88 = .ok (.iconst 0, 1) := by decide +kernel
theorem dX7_winds_89 : decode cX7_winds 89 = .ok (.istore 7, 2) := by decide +kernel
theorem dX7_winds_91 : decode cX7_winds 91 = .ok (.iload 7, 2) := by decide +kernel
theorem dX7_winds_93 : decode cX7_winds 93 = .ok (.aload_n 0, 1) := by decide +kernel
theorem dX7_winds_94 : decode cX7_winds 94 = .ok (.getfield 28, 3) := by decide +kernel
theorem dX7_winds_97 : decode cX7_winds 97 = .ok (.iload_n 2, 1) := by decide +kernel
theorem dX7_winds_98 : decode cX7_winds 98 = .ok (.iaload, 1) := by decide +kernel
theorem dX7_winds_99 : decode cX7_winds 99 = .ok (.if_icmp .ge 92, 3) := by decide +kernel
theorem dX7_winds_102 : decode cX7_winds 102 = .ok (.iload 7, 2) := by decide +kernel
theorem dX7_winds_104 : decode cX7_winds 104 = .ok (.bipush 8, 2) := by decide +kernel
theorem dX7_winds_106 : decode cX7_winds 106 = .ok (.if_icmp .ge 85, 3) := by decide +kernel
theorem dX7_winds_109 : decode cX7_winds 109 = .ok (.iload 6, 2) := by decide +kernel
theorem dX7_winds_111 : decode cX7_winds 111 = .ok (.ifCond .eq 80, 3) := by decide +kernel
theorem dX7_winds_114 : decode cX7_winds 114 = .ok (.aload_n 0, 1) := by decide +kernel
theorem dX7_winds_115 : decode cX7_winds 115 = .ok (.getfield 31, 3) := by decide +kernel
theorem dX7_winds_118 : decode cX7_winds 118 = .ok (.bipush 40, 2) := by decide +kernel
theorem dX7_winds_120 : decode cX7_winds 120 = .ok (.iload_n 2, 1) := by decide +kernel
theorem dX7_winds_121 : decode cX7_winds 121 = .ok (.imul, 1) := by decide +kernel
theorem dX7_winds_122 : decode cX7_winds 122 = .ok (.iload 7, 2) := by decide +kernel
theorem dX7_winds_124 : decode cX7_winds 124 = .ok (.iadd, 1) := by decide +kernel
theorem dX7_winds_125 : decode cX7_winds 125 = .ok (.iaload, 1) := by decide +kernel
theorem dX7_winds_126 : decode cX7_winds 126 = .ok (.istore 8, 2) := by decide +kernel
theorem dX7_winds_128 : decode cX7_winds 128 = .ok (.iload 8, 2) := by decide +kernel
theorem dX7_winds_130 : decode cX7_winds 130 = .ok (.invokestatic 49, 3) := by decide +kernel
theorem dX7_winds_133 : decode cX7_winds 133 = .ok (.ifCond .eq 15, 3) := by decide +kernel
theorem dX7_winds_136 : decode cX7_winds 136 = .ok (.aload_n 0, 1) := by decide +kernel
theorem dX7_winds_137 : decode cX7_winds 137 = .ok (.iload_n 1, 1) := by decide +kernel
theorem dX7_winds_138 : decode cX7_winds 138 = .ok (.iload 4, 2) := by decide +kernel
theorem dX7_winds_140 : decode cX7_winds 140 = .ok (.iload 8, 2) := by decide +kernel
theorem dX7_winds_142 : decode cX7_winds 142 = .ok (.invokevirtual 224, 3) := by decide +kernel
theorem dX7_winds_145 : decode cX7_winds 145 = .ok (.goto 5, 3) := by decide +kernel
theorem dX7_winds_148 : decode cX7_winds 148 = .ok (.bipush 9, 2) := by decide +kernel
theorem dX7_winds_150 : decode cX7_winds 150 = .ok (.istore 9, 2) := by decide +kernel
theorem dX7_winds_152 : decode cX7_winds 152 = .ok (.iload 9, 2) := by decide +kernel
theorem dX7_winds_154 : decode cX7_winds 154 = .ok (.bipush 9, 2) := by decide +kernel
theorem dX7_winds_156 : decode cX7_winds 156 = .ok (.if_icmp .ge 7, 3) := by decide +kernel
theorem dX7_winds_159 : decode cX7_winds 159 = .ok (.iconst 1, 1) := by decide +kernel
theorem dX7_winds_160 : decode cX7_winds 160 = .ok (.goto 4, 3) := by decide +kernel
theorem dX7_winds_163 : decode cX7_winds 163 = .ok (.iconst 0, 1) := by decide +kernel
theorem dX7_winds_164 : decode cX7_winds 164 = .ok (.istore 6, 2) := by decide +kernel
theorem dX7_winds_166 : decode cX7_winds 166 = .ok (.iload 7, 2) := by decide +kernel
theorem dX7_winds_168 : decode cX7_winds 168 = .ok (.iload_n 3, 1) := by decide +kernel
theorem dX7_winds_169 : decode cX7_winds 169 = .ok (.if_icmp .ne 8, 3) := by decide +kernel
theorem dX7_winds_172 : decode cX7_winds 172 = .ok (.iload 9, 2) := by decide +kernel
theorem dX7_winds_174 : decode cX7_winds 174 = .ok (.goto 5, 3) := by decide +kernel
theorem dX7_winds_177 : decode cX7_winds 177 = .ok (.iload 5, 2) := by decide +kernel
theorem dX7_winds_179 : decode cX7_winds 179 = .ok (.istore 5, 2) := by decide +kernel
theorem dX7_winds_181 : decode cX7_winds 181 = .ok (.iload 8, 2) := by decide +kernel
theorem dX7_winds_183 : decode cX7_winds 183 = .ok (.istore 4, 2) := by decide +kernel
theorem dX7_winds_185 : decode cX7_winds 185 = .ok (.iinc 7 1, 3) := by decide +kernel
theorem dX7_winds_188 : decode cX7_winds 188 = .ok (.goto (-97), 3) := by decide +kernel
theorem dX7_winds_191 : decode cX7_winds 191 = .ok (.iload 6, 2) := by decide +kernel
theorem dX7_winds_193 : decode cX7_winds 193 = .ok (.ifCond .eq 8, 3) := by decide +kernel
theorem dX7_winds_196 : decode cX7_winds 196 = .ok (.iload 5, 2) := by decide +kernel
theorem dX7_winds_198 : decode cX7_winds 198 = .ok (.goto 9, 3) := by decide +kernel
theorem dX7_winds_201 : decode cX7_winds 201 = .ok (.aload_n 0, 1) := by decide +kernel
theorem dX7_winds_202 : decode cX7_winds 202 = .ok (.ldc 211, 2) := by decide +kernel
theorem dX7_winds_204 : decode cX7_winds 204 = .ok (.invokevirtual 54, 3) := by decide +kernel
theorem dX7_winds_207 : decode cX7_winds 207 = .ok (.ireturn, 1) := by decide +kernel
theorem dX7_seed_0 : decode cX7_seed 0 = .ok (.aload_n 0, 1) := by decide +kernel
theorem dX7_seed_1 : decode cX7_seed 1 = .ok (.getfield 7, 3) := by decide +kernel
theorem dX7_seed_4 : decode cX7_seed 4 = .ok (.iconst 3, 1) := by decide +kernel
theorem dX7_seed_5 : decode cX7_seed 5 = .ok (.iaload, 1) := by decide +kernel
theorem dX7_seed_6 : decode cX7_seed 6 = .ok (.istore_n 2, 1) := by decide +kernel
theorem dX7_seed_7 : decode cX7_seed 7 = .ok (.aload_n 0, 1) := by decide +kernel
theorem dX7_seed_8 : decode cX7_seed 8 = .ok (.getfield 7, 3) := by decide +kernel
theorem dX7_seed_11 : decode cX7_seed 11 = .ok (.iconst 3, 1) := by decide +kernel
theorem dX7_seed_12 : decode cX7_seed 12 = .ok (.iload_n 1, 1) := by decide +kernel
theorem dX7_seed_13 : decode cX7_seed 13 = .ok (.iastore, 1) := by decide +kernel
theorem dX7_seed_14 : decode cX7_seed 14 = .ok (.iload_n 2, 1) := by decide +kernel
theorem dX7_seed_15 : decode cX7_seed 15 = .ok (.ireturn, 1) := by decide +kernel
theorem dX7_ran_0 : decode cX7_ran 0 = .ok (.aload_n 0, 1) := by decide +kernel
theorem dX7_ran_1 : decode cX7_ran 1 = .ok (.getfield 227, 3) := by decide +kernel
theorem dX7_ran_4 : decode cX7_ran 4 = .ok (.bipush 40, 2) := by decide +kernel
theorem dX7_ran_6 : decode cX7_ran 6 = .ok (.if_icmp .ge 23, 3) := by decide +kernel
theorem dX7_ran_9 : decode cX7_ran 9 = .ok (.aload_n 0, 1) := by decide +kernel
theorem dX7_ran_10 : decode cX7_ran 10 = .ok (.getfield 37, 3) := by decide +kernel
theorem dX7_ran_13 : decode cX7_ran 13 = .ok (.aload_n 0, 1) := by decide +kernel
theorem dX7_ran_14 : decode cX7_ran 14 = .ok (.getfield 227, 3) := by decide +kernel
theorem dX7_ran_17 : decode cX7_ran 17 = .ok (.iload_n 1, 1) := by decide +kernel
theorem dX7_ran_18 : decode cX7_ran 18 = .ok (.iastore, 1) := by decide +kernel
theorem dX7_ran_19 : decode cX7_ran 19 = .ok (.aload_n 0, 1) := by decide +kernel
theorem dX7_ran_20 : decode cX7_ran 20 = .ok (.dup, 1) := by decide +kernel
theorem dX7_ran_21 : decode cX7_ran 21 = .ok (.getfield 227, 3) := by decide +kernel
theorem dX7_ran_24 : decode cX7_ran 24 = .ok (.iconst 1, 1) := by decide +kernel
theorem dX7_ran_25 : decode cX7_ran 25 = .ok (.iadd, 1) := by decide +kernel
theorem dX7_ran_26 : decode cX7_ran 26 = .ok (.putfield 227, 3) := by decide +kernel
theorem dX7_ran_29 : decode cX7_ran 29 = .ok (.return_, 1) := by decide +kernel
theorem dX7_driftsIn_0 : decode cX7_driftsIn 0 = .ok (.iload_n 1, 1) := by decide +kernel
theorem dX7_driftsIn_1 : decode cX7_driftsIn 1 = .ok (.ifCond .ne 16, 3) := by decide +kernel
theorem dX7_driftsIn_4 : decode cX7_driftsIn 4 = .ok (.aload_n 0, 1) := by decide +kernel
theorem dX7_driftsIn_5 : decode cX7_driftsIn 5 = .ok (.bipush 10, 2) := by decide +kernel
theorem dX7_driftsIn_7 : decode cX7_driftsIn 7 = .ok (.invokevirtual 230, 3) := by decide +kernel
theorem dX7_driftsIn_10 : decode cX7_driftsIn 10 = .ok (.iload_n 2, 1) := by decide +kernel
theorem dX7_driftsIn_11 : decode cX7_driftsIn 11 = .ok (.aload_n 0, 1) := by decide +kernel
theorem dX7_driftsIn_12 : decode cX7_driftsIn 12 = .ok (.getfield 233, 3) := by decide +kernel
theorem dX7_driftsIn_15 : decode cX7_driftsIn 15 = .ok (.iadd, 1) := by decide +kernel
theorem dX7_driftsIn_16 : decode cX7_driftsIn 16 = .ok (.ireturn, 1) := by decide +kernel
theorem dX7_driftsIn_17 : decode cX7_driftsIn 17 = .ok (.iload_n 1, 1) := by decide +kernel
theorem dX7_driftsIn_18 : decode cX7_driftsIn 18 = .ok (.iconst 1, 1) := by decide +kernel
theorem dX7_driftsIn_19 : decode cX7_driftsIn 19 = .ok (.if_icmp .ne 18, 3) := by decide +kernel
theorem dX7_driftsIn_22 : decode cX7_driftsIn 22 = .ok (.aload_n 0, 1) := by decide +kernel
theorem dX7_driftsIn_23 : decode cX7_driftsIn 23 = .ok (.bipush 20, 2) := by decide +kernel
theorem dX7_driftsIn_25 : decode cX7_driftsIn 25 = .ok (.invokevirtual 230, 3) := by decide +kernel
theorem dX7_driftsIn_28 : decode cX7_driftsIn 28 = .ok (.aload_n 0, 1) := by decide +kernel
theorem dX7_driftsIn_29 : decode cX7_driftsIn 29 = .ok (.iconst 0, 1) := by decide +kernel
theorem dX7_driftsIn_30 : decode cX7_driftsIn 30 = .ok (.iload_n 2, 1) := by decide +kernel
theorem dX7_driftsIn_31 : decode cX7_driftsIn 31 = .ok (.invokevirtual 236, 3) := by decide +kernel
theorem dX7_driftsIn_34 : decode cX7_driftsIn 34 = .ok (.iconst 3, 1) := by decide +kernel
theorem dX7_driftsIn_35 : decode cX7_driftsIn 35 = .ok (.imul, 1) := by decide +kernel
theorem dX7_driftsIn_36 : decode cX7_driftsIn 36 = .ok (.ireturn, 1) := by decide +kernel
theorem dX7_driftsIn_37 : decode cX7_driftsIn 37 = .ok (.aload_n 0, 1) := by decide +kernel
theorem dX7_driftsIn_38 : decode cX7_driftsIn 38 = .ok (.iload_n 1, 1) := by decide +kernel
theorem dX7_driftsIn_39 : decode cX7_driftsIn 39 = .ok (.invokestatic 99, 3) := by decide +kernel
theorem dX7_driftsIn_42 : decode cX7_driftsIn 42 = .ok (.iload_n 2, 1) := by decide +kernel
theorem dX7_driftsIn_43 : decode cX7_driftsIn 43 = .ok (.invokevirtual 236, 3) := by decide +kernel
theorem dX7_driftsIn_46 : decode cX7_driftsIn 46 = .ok (.ireturn, 1) := by decide +kernel
theorem dX7_tastesIn_0 : decode cX7_tastesIn 0 = .ok (.iload_n 1, 1) := by decide +kernel
theorem dX7_tastesIn_1 : decode cX7_tastesIn 1 = .ok (.ifCond .ne 16, 3) := by decide +kernel
theorem dX7_tastesIn_4 : decode cX7_tastesIn 4 = .ok (.aload_n 0, 1) := by decide +kernel
theorem dX7_tastesIn_5 : decode cX7_tastesIn 5 = .ok (.bipush 12, 2) := by decide +kernel
theorem dX7_tastesIn_7 : decode cX7_tastesIn 7 = .ok (.invokevirtual 230, 3) := by decide +kernel
theorem dX7_tastesIn_10 : decode cX7_tastesIn 10 = .ok (.iload_n 2, 1) := by decide +kernel
theorem dX7_tastesIn_11 : decode cX7_tastesIn 11 = .ok (.aload_n 0, 1) := by decide +kernel
theorem dX7_tastesIn_12 : decode cX7_tastesIn 12 = .ok (.getfield 239, 3) := by decide +kernel
theorem dX7_tastesIn_15 : decode cX7_tastesIn 15 = .ok (.isub, 1) := by decide +kernel
theorem dX7_tastesIn_16 : decode cX7_tastesIn 16 = .ok (.ireturn, 1) := by decide +kernel
theorem dX7_tastesIn_17 : decode cX7_tastesIn 17 = .ok (.iload_n 1, 1) := by decide +kernel
theorem dX7_tastesIn_18 : decode cX7_tastesIn 18 = .ok (.iconst 3, 1) := by decide +kernel
theorem dX7_tastesIn_19 : decode cX7_tastesIn 19 = .ok (.if_icmp .ne 17, 3) := by decide +kernel
theorem dX7_tastesIn_22 : decode cX7_tastesIn 22 = .ok (.aload_n 0, 1) := by decide +kernel
theorem dX7_tastesIn_23 : decode cX7_tastesIn 23 = .ok (.bipush 40, 2) := by decide +kernel
theorem dX7_tastesIn_25 : decode cX7_tastesIn 25 = .ok (.invokevirtual 230, 3) := by decide +kernel
theorem dX7_tastesIn_28 : decode cX7_tastesIn 28 = .ok (.aload_n 0, 1) := by decide +kernel
theorem dX7_tastesIn_29 : decode cX7_tastesIn 29 = .ok (.iconst 0, 1) := by decide +kernel
theorem dX7_tastesIn_30 : decode cX7_tastesIn 30 = .ok (.iload_n 2, 1) := by decide +kernel
theorem dX7_tastesIn_31 : decode cX7_tastesIn 31 = .ok (.invokevirtual 242, 3) := by decide +kernel
theorem dX7_tastesIn_34 : decode cX7_tastesIn 34 = .ok (.ineg, 1) := by decide +kernel
theorem dX7_tastesIn_35 : decode cX7_tastesIn 35 = .ok (.ireturn, 1) := by decide +kernel
theorem dX7_tastesIn_36 : decode cX7_tastesIn 36 = .ok (.iload_n 1, 1) := by decide +kernel
theorem dX7_tastesIn_37 : decode cX7_tastesIn 37 = .ok (.bipush 6, 2) := by decide +kernel
theorem dX7_tastesIn_39 : decode cX7_tastesIn 39 = .ok (.if_icmp .ne 21, 3) := by decide +kernel
theorem dX7_tastesIn_42 : decode cX7_tastesIn 42 = .ok (.aload_n 0, 1) := by decide +kernel
theorem dX7_tastesIn_43 : decode cX7_tastesIn 43 = .ok (.bipush 70, 2) := by decide +kernel
theorem dX7_tastesIn_45 : decode cX7_tastesIn 45 = .ok (.invokevirtual 230, 3) := by decide +kernel
theorem dX7_tastesIn_48 : decode cX7_tastesIn 48 = .ok (.aload_n 0, 1) := by decide +kernel
theorem dX7_tastesIn_49 : decode cX7_tastesIn 49 = .ok (.iconst 3, 1) := by decide +kernel
theorem dX7_tastesIn_50 : decode cX7_tastesIn 50 = .ok (.iload_n 2, 1) := by decide +kernel
theorem dX7_tastesIn_51 : decode cX7_tastesIn 51 = .ok (.invokevirtual 242, 3) := by decide +kernel
theorem dX7_tastesIn_54 : decode cX7_tastesIn 54 = .ok (.aload_n 0, 1) := by decide +kernel
theorem dX7_tastesIn_55 : decode cX7_tastesIn 55 = .ok (.getfield 233, 3) := by decide +kernel
theorem dX7_tastesIn_58 : decode cX7_tastesIn 58 = .ok (.ixor, 1) := by decide +kernel
theorem dX7_tastesIn_59 : decode cX7_tastesIn 59 = .ok (.ireturn, 1) := by decide +kernel
theorem dX7_tastesIn_60 : decode cX7_tastesIn 60 = .ok (.aload_n 0, 1) := by decide +kernel
theorem dX7_tastesIn_61 : decode cX7_tastesIn 61 = .ok (.iload_n 1, 1) := by decide +kernel
theorem dX7_tastesIn_62 : decode cX7_tastesIn 62 = .ok (.invokestatic 99, 3) := by decide +kernel
theorem dX7_tastesIn_65 : decode cX7_tastesIn 65 = .ok (.iload_n 2, 1) := by decide +kernel
theorem dX7_tastesIn_66 : decode cX7_tastesIn 66 = .ok (.invokevirtual 242, 3) := by decide +kernel
theorem dX7_tastesIn_69 : decode cX7_tastesIn 69 = .ok (.ireturn, 1) := by decide +kernel
theorem dX7_rainsIn_0 : decode cX7_rainsIn 0 = .ok (.iload_n 1, 1) := by decide +kernel
theorem dX7_rainsIn_1 : decode cX7_rainsIn 1 = .ok (.ifCond .ne 21, 3) := by decide +kernel
theorem dX7_rainsIn_4 : decode cX7_rainsIn 4 = .ok (.aload_n 0, 1) := by decide +kernel
theorem dX7_rainsIn_5 : decode cX7_rainsIn 5 = .ok (.bipush 11, 2) := by decide +kernel
theorem dX7_rainsIn_7 : decode cX7_rainsIn 7 = .ok (.invokevirtual 230, 3) := by decide +kernel
theorem dX7_rainsIn_10 : decode cX7_rainsIn 10 = .ok (.aload_n 0, 1) := by decide +kernel
theorem dX7_rainsIn_11 : decode cX7_rainsIn 11 = .ok (.aload_n 0, 1) := by decide +kernel
theorem dX7_rainsIn_12 : decode cX7_rainsIn 12 = .ok (.getfield 245, 3) := by decide +kernel
theorem dX7_rainsIn_15 : decode cX7_rainsIn 15 = .ok (.iload_n 2, 1) := by decide +kernel
theorem dX7_rainsIn_16 : decode cX7_rainsIn 16 = .ok (.invokevirtual 236, 3) := by decide +kernel
theorem dX7_rainsIn_19 : decode cX7_rainsIn 19 = .ok (.iconst 2, 1) := by decide +kernel
theorem dX7_rainsIn_20 : decode cX7_rainsIn 20 = .ok (.imul, 1) := by decide +kernel
theorem dX7_rainsIn_21 : decode cX7_rainsIn 21 = .ok (.ireturn, 1) := by decide +kernel
theorem dX7_rainsIn_22 : decode cX7_rainsIn 22 = .ok (.iload_n 1, 1) := by decide +kernel
theorem dX7_rainsIn_23 : decode cX7_rainsIn 23 = .ok (.iconst 2, 1) := by decide +kernel
theorem dX7_rainsIn_24 : decode cX7_rainsIn 24 = .ok (.if_icmp .ne 28, 3) := by decide +kernel
theorem dX7_rainsIn_27 : decode cX7_rainsIn 27 = .ok (.aload_n 0, 1) := by decide +kernel
theorem dX7_rainsIn_28 : decode cX7_rainsIn 28 = .ok (.bipush 30, 2) := by decide +kernel
theorem dX7_rainsIn_30 : decode cX7_rainsIn 30 = .ok (.invokevirtual 230, 3) := by decide +kernel
theorem dX7_rainsIn_33 : decode cX7_rainsIn 33 = .ok (.aload_n 0, 1) := by decide +kernel
theorem dX7_rainsIn_34 : decode cX7_rainsIn 34 = .ok (.iconst 0, 1) := by decide +kernel
theorem dX7_rainsIn_35 : decode cX7_rainsIn 35 = .ok (.iload_n 2, 1) := by decide +kernel
theorem dX7_rainsIn_36 : decode cX7_rainsIn 36 = .ok (.invokevirtual 248, 3) := by decide +kernel
theorem dX7_rainsIn_39 : decode cX7_rainsIn 39 = .ok (.istore_n 3, 1) := by decide +kernel
theorem dX7_rainsIn_40 : decode cX7_rainsIn 40 = .ok (.iload_n 3, 1) := by decide +kernel
theorem dX7_rainsIn_41 : decode cX7_rainsIn 41 = .ok (.aload_n 0, 1) := by decide +kernel
theorem dX7_rainsIn_42 : decode cX7_rainsIn 42 = .ok (.aload_n 0, 1) := by decide +kernel
theorem dX7_rainsIn_43 : decode cX7_rainsIn 43 = .ok (.getfield 245, 3) := by decide +kernel
theorem dX7_rainsIn_46 : decode cX7_rainsIn 46 = .ok (.iconst 1, 1) := by decide +kernel
theorem dX7_rainsIn_47 : decode cX7_rainsIn 47 = .ok (.invokevirtual 242, 3) := by decide +kernel
theorem dX7_rainsIn_50 : decode cX7_rainsIn 50 = .ok (.isub, 1) := by decide +kernel
theorem dX7_rainsIn_51 : decode cX7_rainsIn 51 = .ok (.ireturn, 1) := by decide +kernel
theorem dX7_rainsIn_52 : decode cX7_rainsIn 52 = .ok (.iload_n 1, 1) := by decide +kernel
theorem dX7_rainsIn_53 : decode cX7_rainsIn 53 = .ok (.iconst 5, 1) := by decide +kernel
theorem dX7_rainsIn_54 : decode cX7_rainsIn 54 = .ok (.if_icmp .ne 18, 3) := by decide +kernel
theorem dX7_rainsIn_57 : decode cX7_rainsIn 57 = .ok (.aload_n 0, 1) := by decide +kernel
theorem dX7_rainsIn_58 : decode cX7_rainsIn 58 = .ok (.bipush 60, 2) := by decide +kernel
theorem dX7_rainsIn_60 : decode cX7_rainsIn 60 = .ok (.invokevirtual 230, 3) := by decide +kernel
theorem dX7_rainsIn_63 : decode cX7_rainsIn 63 = .ok (.aload_n 0, 1) := by decide +kernel
theorem dX7_rainsIn_64 : decode cX7_rainsIn 64 = .ok (.iconst 2, 1) := by decide +kernel
theorem dX7_rainsIn_65 : decode cX7_rainsIn 65 = .ok (.iload_n 2, 1) := by decide +kernel
theorem dX7_rainsIn_66 : decode cX7_rainsIn 66 = .ok (.iconst 1, 1) := by decide +kernel
theorem dX7_rainsIn_67 : decode cX7_rainsIn 67 = .ok (.iadd, 1) := by decide +kernel
theorem dX7_rainsIn_68 : decode cX7_rainsIn 68 = .ok (.invokevirtual 248, 3) := by decide +kernel
theorem dX7_rainsIn_71 : decode cX7_rainsIn 71 = .ok (.ireturn, 1) := by decide +kernel
theorem dX7_rainsIn_72 : decode cX7_rainsIn 72 = .ok (.aload_n 0, 1) := by decide +kernel
theorem dX7_rainsIn_73 : decode cX7_rainsIn 73 = .ok (.iload_n 1, 1) := by decide +kernel
theorem dX7_rainsIn_74 : decode cX7_rainsIn 74 = .ok (.invokestatic 99, 3) := by decide +kernel
theorem dX7_rainsIn_77 : decode cX7_rainsIn 77 = .ok (.iload_n 2, 1) := by decide +kernel
theorem dX7_rainsIn_78 : decode cX7_rainsIn 78 = .ok (.invokevirtual 248, 3) := by decide +kernel
theorem dX7_rainsIn_81 : decode cX7_rainsIn 81 = .ok (.ireturn, 1) := by decide +kernel
theorem dX7_tellsIn_0 : decode cX7_tellsIn 0 = .ok (.iload_n 1, 1) := by decide +kernel
theorem dX7_tellsIn_1 : decode cX7_tellsIn 1 = .ok (.ifCond .ne 31, 3) := by decide +kernel
theorem dX7_tellsIn_4 : decode cX7_tellsIn 4 = .ok (.aload_n 0, 1) := by decide +kernel
theorem dX7_tellsIn_5 : decode cX7_tellsIn 5 = .ok (.bipush 13, 2) := by decide +kernel
theorem dX7_tellsIn_7 : decode cX7_tellsIn 7 = .ok (.invokevirtual 230, 3) := by decide +kernel
theorem dX7_tellsIn_10 : decode cX7_tellsIn 10 = .ok (.aload_n 0, 1) := by decide +kernel
theorem dX7_tellsIn_11 : decode cX7_tellsIn 11 = .ok (.aload_n 0, 1) := by decide +kernel
theorem dX7_tellsIn_12 : decode cX7_tellsIn 12 = .ok (.getfield 245, 3) := by decide +kernel
theorem dX7_tellsIn_15 : decode cX7_tellsIn 15 = .ok (.iload_n 2, 1) := by decide +kernel
theorem dX7_tellsIn_16 : decode cX7_tellsIn 16 = .ok (.invokevirtual 248, 3) := by decide +kernel
theorem dX7_tellsIn_19 : decode cX7_tellsIn 19 = .ok (.istore_n 3, 1) := by decide +kernel
theorem dX7_tellsIn_20 : decode cX7_tellsIn 20 = .ok (.iload_n 3, 1) := by decide +kernel
theorem dX7_tellsIn_21 : decode cX7_tellsIn 21 = .ok (.aload_n 0, 1) := by decide +kernel
theorem dX7_tellsIn_22 : decode cX7_tellsIn 22 = .ok (.aload_n 0, 1) := by decide +kernel
theorem dX7_tellsIn_23 : decode cX7_tellsIn 23 = .ok (.getfield 245, 3) := by decide +kernel
theorem dX7_tellsIn_26 : decode cX7_tellsIn 26 = .ok (.iload_n 2, 1) := by decide +kernel
theorem dX7_tellsIn_27 : decode cX7_tellsIn 27 = .ok (.invokevirtual 242, 3) := by decide +kernel
theorem dX7_tellsIn_30 : decode cX7_tellsIn 30 = .ok (.ixor, 1) := by decide +kernel
theorem dX7_tellsIn_31 : decode cX7_tellsIn 31 = .ok (.ireturn, 1) := by decide +kernel
theorem dX7_tellsIn_32 : decode cX7_tellsIn 32 = .ok (.iload_n 1, 1) := by decide +kernel
theorem dX7_tellsIn_33 : decode cX7_tellsIn 33 = .ok (.iconst 4, 1) := by decide +kernel
theorem dX7_tellsIn_34 : decode cX7_tellsIn 34 = .ok (.if_icmp .ne 28, 3) := by decide +kernel
theorem dX7_tellsIn_37 : decode cX7_tellsIn 37 = .ok (.aload_n 0, 1) := by decide +kernel
theorem dX7_tellsIn_38 : decode cX7_tellsIn 38 = .ok (.bipush 50, 2) := by decide +kernel
theorem dX7_tellsIn_40 : decode cX7_tellsIn 40 = .ok (.invokevirtual 230, 3) := by decide +kernel
theorem dX7_tellsIn_43 : decode cX7_tellsIn 43 = .ok (.aload_n 0, 1) := by decide +kernel
theorem dX7_tellsIn_44 : decode cX7_tellsIn 44 = .ok (.iconst 1, 1) := by decide +kernel
theorem dX7_tellsIn_45 : decode cX7_tellsIn 45 = .ok (.iload_n 2, 1) := by decide +kernel
theorem dX7_tellsIn_46 : decode cX7_tellsIn 46 = .ok (.invokevirtual 251, 3) := by decide +kernel
theorem dX7_tellsIn_49 : decode cX7_tellsIn 49 = .ok (.istore_n 3, 1) := by decide +kernel
theorem dX7_tellsIn_50 : decode cX7_tellsIn 50 = .ok (.iload_n 3, 1) := by decide +kernel
theorem dX7_tellsIn_51 : decode cX7_tellsIn 51 = .ok (.aload_n 0, 1) := by decide +kernel
theorem dX7_tellsIn_52 : decode cX7_tellsIn 52 = .ok (.aload_n 0, 1) := by decide +kernel
theorem dX7_tellsIn_53 : decode cX7_tellsIn 53 = .ok (.getfield 245, 3) := by decide +kernel
theorem dX7_tellsIn_56 : decode cX7_tellsIn 56 = .ok (.iconst 2, 1) := by decide +kernel
theorem dX7_tellsIn_57 : decode cX7_tellsIn 57 = .ok (.invokevirtual 236, 3) := by decide +kernel
theorem dX7_tellsIn_60 : decode cX7_tellsIn 60 = .ok (.isub, 1) := by decide +kernel
theorem dX7_tellsIn_61 : decode cX7_tellsIn 61 = .ok (.ireturn, 1) := by decide +kernel
theorem dX7_tellsIn_62 : decode cX7_tellsIn 62 = .ok (.iload_n 1, 1) := by decide +kernel
theorem dX7_tellsIn_63 : decode cX7_tellsIn 63 = .ok (.bipush 6, 2) := by decide +kernel
theorem dX7_tellsIn_65 : decode cX7_tellsIn 65 = .ok (.if_icmp .ne 28, 3) := by decide +kernel
theorem dX7_tellsIn_68 : decode cX7_tellsIn 68 = .ok (.aload_n 0, 1) := by decide +kernel
theorem dX7_tellsIn_69 : decode cX7_tellsIn 69 = .ok (.bipush 71, 2) := by decide +kernel
theorem dX7_tellsIn_71 : decode cX7_tellsIn 71 = .ok (.invokevirtual 230, 3) := by decide +kernel
theorem dX7_tellsIn_74 : decode cX7_tellsIn 74 = .ok (.aload_n 0, 1) := by decide +kernel
theorem dX7_tellsIn_75 : decode cX7_tellsIn 75 = .ok (.aload_n 0, 1) := by decide +kernel
theorem dX7_tellsIn_76 : decode cX7_tellsIn 76 = .ok (.getfield 245, 3) := by decide +kernel
theorem dX7_tellsIn_79 : decode cX7_tellsIn 79 = .ok (.iload_n 2, 1) := by decide +kernel
theorem dX7_tellsIn_80 : decode cX7_tellsIn 80 = .ok (.invokevirtual 248, 3) := by decide +kernel
theorem dX7_tellsIn_83 : decode cX7_tellsIn 83 = .ok (.istore_n 3, 1) := by decide +kernel
theorem dX7_tellsIn_84 : decode cX7_tellsIn 84 = .ok (.iload_n 3, 1) := by decide +kernel
theorem dX7_tellsIn_85 : decode cX7_tellsIn 85 = .ok (.aload_n 0, 1) := by decide +kernel
theorem dX7_tellsIn_86 : decode cX7_tellsIn 86 = .ok (.iconst 3, 1) := by decide +kernel
theorem dX7_tellsIn_87 : decode cX7_tellsIn 87 = .ok (.iload_n 2, 1) := by decide +kernel
theorem dX7_tellsIn_88 : decode cX7_tellsIn 88 = .ok (.invokevirtual 251, 3) := by decide +kernel
theorem dX7_tellsIn_91 : decode cX7_tellsIn 91 = .ok (.isub, 1) := by decide +kernel
theorem dX7_tellsIn_92 : decode cX7_tellsIn 92 = .ok (.ireturn, 1) := by decide +kernel
theorem dX7_tellsIn_93 : decode cX7_tellsIn 93 = .ok (.aload_n 0, 1) := by decide +kernel
theorem dX7_tellsIn_94 : decode cX7_tellsIn 94 = .ok (.iload_n 1, 1) := by decide +kernel
theorem dX7_tellsIn_95 : decode cX7_tellsIn 95 = .ok (.invokestatic 99, 3) := by decide +kernel
theorem dX7_tellsIn_98 : decode cX7_tellsIn 98 = .ok (.iload_n 2, 1) := by decide +kernel
theorem dX7_tellsIn_99 : decode cX7_tellsIn 99 = .ok (.invokevirtual 251, 3) := by decide +kernel
theorem dX7_tellsIn_102 : decode cX7_tellsIn 102 = .ok (.ireturn, 1) := by decide +kernel
theorem dX7_voice_0 : decode cX7_voice 0 = .ok (.aload_n 0, 1) := by decide +kernel
theorem dX7_voice_1 : decode cX7_voice 1 = .ok (.iload_n 1, 1) := by decide +kernel
theorem dX7_voice_2 : decode cX7_voice 2 = .ok (.invokevirtual 83, 3) := by decide +kernel
theorem dX7_voice_5 : decode cX7_voice 5 = .ok (.ifCond .eq 12, 3) := by decide +kernel
theorem dX7_voice_8 : decode cX7_voice 8 = .ok (.iload_n 2, 1) := by decide +kernel
theorem dX7_voice_9 : decode cX7_voice 9 = .ok (.iconst 0, 1) := by decide +kernel
theorem dX7_voice_10 : decode cX7_voice 10 = .ok (.iconst 3, 1) := by decide +kernel
theorem dX7_voice_11 : decode cX7_voice 11 = .ok (.invokestatic 41, 3) := by decide +kernel
theorem dX7_voice_14 : decode cX7_voice 14 = .ok (.ifCond .ne 10, 3) := by decide +kernel
theorem dX7_voice_17 : decode cX7_voice 17 = .ok (.aload_n 0, 1) := by decide +kernel
theorem dX7_voice_18 : decode cX7_voice 18 = .ok (.ldc 53, 2) := by decide +kernel
theorem dX7_voice_20 : decode cX7_voice 20 = .ok (.invokevirtual 54, 3) := by decide +kernel
theorem dX7_voice_23 : decode cX7_voice 23 = .ok (.ireturn, 1) := by decide +kernel
theorem dX7_voice_24 : decode cX7_voice 24 = .ok (.aload_n 0, 1) := by decide +kernel
theorem dX7_voice_25 : decode cX7_voice 25 = .ok (.iconst 0, 1) := by decide +kernel
theorem dX7_voice_26 : decode cX7_voice 26 = .ok (.putfield 227, 3) := by decide +kernel
theorem dX7_voice_29 : decode cX7_voice 29 = .ok (.aload_n 0, 1) := by decide +kernel
theorem dX7_voice_30 : decode cX7_voice 30 = .ok (.aload_n 0, 1) := by decide +kernel
theorem dX7_voice_31 : decode cX7_voice 31 = .ok (.iload_n 1, 1) := by decide +kernel
theorem dX7_voice_32 : decode cX7_voice 32 = .ok (.iconst 0, 1) := by decide +kernel
theorem dX7_voice_33 : decode cX7_voice 33 = .ok (.invokevirtual 45, 3) := by decide +kernel
theorem dX7_voice_36 : decode cX7_voice 36 = .ok (.putfield 245, 3) := by decide +kernel
theorem dX7_voice_39 : decode cX7_voice 39 = .ok (.aload_n 0, 1) := by decide +kernel
theorem dX7_voice_40 : decode cX7_voice 40 = .ok (.iload_n 1, 1) := by decide +kernel
theorem dX7_voice_41 : decode cX7_voice 41 = .ok (.putfield 233, 3) := by decide +kernel
theorem dX7_voice_44 : decode cX7_voice 44 = .ok (.aload_n 0, 1) := by decide +kernel
theorem dX7_voice_45 : decode cX7_voice 45 = .ok (.aload_n 0, 1) := by decide +kernel
theorem dX7_voice_46 : decode cX7_voice 46 = .ok (.iload_n 1, 1) := by decide +kernel
theorem dX7_voice_47 : decode cX7_voice 47 = .ok (.iconst 1, 1) := by decide +kernel
theorem dX7_voice_48 : decode cX7_voice 48 = .ok (.invokevirtual 45, 3) := by decide +kernel
theorem dX7_voice_51 : decode cX7_voice 51 = .ok (.putfield 239, 3) := by decide +kernel
theorem dX7_voice_54 : decode cX7_voice 54 = .ok (.iload_n 2, 1) := by decide +kernel
theorem dX7_voice_55 : decode cX7_voice 55 = .ok (.tableswitch 55 0 2 #[25, 35, 45], 25) := by decide +kernel
theorem dX7_voice_80 : decode cX7_voice 80 = .ok (.aload_n 0, 1) := by decide +kernel
theorem dX7_voice_81 : decode cX7_voice 81 = .ok (.aload_n 0, 1) := by decide +kernel
theorem dX7_voice_82 : decode cX7_voice 82 = .ok (.getfield 245, 3) := by decide +kernel
theorem dX7_voice_85 : decode cX7_voice 85 = .ok (.iload_n 3, 1) := by decide +kernel
theorem dX7_voice_86 : decode cX7_voice 86 = .ok (.invokevirtual 236, 3) := by decide +kernel
theorem dX7_voice_89 : decode cX7_voice 89 = .ok (.ireturn, 1) := by decide +kernel
theorem dX7_voice_90 : decode cX7_voice 90 = .ok (.aload_n 0, 1) := by decide +kernel
theorem dX7_voice_91 : decode cX7_voice 91 = .ok (.aload_n 0, 1) := by decide +kernel
theorem dX7_voice_92 : decode cX7_voice 92 = .ok (.getfield 245, 3) := by decide +kernel
theorem dX7_voice_95 : decode cX7_voice 95 = .ok (.iload_n 3, 1) := by decide +kernel
theorem dX7_voice_96 : decode cX7_voice 96 = .ok (.invokevirtual 248, 3) := by decide +kernel
theorem dX7_voice_99 : decode cX7_voice 99 = .ok (.ireturn, 1) := by decide +kernel
theorem dX7_voice_100 : decode cX7_voice 100 = .ok (.aload_n 0, 1) := by decide +kernel
theorem dX7_voice_101 : decode cX7_voice 101 = .ok (.aload_n 0, 1) := by decide +kernel
theorem dX7_voice_102 : decode cX7_voice 102 = .ok (.getfield 245, 3) := by decide +kernel
theorem dX7_voice_105 : decode cX7_voice 105 = .ok (.iload_n 3, 1) := by decide +kernel
theorem dX7_voice_106 : decode cX7_voice 106 = .ok (.invokevirtual 242, 3) := by decide +kernel
theorem dX7_voice_109 : decode cX7_voice 109 = .ok (.ireturn, 1) := by decide +kernel
theorem dX7_voice_110 : decode cX7_voice 110 = .ok (.aload_n 0, 1) := by decide +kernel
theorem dX7_voice_111 : decode cX7_voice 111 = .ok (.aload_n 0, 1) := by decide +kernel
theorem dX7_voice_112 : decode cX7_voice 112 = .ok (.getfield 245, 3) := by decide +kernel
theorem dX7_voice_115 : decode cX7_voice 115 = .ok (.iload_n 3, 1) := by decide +kernel
theorem dX7_voice_116 : decode cX7_voice 116 = .ok (.invokevirtual 251, 3) := by decide +kernel
theorem dX7_voice_119 : decode cX7_voice 119 = .ok (.ireturn, 1) := by decide +kernel
theorem dX7_trace_0 : decode cX7_trace 0 = .ok (.iload_n 1, 1) := by decide +kernel
theorem dX7_trace_1 : decode cX7_trace 1 = .ok (.iconst 0, 1) := by decide +kernel
theorem dX7_trace_2 : decode cX7_trace 2 = .ok (.aload_n 0, 1) := by decide +kernel
theorem dX7_trace_3 : decode cX7_trace 3 = .ok (.getfield 227, 3) := by decide +kernel
theorem dX7_trace_6 : decode cX7_trace 6 = .ok (.iconst 1, 1) := by decide +kernel
theorem dX7_trace_7 : decode cX7_trace 7 = .ok (.isub, 1) := by decide +kernel
theorem dX7_trace_8 : decode cX7_trace 8 = .ok (.invokestatic 41, 3) := by decide +kernel
theorem dX7_trace_11 : decode cX7_trace 11 = .ok (.ifCond .eq 12, 3) := by decide +kernel
theorem dX7_trace_14 : decode cX7_trace 14 = .ok (.aload_n 0, 1) := by decide +kernel
theorem dX7_trace_15 : decode cX7_trace 15 = .ok (.getfield 37, 3) := by decide +kernel
theorem dX7_trace_18 : decode cX7_trace 18 = .ok (.iload_n 1, 1) := by decide +kernel
theorem dX7_trace_19 : decode cX7_trace 19 = .ok (.iaload, 1) := by decide +kernel
theorem dX7_trace_20 : decode cX7_trace 20 = .ok (.goto 9, 3) := by decide +kernel
theorem dX7_trace_23 : decode cX7_trace 23 = .ok (.aload_n 0, 1) := by decide +kernel
theorem dX7_trace_24 : decode cX7_trace 24 = .ok (.ldc 211, 2) := by decide +kernel
theorem dX7_trace_26 : decode cX7_trace 26 = .ok (.invokevirtual 54, 3) := by decide +kernel
theorem dX7_trace_29 : decode cX7_trace 29 = .ok (.ireturn, 1) := by decide +kernel
theorem dX7_narrow_0 : decode cX7_narrow 0 = .ok (.iload_n 0, 1) := by decide +kernel
theorem dX7_narrow_1 : decode cX7_narrow 1 = .ok (.bipush 8, 2) := by decide +kernel
theorem dX7_narrow_3 : decode cX7_narrow 3 = .ok (.if_icmp .ne 8, 3) := by decide +kernel
theorem dX7_narrow_6 : decode cX7_narrow 6 = .ok (.iload_n 1, 1) := by decide +kernel
theorem dX7_narrow_7 : decode cX7_narrow 7 = .ok (.i2b, 1) := by decide +kernel
theorem dX7_narrow_8 : decode cX7_narrow 8 = .ok (.goto 15, 3) := by decide +kernel
theorem dX7_narrow_11 : decode cX7_narrow 11 = .ok (.iload_n 0, 1) := by decide +kernel
theorem dX7_narrow_12 : decode cX7_narrow 12 = .ok (.bipush 16, 2) := by decide +kernel
theorem dX7_narrow_14 : decode cX7_narrow 14 = .ok (.if_icmp .ne 8, 3) := by decide +kernel
theorem dX7_narrow_17 : decode cX7_narrow 17 = .ok (.iload_n 1, 1) := by decide +kernel
theorem dX7_narrow_18 : decode cX7_narrow 18 = .ok (.i2s, 1) := by decide +kernel
theorem dX7_narrow_19 : decode cX7_narrow 19 = .ok (.goto 4, 3) := by decide +kernel
theorem dX7_narrow_22 : decode cX7_narrow 22 = .ok (.iload_n 1, 1) := by decide +kernel
theorem dX7_narrow_23 : decode cX7_narrow 23 = .ok (.ireturn, 1) := by decide +kernel
theorem dX7_sheet_0 : decode cX7_sheet 0 = .ok (.iload_n 1, 1) := by decide +kernel
theorem dX7_sheet_1 : decode cX7_sheet 1 = .ok (.invokestatic 221, 3) := by decide +kernel
theorem dX7_sheet_4 : decode cX7_sheet 4 = .ok (.ifCond .eq 25, 3) := by decide +kernel
theorem dX7_sheet_7 : decode cX7_sheet 7 = .ok (.iload_n 2, 1) := by decide +kernel
theorem dX7_sheet_8 : decode cX7_sheet 8 = .ok (.ifCond .eq 28, 3) := by decide +kernel
theorem dX7_sheet_11 : decode cX7_sheet 11 = .ok (.iload_n 2, 1) := by decide +kernel
theorem dX7_sheet_12 : decode cX7_sheet 12 = .ok (.bipush 8, 2) := by decide +kernel
theorem dX7_sheet_14 : decode cX7_sheet 14 = .ok (.if_icmp .eq 22, 3) := by decide +kernel
theorem dX7_sheet_17 : decode cX7_sheet 17 = .ok (.iload_n 2, 1) := by decide +kernel
theorem dX7_sheet_18 : decode cX7_sheet 18 = .ok (.bipush 16, 2) := by decide +kernel
theorem dX7_sheet_20 : decode cX7_sheet 20 = .ok (.if_icmp .eq 16, 3) := by decide +kernel
theorem dX7_sheet_23 : decode cX7_sheet 23 = .ok (.iload_n 2, 1) := by decide +kernel
theorem dX7_sheet_24 : decode cX7_sheet 24 = .ok (.bipush 32, 2) := by decide +kernel
theorem dX7_sheet_26 : decode cX7_sheet 26 = .ok (.if_icmp .eq 10, 3) := by decide +kernel
theorem dX7_sheet_29 : decode cX7_sheet 29 = .ok (.aload_n 0, 1) := by decide +kernel
theorem dX7_sheet_30 : decode cX7_sheet 30 = .ok (.ldc 53, 2) := by decide +kernel
theorem dX7_sheet_32 : decode cX7_sheet 32 = .ok (.invokevirtual 54, 3) := by decide +kernel
theorem dX7_sheet_35 : decode cX7_sheet 35 = .ok (.ireturn, 1) := by decide +kernel
theorem dX7_sheet_36 : decode cX7_sheet 36 = .ok (.iload_n 2, 1) := by decide +kernel
theorem dX7_sheet_37 : decode cX7_sheet 37 = .ok (.ifCond .eq 14, 3) := by decide +kernel
theorem dX7_sheet_40 : decode cX7_sheet 40 = .ok (.iload_n 3, 1) := by decide +kernel
theorem dX7_sheet_41 : decode cX7_sheet 41 = .ok (.ifCond .ge 10, 3) := by decide +kernel
theorem dX7_sheet_44 : decode cX7_sheet 44 = .ok (.aload_n 0, 1) := by decide +kernel
theorem dX7_sheet_45 : decode cX7_sheet 45 = .ok (.ldc 103, 2) := by decide +kernel
theorem dX7_sheet_47 : decode cX7_sheet 47 = .ok (.invokevirtual 54, 3) := by decide +kernel
theorem dX7_sheet_50 : decode cX7_sheet 50 = .ok (.ireturn, 1) := by decide +kernel
theorem dX7_sheet_51 : decode cX7_sheet 51 = .ok (.iload_n 2, 1) := by decide +kernel
theorem dX7_sheet_52 : decode cX7_sheet 52 = .ok (.ifCond .eq 16, 3) := by decide +kernel
theorem dX7_sheet_55 : decode cX7_sheet 55 = .ok (.iload_n 3, 1) := by decide +kernel
theorem dX7_sheet_56 : decode cX7_sheet 56 = .ok (.bipush 40, 2) := by decide +kernel
theorem dX7_sheet_58 : decode cX7_sheet 58 = .ok (.if_icmp .le 10, 3) := by decide +kernel
theorem dX7_sheet_61 : decode cX7_sheet 61 = .ok (.aload_n 0, 1) := by decide +kernel
theorem dX7_sheet_62 : decode cX7_sheet 62 = .ok (.ldc 53, 2) := by decide +kernel
theorem dX7_sheet_64 : decode cX7_sheet 64 = .ok (.invokevirtual 54, 3) := by decide +kernel
theorem dX7_sheet_67 : decode cX7_sheet 67 = .ok (.ireturn, 1) := by decide +kernel
theorem dX7_sheet_68 : decode cX7_sheet 68 = .ok (.aload_n 0, 1) := by decide +kernel
theorem dX7_sheet_69 : decode cX7_sheet 69 = .ok (.getfield 25, 3) := by decide +kernel
theorem dX7_sheet_72 : decode cX7_sheet 72 = .ok (.iload_n 1, 1) := by decide +kernel
theorem dX7_sheet_73 : decode cX7_sheet 73 = .ok (.iload_n 2, 1) := by decide +kernel
theorem dX7_sheet_74 : decode cX7_sheet 74 = .ok (.iastore, 1) := by decide +kernel
theorem dX7_sheet_75 : decode cX7_sheet 75 = .ok (.aload_n 0, 1) := by decide +kernel
theorem dX7_sheet_76 : decode cX7_sheet 76 = .ok (.getfield 28, 3) := by decide +kernel
theorem dX7_sheet_79 : decode cX7_sheet 79 = .ok (.iload_n 1, 1) := by decide +kernel
theorem dX7_sheet_80 : decode cX7_sheet 80 = .ok (.iload_n 2, 1) := by decide +kernel
theorem dX7_sheet_81 : decode cX7_sheet 81 = .ok (.ifCond .ne 7, 3) := by decide +kernel
theorem dX7_sheet_84 : decode cX7_sheet 84 = .ok (.iconst 0, 1) := by decide +kernel
theorem dX7_sheet_85 : decode cX7_sheet 85 = .ok (.goto 4, 3) := by decide +kernel
theorem dX7_sheet_88 : decode cX7_sheet 88 = .ok (.iload_n 3, 1) := by decide +kernel
theorem dX7_sheet_89 : decode cX7_sheet 89 = .ok (.iastore, 1) := by decide +kernel
theorem dX7_sheet_90 : decode cX7_sheet 90 = .ok (.iconst 0, 1) := by decide +kernel
theorem dX7_sheet_91 : decode cX7_sheet 91 = .ok (.istore 4, 2) := by decide +kernel
theorem dX7_sheet_93 : decode cX7_sheet 93 = .ok (.iload 4, 2) := by decide +kernel
theorem dX7_sheet_95 : decode cX7_sheet 95 = .ok (.bipush 40, 2) := by decide +kernel
theorem dX7_sheet_97 : decode cX7_sheet 97 = .ok (.if_icmp .ge 22, 3) := by decide +kernel
theorem dX7_sheet_100 : decode cX7_sheet 100 = .ok (.aload_n 0, 1) := by decide +kernel
theorem dX7_sheet_101 : decode cX7_sheet 101 = .ok (.getfield 31, 3) := by decide +kernel
theorem dX7_sheet_104 : decode cX7_sheet 104 = .ok (.bipush 40, 2) := by decide +kernel
theorem dX7_sheet_106 : decode cX7_sheet 106 = .ok (.iload_n 1, 1) := by decide +kernel
theorem dX7_sheet_107 : decode cX7_sheet 107 = .ok (.imul, 1) := by decide +kernel
theorem dX7_sheet_108 : decode cX7_sheet 108 = .ok (.iload 4, 2) := by decide +kernel
theorem dX7_sheet_110 : decode cX7_sheet 110 = .ok (.iadd, 1) := by decide +kernel
theorem dX7_sheet_111 : decode cX7_sheet 111 = .ok (.iconst 0, 1) := by decide +kernel
theorem dX7_sheet_112 : decode cX7_sheet 112 = .ok (.iastore, 1) := by decide +kernel
theorem dX7_sheet_113 : decode cX7_sheet 113 = .ok (.iinc 4 1, 3) := by decide +kernel
theorem dX7_sheet_116 : decode cX7_sheet 116 = .ok (.goto (-23), 3) := by decide +kernel
theorem dX7_sheet_119 : decode cX7_sheet 119 = .ok (.iconst 1, 1) := by decide +kernel
theorem dX7_sheet_120 : decode cX7_sheet 120 = .ok (.ireturn, 1) := by decide +kernel
theorem dX7_put_0 : decode cX7_put 0 = .ok (.iload_n 1, 1) := by decide +kernel
theorem dX7_put_1 : decode cX7_put 1 = .ok (.invokestatic 221, 3) := by decide +kernel
theorem dX7_put_4 : decode cX7_put 4 = .ok (.ifCond .ne 10, 3) := by decide +kernel
theorem dX7_put_7 : decode cX7_put 7 = .ok (.aload_n 0, 1) := by decide +kernel
theorem dX7_put_8 : decode cX7_put 8 = .ok (.ldc 53, 2) := by decide +kernel
theorem dX7_put_10 : decode cX7_put 10 = .ok (.invokevirtual 54, 3) := by decide +kernel
theorem dX7_put_13 : decode cX7_put 13 = .ok (.ireturn, 1) := by decide +kernel
theorem dX7_put_14 : decode cX7_put 14 = .ok (.aload_n 0, 1) := by decide +kernel
theorem dX7_put_15 : decode cX7_put 15 = .ok (.getfield 25, 3) := by decide +kernel
theorem dX7_put_18 : decode cX7_put 18 = .ok (.iload_n 1, 1) := by decide +kernel
theorem dX7_put_19 : decode cX7_put 19 = .ok (.iaload, 1) := by decide +kernel
theorem dX7_put_20 : decode cX7_put 20 = .ok (.ifCond .ne 10, 3) := by decide +kernel
theorem dX7_put_23 : decode cX7_put 23 = .ok (.aload_n 0, 1) := by decide +kernel
theorem dX7_put_24 : decode cX7_put 24 = .ok (.ldc 211, 2) := by decide +kernel
theorem dX7_put_26 : decode cX7_put 26 = .ok (.invokevirtual 54, 3) := by decide +kernel
theorem dX7_put_29 : decode cX7_put 29 = .ok (.ireturn, 1) := by decide +kernel
theorem dX7_put_30 : decode cX7_put 30 = .ok (.iload_n 2, 1) := by decide +kernel
theorem dX7_put_31 : decode cX7_put 31 = .ok (.iconst 0, 1) := by decide +kernel
theorem dX7_put_32 : decode cX7_put 32 = .ok (.aload_n 0, 1) := by decide +kernel
theorem dX7_put_33 : decode cX7_put 33 = .ok (.getfield 28, 3) := by decide +kernel
theorem dX7_put_36 : decode cX7_put 36 = .ok (.iload_n 1, 1) := by decide +kernel
theorem dX7_put_37 : decode cX7_put 37 = .ok (.iaload, 1) := by decide +kernel
theorem dX7_put_38 : decode cX7_put 38 = .ok (.iconst 1, 1) := by decide +kernel
theorem dX7_put_39 : decode cX7_put 39 = .ok (.isub, 1) := by decide +kernel
theorem dX7_put_40 : decode cX7_put 40 = .ok (.invokestatic 41, 3) := by decide +kernel
theorem dX7_put_43 : decode cX7_put 43 = .ok (.ifCond .ne 10, 3) := by decide +kernel
theorem dX7_put_46 : decode cX7_put 46 = .ok (.aload_n 0, 1) := by decide +kernel
theorem dX7_put_47 : decode cX7_put 47 = .ok (.ldc 53, 2) := by decide +kernel
theorem dX7_put_49 : decode cX7_put 49 = .ok (.invokevirtual 54, 3) := by decide +kernel
theorem dX7_put_52 : decode cX7_put 52 = .ok (.ireturn, 1) := by decide +kernel
theorem dX7_put_53 : decode cX7_put 53 = .ok (.aload_n 0, 1) := by decide +kernel
theorem dX7_put_54 : decode cX7_put 54 = .ok (.getfield 31, 3) := by decide +kernel
theorem dX7_put_57 : decode cX7_put 57 = .ok (.bipush 40, 2) := by decide +kernel
theorem dX7_put_59 : decode cX7_put 59 = .ok (.iload_n 1, 1) := by decide +kernel
theorem dX7_put_60 : decode cX7_put 60 = .ok (.imul, 1) := by decide +kernel
theorem dX7_put_61 : decode cX7_put 61 = .ok (.iload_n 2, 1) := by decide +kernel
theorem dX7_put_62 : decode cX7_put 62 = .ok (.iadd, 1) := by decide +kernel
theorem dX7_put_63 : decode cX7_put 63 = .ok (.aload_n 0, 1) := by decide +kernel
theorem dX7_put_64 : decode cX7_put 64 = .ok (.getfield 25, 3) := by decide +kernel
theorem dX7_put_67 : decode cX7_put 67 = .ok (.iload_n 1, 1) := by decide +kernel
theorem dX7_put_68 : decode cX7_put 68 = .ok (.iaload, 1) := by decide +kernel
theorem dX7_put_69 : decode cX7_put 69 = .ok (.iload_n 3, 1) := by decide +kernel
theorem dX7_put_70 : decode cX7_put 70 = .ok (.invokestatic 254, 3) := by decide +kernel
theorem dX7_put_73 : decode cX7_put 73 = .ok (.iastore, 1) := by decide +kernel
theorem dX7_put_74 : decode cX7_put 74 = .ok (.iconst 1, 1) := by decide +kernel
theorem dX7_put_75 : decode cX7_put 75 = .ok (.ireturn, 1) := by decide +kernel
theorem dX7_move_0 : decode cX7_move 0 = .ok (.iload_n 1, 1) := by decide +kernel
theorem dX7_move_1 : decode cX7_move 1 = .ok (.invokestatic 221, 3) := by decide +kernel
theorem dX7_move_4 : decode cX7_move 4 = .ok (.ifCond .eq 10, 3) := by decide +kernel
theorem dX7_move_7 : decode cX7_move 7 = .ok (.iload_n 3, 1) := by decide +kernel
theorem dX7_move_8 : decode cX7_move 8 = .ok (.invokestatic 221, 3) := by decide +kernel
theorem dX7_move_11 : decode cX7_move 11 = .ok (.ifCond .ne 10, 3) := by decide +kernel
theorem dX7_move_14 : decode cX7_move 14 = .ok (.aload_n 0, 1) := by decide +kernel
theorem dX7_move_15 : decode cX7_move 15 = .ok (.ldc 53, 2) := by decide +kernel
theorem dX7_move_17 : decode cX7_move 17 = .ok (.invokevirtual 54, 3) := by decide +kernel
theorem dX7_move_20 : decode cX7_move 20 = .ok (.ireturn, 1) := by decide +kernel
theorem dX7_move_21 : decode cX7_move 21 = .ok (.aload_n 0, 1) := by decide +kernel
theorem dX7_move_22 : decode cX7_move 22 = .ok (.getfield 25, 3) := by decide +kernel
theorem dX7_move_25 : decode cX7_move 25 = .ok (.iload_n 1, 1) := by decide +kernel
theorem dX7_move_26 : decode cX7_move 26 = .ok (.iaload, 1) := by decide +kernel
theorem dX7_move_27 : decode cX7_move 27 = .ok (.ifCond .eq 12, 3) := by decide +kernel
theorem dX7_move_30 : decode cX7_move 30 = .ok (.aload_n 0, 1) := by decide +kernel
theorem dX7_move_31 : decode cX7_move 31 = .ok (.getfield 25, 3) := by decide +kernel
theorem dX7_move_34 : decode cX7_move 34 = .ok (.iload_n 3, 1) := by decide +kernel
theorem dX7_move_35 : decode cX7_move 35 = .ok (.iaload, 1) := by decide +kernel
theorem dX7_move_36 : decode cX7_move 36 = .ok (.ifCond .ne 10, 3) := by decide +kernel
theorem dX7_move_39 : decode cX7_move 39 = .ok (.aload_n 0, 1) := by decide +kernel
theorem dX7_move_40 : decode cX7_move 40 = .ok (.ldc 211, 2) := by decide +kernel
theorem dX7_move_42 : decode cX7_move 42 = .ok (.invokevirtual 54, 3) := by decide +kernel
theorem dX7_move_45 : decode cX7_move 45 = .ok (.ireturn, 1) := by decide +kernel
theorem dX7_move_46 : decode cX7_move 46 = .ok (.aload_n 0, 1) := by decide +kernel
theorem dX7_move_47 : decode cX7_move 47 = .ok (.getfield 25, 3) := by decide +kernel
theorem dX7_move_50 : decode cX7_move 50 = .ok (.iload_n 1, 1) := by decide +kernel
theorem dX7_move_51 : decode cX7_move 51 = .ok (.iaload, 1) := by decide +kernel
theorem dX7_move_52 : decode cX7_move 52 = .ok (.aload_n 0, 1) := by decide +kernel
theorem dX7_move_53 : decode cX7_move 53 = .ok (.getfield 25, 3) := by decide +kernel
theorem dX7_move_56 : decode cX7_move 56 = .ok (.iload_n 3, 1) := by decide +kernel
theorem dX7_move_57 : decode cX7_move 57 = .ok (.iaload, 1) := by decide +kernel
theorem dX7_move_58 : decode cX7_move 58 = .ok (.if_icmp .eq 10, 3) := by decide +kernel
theorem dX7_move_61 : decode cX7_move 61 = .ok (.aload_n 0, 1) := by decide +kernel
theorem dX7_move_62 : decode cX7_move 62 = .ok (.ldc 102, 2) := by decide +kernel
theorem dX7_move_64 : decode cX7_move 64 = .ok (.invokevirtual 54, 3) := by decide +kernel
theorem dX7_move_67 : decode cX7_move 67 = .ok (.ireturn, 1) := by decide +kernel
theorem dX7_move_68 : decode cX7_move 68 = .ok (.iload 5, 2) := by decide +kernel
theorem dX7_move_70 : decode cX7_move 70 = .ok (.ifCond .lt 39, 3) := by decide +kernel
theorem dX7_move_73 : decode cX7_move 73 = .ok (.iload_n 2, 1) := by decide +kernel
theorem dX7_move_74 : decode cX7_move 74 = .ok (.ifCond .lt 35, 3) := by decide +kernel
theorem dX7_move_77 : decode cX7_move 77 = .ok (.iload 4, 2) := by decide +kernel
theorem dX7_move_79 : decode cX7_move 79 = .ok (.ifCond .lt 30, 3) := by decide +kernel
theorem dX7_move_82 : decode cX7_move 82 = .ok (.iload_n 2, 1) := by decide +kernel
theorem dX7_move_83 : decode cX7_move 83 = .ok (.aload_n 0, 1) := by decide +kernel
theorem dX7_move_84 : decode cX7_move 84 = .ok (.getfield 28, 3) := by decide +kernel
theorem dX7_move_87 : decode cX7_move 87 = .ok (.iload_n 1, 1) := by decide +kernel
theorem dX7_move_88 : decode cX7_move 88 = .ok (.iaload, 1) := by decide +kernel
theorem dX7_move_89 : decode cX7_move 89 = .ok (.iload 5, 2) := by decide +kernel
theorem dX7_move_91 : decode cX7_move 91 = .ok (.isub, 1) := by decide +kernel
theorem dX7_move_92 : decode cX7_move 92 = .ok (.if_icmp .gt 17, 3) := by decide +kernel
theorem dX7_move_95 : decode cX7_move 95 = .ok (.iload 4, 2) := by decide +kernel
theorem dX7_move_97 : decode cX7_move 97 = .ok (.aload_n 0, 1) := by decide +kernel
theorem dX7_move_98 : decode cX7_move 98 = .ok (.getfield 28, 3) := by decide +kernel
theorem dX7_move_101 : decode cX7_move 101 = .ok (.iload_n 3, 1) := by decide +kernel
theorem dX7_move_102 : decode cX7_move 102 = .ok (.iaload, 1) := by decide +kernel
theorem dX7_move_103 : decode cX7_move 103 = .ok (.iload 5, 2) := by decide +kernel
theorem dX7_move_105 : decode cX7_move 105 = .ok (.isub, 1) := by decide +kernel
theorem dX7_move_106 : decode cX7_move 106 = .ok (.if_icmp .le 10, 3) := by decide +kernel
theorem dX7_move_109 : decode cX7_move 109 = .ok (.aload_n 0, 1) := by decide +kernel
theorem dX7_move_110 : decode cX7_move 110 = .ok (.ldc 53, 2) := by decide +kernel
theorem dX7_move_112 : decode cX7_move 112 = .ok (.invokevirtual 54, 3) := by decide +kernel
theorem dX7_move_115 : decode cX7_move 115 = .ok (.ireturn, 1) := by decide +kernel
theorem dX7_move_116 : decode cX7_move 116 = .ok (.iconst 0, 1) := by decide +kernel
theorem dX7_move_117 : decode cX7_move 117 = .ok (.istore 6, 2) := by decide +kernel
theorem dX7_move_119 : decode cX7_move 119 = .ok (.iload 6, 2) := by decide +kernel
theorem dX7_move_121 : decode cX7_move 121 = .ok (.iload 5, 2) := by decide +kernel
theorem dX7_move_123 : decode cX7_move 123 = .ok (.if_icmp .ge 30, 3) := by decide +kernel
theorem dX7_move_126 : decode cX7_move 126 = .ok (.aload_n 0, 1) := by decide +kernel
theorem dX7_move_127 : decode cX7_move 127 = .ok (.getfield 34, 3) := by decide +kernel
theorem dX7_move_130 : decode cX7_move 130 = .ok (.iload 6, 2) := by decide +kernel
theorem dX7_move_132 : decode cX7_move 132 = .ok (.aload_n 0, 1) := by decide +kernel
theorem dX7_move_133 : decode cX7_move 133 = .ok (.getfield 31, 3) := by decide +kernel
theorem dX7_move_136 : decode cX7_move 136 = .ok (.bipush 40, 2) := by decide +kernel
theorem dX7_move_138 : decode cX7_move 138 = .ok (.iload_n 1, 1) := by decide +kernel
theorem dX7_move_139 : decode cX7_move 139 = .ok (.imul, 1) := by decide +kernel
theorem dX7_move_140 : decode cX7_move 140 = .ok (.iload_n 2, 1) := by decide +kernel
theorem dX7_move_141 : decode cX7_move 141 = .ok (.iadd, 1) := by decide +kernel
theorem dX7_move_142 : decode cX7_move 142 = .ok (.iload 6, 2) := by decide +kernel
theorem dX7_move_144 : decode cX7_move 144 = .ok (.iadd, 1) := by decide +kernel
theorem dX7_move_145 : decode cX7_move 145 = .ok (.iaload, 1) := by decide +kernel
theorem dX7_move_146 : decode cX7_move 146 = .ok (.iastore, 1) := by decide +kernel
theorem dX7_move_147 : decode cX7_move 147 = .ok (.iinc 6 1, 3) := by decide +kernel
theorem dX7_move_150 : decode cX7_move 150 = .ok (.goto (-31), 3) := by decide +kernel
theorem dX7_move_153 : decode cX7_move 153 = .ok (.iconst 0, 1) := by decide +kernel
theorem dX7_move_154 : decode cX7_move 154 = .ok (.istore 6, 2) := by decide +kernel
theorem dX7_move_156 : decode cX7_move 156 = .ok (.iload 6, 2) := by decide +kernel
theorem dX7_move_158 : decode cX7_move 158 = .ok (.iload 5, 2) := by decide +kernel
theorem dX7_move_160 : decode cX7_move 160 = .ok (.if_icmp .ge 31, 3) := by decide +kernel
theorem dX7_move_163 : decode cX7_move 163 = .ok (.aload_n 0, 1) := by decide +kernel
theorem dX7_move_164 : decode cX7_move 164 = .ok (.getfield 31, 3) := by decide +kernel
theorem dX7_move_167 : decode cX7_move 167 = .ok (.bipush 40, 2) := by decide +kernel
theorem dX7_move_169 : decode cX7_move 169 = .ok (.iload_n 3, 1) := by decide +kernel
theorem dX7_move_170 : decode cX7_move 170 = .ok (.imul, 1) := by decide +kernel
theorem dX7_move_171 : decode cX7_move 171 = .ok (.iload 4, 2) := by decide +kernel
theorem dX7_move_173 : decode cX7_move 173 = .ok (.iadd, 1) := by decide +kernel
theorem dX7_move_174 : decode cX7_move 174 = .ok (.iload 6, 2) := by decide +kernel
theorem dX7_move_176 : decode cX7_move 176 = .ok (.iadd, 1) := by decide +kernel
theorem dX7_move_177 : decode cX7_move 177 = .ok (.aload_n 0, 1) := by decide +kernel
theorem dX7_move_178 : decode cX7_move 178 = .ok (.getfield 34, 3) := by decide +kernel
theorem dX7_move_181 : decode cX7_move 181 = .ok (.iload 6, 2) := by decide +kernel
theorem dX7_move_183 : decode cX7_move 183 = .ok (.iaload, 1) := by decide +kernel
theorem dX7_move_184 : decode cX7_move 184 = .ok (.iastore, 1) := by decide +kernel
theorem dX7_move_185 : decode cX7_move 185 = .ok (.iinc 6 1, 3) := by decide +kernel
theorem dX7_move_188 : decode cX7_move 188 = .ok (.goto (-32), 3) := by decide +kernel
theorem dX7_move_191 : decode cX7_move 191 = .ok (.iload 5, 2) := by decide +kernel
theorem dX7_move_193 : decode cX7_move 193 = .ok (.ireturn, 1) := by decide +kernel
theorem dX7_hills_0 : decode cX7_hills 0 = .ok (.iload_n 1, 1) := by decide +kernel
theorem dX7_hills_1 : decode cX7_hills 1 = .ok (.invokestatic 221, 3) := by decide +kernel
theorem dX7_hills_4 : decode cX7_hills 4 = .ok (.ifCond .ne 10, 3) := by decide +kernel
theorem dX7_hills_7 : decode cX7_hills 7 = .ok (.aload_n 0, 1) := by decide +kernel
theorem dX7_hills_8 : decode cX7_hills 8 = .ok (.ldc 53, 2) := by decide +kernel
theorem dX7_hills_10 : decode cX7_hills 10 = .ok (.invokevirtual 54, 3) := by decide +kernel
theorem dX7_hills_13 : decode cX7_hills 13 = .ok (.ireturn, 1) := by decide +kernel
theorem dX7_hills_14 : decode cX7_hills 14 = .ok (.aload_n 0, 1) := by decide +kernel
theorem dX7_hills_15 : decode cX7_hills 15 = .ok (.getfield 25, 3) := by decide +kernel
theorem dX7_hills_18 : decode cX7_hills 18 = .ok (.iload_n 1, 1) := by decide +kernel
theorem dX7_hills_19 : decode cX7_hills 19 = .ok (.iaload, 1) := by decide +kernel
theorem dX7_hills_20 : decode cX7_hills 20 = .ok (.ifCond .ne 10, 3) := by decide +kernel
theorem dX7_hills_23 : decode cX7_hills 23 = .ok (.aload_n 0, 1) := by decide +kernel
theorem dX7_hills_24 : decode cX7_hills 24 = .ok (.ldc 211, 2) := by decide +kernel
theorem dX7_hills_26 : decode cX7_hills 26 = .ok (.invokevirtual 54, 3) := by decide +kernel
theorem dX7_hills_29 : decode cX7_hills 29 = .ok (.ireturn, 1) := by decide +kernel
theorem dX7_hills_30 : decode cX7_hills 30 = .ok (.iconst 0, 1) := by decide +kernel
theorem dX7_hills_31 : decode cX7_hills 31 = .ok (.istore_n 2, 1) := by decide +kernel
theorem dX7_hills_32 : decode cX7_hills 32 = .ok (.iload_n 2, 1) := by decide +kernel
theorem dX7_hills_33 : decode cX7_hills 33 = .ok (.aload_n 0, 1) := by decide +kernel
theorem dX7_hills_34 : decode cX7_hills 34 = .ok (.getfield 28, 3) := by decide +kernel
theorem dX7_hills_37 : decode cX7_hills 37 = .ok (.iload_n 1, 1) := by decide +kernel
theorem dX7_hills_38 : decode cX7_hills 38 = .ok (.iaload, 1) := by decide +kernel
theorem dX7_hills_39 : decode cX7_hills 39 = .ok (.if_icmp .ge 55, 3) := by decide +kernel
theorem dX7_hills_42 : decode cX7_hills 42 = .ok (.iload_n 2, 1) := by decide +kernel
theorem dX7_hills_43 : decode cX7_hills 43 = .ok (.bipush 12, 2) := by decide +kernel
theorem dX7_hills_45 : decode cX7_hills 45 = .ok (.if_icmp .ge 49, 3) := by decide +kernel
theorem dX7_hills_48 : decode cX7_hills 48 = .ok (.aload_n 0, 1) := by decide +kernel
theorem dX7_hills_49 : decode cX7_hills 49 = .ok (.getfield 31, 3) := by decide +kernel
theorem dX7_hills_52 : decode cX7_hills 52 = .ok (.bipush 40, 2) := by decide +kernel
theorem dX7_hills_54 : decode cX7_hills 54 = .ok (.iload_n 1, 1) := by decide +kernel
theorem dX7_hills_55 : decode cX7_hills 55 = .ok (.imul, 1) := by decide +kernel
theorem dX7_hills_56 : decode cX7_hills 56 = .ok (.iload_n 2, 1) := by decide +kernel
theorem dX7_hills_57 : decode cX7_hills 57 = .ok (.iadd, 1) := by decide +kernel
theorem dX7_hills_58 : decode cX7_hills 58 = .ok (.iaload, 1) := by decide +kernel
theorem dX7_hills_59 : decode cX7_hills 59 = .ok (.iconst 0, 1) := by decide +kernel
theorem dX7_hills_60 : decode cX7_hills 60 = .ok (.bipush 9, 2) := by decide +kernel
theorem dX7_hills_62 : decode cX7_hills 62 = .ok (.invokestatic 41, 3) := by decide +kernel
theorem dX7_hills_65 : decode cX7_hills 65 = .ok (.ifCond .eq 29, 3) := by decide +kernel
theorem dX7_hills_68 : decode cX7_hills 68 = .ok (.aload_n 0, 1) := by decide +kernel
theorem dX7_hills_69 : decode cX7_hills 69 = .ok (.getfield 7, 3) := by decide +kernel
theorem dX7_hills_72 : decode cX7_hills 72 = .ok (.bipush 16, 2) := by decide +kernel
theorem dX7_hills_74 : decode cX7_hills 74 = .ok (.iload_n 2, 1) := by decide +kernel
theorem dX7_hills_75 : decode cX7_hills 75 = .ok (.iadd, 1) := by decide +kernel
theorem dX7_hills_76 : decode cX7_hills 76 = .ok (.aload_n 0, 1) := by decide +kernel
theorem dX7_hills_77 : decode cX7_hills 77 = .ok (.getfield 31, 3) := by decide +kernel
theorem dX7_hills_80 : decode cX7_hills 80 = .ok (.bipush 40, 2) := by decide +kernel
theorem dX7_hills_82 : decode cX7_hills 82 = .ok (.iload_n 1, 1) := by decide +kernel
theorem dX7_hills_83 : decode cX7_hills 83 = .ok (.imul, 1) := by decide +kernel
theorem dX7_hills_84 : decode cX7_hills 84 = .ok (.iload_n 2, 1) := by decide +kernel
theorem dX7_hills_85 : decode cX7_hills 85 = .ok (.iadd, 1) := by decide +kernel
theorem dX7_hills_86 : decode cX7_hills 86 = .ok (.iaload, 1) := by decide +kernel
theorem dX7_hills_87 : decode cX7_hills 87 = .ok (.iastore, 1) := by decide +kernel
theorem dX7_hills_88 : decode cX7_hills 88 = .ok (.iinc 2 1, 3) := by decide +kernel
theorem dX7_hills_91 : decode cX7_hills 91 = .ok (.goto (-59), 3) := by decide +kernel
theorem dX7_hills_94 : decode cX7_hills 94 = .ok (.iload_n 2, 1) := by decide +kernel
theorem dX7_hills_95 : decode cX7_hills 95 = .ok (.ireturn, 1) := by decide +kernel
theorem dX7_judge_0 : decode cX7_judge 0 = .ok (.iload_n 1, 1) := by decide +kernel
theorem dX7_judge_1 : decode cX7_judge 1 = .ok (.invokestatic 221, 3) := by decide +kernel
theorem dX7_judge_4 : decode cX7_judge 4 = .ok (.ifCond .ne 10, 3) := by decide +kernel
theorem dX7_judge_7 : decode cX7_judge 7 = .ok (.aload_n 0, 1) := by decide +kernel
theorem dX7_judge_8 : decode cX7_judge 8 = .ok (.ldc 53, 2) := by decide +kernel
theorem dX7_judge_10 : decode cX7_judge 10 = .ok (.invokevirtual 54, 3) := by decide +kernel
theorem dX7_judge_13 : decode cX7_judge 13 = .ok (.ireturn, 1) := by decide +kernel
theorem dX7_judge_14 : decode cX7_judge 14 = .ok (.aload_n 0, 1) := by decide +kernel
theorem dX7_judge_15 : decode cX7_judge 15 = .ok (.getfield 25, 3) := by decide +kernel
theorem dX7_judge_18 : decode cX7_judge 18 = .ok (.iload_n 1, 1) := by decide +kernel
theorem dX7_judge_19 : decode cX7_judge 19 = .ok (.iaload, 1) := by decide +kernel
theorem dX7_judge_20 : decode cX7_judge 20 = .ok (.ifCond .ne 10, 3) := by decide +kernel
theorem dX7_judge_23 : decode cX7_judge 23 = .ok (.aload_n 0, 1) := by decide +kernel
theorem dX7_judge_24 : decode cX7_judge 24 = .ok (.ldc 211, 2) := by decide +kernel
theorem dX7_judge_26 : decode cX7_judge 26 = .ok (.invokevirtual 54, 3) := by decide +kernel
theorem dX7_judge_29 : decode cX7_judge 29 = .ok (.ireturn, 1) := by decide +kernel
theorem dX7_judge_30 : decode cX7_judge 30 = .ok (.iconst 0, 1) := by decide +kernel
theorem dX7_judge_31 : decode cX7_judge 31 = .ok (.istore_n 2, 1) := by decide +kernel
theorem dX7_judge_32 : decode cX7_judge 32 = .ok (.iload_n 2, 1) := by decide +kernel
theorem dX7_judge_33 : decode cX7_judge 33 = .ok (.aload_n 0, 1) := by decide +kernel
theorem dX7_judge_34 : decode cX7_judge 34 = .ok (.getfield 28, 3) := by decide +kernel
theorem dX7_judge_37 : decode cX7_judge 37 = .ok (.iload_n 1, 1) := by decide +kernel
theorem dX7_judge_38 : decode cX7_judge 38 = .ok (.iaload, 1) := by decide +kernel
theorem dX7_judge_39 : decode cX7_judge 39 = .ok (.if_icmp .ge 39, 3) := by decide +kernel
theorem dX7_judge_42 : decode cX7_judge 42 = .ok (.iload_n 2, 1) := by decide +kernel
theorem dX7_judge_43 : decode cX7_judge 43 = .ok (.aload_n 0, 1) := by decide +kernel
theorem dX7_judge_44 : decode cX7_judge 44 = .ok (.getfield 7, 3) := by decide +kernel
theorem dX7_judge_47 : decode cX7_judge 47 = .ok (.iconst 0, 1) := by decide +kernel
theorem dX7_judge_48 : decode cX7_judge 48 = .ok (.iaload, 1) := by decide +kernel
theorem dX7_judge_49 : decode cX7_judge 49 = .ok (.if_icmp .ge 29, 3) := by decide +kernel
theorem dX7_judge_52 : decode cX7_judge 52 = .ok (.aload_n 0, 1) := by decide +kernel
theorem dX7_judge_53 : decode cX7_judge 53 = .ok (.getfield 31, 3) := by decide +kernel
theorem dX7_judge_56 : decode cX7_judge 56 = .ok (.bipush 40, 2) := by decide +kernel
theorem dX7_judge_58 : decode cX7_judge 58 = .ok (.iload_n 1, 1) := by decide +kernel
theorem dX7_judge_59 : decode cX7_judge 59 = .ok (.imul, 1) := by decide +kernel
theorem dX7_judge_60 : decode cX7_judge 60 = .ok (.iload_n 2, 1) := by decide +kernel
theorem dX7_judge_61 : decode cX7_judge 61 = .ok (.iadd, 1) := by decide +kernel
theorem dX7_judge_62 : decode cX7_judge 62 = .ok (.iaload, 1) := by decide +kernel
theorem dX7_judge_63 : decode cX7_judge 63 = .ok (.aload_n 0, 1) := by decide +kernel
theorem dX7_judge_64 : decode cX7_judge 64 = .ok (.iload_n 2, 1) := by decide +kernel
theorem dX7_judge_65 : decode cX7_judge 65 = .ok (.iconst 3, 1) := by decide +kernel
theorem dX7_judge_66 : decode cX7_judge 66 = .ok (.invokevirtual 45, 3) := by decide +kernel
theorem dX7_judge_69 : decode cX7_judge 69 = .ok (.if_icmp .ne 9, 3) := by decide +kernel
theorem dX7_judge_72 : decode cX7_judge 72 = .ok (.iinc 2 1, 3) := by decide +kernel
theorem dX7_judge_75 : decode cX7_judge 75 = .ok (.goto (-43), 3) := by decide +kernel
theorem dX7_judge_78 : decode cX7_judge 78 = .ok (.iload_n 2, 1) := by decide +kernel
theorem dX7_judge_79 : decode cX7_judge 79 = .ok (.aload_n 0, 1) := by decide +kernel
theorem dX7_judge_80 : decode cX7_judge 80 = .ok (.getfield 28, 3) := by decide +kernel
theorem dX7_judge_83 : decode cX7_judge 83 = .ok (.iload_n 1, 1) := by decide +kernel
theorem dX7_judge_84 : decode cX7_judge 84 = .ok (.iaload, 1) := by decide +kernel
theorem dX7_judge_85 : decode cX7_judge 85 = .ok (.if_icmp .ne 17, 3) := by decide +kernel
theorem dX7_judge_88 : decode cX7_judge 88 = .ok (.iload_n 2, 1) := by decide +kernel
theorem dX7_judge_89 : decode cX7_judge 89 = .ok (.aload_n 0, 1) := by decide +kernel
theorem dX7_judge_90 : decode cX7_judge 90 = .ok (.getfield 7, 3) := by decide +kernel
theorem dX7_judge_93 : decode cX7_judge 93 = .ok (.iconst 0, 1) := by decide +kernel
theorem dX7_judge_94 : decode cX7_judge 94 = .ok (.iaload, 1) := by decide +kernel
theorem dX7_judge_95 : decode cX7_judge 95 = .ok (.if_icmp .ne 7, 3) := by decide +kernel
theorem dX7_judge_98 : decode cX7_judge 98 = .ok (.iconst (-1), 1) := by decide +kernel
theorem dX7_judge_99 : decode cX7_judge 99 = .ok (.goto 4, 3) := by decide +kernel
theorem dX7_judge_102 : decode cX7_judge 102 = .ok (.iload_n 2, 1) := by decide +kernel
theorem dX7_judge_103 : decode cX7_judge 103 = .ok (.ireturn, 1) := by decide +kernel
theorem dX7_image_0 : decode cX7_image 0 = .ok (.aload_n 0, 1) := by decide +kernel
theorem dX7_image_1 : decode cX7_image 1 = .ok (.aload_n 0, 1) := by decide +kernel
theorem dX7_image_2 : decode cX7_image 2 = .ok (.getfield 7, 3) := by decide +kernel
theorem dX7_image_5 : decode cX7_image 5 = .ok (.aload_n 0, 1) := by decide +kernel
theorem dX7_image_6 : decode cX7_image 6 = .ok (.getfield 13, 3) := by decide +kernel
theorem dX7_image_9 : decode cX7_image 9 = .ok (.invokevirtual 168, 3) := by decide +kernel
theorem dX7_image_12 : decode cX7_image 12 = .ok (.aload_n 0, 1) := by decide +kernel
theorem dX7_image_13 : decode cX7_image 13 = .ok (.iconst 1, 1) := by decide +kernel
theorem dX7_image_14 : decode cX7_image 14 = .ok (.putfield 257, 3) := by decide +kernel
theorem dX7_image_17 : decode cX7_image 17 = .ok (.aload_n 0, 1) := by decide +kernel
theorem dX7_image_18 : decode cX7_image 18 = .ok (.dup, 1) := by decide +kernel
theorem dX7_image_19 : decode cX7_image 19 = .ok (.getfield 260, 3) := by decide +kernel
theorem dX7_image_22 : decode cX7_image 22 = .ok (.iconst 1, 1) := by decide +kernel
theorem dX7_image_23 : decode cX7_image 23 = .ok (.iadd, 1) := by decide +kernel
theorem dX7_image_24 : decode cX7_image 24 = .ok (.putfield 260, 3) := by decide +kernel
theorem dX7_image_27 : decode cX7_image 27 = .ok (.aload_n 0, 1) := by decide +kernel
theorem dX7_image_28 : decode cX7_image 28 = .ok (.getfield 260, 3) := by decide +kernel
theorem dX7_image_31 : decode cX7_image 31 = .ok (.ireturn, 1) := by decide +kernel
theorem dX7_restore_0 : decode cX7_restore 0 = .ok (.aload_n 0, 1) := by decide +kernel
theorem dX7_restore_1 : decode cX7_restore 1 = .ok (.getfield 257, 3) := by decide +kernel
theorem dX7_restore_4 : decode cX7_restore 4 = .ok (.ifCond .ne 10, 3) := by decide +kernel
theorem dX7_restore_7 : decode cX7_restore 7 = .ok (.aload_n 0, 1) := by decide +kernel
theorem dX7_restore_8 : decode cX7_restore 8 = .ok (.ldc 211, 2) := by decide +kernel
theorem dX7_restore_10 : decode cX7_restore 10 = .ok (.invokevirtual 54, 3) := by decide +kernel
theorem dX7_restore_13 : decode cX7_restore 13 = .ok (.ireturn, 1) := by decide +kernel
theorem dX7_restore_14 : decode cX7_restore 14 = .ok (.aload_n 0, 1) := by decide +kernel
theorem dX7_restore_15 : decode cX7_restore 15 = .ok (.aload_n 0, 1) := by decide +kernel
theorem dX7_restore_16 : decode cX7_restore 16 = .ok (.getfield 13, 3) := by decide +kernel
theorem dX7_restore_19 : decode cX7_restore 19 = .ok (.aload_n 0, 1) := by decide +kernel
theorem dX7_restore_20 : decode cX7_restore 20 = .ok (.getfield 7, 3) := by decide +kernel
theorem dX7_restore_23 : decode cX7_restore 23 = .ok (.invokevirtual 168, 3) := by decide +kernel
theorem dX7_restore_26 : decode cX7_restore 26 = .ok (.aload_n 0, 1) := by decide +kernel
theorem dX7_restore_27 : decode cX7_restore 27 = .ok (.getfield 7, 3) := by decide +kernel
theorem dX7_restore_30 : decode cX7_restore 30 = .ok (.iconst 1, 1) := by decide +kernel
theorem dX7_restore_31 : decode cX7_restore 31 = .ok (.iaload, 1) := by decide +kernel
theorem dX7_restore_32 : decode cX7_restore 32 = .ok (.ireturn, 1) := by decide +kernel
theorem dX7_tell_0 : decode cX7_tell 0 = .ok (.aload_n 0, 1) := by decide +kernel
theorem dX7_tell_1 : decode cX7_tell 1 = .ok (.getfield 7, 3) := by decide +kernel
theorem dX7_tell_4 : decode cX7_tell 4 = .ok (.iconst 5, 1) := by decide +kernel
theorem dX7_tell_5 : decode cX7_tell 5 = .ok (.iaload, 1) := by decide +kernel
theorem dX7_tell_6 : decode cX7_tell 6 = .ok (.bipush 20, 2) := by decide +kernel
theorem dX7_tell_8 : decode cX7_tell 8 = .ok (.if_icmp .ne 10, 3) := by decide +kernel
theorem dX7_tell_11 : decode cX7_tell 11 = .ok (.aload_n 0, 1) := by decide +kernel
theorem dX7_tell_12 : decode cX7_tell 12 = .ok (.ldc 58, 2) := by decide +kernel
theorem dX7_tell_14 : decode cX7_tell 14 = .ok (.invokevirtual 54, 3) := by decide +kernel
theorem dX7_tell_17 : decode cX7_tell 17 = .ok (.ireturn, 1) := by decide +kernel
theorem dX7_tell_18 : decode cX7_tell 18 = .ok (.aload_n 0, 1) := by decide +kernel
theorem dX7_tell_19 : decode cX7_tell 19 = .ok (.getfield 7, 3) := by decide +kernel
theorem dX7_tell_22 : decode cX7_tell 22 = .ok (.sipush 142, 3) := by decide +kernel
theorem dX7_tell_25 : decode cX7_tell 25 = .ok (.aload_n 0, 1) := by decide +kernel
theorem dX7_tell_26 : decode cX7_tell 26 = .ok (.getfield 7, 3) := by decide +kernel
theorem dX7_tell_29 : decode cX7_tell 29 = .ok (.iconst 5, 1) := by decide +kernel
theorem dX7_tell_30 : decode cX7_tell 30 = .ok (.iaload, 1) := by decide +kernel
theorem dX7_tell_31 : decode cX7_tell 31 = .ok (.iadd, 1) := by decide +kernel
theorem dX7_tell_32 : decode cX7_tell 32 = .ok (.iload_n 1, 1) := by decide +kernel
theorem dX7_tell_33 : decode cX7_tell 33 = .ok (.iastore, 1) := by decide +kernel
theorem dX7_tell_34 : decode cX7_tell 34 = .ok (.aload_n 0, 1) := by decide +kernel
theorem dX7_tell_35 : decode cX7_tell 35 = .ok (.getfield 7, 3) := by decide +kernel
theorem dX7_tell_38 : decode cX7_tell 38 = .ok (.iconst 5, 1) := by decide +kernel
theorem dX7_tell_39 : decode cX7_tell 39 = .ok (.dup2, 1) := by decide +kernel
theorem dX7_tell_40 : decode cX7_tell 40 = .ok (.iaload, 1) := by decide +kernel
theorem dX7_tell_41 : decode cX7_tell 41 = .ok (.iconst 1, 1) := by decide +kernel
theorem dX7_tell_42 : decode cX7_tell 42 = .ok (.iadd, 1) := by decide +kernel
theorem dX7_tell_43 : decode cX7_tell 43 = .ok (.iastore, 1) := by decide +kernel
theorem dX7_tell_44 : decode cX7_tell 44 = .ok (.aload_n 0, 1) := by decide +kernel
theorem dX7_tell_45 : decode cX7_tell 45 = .ok (.getfield 7, 3) := by decide +kernel
theorem dX7_tell_48 : decode cX7_tell 48 = .ok (.iconst 5, 1) := by decide +kernel
theorem dX7_tell_49 : decode cX7_tell 49 = .ok (.iaload, 1) := by decide +kernel
theorem dX7_tell_50 : decode cX7_tell 50 = .ok (.ireturn, 1) := by decide +kernel
theorem dX7_check_0 : decode cX7_check 0 = .ok (.aload_n 0, 1) := by decide +kernel
theorem dX7_check_1 : decode cX7_check 1 = .ok (.getfield 7, 3) := by decide +kernel
theorem dX7_check_4 : decode cX7_check 4 = .ok (.iconst 5, 1) := by decide +kernel
theorem dX7_check_5 : decode cX7_check 5 = .ok (.iaload, 1) := by decide +kernel
theorem dX7_check_6 : decode cX7_check 6 = .ok (.istore_n 1, 1) := by decide +kernel
theorem dX7_check_7 : decode cX7_check 7 = .ok (.aload_n 0, 1) := by decide +kernel
theorem dX7_check_8 : decode cX7_check 8 = .ok (.getfield 7, 3) := by decide +kernel
theorem dX7_check_11 : decode cX7_check 11 = .ok (.iconst 5, 1) := by decide +kernel
theorem dX7_check_12 : decode cX7_check 12 = .ok (.iconst 0, 1) := by decide +kernel
theorem dX7_check_13 : decode cX7_check 13 = .ok (.iastore, 1) := by decide +kernel
theorem dX7_check_14 : decode cX7_check 14 = .ok (.aload_n 0, 1) := by decide +kernel
theorem dX7_check_15 : decode cX7_check 15 = .ok (.aload_n 0, 1) := by decide +kernel
theorem dX7_check_16 : decode cX7_check 16 = .ok (.getfield 7, 3) := by decide +kernel
theorem dX7_check_19 : decode cX7_check 19 = .ok (.aload_n 0, 1) := by decide +kernel
theorem dX7_check_20 : decode cX7_check 20 = .ok (.getfield 16, 3) := by decide +kernel
theorem dX7_check_23 : decode cX7_check 23 = .ok (.invokevirtual 168, 3) := by decide +kernel
theorem dX7_check_26 : decode cX7_check 26 = .ok (.iconst 0, 1) := by decide +kernel
theorem dX7_check_27 : decode cX7_check 27 = .ok (.istore_n 2, 1) := by decide +kernel
theorem dX7_check_28 : decode cX7_check 28 = .ok (.iconst 1, 1) := by decide +kernel
theorem dX7_check_29 : decode cX7_check 29 = .ok (.istore_n 3, 1) := by decide +kernel
theorem dX7_check_30 : decode cX7_check 30 = .ok (.iload_n 2, 1) := by decide +kernel
theorem dX7_check_31 : decode cX7_check 31 = .ok (.iload_n 1, 1) := by decide +kernel
theorem dX7_check_32 : decode cX7_check 32 = .ok (.if_icmp .ge 57, 3) := by decide +kernel
theorem dX7_check_35 : decode cX7_check 35 = .ok (.iload_n 3, 1) := by decide +kernel
theorem dX7_check_36 : decode cX7_check 36 = .ok (.ifCond .eq 53, 3) := by decide +kernel
theorem dX7_check_39 : decode cX7_check 39 = .ok (.aload_n 0, 1) := by decide +kernel
theorem dX7_check_40 : decode cX7_check 40 = .ok (.aload_n 0, 1) := by decide +kernel
theorem dX7_check_41 : decode cX7_check 41 = .ok (.invokevirtual 86, 3) := by decide +kernel
theorem dX7_check_44 : decode cX7_check 44 = .ok (.invokevirtual 191, 3) := by decide +kernel
theorem dX7_check_47 : decode cX7_check 47 = .ok (.aload_n 0, 1) := by decide +kernel
theorem dX7_check_48 : decode cX7_check 48 = .ok (.sipush 255, 3) := by decide +kernel
theorem dX7_check_51 : decode cX7_check 51 = .ok (.iconst 3, 1) := by decide +kernel
theorem dX7_check_52 : decode cX7_check 52 = .ok (.invokevirtual 218, 3) := by decide +kernel
theorem dX7_check_55 : decode cX7_check 55 = .ok (.aload_n 0, 1) := by decide +kernel
theorem dX7_check_56 : decode cX7_check 56 = .ok (.getfield 16, 3) := by decide +kernel
theorem dX7_check_59 : decode cX7_check 59 = .ok (.sipush 142, 3) := by decide +kernel
theorem dX7_check_62 : decode cX7_check 62 = .ok (.iload_n 2, 1) := by decide +kernel
theorem dX7_check_63 : decode cX7_check 63 = .ok (.iadd, 1) := by decide +kernel
theorem dX7_check_64 : decode cX7_check 64 = .ok (.iaload, 1) := by decide +kernel
theorem dX7_check_65 : decode cX7_check 65 = .ok (.if_icmp .ne 7, 3) := by decide +kernel
theorem dX7_check_68 : decode cX7_check 68 = .ok (.iconst 1, 1) := by decide +kernel
theorem dX7_check_69 : decode cX7_check 69 = .ok (.goto 4, 3) := by decide +kernel
theorem dX7_check_72 : decode cX7_check 72 = .ok (.iconst 0, 1) := by decide +kernel
theorem dX7_check_73 : decode cX7_check 73 = .ok (.istore_n 3, 1) := by decide +kernel
theorem dX7_check_74 : decode cX7_check 74 = .ok (.iload_n 2, 1) := by decide +kernel
theorem dX7_check_75 : decode cX7_check 75 = .ok (.iload_n 3, 1) := by decide +kernel
theorem dX7_check_76 : decode cX7_check 76 = .ok (.ifCond .eq 7, 3) := by decide +kernel
theorem dX7_check_79 : decode cX7_check 79 = .ok (.iconst 1, 1) := by decide +kernel
theorem dX7_check_80 : decode cX7_check 80 = .ok (.goto 4, 3) := by decide +kernel
theorem dX7_check_83 : decode cX7_check 83 = .ok (.iconst 0, 1) := by decide +kernel
theorem dX7_check_84 : decode cX7_check 84 = .ok (.iadd, 1) := by decide +kernel
theorem dX7_check_85 : decode cX7_check 85 = .ok (.istore_n 2, 1) := by decide +kernel
theorem dX7_check_86 : decode cX7_check 86 = .ok (.goto (-56), 3) := by decide +kernel
theorem dX7_check_89 : decode cX7_check 89 = .ok (.aload_n 0, 1) := by decide +kernel
theorem dX7_check_90 : decode cX7_check 90 = .ok (.aload_n 0, 1) := by decide +kernel
theorem dX7_check_91 : decode cX7_check 91 = .ok (.getfield 16, 3) := by decide +kernel
theorem dX7_check_94 : decode cX7_check 94 = .ok (.aload_n 0, 1) := by decide +kernel
theorem dX7_check_95 : decode cX7_check 95 = .ok (.getfield 7, 3) := by decide +kernel
theorem dX7_check_98 : decode cX7_check 98 = .ok (.invokevirtual 168, 3) := by decide +kernel
theorem dX7_check_101 : decode cX7_check 101 = .ok (.iload_n 3, 1) := by decide +kernel
theorem dX7_check_102 : decode cX7_check 102 = .ok (.ifCond .eq 7, 3) := by decide +kernel
theorem dX7_check_105 : decode cX7_check 105 = .ok (.iconst 0, 1) := by decide +kernel
theorem dX7_check_106 : decode cX7_check 106 = .ok (.goto 6, 3) := by decide +kernel
theorem dX7_check_109 : decode cX7_check 109 = .ok (.iconst 1, 1) := by decide +kernel
theorem dX7_check_110 : decode cX7_check 110 = .ok (.iload_n 2, 1) := by decide +kernel
theorem dX7_check_111 : decode cX7_check 111 = .ok (.iadd, 1) := by decide +kernel
theorem dX7_check_112 : decode cX7_check 112 = .ok (.ireturn, 1) := by decide +kernel
theorem dX7_count_0 : decode cX7_count 0 = .ok (.iload_n 1, 1) := by decide +kernel
theorem dX7_count_1 : decode cX7_count 1 = .ok (.tableswitch 124 0 9 #[55, 62, 69, 76, 84, 89, 98, 105, 112, 117], 55) := by decide +kernel
theorem dX7_count_56 : decode cX7_count 56 = .ok (.aload_n 0, 1) := by decide +kernel
theorem dX7_count_57 : decode cX7_count 57 = .ok (.getfield 7, 3) := by decide +kernel
theorem dX7_count_60 : decode cX7_count 60 = .ok (.iconst 0, 1) := by decide +kernel
theorem dX7_count_61 : decode cX7_count 61 = .ok (.iaload, 1) := by decide +kernel
theorem dX7_count_62 : decode cX7_count 62 = .ok (.ireturn, 1) := by decide +kernel
theorem dX7_count_63 : decode cX7_count 63 = .ok (.aload_n 0, 1) := by decide +kernel
theorem dX7_count_64 : decode cX7_count 64 = .ok (.getfield 7, 3) := by decide +kernel
theorem dX7_count_67 : decode cX7_count 67 = .ok (.iconst 1, 1) := by decide +kernel
theorem dX7_count_68 : decode cX7_count 68 = .ok (.iaload, 1) := by decide +kernel
theorem dX7_count_69 : decode cX7_count 69 = .ok (.ireturn, 1) := by decide +kernel
theorem dX7_count_70 : decode cX7_count 70 = .ok (.aload_n 0, 1) := by decide +kernel
theorem dX7_count_71 : decode cX7_count 71 = .ok (.getfield 7, 3) := by decide +kernel
theorem dX7_count_74 : decode cX7_count 74 = .ok (.iconst 2, 1) := by decide +kernel
theorem dX7_count_75 : decode cX7_count 75 = .ok (.iaload, 1) := by decide +kernel
theorem dX7_count_76 : decode cX7_count 76 = .ok (.ireturn, 1) := by decide +kernel
theorem dX7_count_77 : decode cX7_count 77 = .ok (.aload_n 0, 1) := by decide +kernel
theorem dX7_count_78 : decode cX7_count 78 = .ok (.invokevirtual 212, 3) := by decide +kernel
theorem dX7_count_81 : decode cX7_count 81 = .ok (.invokestatic 215, 3) := by decide +kernel
theorem dX7_count_84 : decode cX7_count 84 = .ok (.ireturn, 1) := by decide +kernel
theorem dX7_count_85 : decode cX7_count 85 = .ok (.aload_n 0, 1) := by decide +kernel
theorem dX7_count_86 : decode cX7_count 86 = .ok (.invokevirtual 195, 3) := by decide +kernel
theorem dX7_count_89 : decode cX7_count 89 = .ok (.ireturn, 1) := by decide +kernel
theorem dX7_count_90 : decode cX7_count 90 = .ok (.aload_n 0, 1) := by decide +kernel
theorem dX7_count_91 : decode cX7_count 91 = .ok (.sipush 255, 3) := by decide +kernel
theorem dX7_count_94 : decode cX7_count 94 = .ok (.iconst 3, 1) := by decide +kernel
theorem dX7_count_95 : decode cX7_count 95 = .ok (.invokevirtual 218, 3) := by decide +kernel
theorem dX7_count_98 : decode cX7_count 98 = .ok (.ireturn, 1) := by decide +kernel
theorem dX7_count_99 : decode cX7_count 99 = .ok (.aload_n 0, 1) := by decide +kernel
theorem dX7_count_100 : decode cX7_count 100 = .ok (.getfield 7, 3) := by decide +kernel
theorem dX7_count_103 : decode cX7_count 103 = .ok (.iconst 4, 1) := by decide +kernel
theorem dX7_count_104 : decode cX7_count 104 = .ok (.iaload, 1) := by decide +kernel
theorem dX7_count_105 : decode cX7_count 105 = .ok (.ireturn, 1) := by decide +kernel
theorem dX7_count_106 : decode cX7_count 106 = .ok (.aload_n 0, 1) := by decide +kernel
theorem dX7_count_107 : decode cX7_count 107 = .ok (.getfield 7, 3) := by decide +kernel
theorem dX7_count_110 : decode cX7_count 110 = .ok (.iconst 5, 1) := by decide +kernel
theorem dX7_count_111 : decode cX7_count 111 = .ok (.iaload, 1) := by decide +kernel
theorem dX7_count_112 : decode cX7_count 112 = .ok (.ireturn, 1) := by decide +kernel
theorem dX7_count_113 : decode cX7_count 113 = .ok (.aload_n 0, 1) := by decide +kernel
theorem dX7_count_114 : decode cX7_count 114 = .ok (.getfield 227, 3) := by decide +kernel
theorem dX7_count_117 : decode cX7_count 117 = .ok (.ireturn, 1) := by decide +kernel
theorem dX7_count_118 : decode cX7_count 118 = .ok (.aload_n 0, 1) := by decide +kernel
theorem dX7_count_119 : decode cX7_count 119 = .ok (.getfield 7, 3) := by decide +kernel
theorem dX7_count_122 : decode cX7_count 122 = .ok (.iconst 3, 1) := by decide +kernel
theorem dX7_count_123 : decode cX7_count 123 = .ok (.iaload, 1) := by decide +kernel
theorem dX7_count_124 : decode cX7_count 124 = .ok (.ireturn, 1) := by decide +kernel
theorem dX7_count_125 : decode cX7_count 125 = .ok (.aload_n 0, 1) := by decide +kernel
theorem dX7_count_126 : decode cX7_count 126 = .ok (.ldc 53, 2) := by decide +kernel
theorem dX7_count_128 : decode cX7_count 128 = .ok (.invokevirtual 54, 3) := by decide +kernel
theorem dX7_count_131 : decode cX7_count 131 = .ok (.ireturn, 1) := by decide +kernel
theorem dX7_told_0 : decode cX7_told 0 = .ok (.iload_n 1, 1) := by decide +kernel
theorem dX7_told_1 : decode cX7_told 1 = .ok (.iconst 1, 1) := by decide +kernel
theorem dX7_told_2 : decode cX7_told 2 = .ok (.iconst 5, 1) := by decide +kernel
theorem dX7_told_3 : decode cX7_told 3 = .ok (.invokestatic 41, 3) := by decide +kernel
theorem dX7_told_6 : decode cX7_told 6 = .ok (.ifCond .eq 12, 3) := by decide +kernel
theorem dX7_told_9 : decode cX7_told 9 = .ok (.aload_n 0, 1) := by decide +kernel
theorem dX7_told_10 : decode cX7_told 10 = .ok (.getfield 22, 3) := by decide +kernel
theorem dX7_told_13 : decode cX7_told 13 = .ok (.iload_n 1, 1) := by decide +kernel
theorem dX7_told_14 : decode cX7_told 14 = .ok (.iaload, 1) := by decide +kernel
theorem dX7_told_15 : decode cX7_told 15 = .ok (.goto 9, 3) := by decide +kernel
theorem dX7_told_18 : decode cX7_told 18 = .ok (.aload_n 0, 1) := by decide +kernel
theorem dX7_told_19 : decode cX7_told 19 = .ok (.ldc 53, 2) := by decide +kernel
theorem dX7_told_21 : decode cX7_told 21 = .ok (.invokevirtual 54, 3) := by decide +kernel
theorem dX7_told_24 : decode cX7_told 24 = .ok (.ireturn, 1) := by decide +kernel
theorem dJ11_isValidCodePoint_9a6ad_0 : decode cJ11_isValidCodePoint_9a6ad 0 = .ok (.iload_n 0, 1) := by decide +kernel
theorem dJ11_isValidCodePoint_9a6ad_1 : decode cJ11_isValidCodePoint_9a6ad 1 = .ok (.bipush 16, 2) := by decide +kernel
theorem dJ11_isValidCodePoint_9a6ad_3 : decode cJ11_isValidCodePoint_9a6ad 3 = .ok (.iushr, 1) := by decide +kernel
theorem dJ11_isValidCodePoint_9a6ad_4 : decode cJ11_isValidCodePoint_9a6ad 4 = .ok (.istore_n 1, 1) := by decide +kernel
theorem dJ11_isValidCodePoint_9a6ad_5 : decode cJ11_isValidCodePoint_9a6ad 5 = .ok (.iload_n 1, 1) := by decide +kernel
theorem dJ11_isValidCodePoint_9a6ad_6 : decode cJ11_isValidCodePoint_9a6ad 6 = .ok (.bipush 17, 2) := by decide +kernel
theorem dJ11_isValidCodePoint_9a6ad_8 : decode cJ11_isValidCodePoint_9a6ad 8 = .ok (.if_icmp .ge 7, 3) := by decide +kernel
theorem dJ11_isValidCodePoint_9a6ad_11 : decode cJ11_isValidCodePoint_9a6ad 11 = .ok (.iconst 1, 1) := by decide +kernel
theorem dJ11_isValidCodePoint_9a6ad_12 : decode cJ11_isValidCodePoint_9a6ad 12 = .ok (.goto 4, 3) := by decide +kernel
theorem dJ11_isValidCodePoint_9a6ad_15 : decode cJ11_isValidCodePoint_9a6ad 15 = .ok (.iconst 0, 1) := by decide +kernel
theorem dJ11_isValidCodePoint_9a6ad_16 : decode cJ11_isValidCodePoint_9a6ad 16 = .ok (.ireturn, 1) := by decide +kernel
theorem dJ11_highSurrogate_5068e_0 : decode cJ11_highSurrogate_5068e 0 = .ok (.iload_n 0, 1) := by decide +kernel
theorem dJ11_highSurrogate_5068e_1 : decode cJ11_highSurrogate_5068e 1 = .ok (.bipush 10, 2) := by decide +kernel
theorem dJ11_highSurrogate_5068e_3 : decode cJ11_highSurrogate_5068e 3 = .ok (.iushr, 1) := by decide +kernel
theorem dJ11_highSurrogate_5068e_4 : decode cJ11_highSurrogate_5068e 4 = .ok (.ldc 110, 2) := by decide +kernel
theorem dJ11_highSurrogate_5068e_6 : decode cJ11_highSurrogate_5068e 6 = .ok (.iadd, 1) := by decide +kernel
theorem dJ11_highSurrogate_5068e_7 : decode cJ11_highSurrogate_5068e 7 = .ok (.i2c, 1) := by decide +kernel
theorem dJ11_highSurrogate_5068e_8 : decode cJ11_highSurrogate_5068e 8 = .ok (.ireturn, 1) := by decide +kernel
theorem dJ11_lowSurrogate_5068e_0 : decode cJ11_lowSurrogate_5068e 0 = .ok (.iload_n 0, 1) := by decide +kernel
theorem dJ11_lowSurrogate_5068e_1 : decode cJ11_lowSurrogate_5068e 1 = .ok (.sipush 1023, 3) := by decide +kernel
theorem dJ11_lowSurrogate_5068e_4 : decode cJ11_lowSurrogate_5068e 4 = .ok (.iand, 1) := by decide +kernel
theorem dJ11_lowSurrogate_5068e_5 : decode cJ11_lowSurrogate_5068e 5 = .ok (.ldc 76, 2) := by decide +kernel
theorem dJ11_lowSurrogate_5068e_7 : decode cJ11_lowSurrogate_5068e 7 = .ok (.iadd, 1) := by decide +kernel
theorem dJ11_lowSurrogate_5068e_8 : decode cJ11_lowSurrogate_5068e 8 = .ok (.i2c, 1) := by decide +kernel
theorem dJ11_lowSurrogate_5068e_9 : decode cJ11_lowSurrogate_5068e 9 = .ok (.ireturn, 1) := by decide +kernel
theorem dJ6_bitCount_0f7a4_0 : decode cJ6_bitCount_0f7a4 0 = .ok (.iload_n 0, 1) := by decide +kernel
theorem dJ6_bitCount_0f7a4_1 : decode cJ6_bitCount_0f7a4 1 = .ok (.iload_n 0, 1) := by decide +kernel
theorem dJ6_bitCount_0f7a4_2 : decode cJ6_bitCount_0f7a4 2 = .ok (.iconst 1, 1) := by decide +kernel
theorem dJ6_bitCount_0f7a4_3 : decode cJ6_bitCount_0f7a4 3 = .ok (.iushr, 1) := by decide +kernel
theorem dJ6_bitCount_0f7a4_4 : decode cJ6_bitCount_0f7a4 4 = .ok (.ldc_w 265, 3) := by decide +kernel
theorem dJ6_bitCount_0f7a4_7 : decode cJ6_bitCount_0f7a4 7 = .ok (.iand, 1) := by decide +kernel
theorem dJ6_bitCount_0f7a4_8 : decode cJ6_bitCount_0f7a4 8 = .ok (.isub, 1) := by decide +kernel
theorem dJ6_bitCount_0f7a4_9 : decode cJ6_bitCount_0f7a4 9 = .ok (.istore_n 0, 1) := by decide +kernel
theorem dJ6_bitCount_0f7a4_10 : decode cJ6_bitCount_0f7a4 10 = .ok (.iload_n 0, 1) := by decide +kernel
theorem dJ6_bitCount_0f7a4_11 : decode cJ6_bitCount_0f7a4 11 = .ok (.ldc_w 266, 3) := by decide +kernel
theorem dJ6_bitCount_0f7a4_14 : decode cJ6_bitCount_0f7a4 14 = .ok (.iand, 1) := by decide +kernel
theorem dJ6_bitCount_0f7a4_15 : decode cJ6_bitCount_0f7a4 15 = .ok (.iload_n 0, 1) := by decide +kernel
theorem dJ6_bitCount_0f7a4_16 : decode cJ6_bitCount_0f7a4 16 = .ok (.iconst 2, 1) := by decide +kernel
theorem dJ6_bitCount_0f7a4_17 : decode cJ6_bitCount_0f7a4 17 = .ok (.iushr, 1) := by decide +kernel
theorem dJ6_bitCount_0f7a4_18 : decode cJ6_bitCount_0f7a4 18 = .ok (.ldc_w 266, 3) := by decide +kernel
theorem dJ6_bitCount_0f7a4_21 : decode cJ6_bitCount_0f7a4 21 = .ok (.iand, 1) := by decide +kernel
theorem dJ6_bitCount_0f7a4_22 : decode cJ6_bitCount_0f7a4 22 = .ok (.iadd, 1) := by decide +kernel
theorem dJ6_bitCount_0f7a4_23 : decode cJ6_bitCount_0f7a4 23 = .ok (.istore_n 0, 1) := by decide +kernel
theorem dJ6_bitCount_0f7a4_24 : decode cJ6_bitCount_0f7a4 24 = .ok (.iload_n 0, 1) := by decide +kernel
theorem dJ6_bitCount_0f7a4_25 : decode cJ6_bitCount_0f7a4 25 = .ok (.iload_n 0, 1) := by decide +kernel
theorem dJ6_bitCount_0f7a4_26 : decode cJ6_bitCount_0f7a4 26 = .ok (.iconst 4, 1) := by decide +kernel
theorem dJ6_bitCount_0f7a4_27 : decode cJ6_bitCount_0f7a4 27 = .ok (.iushr, 1) := by decide +kernel
theorem dJ6_bitCount_0f7a4_28 : decode cJ6_bitCount_0f7a4 28 = .ok (.iadd, 1) := by decide +kernel
theorem dJ6_bitCount_0f7a4_29 : decode cJ6_bitCount_0f7a4 29 = .ok (.ldc_w 267, 3) := by decide +kernel
theorem dJ6_bitCount_0f7a4_32 : decode cJ6_bitCount_0f7a4 32 = .ok (.iand, 1) := by decide +kernel
theorem dJ6_bitCount_0f7a4_33 : decode cJ6_bitCount_0f7a4 33 = .ok (.istore_n 0, 1) := by decide +kernel
theorem dJ6_bitCount_0f7a4_34 : decode cJ6_bitCount_0f7a4 34 = .ok (.iload_n 0, 1) := by decide +kernel
theorem dJ6_bitCount_0f7a4_35 : decode cJ6_bitCount_0f7a4 35 = .ok (.iload_n 0, 1) := by decide +kernel
theorem dJ6_bitCount_0f7a4_36 : decode cJ6_bitCount_0f7a4 36 = .ok (.bipush 8, 2) := by decide +kernel
theorem dJ6_bitCount_0f7a4_38 : decode cJ6_bitCount_0f7a4 38 = .ok (.iushr, 1) := by decide +kernel
theorem dJ6_bitCount_0f7a4_39 : decode cJ6_bitCount_0f7a4 39 = .ok (.iadd, 1) := by decide +kernel
theorem dJ6_bitCount_0f7a4_40 : decode cJ6_bitCount_0f7a4 40 = .ok (.istore_n 0, 1) := by decide +kernel
theorem dJ6_bitCount_0f7a4_41 : decode cJ6_bitCount_0f7a4 41 = .ok (.iload_n 0, 1) := by decide +kernel
theorem dJ6_bitCount_0f7a4_42 : decode cJ6_bitCount_0f7a4 42 = .ok (.iload_n 0, 1) := by decide +kernel
theorem dJ6_bitCount_0f7a4_43 : decode cJ6_bitCount_0f7a4 43 = .ok (.bipush 16, 2) := by decide +kernel
theorem dJ6_bitCount_0f7a4_45 : decode cJ6_bitCount_0f7a4 45 = .ok (.iushr, 1) := by decide +kernel
theorem dJ6_bitCount_0f7a4_46 : decode cJ6_bitCount_0f7a4 46 = .ok (.iadd, 1) := by decide +kernel
theorem dJ6_bitCount_0f7a4_47 : decode cJ6_bitCount_0f7a4 47 = .ok (.istore_n 0, 1) := by decide +kernel
theorem dJ6_bitCount_0f7a4_48 : decode cJ6_bitCount_0f7a4 48 = .ok (.iload_n 0, 1) := by decide +kernel
theorem dJ6_bitCount_0f7a4_49 : decode cJ6_bitCount_0f7a4 49 = .ok (.bipush 63, 2) := by decide +kernel
theorem dJ6_bitCount_0f7a4_51 : decode cJ6_bitCount_0f7a4 51 = .ok (.iand, 1) := by decide +kernel
theorem dJ6_bitCount_0f7a4_52 : decode cJ6_bitCount_0f7a4 52 = .ok (.ireturn, 1) := by decide +kernel
theorem dJ9_floorMod_7cf53_0 : decode cJ9_floorMod_7cf53 0 = .ok (.iload_n 0, 1) := by decide +kernel
theorem dJ9_floorMod_7cf53_1 : decode cJ9_floorMod_7cf53 1 = .ok (.iload_n 1, 1) := by decide +kernel
theorem dJ9_floorMod_7cf53_2 : decode cJ9_floorMod_7cf53 2 = .ok (.irem, 1) := by decide +kernel
theorem dJ9_floorMod_7cf53_3 : decode cJ9_floorMod_7cf53 3 = .ok (.istore_n 2, 1) := by decide +kernel
theorem dJ9_floorMod_7cf53_4 : decode cJ9_floorMod_7cf53 4 = .ok (.iload_n 0, 1) := by decide +kernel
theorem dJ9_floorMod_7cf53_5 : decode cJ9_floorMod_7cf53 5 = .ok (.iload_n 1, 1) := by decide +kernel
theorem dJ9_floorMod_7cf53_6 : decode cJ9_floorMod_7cf53 6 = .ok (.ixor, 1) := by decide +kernel
theorem dJ9_floorMod_7cf53_7 : decode cJ9_floorMod_7cf53 7 = .ok (.ifCond .ge 11, 3) := by decide +kernel
theorem dJ9_floorMod_7cf53_10 : decode cJ9_floorMod_7cf53 10 = .ok (.iload_n 2, 1) := by decide +kernel
theorem dJ9_floorMod_7cf53_11 : decode cJ9_floorMod_7cf53 11 = .ok (.ifCond .eq 7, 3) := by decide +kernel
theorem dJ9_floorMod_7cf53_14 : decode cJ9_floorMod_7cf53 14 = .ok (.iload_n 2, 1) := by decide +kernel
theorem dJ9_floorMod_7cf53_15 : decode cJ9_floorMod_7cf53 15 = .ok (.iload_n 1, 1) := by decide +kernel
theorem dJ9_floorMod_7cf53_16 : decode cJ9_floorMod_7cf53 16 = .ok (.iadd, 1) := by decide +kernel
theorem dJ9_floorMod_7cf53_17 : decode cJ9_floorMod_7cf53 17 = .ok (.ireturn, 1) := by decide +kernel
theorem dJ9_floorMod_7cf53_18 : decode cJ9_floorMod_7cf53 18 = .ok (.iload_n 2, 1) := by decide +kernel
theorem dJ9_floorMod_7cf53_19 : decode cJ9_floorMod_7cf53 19 = .ok (.ireturn, 1) := by decide +kernel
theorem dJ9_max_7cf53_0 : decode cJ9_max_7cf53 0 = .ok (.iload_n 0, 1) := by decide +kernel
theorem dJ9_max_7cf53_1 : decode cJ9_max_7cf53 1 = .ok (.iload_n 1, 1) := by decide +kernel
theorem dJ9_max_7cf53_2 : decode cJ9_max_7cf53 2 = .ok (.if_icmp .lt 7, 3) := by decide +kernel
theorem dJ9_max_7cf53_5 : decode cJ9_max_7cf53 5 = .ok (.iload_n 0, 1) := by decide +kernel
theorem dJ9_max_7cf53_6 : decode cJ9_max_7cf53 6 = .ok (.goto 4, 3) := by decide +kernel
theorem dJ9_max_7cf53_9 : decode cJ9_max_7cf53 9 = .ok (.iload_n 1, 1) := by decide +kernel
theorem dJ9_max_7cf53_10 : decode cJ9_max_7cf53 10 = .ok (.ireturn, 1) := by decide +kernel
theorem dJ9_min_7cf53_0 : decode cJ9_min_7cf53 0 = .ok (.iload_n 0, 1) := by decide +kernel
theorem dJ9_min_7cf53_1 : decode cJ9_min_7cf53 1 = .ok (.iload_n 1, 1) := by decide +kernel
theorem dJ9_min_7cf53_2 : decode cJ9_min_7cf53 2 = .ok (.if_icmp .gt 7, 3) := by decide +kernel
theorem dJ9_min_7cf53_5 : decode cJ9_min_7cf53 5 = .ok (.iload_n 0, 1) := by decide +kernel
theorem dJ9_min_7cf53_6 : decode cJ9_min_7cf53 6 = .ok (.goto 4, 3) := by decide +kernel
theorem dJ9_min_7cf53_9 : decode cJ9_min_7cf53 9 = .ok (.iload_n 1, 1) := by decide +kernel
theorem dJ9_min_7cf53_10 : decode cJ9_min_7cf53 10 = .ok (.ireturn, 1) := by decide +kernel
theorem dJ0_length_8abf5_0 : decode cJ0_length_8abf5 0 = .ok (.aload_n 0, 1) := by decide +kernel
theorem dJ0_length_8abf5_1 : decode cJ0_length_8abf5 1 = .ok (.getfield 9, 3) := by decide +kernel
theorem dJ0_length_8abf5_4 : decode cJ0_length_8abf5 4 = .ok (.arraylength, 1) := by decide +kernel
theorem dJ0_length_8abf5_5 : decode cJ0_length_8abf5 5 = .ok (.aload_n 0, 1) := by decide +kernel
theorem dJ0_length_8abf5_6 : decode cJ0_length_8abf5 6 = .ok (.invokevirtual 335, 3) := by decide +kernel
theorem dJ0_length_8abf5_9 : decode cJ0_length_8abf5 9 = .ok (.ishr, 1) := by decide +kernel
theorem dJ0_length_8abf5_10 : decode cJ0_length_8abf5 10 = .ok (.ireturn, 1) := by decide +kernel
theorem dJ0_indexOf_0f7a4_0 : decode cJ0_indexOf_0f7a4 0 = .ok (.aload_n 0, 1) := by decide +kernel
theorem dJ0_indexOf_0f7a4_1 : decode cJ0_indexOf_0f7a4 1 = .ok (.iload_n 1, 1) := by decide +kernel
theorem dJ0_indexOf_0f7a4_2 : decode cJ0_indexOf_0f7a4 2 = .ok (.iconst 0, 1) := by decide +kernel
theorem dJ0_indexOf_0f7a4_3 : decode cJ0_indexOf_0f7a4 3 = .ok (.invokevirtual 633, 3) := by decide +kernel
theorem dJ0_indexOf_0f7a4_6 : decode cJ0_indexOf_0f7a4 6 = .ok (.ireturn, 1) := by decide +kernel
theorem dJ0_indexOf_7cf53_0 : decode cJ0_indexOf_7cf53 0 = .ok (.aload_n 0, 1) := by decide +kernel
theorem dJ0_indexOf_7cf53_1 : decode cJ0_indexOf_7cf53 1 = .ok (.invokevirtual 492, 3) := by decide +kernel
theorem dJ0_indexOf_7cf53_4 : decode cJ0_indexOf_7cf53 4 = .ok (.ifCond .eq 19, 3) := by decide +kernel
theorem dJ0_indexOf_7cf53_7 : decode cJ0_indexOf_7cf53 7 = .ok (.aload_n 0, 1) := by decide +kernel
theorem dJ0_indexOf_7cf53_8 : decode cJ0_indexOf_7cf53 8 = .ok (.getfield 9, 3) := by decide +kernel
theorem dJ0_indexOf_7cf53_11 : decode cJ0_indexOf_7cf53 11 = .ok (.iload_n 1, 1) := by decide +kernel
theorem dJ0_indexOf_7cf53_12 : decode cJ0_indexOf_7cf53 12 = .ok (.iload_n 2, 1) := by decide +kernel
theorem dJ0_indexOf_7cf53_13 : decode cJ0_indexOf_7cf53 13 = .ok (.aload_n 0, 1) := by decide +kernel
theorem dJ0_indexOf_7cf53_14 : decode cJ0_indexOf_7cf53 14 = .ok (.invokevirtual 505, 3) := by decide +kernel
theorem dJ0_indexOf_7cf53_17 : decode cJ0_indexOf_7cf53 17 = .ok (.invokestatic 637, 3) := by decide +kernel
theorem dJ0_indexOf_7cf53_20 : decode cJ0_indexOf_7cf53 20 = .ok (.goto 16, 3) := by decide +kernel
theorem dJ0_indexOf_7cf53_23 : decode cJ0_indexOf_7cf53 23 = .ok (.aload_n 0, 1) := by decide +kernel
theorem dJ0_indexOf_7cf53_24 : decode cJ0_indexOf_7cf53 24 = .ok (.getfield 9, 3) := by decide +kernel
theorem dJ0_indexOf_7cf53_27 : decode cJ0_indexOf_7cf53 27 = .ok (.iload_n 1, 1) := by decide +kernel
theorem dJ0_indexOf_7cf53_28 : decode cJ0_indexOf_7cf53 28 = .ok (.iload_n 2, 1) := by decide +kernel
theorem dJ0_indexOf_7cf53_29 : decode cJ0_indexOf_7cf53 29 = .ok (.aload_n 0, 1) := by decide +kernel
theorem dJ0_indexOf_7cf53_30 : decode cJ0_indexOf_7cf53 30 = .ok (.invokevirtual 505, 3) := by decide +kernel
theorem dJ0_indexOf_7cf53_33 : decode cJ0_indexOf_7cf53 33 = .ok (.invokestatic 640, 3) := by decide +kernel
theorem dJ0_indexOf_7cf53_36 : decode cJ0_indexOf_7cf53 36 = .ok (.ireturn, 1) := by decide +kernel
theorem dJ0_coder_7d493_0 : decode cJ0_coder_7d493 0 = .ok (.getstatic 38, 3) := by decide +kernel
theorem dJ0_coder_7d493_3 : decode cJ0_coder_7d493 3 = .ok (.ifCond .eq 10, 3) := by decide +kernel
theorem dJ0_coder_7d493_6 : decode cJ0_coder_7d493 6 = .ok (.aload_n 0, 1) := by decide +kernel
theorem dJ0_coder_7d493_7 : decode cJ0_coder_7d493 7 = .ok (.getfield 15, 3) := by decide +kernel
theorem dJ0_coder_7d493_10 : decode cJ0_coder_7d493 10 = .ok (.goto 4, 3) := by decide +kernel
theorem dJ0_coder_7d493_13 : decode cJ0_coder_7d493 13 = .ok (.iconst 1, 1) := by decide +kernel
theorem dJ0_coder_7d493_14 : decode cJ0_coder_7d493 14 = .ok (.ireturn, 1) := by decide +kernel
theorem dJ0_isLatin1_aae02_0 : decode cJ0_isLatin1_aae02 0 = .ok (.getstatic 38, 3) := by decide +kernel
theorem dJ0_isLatin1_aae02_3 : decode cJ0_isLatin1_aae02 3 = .ok (.ifCond .eq 14, 3) := by decide +kernel
theorem dJ0_isLatin1_aae02_6 : decode cJ0_isLatin1_aae02 6 = .ok (.aload_n 0, 1) := by decide +kernel
theorem dJ0_isLatin1_aae02_7 : decode cJ0_isLatin1_aae02 7 = .ok (.getfield 15, 3) := by decide +kernel
theorem dJ0_isLatin1_aae02_10 : decode cJ0_isLatin1_aae02 10 = .ok (.ifCond .ne 7, 3) := by decide +kernel
theorem dJ0_isLatin1_aae02_13 : decode cJ0_isLatin1_aae02 13 = .ok (.iconst 1, 1) := by decide +kernel
theorem dJ0_isLatin1_aae02_14 : decode cJ0_isLatin1_aae02 14 = .ok (.goto 4, 3) := by decide +kernel
theorem dJ0_isLatin1_aae02_17 : decode cJ0_isLatin1_aae02 17 = .ok (.iconst 0, 1) := by decide +kernel
theorem dJ0_isLatin1_aae02_18 : decode cJ0_isLatin1_aae02 18 = .ok (.ireturn, 1) := by decide +kernel
theorem dJ0_checkBoundsBeginEnd_23922_0 : decode cJ0_checkBoundsBeginEnd_23922 0 = .ok (.iload_n 0, 1) := by decide +kernel
theorem dJ0_checkBoundsBeginEnd_23922_1 : decode cJ0_checkBoundsBeginEnd_23922 1 = .ok (.iload_n 1, 1) := by decide +kernel
theorem dJ0_checkBoundsBeginEnd_23922_2 : decode cJ0_checkBoundsBeginEnd_23922 2 = .ok (.iload_n 2, 1) := by decide +kernel
theorem dJ0_checkBoundsBeginEnd_23922_3 : decode cJ0_checkBoundsBeginEnd_23922 3 = .ok (.getstatic 1053, 3) := by decide +kernel
theorem dJ0_checkBoundsBeginEnd_23922_6 : decode cJ0_checkBoundsBeginEnd_23922 6 = .ok (.invokestatic 1062, 3) := by decide +kernel
theorem dJ0_checkBoundsBeginEnd_23922_9 : decode cJ0_checkBoundsBeginEnd_23922 9 = .ok (.pop, 1) := by decide +kernel
theorem dJ0_checkBoundsBeginEnd_23922_10 : decode cJ0_checkBoundsBeginEnd_23922 10 = .ok (.return_, 1) := by decide +kernel
theorem dJ1_canEncode_9a6ad_0 : decode cJ1_canEncode_9a6ad 0 = .ok (.iload_n 0, 1) := by decide +kernel
theorem dJ1_canEncode_9a6ad_1 : decode cJ1_canEncode_9a6ad 1 = .ok (.ifCond .lt 14, 3) := by decide +kernel
theorem dJ1_canEncode_9a6ad_4 : decode cJ1_canEncode_9a6ad 4 = .ok (.iload_n 0, 1) := by decide +kernel
theorem dJ1_canEncode_9a6ad_5 : decode cJ1_canEncode_9a6ad 5 = .ok (.sipush 255, 3) := by decide +kernel
theorem dJ1_canEncode_9a6ad_8 : decode cJ1_canEncode_9a6ad 8 = .ok (.if_icmp .gt 7, 3) := by decide +kernel
theorem dJ1_canEncode_9a6ad_11 : decode cJ1_canEncode_9a6ad 11 = .ok (.iconst 1, 1) := by decide +kernel
theorem dJ1_canEncode_9a6ad_12 : decode cJ1_canEncode_9a6ad 12 = .ok (.goto 4, 3) := by decide +kernel
theorem dJ1_canEncode_9a6ad_15 : decode cJ1_canEncode_9a6ad 15 = .ok (.iconst 0, 1) := by decide +kernel
theorem dJ1_canEncode_9a6ad_16 : decode cJ1_canEncode_9a6ad 16 = .ok (.ireturn, 1) := by decide +kernel
theorem dJ1_indexOf_4cfef_0 : decode cJ1_indexOf_4cfef 0 = .ok (.iload_n 1, 1) := by decide +kernel
theorem dJ1_indexOf_4cfef_1 : decode cJ1_indexOf_4cfef 1 = .ok (.invokestatic 88, 3) := by decide +kernel
theorem dJ1_indexOf_4cfef_4 : decode cJ1_indexOf_4cfef 4 = .ok (.ifCond .ne 5, 3) := by decide +kernel
theorem dJ1_indexOf_4cfef_7 : decode cJ1_indexOf_4cfef 7 = .ok (.iconst (-1), 1) := by decide +kernel
theorem dJ1_indexOf_4cfef_8 : decode cJ1_indexOf_4cfef 8 = .ok (.ireturn, 1) := by decide +kernel
theorem dJ1_indexOf_4cfef_9 : decode cJ1_indexOf_4cfef 9 = .ok (.iload_n 2, 1) := by decide +kernel
theorem dJ1_indexOf_4cfef_10 : decode cJ1_indexOf_4cfef 10 = .ok (.iconst 0, 1) := by decide +kernel
theorem dJ1_indexOf_4cfef_11 : decode cJ1_indexOf_4cfef 11 = .ok (.invokestatic 92, 3) := by decide +kernel
theorem dJ1_indexOf_4cfef_14 : decode cJ1_indexOf_4cfef 14 = .ok (.istore_n 2, 1) := by decide +kernel
theorem dJ1_indexOf_4cfef_15 : decode cJ1_indexOf_4cfef 15 = .ok (.iload_n 3, 1) := by decide +kernel
theorem dJ1_indexOf_4cfef_16 : decode cJ1_indexOf_4cfef 16 = .ok (.aload_n 0, 1) := by decide +kernel
theorem dJ1_indexOf_4cfef_17 : decode cJ1_indexOf_4cfef 17 = .ok (.arraylength, 1) := by decide +kernel
theorem dJ1_indexOf_4cfef_18 : decode cJ1_indexOf_4cfef 18 = .ok (.invokestatic 38, 3) := by decide +kernel
theorem dJ1_indexOf_4cfef_21 : decode cJ1_indexOf_4cfef 21 = .ok (.istore_n 3, 1) := by decide +kernel
theorem dJ1_indexOf_4cfef_22 : decode cJ1_indexOf_4cfef 22 = .ok (.iload_n 2, 1) := by decide +kernel
theorem dJ1_indexOf_4cfef_23 : decode cJ1_indexOf_4cfef 23 = .ok (.iload_n 3, 1) := by decide +kernel
theorem dJ1_indexOf_4cfef_24 : decode cJ1_indexOf_4cfef 24 = .ok (.if_icmp .lt 5, 3) := by decide +kernel
theorem dJ1_indexOf_4cfef_27 : decode cJ1_indexOf_4cfef 27 = .ok (.iconst (-1), 1) := by decide +kernel
theorem dJ1_indexOf_4cfef_28 : decode cJ1_indexOf_4cfef 28 = .ok (.ireturn, 1) := by decide +kernel
theorem dJ1_indexOf_4cfef_29 : decode cJ1_indexOf_4cfef 29 = .ok (.aload_n 0, 1) := by decide +kernel
theorem dJ1_indexOf_4cfef_30 : decode cJ1_indexOf_4cfef 30 = .ok (.iload_n 1, 1) := by decide +kernel
theorem dJ1_indexOf_4cfef_31 : decode cJ1_indexOf_4cfef 31 = .ok (.iload_n 2, 1) := by decide +kernel
theorem dJ1_indexOf_4cfef_32 : decode cJ1_indexOf_4cfef 32 = .ok (.iload_n 3, 1) := by decide +kernel
theorem dJ1_indexOf_4cfef_33 : decode cJ1_indexOf_4cfef 33 = .ok (.invokestatic 95, 3) := by decide +kernel
theorem dJ1_indexOf_4cfef_36 : decode cJ1_indexOf_4cfef 36 = .ok (.ireturn, 1) := by decide +kernel
theorem dJ1_indexOfChar_4cfef_0 : decode cJ1_indexOfChar_4cfef 0 = .ok (.iload_n 1, 1) := by decide +kernel
theorem dJ1_indexOfChar_4cfef_1 : decode cJ1_indexOfChar_4cfef 1 = .ok (.i2b, 1) := by decide +kernel
theorem dJ1_indexOfChar_4cfef_2 : decode cJ1_indexOfChar_4cfef 2 = .ok (.istore 4, 2) := by decide +kernel
theorem dJ1_indexOfChar_4cfef_4 : decode cJ1_indexOfChar_4cfef 4 = .ok (.iload_n 2, 1) := by decide +kernel
theorem dJ1_indexOfChar_4cfef_5 : decode cJ1_indexOfChar_4cfef 5 = .ok (.istore 5, 2) := by decide +kernel
theorem dJ1_indexOfChar_4cfef_7 : decode cJ1_indexOfChar_4cfef 7 = .ok (.iload 5, 2) := by decide +kernel
theorem dJ1_indexOfChar_4cfef_9 : decode cJ1_indexOfChar_4cfef 9 = .ok (.iload_n 3, 1) := by decide +kernel
theorem dJ1_indexOfChar_4cfef_10 : decode cJ1_indexOfChar_4cfef 10 = .ok (.if_icmp .ge 21, 3) := by decide +kernel
theorem dJ1_indexOfChar_4cfef_13 : decode cJ1_indexOfChar_4cfef 13 = .ok (.aload_n 0, 1) := by decide +kernel
theorem dJ1_indexOfChar_4cfef_14 : decode cJ1_indexOfChar_4cfef 14 = .ok (.iload 5, 2) := by decide +kernel
theorem dJ1_indexOfChar_4cfef_16 : decode cJ1_indexOfChar_4cfef 16 = .ok (.baload, 1) := by decide +kernel
theorem dJ1_indexOfChar_4cfef_17 : decode cJ1_indexOfChar_4cfef 17 = .ok (.iload 4, 2) := by decide +kernel
theorem dJ1_indexOfChar_4cfef_19 : decode cJ1_indexOfChar_4cfef 19 = .ok (.if_icmp .ne 6, 3) := by decide +kernel
theorem dJ1_indexOfChar_4cfef_22 : decode cJ1_indexOfChar_4cfef 22 = .ok (.iload 5, 2) := by decide +kernel
theorem dJ1_indexOfChar_4cfef_24 : decode cJ1_indexOfChar_4cfef 24 = .ok (.ireturn, 1) := by decide +kernel
theorem dJ1_indexOfChar_4cfef_25 : decode cJ1_indexOfChar_4cfef 25 = .ok (.iinc 5 1, 3) := by decide +kernel
theorem dJ1_indexOfChar_4cfef_28 : decode cJ1_indexOfChar_4cfef 28 = .ok (.goto (-21), 3) := by decide +kernel
theorem dJ1_indexOfChar_4cfef_31 : decode cJ1_indexOfChar_4cfef 31 = .ok (.iconst (-1), 1) := by decide +kernel
theorem dJ1_indexOfChar_4cfef_32 : decode cJ1_indexOfChar_4cfef 32 = .ok (.ireturn, 1) := by decide +kernel
theorem dJ2_getChar_3b067_0 : decode cJ2_getChar_3b067 0 = .ok (.getstatic 44, 3) := by decide +kernel
theorem dJ2_getChar_3b067_3 : decode cJ2_getChar_3b067 3 = .ok (.ifCond .ne 25, 3) := by decide +kernel
theorem dJ2_getChar_3b067_6 : decode cJ2_getChar_3b067 6 = .ok (.iload_n 1, 1) := by decide +kernel
theorem dJ2_getChar_3b067_7 : decode cJ2_getChar_3b067 7 = .ok (.ifCond .lt 11, 3) := by decide +kernel
theorem dJ2_getChar_3b067_10 : decode cJ2_getChar_3b067 10 = .ok (.iload_n 1, 1) := by decide +kernel
theorem dJ2_getChar_3b067_11 : decode cJ2_getChar_3b067 11 = .ok (.aload_n 0, 1) := by decide +kernel
theorem dJ2_getChar_3b067_12 : decode cJ2_getChar_3b067 12 = .ok (.invokestatic 48, 3) := by decide +kernel
theorem dJ2_getChar_3b067_15 : decode cJ2_getChar_3b067 15 = .ok (.if_icmp .lt 13, 3) := by decide +kernel
theorem dJ2_getChar_3b067_18 : decode cJ2_getChar_3b067 18 = .ok (.new 52, 3) := by decide +kernel
theorem dJ2_getChar_3b067_21 : decode cJ2_getChar_3b067 21 = .ok (.dup, 1) := by decide +kernel
theorem dJ2_getChar_3b067_22 : decode cJ2_getChar_3b067 22 = .ok (.ldc 54, 2) := by decide +kernel
theorem dJ2_getChar_3b067_24 : decode cJ2_getChar_3b067 24 = .ok (.invokespecial 56, 3) := by decide +kernel
theorem dJ2_getChar_3b067_27 : decode cJ2_getChar_3b067 27 = .ok (.athrow, 1) := by decide +kernel
theorem dJ2_getChar_3b067_28 : decode cJ2_getChar_3b067 28 = .ok (.iload_n 1, 1) := by decide +kernel
theorem dJ2_getChar_3b067_29 : decode cJ2_getChar_3b067 29 = .ok (.iconst 1, 1) := by decide +kernel
theorem dJ2_getChar_3b067_30 : decode cJ2_getChar_3b067 30 = .ok (.ishl, 1) := by decide +kernel
theorem dJ2_getChar_3b067_31 : decode cJ2_getChar_3b067 31 = .ok (.istore_n 1, 1) := by decide +kernel
theorem dJ2_getChar_3b067_32 : decode cJ2_getChar_3b067 32 = .ok (.aload_n 0, 1) := by decide +kernel
theorem dJ2_getChar_3b067_33 : decode cJ2_getChar_3b067 33 = .ok (.iload_n 1, 1) := by decide +kernel
theorem dJ2_getChar_3b067_34 : decode cJ2_getChar_3b067 34 = .ok (.iinc 1 1, 3) := by decide +kernel
theorem dJ2_getChar_3b067_37 : decode cJ2_getChar_3b067 37 = .ok (.baload, 1) := by decide +kernel
theorem dJ2_getChar_3b067_38 : decode cJ2_getChar_3b067 38 = .ok (.sipush 255, 3) := by decide +kernel
theorem dJ2_getChar_3b067_41 : decode cJ2_getChar_3b067 41 = .ok (.iand, 1) := by decide +kernel
theorem dJ2_getChar_3b067_42 : decode cJ2_getChar_3b067 42 = .ok (.getstatic 59, 3) := by decide +kernel
theorem dJ2_getChar_3b067_45 : decode cJ2_getChar_3b067 45 = .ok (.ishl, 1) := by decide +kernel
theorem dJ2_getChar_3b067_46 : decode cJ2_getChar_3b067 46 = .ok (.aload_n 0, 1) := by decide +kernel
theorem dJ2_getChar_3b067_47 : decode cJ2_getChar_3b067 47 = .ok (.iload_n 1, 1) := by decide +kernel
theorem dJ2_getChar_3b067_48 : decode cJ2_getChar_3b067 48 = .ok (.baload, 1) := by decide +kernel
theorem dJ2_getChar_3b067_49 : decode cJ2_getChar_3b067 49 = .ok (.sipush 255, 3) := by decide +kernel
theorem dJ2_getChar_3b067_52 : decode cJ2_getChar_3b067 52 = .ok (.iand, 1) := by decide +kernel
theorem dJ2_getChar_3b067_53 : decode cJ2_getChar_3b067 53 = .ok (.getstatic 63, 3) := by decide +kernel
theorem dJ2_getChar_3b067_56 : decode cJ2_getChar_3b067 56 = .ok (.ishl, 1) := by decide +kernel
theorem dJ2_getChar_3b067_57 : decode cJ2_getChar_3b067 57 = .ok (.ior, 1) := by decide +kernel
theorem dJ2_getChar_3b067_58 : decode cJ2_getChar_3b067 58 = .ok (.i2c, 1) := by decide +kernel
theorem dJ2_getChar_3b067_59 : decode cJ2_getChar_3b067 59 = .ok (.ireturn, 1) := by decide +kernel
theorem dJ2_length_9d52b_0 : decode cJ2_length_9d52b 0 = .ok (.aload_n 0, 1) := by decide +kernel
theorem dJ2_length_9d52b_1 : decode cJ2_length_9d52b 1 = .ok (.arraylength, 1) := by decide +kernel
theorem dJ2_length_9d52b_2 : decode cJ2_length_9d52b 2 = .ok (.iconst 1, 1) := by decide +kernel
theorem dJ2_length_9d52b_3 : decode cJ2_length_9d52b 3 = .ok (.ishr, 1) := by decide +kernel
theorem dJ2_length_9d52b_4 : decode cJ2_length_9d52b 4 = .ok (.ireturn, 1) := by decide +kernel
theorem dJ2_indexOf_4cfef_0 : decode cJ2_indexOf_4cfef 0 = .ok (.iload_n 2, 1) := by decide +kernel
theorem dJ2_indexOf_4cfef_1 : decode cJ2_indexOf_4cfef 1 = .ok (.iconst 0, 1) := by decide +kernel
theorem dJ2_indexOf_4cfef_2 : decode cJ2_indexOf_4cfef 2 = .ok (.invokestatic 224, 3) := by decide +kernel
theorem dJ2_indexOf_4cfef_5 : decode cJ2_indexOf_4cfef 5 = .ok (.istore_n 2, 1) := by decide +kernel
theorem dJ2_indexOf_4cfef_6 : decode cJ2_indexOf_4cfef 6 = .ok (.iload_n 3, 1) := by decide +kernel
theorem dJ2_indexOf_4cfef_7 : decode cJ2_indexOf_4cfef 7 = .ok (.aload_n 0, 1) := by decide +kernel
theorem dJ2_indexOf_4cfef_8 : decode cJ2_indexOf_4cfef 8 = .ok (.arraylength, 1) := by decide +kernel
theorem dJ2_indexOf_4cfef_9 : decode cJ2_indexOf_4cfef 9 = .ok (.iconst 1, 1) := by decide +kernel
theorem dJ2_indexOf_4cfef_10 : decode cJ2_indexOf_4cfef 10 = .ok (.ishr, 1) := by decide +kernel
theorem dJ2_indexOf_4cfef_11 : decode cJ2_indexOf_4cfef 11 = .ok (.invokestatic 183, 3) := by decide +kernel
theorem dJ2_indexOf_4cfef_14 : decode cJ2_indexOf_4cfef 14 = .ok (.istore_n 3, 1) := by decide +kernel
theorem dJ2_indexOf_4cfef_15 : decode cJ2_indexOf_4cfef 15 = .ok (.iload_n 2, 1) := by decide +kernel
theorem dJ2_indexOf_4cfef_16 : decode cJ2_indexOf_4cfef 16 = .ok (.iload_n 3, 1) := by decide +kernel
theorem dJ2_indexOf_4cfef_17 : decode cJ2_indexOf_4cfef 17 = .ok (.if_icmp .lt 5, 3) := by decide +kernel
theorem dJ2_indexOf_4cfef_20 : decode cJ2_indexOf_4cfef 20 = .ok (.iconst (-1), 1) := by decide +kernel
theorem dJ2_indexOf_4cfef_21 : decode cJ2_indexOf_4cfef 21 = .ok (.ireturn, 1) := by decide +kernel
theorem dJ2_indexOf_4cfef_22 : decode cJ2_indexOf_4cfef 22 = .ok (.iload_n 1, 1) := by decide +kernel
theorem dJ2_indexOf_4cfef_23 : decode cJ2_indexOf_4cfef 23 = .ok (.ldc 227, 2) := by decide +kernel
theorem dJ2_indexOf_4cfef_25 : decode cJ2_indexOf_4cfef 25 = .ok (.if_icmp .ge 11, 3) := by decide +kernel
theorem dJ2_indexOf_4cfef_28 : decode cJ2_indexOf_4cfef 28 = .ok (.aload_n 0, 1) := by decide +kernel
theorem dJ2_indexOf_4cfef_29 : decode cJ2_indexOf_4cfef 29 = .ok (.iload_n 1, 1) := by decide +kernel
theorem dJ2_indexOf_4cfef_30 : decode cJ2_indexOf_4cfef 30 = .ok (.iload_n 2, 1) := by decide +kernel
theorem dJ2_indexOf_4cfef_31 : decode cJ2_indexOf_4cfef 31 = .ok (.iload_n 3, 1) := by decide +kernel
theorem dJ2_indexOf_4cfef_32 : decode cJ2_indexOf_4cfef 32 = .ok (.invokestatic 228, 3) := by decide +kernel
theorem dJ2_indexOf_4cfef_35 : decode cJ2_indexOf_4cfef 35 = .ok (.ireturn, 1) := by decide +kernel
theorem dJ2_indexOf_4cfef_36 : decode cJ2_indexOf_4cfef 36 = .ok (.aload_n 0, 1) := by decide +kernel
theorem dJ2_indexOf_4cfef_37 : decode cJ2_indexOf_4cfef 37 = .ok (.iload_n 1, 1) := by decide +kernel
theorem dJ2_indexOf_4cfef_38 : decode cJ2_indexOf_4cfef 38 = .ok (.iload_n 2, 1) := by decide +kernel
theorem dJ2_indexOf_4cfef_39 : decode cJ2_indexOf_4cfef 39 = .ok (.iload_n 3, 1) := by decide +kernel
theorem dJ2_indexOf_4cfef_40 : decode cJ2_indexOf_4cfef 40 = .ok (.invokestatic 232, 3) := by decide +kernel
theorem dJ2_indexOf_4cfef_43 : decode cJ2_indexOf_4cfef 43 = .ok (.ireturn, 1) := by decide +kernel
theorem dJ2_indexOfChar_4cfef_0 : decode cJ2_indexOfChar_4cfef 0 = .ok (.iload_n 2, 1) := by decide +kernel
theorem dJ2_indexOfChar_4cfef_1 : decode cJ2_indexOfChar_4cfef 1 = .ok (.iload_n 3, 1) := by decide +kernel
theorem dJ2_indexOfChar_4cfef_2 : decode cJ2_indexOfChar_4cfef 2 = .ok (.aload_n 0, 1) := by decide +kernel
theorem dJ2_indexOfChar_4cfef_3 : decode cJ2_indexOfChar_4cfef 3 = .ok (.invokestatic 96, 3) := by decide +kernel
theorem dJ2_indexOfChar_4cfef_6 : decode cJ2_indexOfChar_4cfef 6 = .ok (.aload_n 0, 1) := by decide +kernel
theorem dJ2_indexOfChar_4cfef_7 : decode cJ2_indexOfChar_4cfef 7 = .ok (.iload_n 1, 1) := by decide +kernel
theorem dJ2_indexOfChar_4cfef_8 : decode cJ2_indexOfChar_4cfef 8 = .ok (.iload_n 2, 1) := by decide +kernel
theorem dJ2_indexOfChar_4cfef_9 : decode cJ2_indexOfChar_4cfef 9 = .ok (.iload_n 3, 1) := by decide +kernel
theorem dJ2_indexOfChar_4cfef_10 : decode cJ2_indexOfChar_4cfef 10 = .ok (.invokestatic 244, 3) := by decide +kernel
theorem dJ2_indexOfChar_4cfef_13 : decode cJ2_indexOfChar_4cfef 13 = .ok (.ireturn, 1) := by decide +kernel
theorem dJ2_indexOfCharUnsafe_4cfef_0 : decode cJ2_indexOfCharUnsafe_4cfef 0 = .ok (.iload_n 2, 1) := by decide +kernel
theorem dJ2_indexOfCharUnsafe_4cfef_1 : decode cJ2_indexOfCharUnsafe_4cfef 1 = .ok (.istore 4, 2) := by decide +kernel
theorem dJ2_indexOfCharUnsafe_4cfef_3 : decode cJ2_indexOfCharUnsafe_4cfef 3 = .ok (.iload 4, 2) := by decide +kernel
theorem dJ2_indexOfCharUnsafe_4cfef_5 : decode cJ2_indexOfCharUnsafe_4cfef 5 = .ok (.iload_n 3, 1) := by decide +kernel
theorem dJ2_indexOfCharUnsafe_4cfef_6 : decode cJ2_indexOfCharUnsafe_4cfef 6 = .ok (.if_icmp .ge 22, 3) := by decide +kernel
theorem dJ2_indexOfCharUnsafe_4cfef_9 : decode cJ2_indexOfCharUnsafe_4cfef 9 = .ok (.aload_n 0, 1) := by decide +kernel
theorem dJ2_indexOfCharUnsafe_4cfef_10 : decode cJ2_indexOfCharUnsafe_4cfef 10 = .ok (.iload 4, 2) := by decide +kernel
theorem dJ2_indexOfCharUnsafe_4cfef_12 : decode cJ2_indexOfCharUnsafe_4cfef 12 = .ok (.invokestatic 71, 3) := by decide +kernel
theorem dJ2_indexOfCharUnsafe_4cfef_15 : decode cJ2_indexOfCharUnsafe_4cfef 15 = .ok (.iload_n 1, 1) := by decide +kernel
theorem dJ2_indexOfCharUnsafe_4cfef_16 : decode cJ2_indexOfCharUnsafe_4cfef 16 = .ok (.if_icmp .ne 6, 3) := by decide +kernel
theorem dJ2_indexOfCharUnsafe_4cfef_19 : decode cJ2_indexOfCharUnsafe_4cfef 19 = .ok (.iload 4, 2) := by decide +kernel
theorem dJ2_indexOfCharUnsafe_4cfef_21 : decode cJ2_indexOfCharUnsafe_4cfef 21 = .ok (.ireturn, 1) := by decide +kernel
theorem dJ2_indexOfCharUnsafe_4cfef_22 : decode cJ2_indexOfCharUnsafe_4cfef 22 = .ok (.iinc 4 1, 3) := by decide +kernel
theorem dJ2_indexOfCharUnsafe_4cfef_25 : decode cJ2_indexOfCharUnsafe_4cfef 25 = .ok (.goto (-22), 3) := by decide +kernel
theorem dJ2_indexOfCharUnsafe_4cfef_28 : decode cJ2_indexOfCharUnsafe_4cfef 28 = .ok (.iconst (-1), 1) := by decide +kernel
theorem dJ2_indexOfCharUnsafe_4cfef_29 : decode cJ2_indexOfCharUnsafe_4cfef 29 = .ok (.ireturn, 1) := by decide +kernel
theorem dJ2_indexOfSupplementary_4cfef_0 : decode cJ2_indexOfSupplementary_4cfef 0 = .ok (.iload_n 1, 1) := by decide +kernel
theorem dJ2_indexOfSupplementary_4cfef_1 : decode cJ2_indexOfSupplementary_4cfef 1 = .ok (.invokestatic 164, 3) := by decide +kernel
theorem dJ2_indexOfSupplementary_4cfef_4 : decode cJ2_indexOfSupplementary_4cfef 4 = .ok (.ifCond .eq 65, 3) := by decide +kernel
theorem dJ2_indexOfSupplementary_4cfef_7 : decode cJ2_indexOfSupplementary_4cfef 7 = .ok (.iload_n 1, 1) := by decide +kernel
theorem dJ2_indexOfSupplementary_4cfef_8 : decode cJ2_indexOfSupplementary_4cfef 8 = .ok (.invokestatic 157, 3) := by decide +kernel
theorem dJ2_indexOfSupplementary_4cfef_11 : decode cJ2_indexOfSupplementary_4cfef 11 = .ok (.istore 4, 2) := by decide +kernel
theorem dJ2_indexOfSupplementary_4cfef_13 : decode cJ2_indexOfSupplementary_4cfef 13 = .ok (.iload_n 1, 1) := by decide +kernel
theorem dJ2_indexOfSupplementary_4cfef_14 : decode cJ2_indexOfSupplementary_4cfef 14 = .ok (.invokestatic 161, 3) := by decide +kernel
theorem dJ2_indexOfSupplementary_4cfef_17 : decode cJ2_indexOfSupplementary_4cfef 17 = .ok (.istore 5, 2) := by decide +kernel
theorem dJ2_indexOfSupplementary_4cfef_19 : decode cJ2_indexOfSupplementary_4cfef 19 = .ok (.iload_n 2, 1) := by decide +kernel
theorem dJ2_indexOfSupplementary_4cfef_20 : decode cJ2_indexOfSupplementary_4cfef 20 = .ok (.iload_n 3, 1) := by decide +kernel
theorem dJ2_indexOfSupplementary_4cfef_21 : decode cJ2_indexOfSupplementary_4cfef 21 = .ok (.aload_n 0, 1) := by decide +kernel
theorem dJ2_indexOfSupplementary_4cfef_22 : decode cJ2_indexOfSupplementary_4cfef 22 = .ok (.invokestatic 96, 3) := by decide +kernel
theorem dJ2_indexOfSupplementary_4cfef_25 : decode cJ2_indexOfSupplementary_4cfef 25 = .ok (.iload_n 2, 1) := by decide +kernel
theorem dJ2_indexOfSupplementary_4cfef_26 : decode cJ2_indexOfSupplementary_4cfef 26 = .ok (.istore 6, 2) := by decide +kernel
theorem dJ2_indexOfSupplementary_4cfef_28 : decode cJ2_indexOfSupplementary_4cfef 28 = .ok (.iload 6, 2) := by decide +kernel
theorem dJ2_indexOfSupplementary_4cfef_30 : decode cJ2_indexOfSupplementary_4cfef 30 = .ok (.iload_n 3, 1) := by decide +kernel
theorem dJ2_indexOfSupplementary_4cfef_31 : decode cJ2_indexOfSupplementary_4cfef 31 = .ok (.iconst 1, 1) := by decide +kernel
theorem dJ2_indexOfSupplementary_4cfef_32 : decode cJ2_indexOfSupplementary_4cfef 32 = .ok (.isub, 1) := by decide +kernel
theorem dJ2_indexOfSupplementary_4cfef_33 : decode cJ2_indexOfSupplementary_4cfef 33 = .ok (.if_icmp .ge 36, 3) := by decide +kernel
theorem dJ2_indexOfSupplementary_4cfef_36 : decode cJ2_indexOfSupplementary_4cfef 36 = .ok (.aload_n 0, 1) := by decide +kernel
theorem dJ2_indexOfSupplementary_4cfef_37 : decode cJ2_indexOfSupplementary_4cfef 37 = .ok (.iload 6, 2) := by decide +kernel
theorem dJ2_indexOfSupplementary_4cfef_39 : decode cJ2_indexOfSupplementary_4cfef 39 = .ok (.invokestatic 71, 3) := by decide +kernel
theorem dJ2_indexOfSupplementary_4cfef_42 : decode cJ2_indexOfSupplementary_4cfef 42 = .ok (.iload 4, 2) := by decide +kernel
theorem dJ2_indexOfSupplementary_4cfef_44 : decode cJ2_indexOfSupplementary_4cfef 44 = .ok (.if_icmp .ne 19, 3) := by decide +kernel
theorem dJ2_indexOfSupplementary_4cfef_47 : decode cJ2_indexOfSupplementary_4cfef 47 = .ok (.aload_n 0, 1) := by decide +kernel
theorem dJ2_indexOfSupplementary_4cfef_48 : decode cJ2_indexOfSupplementary_4cfef 48 = .ok (.iload 6, 2) := by decide +kernel
theorem dJ2_indexOfSupplementary_4cfef_50 : decode cJ2_indexOfSupplementary_4cfef 50 = .ok (.iconst 1, 1) := by decide +kernel
theorem dJ2_indexOfSupplementary_4cfef_51 : decode cJ2_indexOfSupplementary_4cfef 51 = .ok (.iadd, 1) := by decide +kernel
theorem dJ2_indexOfSupplementary_4cfef_52 : decode cJ2_indexOfSupplementary_4cfef 52 = .ok (.invokestatic 71, 3) := by decide +kernel
theorem dJ2_indexOfSupplementary_4cfef_55 : decode cJ2_indexOfSupplementary_4cfef 55 = .ok (.iload 5, 2) := by decide +kernel
theorem dJ2_indexOfSupplementary_4cfef_57 : decode cJ2_indexOfSupplementary_4cfef 57 = .ok (.if_icmp .ne 6, 3) := by decide +kernel
theorem dJ2_indexOfSupplementary_4cfef_60 : decode cJ2_indexOfSupplementary_4cfef 60 = .ok (.iload 6, 2) := by decide +kernel
theorem dJ2_indexOfSupplementary_4cfef_62 : decode cJ2_indexOfSupplementary_4cfef 62 = .ok (.ireturn, 1) := by decide +kernel
theorem dJ2_indexOfSupplementary_4cfef_63 : decode cJ2_indexOfSupplementary_4cfef 63 = .ok (.iinc 6 1, 3) := by decide +kernel
theorem dJ2_indexOfSupplementary_4cfef_66 : decode cJ2_indexOfSupplementary_4cfef 66 = .ok (.goto (-38), 3) := by decide +kernel
theorem dJ2_indexOfSupplementary_4cfef_69 : decode cJ2_indexOfSupplementary_4cfef 69 = .ok (.iconst (-1), 1) := by decide +kernel
theorem dJ2_indexOfSupplementary_4cfef_70 : decode cJ2_indexOfSupplementary_4cfef 70 = .ok (.ireturn, 1) := by decide +kernel
theorem dJ2_checkBoundsBeginEnd_d044e_0 : decode cJ2_checkBoundsBeginEnd_d044e 0 = .ok (.iload_n 0, 1) := by decide +kernel
theorem dJ2_checkBoundsBeginEnd_d044e_1 : decode cJ2_checkBoundsBeginEnd_d044e 1 = .ok (.iload_n 1, 1) := by decide +kernel
theorem dJ2_checkBoundsBeginEnd_d044e_2 : decode cJ2_checkBoundsBeginEnd_d044e 2 = .ok (.aload_n 2, 1) := by decide +kernel
theorem dJ2_checkBoundsBeginEnd_d044e_3 : decode cJ2_checkBoundsBeginEnd_d044e 3 = .ok (.invokestatic 48, 3) := by decide +kernel
theorem dJ2_checkBoundsBeginEnd_d044e_6 : decode cJ2_checkBoundsBeginEnd_d044e 6 = .ok (.invokestatic 241, 3) := by decide +kernel
theorem dJ2_checkBoundsBeginEnd_d044e_9 : decode cJ2_checkBoundsBeginEnd_d044e 9 = .ok (.return_, 1) := by decide +kernel
theorem dJ3_checkFromToIndex_8c36e_0 : decode cJ3_checkFromToIndex_8c36e 0 = .ok (.iload_n 0, 1) := by decide +kernel
theorem dJ3_checkFromToIndex_8c36e_1 : decode cJ3_checkFromToIndex_8c36e 1 = .ok (.ifCond .lt 13, 3) := by decide +kernel
theorem dJ3_checkFromToIndex_8c36e_4 : decode cJ3_checkFromToIndex_8c36e 4 = .ok (.iload_n 0, 1) := by decide +kernel
theorem dJ3_checkFromToIndex_8c36e_5 : decode cJ3_checkFromToIndex_8c36e 5 = .ok (.iload_n 1, 1) := by decide +kernel
theorem dJ3_checkFromToIndex_8c36e_6 : decode cJ3_checkFromToIndex_8c36e 6 = .ok (.if_icmp .gt 8, 3) := by decide +kernel
theorem dJ3_checkFromToIndex_8c36e_9 : decode cJ3_checkFromToIndex_8c36e 9 = .ok (.iload_n 1, 1) := by decide +kernel
theorem dJ3_checkFromToIndex_8c36e_10 : decode cJ3_checkFromToIndex_8c36e 10 = .ok (.iload_n 2, 1) := by decide +kernel
theorem dJ3_checkFromToIndex_8c36e_11 : decode cJ3_checkFromToIndex_8c36e 11 = .ok (.if_icmp .le 11, 3) := by decide +kernel
theorem dJ3_checkFromToIndex_8c36e_14 : decode cJ3_checkFromToIndex_8c36e 14 = .ok (.aload_n 3, 1) := by decide +kernel
theorem dJ3_checkFromToIndex_8c36e_15 : decode cJ3_checkFromToIndex_8c36e 15 = .ok (.iload_n 0, 1) := by decide +kernel
theorem dJ3_checkFromToIndex_8c36e_16 : decode cJ3_checkFromToIndex_8c36e 16 = .ok (.iload_n 1, 1) := by decide +kernel
theorem dJ3_checkFromToIndex_8c36e_17 : decode cJ3_checkFromToIndex_8c36e 17 = .ok (.iload_n 2, 1) := by decide +kernel
theorem dJ3_checkFromToIndex_8c36e_18 : decode cJ3_checkFromToIndex_8c36e 18 = .ok (.invokestatic 99, 3) := by decide +kernel
theorem dJ3_checkFromToIndex_8c36e_21 : decode cJ3_checkFromToIndex_8c36e 21 = .ok (.athrow, 1) := by decide +kernel
theorem dJ3_checkFromToIndex_8c36e_22 : decode cJ3_checkFromToIndex_8c36e 22 = .ok (.iload_n 0, 1) := by decide +kernel
theorem dJ3_checkFromToIndex_8c36e_23 : decode cJ3_checkFromToIndex_8c36e 23 = .ok (.ireturn, 1) := by decide +kernel
theorem dL_law_0 : decode cL_law 0 = .ok (.new 7, 3) := by decide +kernel
theorem dL_law_3 : decode cL_law 3 = .ok (.dup, 1) := by decide +kernel
theorem dL_law_4 : decode cL_law 4 = .ok (.invokespecial 9, 3) := by decide +kernel
theorem dL_law_7 : decode cL_law 7 = .ok (.astore_n 1, 1) := by decide +kernel
theorem dL_law_8 : decode cL_law 8 = .ok (.new 10, 3) := by decide +kernel
theorem dL_law_11 : decode cL_law 11 = .ok (.dup, 1) := by decide +kernel
theorem dL_law_12 : decode cL_law 12 = .ok (.invokespecial 12, 3) := by decide +kernel
theorem dL_law_15 : decode cL_law 15 = .ok (.astore_n 2, 1) := by decide +kernel
theorem dL_law_16 : decode cL_law 16 = .ok (.iconst 0, 1) := by decide +kernel
theorem dL_law_17 : decode cL_law 17 = .ok (.istore_n 3, 1) := by decide +kernel
theorem dL_law_18 : decode cL_law 18 = .ok (.iload_n 3, 1) := by decide +kernel
theorem dL_law_19 : decode cL_law 19 = .ok (.aload_n 0, 1) := by decide +kernel
theorem dL_law_20 : decode cL_law 20 = .ok (.arraylength, 1) := by decide +kernel
theorem dL_law_21 : decode cL_law 21 = .ok (.bipush 6, 2) := by decide +kernel
theorem dL_law_23 : decode cL_law 23 = .ok (.isub, 1) := by decide +kernel
theorem dL_law_24 : decode cL_law 24 = .ok (.if_icmp .gt 1393, 3) := by decide +kernel
theorem dL_law_27 : decode cL_law 27 = .ok (.aload_n 0, 1) := by decide +kernel
theorem dL_law_28 : decode cL_law 28 = .ok (.iload_n 3, 1) := by decide +kernel
theorem dL_law_29 : decode cL_law 29 = .ok (.iaload, 1) := by decide +kernel
theorem dL_law_30 : decode cL_law 30 = .ok (.bipush 63, 2) := by decide +kernel
theorem dL_law_32 : decode cL_law 32 = .ok (.iand, 1) := by decide +kernel
theorem dL_law_33 : decode cL_law 33 = .ok (.tableswitch 1378 0 38 #[171, 214, 247, 280, 313, 356, 389, 422, 455, 488, 551, 574, 627, 650, 673, 716, 729, 752, 765, 798, 821, 854, 887, 900, 943, 986, 1009, 1052, 1075, 1118, 1161, 1224, 1247, 1270, 1283, 1296, 1319, 1332, 1355], 171) := by decide +kernel
theorem dL_law_204 : decode cL_law 204 = .ok (.aload_n 1, 1) := by decide +kernel
theorem dL_law_205 : decode cL_law 205 = .ok (.aload_n 0, 1) := by decide +kernel
theorem dL_law_206 : decode cL_law 206 = .ok (.iload_n 3, 1) := by decide +kernel
theorem dL_law_207 : decode cL_law 207 = .ok (.iconst 1, 1) := by decide +kernel
theorem dL_law_208 : decode cL_law 208 = .ok (.iadd, 1) := by decide +kernel
theorem dL_law_209 : decode cL_law 209 = .ok (.iaload, 1) := by decide +kernel
theorem dL_law_210 : decode cL_law 210 = .ok (.aload_n 0, 1) := by decide +kernel
theorem dL_law_211 : decode cL_law 211 = .ok (.iload_n 3, 1) := by decide +kernel
theorem dL_law_212 : decode cL_law 212 = .ok (.iconst 2, 1) := by decide +kernel
theorem dL_law_213 : decode cL_law 213 = .ok (.iadd, 1) := by decide +kernel
theorem dL_law_214 : decode cL_law 214 = .ok (.iaload, 1) := by decide +kernel
theorem dL_law_215 : decode cL_law 215 = .ok (.aload_n 0, 1) := by decide +kernel
theorem dL_law_216 : decode cL_law 216 = .ok (.iload_n 3, 1) := by decide +kernel
theorem dL_law_217 : decode cL_law 217 = .ok (.iconst 3, 1) := by decide +kernel
theorem dL_law_218 : decode cL_law 218 = .ok (.iadd, 1) := by decide +kernel
theorem dL_law_219 : decode cL_law 219 = .ok (.iaload, 1) := by decide +kernel
theorem dL_law_220 : decode cL_law 220 = .ok (.invokevirtual 13, 3) := by decide +kernel
theorem dL_law_223 : decode cL_law 223 = .ok (.aload_n 2, 1) := by decide +kernel
theorem dL_law_224 : decode cL_law 224 = .ok (.aload_n 0, 1) := by decide +kernel
theorem dL_law_225 : decode cL_law 225 = .ok (.iload_n 3, 1) := by decide +kernel
theorem dL_law_226 : decode cL_law 226 = .ok (.iconst 1, 1) := by decide +kernel
theorem dL_law_227 : decode cL_law 227 = .ok (.iadd, 1) := by decide +kernel
theorem dL_law_228 : decode cL_law 228 = .ok (.iaload, 1) := by decide +kernel
theorem dL_law_229 : decode cL_law 229 = .ok (.aload_n 0, 1) := by decide +kernel
theorem dL_law_230 : decode cL_law 230 = .ok (.iload_n 3, 1) := by decide +kernel
theorem dL_law_231 : decode cL_law 231 = .ok (.iconst 2, 1) := by decide +kernel
theorem dL_law_232 : decode cL_law 232 = .ok (.iadd, 1) := by decide +kernel
theorem dL_law_233 : decode cL_law 233 = .ok (.iaload, 1) := by decide +kernel
theorem dL_law_234 : decode cL_law 234 = .ok (.aload_n 0, 1) := by decide +kernel
theorem dL_law_235 : decode cL_law 235 = .ok (.iload_n 3, 1) := by decide +kernel
theorem dL_law_236 : decode cL_law 236 = .ok (.iconst 3, 1) := by decide +kernel
theorem dL_law_237 : decode cL_law 237 = .ok (.iadd, 1) := by decide +kernel
theorem dL_law_238 : decode cL_law 238 = .ok (.iaload, 1) := by decide +kernel
theorem dL_law_239 : decode cL_law 239 = .ok (.invokevirtual 17, 3) := by decide +kernel
theorem dL_law_242 : decode cL_law 242 = .ok (.if_icmp .eq 1169, 3) := by decide +kernel
theorem dL_law_245 : decode cL_law 245 = .ok (.iconst 0, 1) := by decide +kernel
theorem dL_law_246 : decode cL_law 246 = .ok (.ireturn, 1) := by decide +kernel
theorem dL_law_247 : decode cL_law 247 = .ok (.aload_n 1, 1) := by decide +kernel
theorem dL_law_248 : decode cL_law 248 = .ok (.aload_n 0, 1) := by decide +kernel
theorem dL_law_249 : decode cL_law 249 = .ok (.iload_n 3, 1) := by decide +kernel
theorem dL_law_250 : decode cL_law 250 = .ok (.iconst 1, 1) := by decide +kernel
theorem dL_law_251 : decode cL_law 251 = .ok (.iadd, 1) := by decide +kernel
theorem dL_law_252 : decode cL_law 252 = .ok (.iaload, 1) := by decide +kernel
theorem dL_law_253 : decode cL_law 253 = .ok (.aload_n 0, 1) := by decide +kernel
theorem dL_law_254 : decode cL_law 254 = .ok (.iload_n 3, 1) := by decide +kernel
theorem dL_law_255 : decode cL_law 255 = .ok (.iconst 2, 1) := by decide +kernel
theorem dL_law_256 : decode cL_law 256 = .ok (.iadd, 1) := by decide +kernel
theorem dL_law_257 : decode cL_law 257 = .ok (.iaload, 1) := by decide +kernel
theorem dL_law_258 : decode cL_law 258 = .ok (.invokevirtual 18, 3) := by decide +kernel
theorem dL_law_261 : decode cL_law 261 = .ok (.aload_n 2, 1) := by decide +kernel
theorem dL_law_262 : decode cL_law 262 = .ok (.aload_n 0, 1) := by decide +kernel
theorem dL_law_263 : decode cL_law 263 = .ok (.iload_n 3, 1) := by decide +kernel
theorem dL_law_264 : decode cL_law 264 = .ok (.iconst 1, 1) := by decide +kernel
theorem dL_law_265 : decode cL_law 265 = .ok (.iadd, 1) := by decide +kernel
theorem dL_law_266 : decode cL_law 266 = .ok (.iaload, 1) := by decide +kernel
theorem dL_law_267 : decode cL_law 267 = .ok (.aload_n 0, 1) := by decide +kernel
theorem dL_law_268 : decode cL_law 268 = .ok (.iload_n 3, 1) := by decide +kernel
theorem dL_law_269 : decode cL_law 269 = .ok (.iconst 2, 1) := by decide +kernel
theorem dL_law_270 : decode cL_law 270 = .ok (.iadd, 1) := by decide +kernel
theorem dL_law_271 : decode cL_law 271 = .ok (.iaload, 1) := by decide +kernel
theorem dL_law_272 : decode cL_law 272 = .ok (.invokevirtual 22, 3) := by decide +kernel
theorem dL_law_275 : decode cL_law 275 = .ok (.if_icmp .eq 1136, 3) := by decide +kernel
theorem dL_law_278 : decode cL_law 278 = .ok (.iconst 0, 1) := by decide +kernel
theorem dL_law_279 : decode cL_law 279 = .ok (.ireturn, 1) := by decide +kernel
theorem dL_law_280 : decode cL_law 280 = .ok (.aload_n 1, 1) := by decide +kernel
theorem dL_law_281 : decode cL_law 281 = .ok (.aload_n 0, 1) := by decide +kernel
theorem dL_law_282 : decode cL_law 282 = .ok (.iload_n 3, 1) := by decide +kernel
theorem dL_law_283 : decode cL_law 283 = .ok (.iconst 1, 1) := by decide +kernel
theorem dL_law_284 : decode cL_law 284 = .ok (.iadd, 1) := by decide +kernel
theorem dL_law_285 : decode cL_law 285 = .ok (.iaload, 1) := by decide +kernel
theorem dL_law_286 : decode cL_law 286 = .ok (.aload_n 0, 1) := by decide +kernel
theorem dL_law_287 : decode cL_law 287 = .ok (.iload_n 3, 1) := by decide +kernel
theorem dL_law_288 : decode cL_law 288 = .ok (.iconst 2, 1) := by decide +kernel
theorem dL_law_289 : decode cL_law 289 = .ok (.iadd, 1) := by decide +kernel
theorem dL_law_290 : decode cL_law 290 = .ok (.iaload, 1) := by decide +kernel
theorem dL_law_291 : decode cL_law 291 = .ok (.invokevirtual 23, 3) := by decide +kernel
theorem dL_law_294 : decode cL_law 294 = .ok (.aload_n 2, 1) := by decide +kernel
theorem dL_law_295 : decode cL_law 295 = .ok (.aload_n 0, 1) := by decide +kernel
theorem dL_law_296 : decode cL_law 296 = .ok (.iload_n 3, 1) := by decide +kernel
theorem dL_law_297 : decode cL_law 297 = .ok (.iconst 1, 1) := by decide +kernel
theorem dL_law_298 : decode cL_law 298 = .ok (.iadd, 1) := by decide +kernel
theorem dL_law_299 : decode cL_law 299 = .ok (.iaload, 1) := by decide +kernel
theorem dL_law_300 : decode cL_law 300 = .ok (.aload_n 0, 1) := by decide +kernel
theorem dL_law_301 : decode cL_law 301 = .ok (.iload_n 3, 1) := by decide +kernel
theorem dL_law_302 : decode cL_law 302 = .ok (.iconst 2, 1) := by decide +kernel
theorem dL_law_303 : decode cL_law 303 = .ok (.iadd, 1) := by decide +kernel
theorem dL_law_304 : decode cL_law 304 = .ok (.iaload, 1) := by decide +kernel
theorem dL_law_305 : decode cL_law 305 = .ok (.invokevirtual 26, 3) := by decide +kernel
theorem dL_law_308 : decode cL_law 308 = .ok (.if_icmp .eq 1103, 3) := by decide +kernel
theorem dL_law_311 : decode cL_law 311 = .ok (.iconst 0, 1) := by decide +kernel
theorem dL_law_312 : decode cL_law 312 = .ok (.ireturn, 1) := by decide +kernel
theorem dL_law_313 : decode cL_law 313 = .ok (.aload_n 1, 1) := by decide +kernel
theorem dL_law_314 : decode cL_law 314 = .ok (.aload_n 0, 1) := by decide +kernel
theorem dL_law_315 : decode cL_law 315 = .ok (.iload_n 3, 1) := by decide +kernel
theorem dL_law_316 : decode cL_law 316 = .ok (.iconst 1, 1) := by decide +kernel
theorem dL_law_317 : decode cL_law 317 = .ok (.iadd, 1) := by decide +kernel
theorem dL_law_318 : decode cL_law 318 = .ok (.iaload, 1) := by decide +kernel
theorem dL_law_319 : decode cL_law 319 = .ok (.aload_n 0, 1) := by decide +kernel
theorem dL_law_320 : decode cL_law 320 = .ok (.iload_n 3, 1) := by decide +kernel
theorem dL_law_321 : decode cL_law 321 = .ok (.iconst 2, 1) := by decide +kernel
theorem dL_law_322 : decode cL_law 322 = .ok (.iadd, 1) := by decide +kernel
theorem dL_law_323 : decode cL_law 323 = .ok (.iaload, 1) := by decide +kernel
theorem dL_law_324 : decode cL_law 324 = .ok (.invokevirtual 27, 3) := by decide +kernel
theorem dL_law_327 : decode cL_law 327 = .ok (.aload_n 2, 1) := by decide +kernel
theorem dL_law_328 : decode cL_law 328 = .ok (.aload_n 0, 1) := by decide +kernel
theorem dL_law_329 : decode cL_law 329 = .ok (.iload_n 3, 1) := by decide +kernel
theorem dL_law_330 : decode cL_law 330 = .ok (.iconst 1, 1) := by decide +kernel
theorem dL_law_331 : decode cL_law 331 = .ok (.iadd, 1) := by decide +kernel
theorem dL_law_332 : decode cL_law 332 = .ok (.iaload, 1) := by decide +kernel
theorem dL_law_333 : decode cL_law 333 = .ok (.aload_n 0, 1) := by decide +kernel
theorem dL_law_334 : decode cL_law 334 = .ok (.iload_n 3, 1) := by decide +kernel
theorem dL_law_335 : decode cL_law 335 = .ok (.iconst 2, 1) := by decide +kernel
theorem dL_law_336 : decode cL_law 336 = .ok (.iadd, 1) := by decide +kernel
theorem dL_law_337 : decode cL_law 337 = .ok (.iaload, 1) := by decide +kernel
theorem dL_law_338 : decode cL_law 338 = .ok (.invokevirtual 30, 3) := by decide +kernel
theorem dL_law_341 : decode cL_law 341 = .ok (.if_icmp .eq 1070, 3) := by decide +kernel
theorem dL_law_344 : decode cL_law 344 = .ok (.iconst 0, 1) := by decide +kernel
theorem dL_law_345 : decode cL_law 345 = .ok (.ireturn, 1) := by decide +kernel
theorem dL_law_346 : decode cL_law 346 = .ok (.aload_n 1, 1) := by decide +kernel
theorem dL_law_347 : decode cL_law 347 = .ok (.aload_n 0, 1) := by decide +kernel
theorem dL_law_348 : decode cL_law 348 = .ok (.iload_n 3, 1) := by decide +kernel
theorem dL_law_349 : decode cL_law 349 = .ok (.iconst 1, 1) := by decide +kernel
theorem dL_law_350 : decode cL_law 350 = .ok (.iadd, 1) := by decide +kernel
theorem dL_law_351 : decode cL_law 351 = .ok (.iaload, 1) := by decide +kernel
theorem dL_law_352 : decode cL_law 352 = .ok (.aload_n 0, 1) := by decide +kernel
theorem dL_law_353 : decode cL_law 353 = .ok (.iload_n 3, 1) := by decide +kernel
theorem dL_law_354 : decode cL_law 354 = .ok (.iconst 2, 1) := by decide +kernel
theorem dL_law_355 : decode cL_law 355 = .ok (.iadd, 1) := by decide +kernel
theorem dL_law_356 : decode cL_law 356 = .ok (.iaload, 1) := by decide +kernel
theorem dL_law_357 : decode cL_law 357 = .ok (.aload_n 0, 1) := by decide +kernel
theorem dL_law_358 : decode cL_law 358 = .ok (.iload_n 3, 1) := by decide +kernel
theorem dL_law_359 : decode cL_law 359 = .ok (.iconst 3, 1) := by decide +kernel
theorem dL_law_360 : decode cL_law 360 = .ok (.iadd, 1) := by decide +kernel
theorem dL_law_361 : decode cL_law 361 = .ok (.iaload, 1) := by decide +kernel
theorem dL_law_362 : decode cL_law 362 = .ok (.invokevirtual 31, 3) := by decide +kernel
theorem dL_law_365 : decode cL_law 365 = .ok (.aload_n 2, 1) := by decide +kernel
theorem dL_law_366 : decode cL_law 366 = .ok (.aload_n 0, 1) := by decide +kernel
theorem dL_law_367 : decode cL_law 367 = .ok (.iload_n 3, 1) := by decide +kernel
theorem dL_law_368 : decode cL_law 368 = .ok (.iconst 1, 1) := by decide +kernel
theorem dL_law_369 : decode cL_law 369 = .ok (.iadd, 1) := by decide +kernel
theorem dL_law_370 : decode cL_law 370 = .ok (.iaload, 1) := by decide +kernel
theorem dL_law_371 : decode cL_law 371 = .ok (.aload_n 0, 1) := by decide +kernel
theorem dL_law_372 : decode cL_law 372 = .ok (.iload_n 3, 1) := by decide +kernel
theorem dL_law_373 : decode cL_law 373 = .ok (.iconst 2, 1) := by decide +kernel
theorem dL_law_374 : decode cL_law 374 = .ok (.iadd, 1) := by decide +kernel
theorem dL_law_375 : decode cL_law 375 = .ok (.iaload, 1) := by decide +kernel
theorem dL_law_376 : decode cL_law 376 = .ok (.aload_n 0, 1) := by decide +kernel
theorem dL_law_377 : decode cL_law 377 = .ok (.iload_n 3, 1) := by decide +kernel
theorem dL_law_378 : decode cL_law 378 = .ok (.iconst 3, 1) := by decide +kernel
theorem dL_law_379 : decode cL_law 379 = .ok (.iadd, 1) := by decide +kernel
theorem dL_law_380 : decode cL_law 380 = .ok (.iaload, 1) := by decide +kernel
theorem dL_law_381 : decode cL_law 381 = .ok (.invokevirtual 34, 3) := by decide +kernel
theorem dL_law_384 : decode cL_law 384 = .ok (.if_icmp .eq 1027, 3) := by decide +kernel
theorem dL_law_387 : decode cL_law 387 = .ok (.iconst 0, 1) := by decide +kernel
theorem dL_law_388 : decode cL_law 388 = .ok (.ireturn, 1) := by decide +kernel
theorem dL_law_389 : decode cL_law 389 = .ok (.aload_n 1, 1) := by decide +kernel
theorem dL_law_390 : decode cL_law 390 = .ok (.aload_n 0, 1) := by decide +kernel
theorem dL_law_391 : decode cL_law 391 = .ok (.iload_n 3, 1) := by decide +kernel
theorem dL_law_392 : decode cL_law 392 = .ok (.iconst 1, 1) := by decide +kernel
theorem dL_law_393 : decode cL_law 393 = .ok (.iadd, 1) := by decide +kernel
theorem dL_law_394 : decode cL_law 394 = .ok (.iaload, 1) := by decide +kernel
theorem dL_law_395 : decode cL_law 395 = .ok (.aload_n 0, 1) := by decide +kernel
theorem dL_law_396 : decode cL_law 396 = .ok (.iload_n 3, 1) := by decide +kernel
theorem dL_law_397 : decode cL_law 397 = .ok (.iconst 2, 1) := by decide +kernel
theorem dL_law_398 : decode cL_law 398 = .ok (.iadd, 1) := by decide +kernel
theorem dL_law_399 : decode cL_law 399 = .ok (.iaload, 1) := by decide +kernel
theorem dL_law_400 : decode cL_law 400 = .ok (.invokevirtual 35, 3) := by decide +kernel
theorem dL_law_403 : decode cL_law 403 = .ok (.aload_n 2, 1) := by decide +kernel
theorem dL_law_404 : decode cL_law 404 = .ok (.aload_n 0, 1) := by decide +kernel
theorem dL_law_405 : decode cL_law 405 = .ok (.iload_n 3, 1) := by decide +kernel
theorem dL_law_406 : decode cL_law 406 = .ok (.iconst 1, 1) := by decide +kernel
theorem dL_law_407 : decode cL_law 407 = .ok (.iadd, 1) := by decide +kernel
theorem dL_law_408 : decode cL_law 408 = .ok (.iaload, 1) := by decide +kernel
theorem dL_law_409 : decode cL_law 409 = .ok (.aload_n 0, 1) := by decide +kernel
theorem dL_law_410 : decode cL_law 410 = .ok (.iload_n 3, 1) := by decide +kernel
theorem dL_law_411 : decode cL_law 411 = .ok (.iconst 2, 1) := by decide +kernel
theorem dL_law_412 : decode cL_law 412 = .ok (.iadd, 1) := by decide +kernel
theorem dL_law_413 : decode cL_law 413 = .ok (.iaload, 1) := by decide +kernel
theorem dL_law_414 : decode cL_law 414 = .ok (.invokevirtual 38, 3) := by decide +kernel
theorem dL_law_417 : decode cL_law 417 = .ok (.if_icmp .eq 994, 3) := by decide +kernel
theorem dL_law_420 : decode cL_law 420 = .ok (.iconst 0, 1) := by decide +kernel
theorem dL_law_421 : decode cL_law 421 = .ok (.ireturn, 1) := by decide +kernel
theorem dL_law_422 : decode cL_law 422 = .ok (.aload_n 1, 1) := by decide +kernel
theorem dL_law_423 : decode cL_law 423 = .ok (.aload_n 0, 1) := by decide +kernel
theorem dL_law_424 : decode cL_law 424 = .ok (.iload_n 3, 1) := by decide +kernel
theorem dL_law_425 : decode cL_law 425 = .ok (.iconst 1, 1) := by decide +kernel
theorem dL_law_426 : decode cL_law 426 = .ok (.iadd, 1) := by decide +kernel
theorem dL_law_427 : decode cL_law 427 = .ok (.iaload, 1) := by decide +kernel
theorem dL_law_428 : decode cL_law 428 = .ok (.aload_n 0, 1) := by decide +kernel
theorem dL_law_429 : decode cL_law 429 = .ok (.iload_n 3, 1) := by decide +kernel
theorem dL_law_430 : decode cL_law 430 = .ok (.iconst 2, 1) := by decide +kernel
theorem dL_law_431 : decode cL_law 431 = .ok (.iadd, 1) := by decide +kernel
theorem dL_law_432 : decode cL_law 432 = .ok (.iaload, 1) := by decide +kernel
theorem dL_law_433 : decode cL_law 433 = .ok (.invokevirtual 39, 3) := by decide +kernel
theorem dL_law_436 : decode cL_law 436 = .ok (.aload_n 2, 1) := by decide +kernel
theorem dL_law_437 : decode cL_law 437 = .ok (.aload_n 0, 1) := by decide +kernel
theorem dL_law_438 : decode cL_law 438 = .ok (.iload_n 3, 1) := by decide +kernel
theorem dL_law_439 : decode cL_law 439 = .ok (.iconst 1, 1) := by decide +kernel
theorem dL_law_440 : decode cL_law 440 = .ok (.iadd, 1) := by decide +kernel
theorem dL_law_441 : decode cL_law 441 = .ok (.iaload, 1) := by decide +kernel
theorem dL_law_442 : decode cL_law 442 = .ok (.aload_n 0, 1) := by decide +kernel
theorem dL_law_443 : decode cL_law 443 = .ok (.iload_n 3, 1) := by decide +kernel
theorem dL_law_444 : decode cL_law 444 = .ok (.iconst 2, 1) := by decide +kernel
theorem dL_law_445 : decode cL_law 445 = .ok (.iadd, 1) := by decide +kernel
theorem dL_law_446 : decode cL_law 446 = .ok (.iaload, 1) := by decide +kernel
theorem dL_law_447 : decode cL_law 447 = .ok (.invokevirtual 42, 3) := by decide +kernel
theorem dL_law_450 : decode cL_law 450 = .ok (.if_icmp .eq 961, 3) := by decide +kernel
theorem dL_law_453 : decode cL_law 453 = .ok (.iconst 0, 1) := by decide +kernel
theorem dL_law_454 : decode cL_law 454 = .ok (.ireturn, 1) := by decide +kernel
theorem dL_law_455 : decode cL_law 455 = .ok (.aload_n 1, 1) := by decide +kernel
theorem dL_law_456 : decode cL_law 456 = .ok (.aload_n 0, 1) := by decide +kernel
theorem dL_law_457 : decode cL_law 457 = .ok (.iload_n 3, 1) := by decide +kernel
theorem dL_law_458 : decode cL_law 458 = .ok (.iconst 1, 1) := by decide +kernel
theorem dL_law_459 : decode cL_law 459 = .ok (.iadd, 1) := by decide +kernel
theorem dL_law_460 : decode cL_law 460 = .ok (.iaload, 1) := by decide +kernel
theorem dL_law_461 : decode cL_law 461 = .ok (.aload_n 0, 1) := by decide +kernel
theorem dL_law_462 : decode cL_law 462 = .ok (.iload_n 3, 1) := by decide +kernel
theorem dL_law_463 : decode cL_law 463 = .ok (.iconst 2, 1) := by decide +kernel
theorem dL_law_464 : decode cL_law 464 = .ok (.iadd, 1) := by decide +kernel
theorem dL_law_465 : decode cL_law 465 = .ok (.iaload, 1) := by decide +kernel
theorem dL_law_466 : decode cL_law 466 = .ok (.invokevirtual 43, 3) := by decide +kernel
theorem dL_law_469 : decode cL_law 469 = .ok (.aload_n 2, 1) := by decide +kernel
theorem dL_law_470 : decode cL_law 470 = .ok (.aload_n 0, 1) := by decide +kernel
theorem dL_law_471 : decode cL_law 471 = .ok (.iload_n 3, 1) := by decide +kernel
theorem dL_law_472 : decode cL_law 472 = .ok (.iconst 1, 1) := by decide +kernel
theorem dL_law_473 : decode cL_law 473 = .ok (.iadd, 1) := by decide +kernel
theorem dL_law_474 : decode cL_law 474 = .ok (.iaload, 1) := by decide +kernel
theorem dL_law_475 : decode cL_law 475 = .ok (.aload_n 0, 1) := by decide +kernel
theorem dL_law_476 : decode cL_law 476 = .ok (.iload_n 3, 1) := by decide +kernel
theorem dL_law_477 : decode cL_law 477 = .ok (.iconst 2, 1) := by decide +kernel
theorem dL_law_478 : decode cL_law 478 = .ok (.iadd, 1) := by decide +kernel
theorem dL_law_479 : decode cL_law 479 = .ok (.iaload, 1) := by decide +kernel
theorem dL_law_480 : decode cL_law 480 = .ok (.invokevirtual 46, 3) := by decide +kernel
theorem dL_law_483 : decode cL_law 483 = .ok (.if_icmp .eq 928, 3) := by decide +kernel
theorem dL_law_486 : decode cL_law 486 = .ok (.iconst 0, 1) := by decide +kernel
theorem dL_law_487 : decode cL_law 487 = .ok (.ireturn, 1) := by decide +kernel
theorem dL_law_488 : decode cL_law 488 = .ok (.aload_n 1, 1) := by decide +kernel
theorem dL_law_489 : decode cL_law 489 = .ok (.aload_n 0, 1) := by decide +kernel
theorem dL_law_490 : decode cL_law 490 = .ok (.iload_n 3, 1) := by decide +kernel
theorem dL_law_491 : decode cL_law 491 = .ok (.iconst 1, 1) := by decide +kernel
theorem dL_law_492 : decode cL_law 492 = .ok (.iadd, 1) := by decide +kernel
theorem dL_law_493 : decode cL_law 493 = .ok (.iaload, 1) := by decide +kernel
theorem dL_law_494 : decode cL_law 494 = .ok (.aload_n 0, 1) := by decide +kernel
theorem dL_law_495 : decode cL_law 495 = .ok (.iload_n 3, 1) := by decide +kernel
theorem dL_law_496 : decode cL_law 496 = .ok (.iconst 2, 1) := by decide +kernel
theorem dL_law_497 : decode cL_law 497 = .ok (.iadd, 1) := by decide +kernel
theorem dL_law_498 : decode cL_law 498 = .ok (.iaload, 1) := by decide +kernel
theorem dL_law_499 : decode cL_law 499 = .ok (.invokevirtual 47, 3) := by decide +kernel
theorem dL_law_502 : decode cL_law 502 = .ok (.aload_n 2, 1) := by decide +kernel
theorem dL_law_503 : decode cL_law 503 = .ok (.aload_n 0, 1) := by decide +kernel
theorem dL_law_504 : decode cL_law 504 = .ok (.iload_n 3, 1) := by decide +kernel
theorem dL_law_505 : decode cL_law 505 = .ok (.iconst 1, 1) := by decide +kernel
theorem dL_law_506 : decode cL_law 506 = .ok (.iadd, 1) := by decide +kernel
theorem dL_law_507 : decode cL_law 507 = .ok (.iaload, 1) := by decide +kernel
theorem dL_law_508 : decode cL_law 508 = .ok (.aload_n 0, 1) := by decide +kernel
theorem dL_law_509 : decode cL_law 509 = .ok (.iload_n 3, 1) := by decide +kernel
theorem dL_law_510 : decode cL_law 510 = .ok (.iconst 2, 1) := by decide +kernel
theorem dL_law_511 : decode cL_law 511 = .ok (.iadd, 1) := by decide +kernel
theorem dL_law_512 : decode cL_law 512 = .ok (.iaload, 1) := by decide +kernel
theorem dL_law_513 : decode cL_law 513 = .ok (.invokevirtual 50, 3) := by decide +kernel
theorem dL_law_516 : decode cL_law 516 = .ok (.if_icmp .eq 895, 3) := by decide +kernel
theorem dL_law_519 : decode cL_law 519 = .ok (.iconst 0, 1) := by decide +kernel
theorem dL_law_520 : decode cL_law 520 = .ok (.ireturn, 1) := by decide +kernel
theorem dL_law_521 : decode cL_law 521 = .ok (.aload_n 1, 1) := by decide +kernel
theorem dL_law_522 : decode cL_law 522 = .ok (.aload_n 0, 1) := by decide +kernel
theorem dL_law_523 : decode cL_law 523 = .ok (.iload_n 3, 1) := by decide +kernel
theorem dL_law_524 : decode cL_law 524 = .ok (.iconst 1, 1) := by decide +kernel
theorem dL_law_525 : decode cL_law 525 = .ok (.iadd, 1) := by decide +kernel
theorem dL_law_526 : decode cL_law 526 = .ok (.iaload, 1) := by decide +kernel
theorem dL_law_527 : decode cL_law 527 = .ok (.i2l, 1) := by decide +kernel
theorem dL_law_528 : decode cL_law 528 = .ok (.bipush 32, 2) := by decide +kernel
theorem dL_law_530 : decode cL_law 530 = .ok (.lshl, 1) := by decide +kernel
theorem dL_law_531 : decode cL_law 531 = .ok (.aload_n 0, 1) := by decide +kernel
theorem dL_law_532 : decode cL_law 532 = .ok (.iload_n 3, 1) := by decide +kernel
theorem dL_law_533 : decode cL_law 533 = .ok (.iconst 2, 1) := by decide +kernel
theorem dL_law_534 : decode cL_law 534 = .ok (.iadd, 1) := by decide +kernel
theorem dL_law_535 : decode cL_law 535 = .ok (.iaload, 1) := by decide +kernel
theorem dL_law_536 : decode cL_law 536 = .ok (.i2l, 1) := by decide +kernel
theorem dL_law_537 : decode cL_law 537 = .ok (.ldc2_w 51, 3) := by decide +kernel
theorem dL_law_540 : decode cL_law 540 = .ok (.land, 1) := by decide +kernel
theorem dL_law_541 : decode cL_law 541 = .ok (.lor, 1) := by decide +kernel
theorem dL_law_542 : decode cL_law 542 = .ok (.aload_n 0, 1) := by decide +kernel
theorem dL_law_543 : decode cL_law 543 = .ok (.iload_n 3, 1) := by decide +kernel
theorem dL_law_544 : decode cL_law 544 = .ok (.iconst 3, 1) := by decide +kernel
theorem dL_law_545 : decode cL_law 545 = .ok (.iadd, 1) := by decide +kernel
theorem dL_law_546 : decode cL_law 546 = .ok (.iaload, 1) := by decide +kernel
theorem dL_law_547 : decode cL_law 547 = .ok (.invokevirtual 53, 3) := by decide +kernel
theorem dL_law_550 : decode cL_law 550 = .ok (.aload_n 2, 1) := by decide +kernel
theorem dL_law_551 : decode cL_law 551 = .ok (.aload_n 0, 1) := by decide +kernel
theorem dL_law_552 : decode cL_law 552 = .ok (.iload_n 3, 1) := by decide +kernel
theorem dL_law_553 : decode cL_law 553 = .ok (.iconst 1, 1) := by decide +kernel
theorem dL_law_554 : decode cL_law 554 = .ok (.iadd, 1) := by decide +kernel
theorem dL_law_555 : decode cL_law 555 = .ok (.iaload, 1) := by decide +kernel
theorem dL_law_556 : decode cL_law 556 = .ok (.i2l, 1) := by decide +kernel
theorem dL_law_557 : decode cL_law 557 = .ok (.bipush 32, 2) := by decide +kernel
theorem dL_law_559 : decode cL_law 559 = .ok (.lshl, 1) := by decide +kernel
theorem dL_law_560 : decode cL_law 560 = .ok (.aload_n 0, 1) := by decide +kernel
theorem dL_law_561 : decode cL_law 561 = .ok (.iload_n 3, 1) := by decide +kernel
theorem dL_law_562 : decode cL_law 562 = .ok (.iconst 2, 1) := by decide +kernel
theorem dL_law_563 : decode cL_law 563 = .ok (.iadd, 1) := by decide +kernel
theorem dL_law_564 : decode cL_law 564 = .ok (.iaload, 1) := by decide +kernel
theorem dL_law_565 : decode cL_law 565 = .ok (.i2l, 1) := by decide +kernel
theorem dL_law_566 : decode cL_law 566 = .ok (.ldc2_w 51, 3) := by decide +kernel
theorem dL_law_569 : decode cL_law 569 = .ok (.land, 1) := by decide +kernel
theorem dL_law_570 : decode cL_law 570 = .ok (.lor, 1) := by decide +kernel
theorem dL_law_571 : decode cL_law 571 = .ok (.aload_n 0, 1) := by decide +kernel
theorem dL_law_572 : decode cL_law 572 = .ok (.iload_n 3, 1) := by decide +kernel
theorem dL_law_573 : decode cL_law 573 = .ok (.iconst 3, 1) := by decide +kernel
theorem dL_law_574 : decode cL_law 574 = .ok (.iadd, 1) := by decide +kernel
theorem dL_law_575 : decode cL_law 575 = .ok (.iaload, 1) := by decide +kernel
theorem dL_law_576 : decode cL_law 576 = .ok (.invokevirtual 57, 3) := by decide +kernel
theorem dL_law_579 : decode cL_law 579 = .ok (.if_icmp .eq 832, 3) := by decide +kernel
theorem dL_law_582 : decode cL_law 582 = .ok (.iconst 0, 1) := by decide +kernel
theorem dL_law_583 : decode cL_law 583 = .ok (.ireturn, 1) := by decide +kernel
theorem dL_law_584 : decode cL_law 584 = .ok (.aload_n 1, 1) := by decide +kernel
theorem dL_law_585 : decode cL_law 585 = .ok (.aload_n 0, 1) := by decide +kernel
theorem dL_law_586 : decode cL_law 586 = .ok (.iload_n 3, 1) := by decide +kernel
theorem dL_law_587 : decode cL_law 587 = .ok (.iconst 1, 1) := by decide +kernel
theorem dL_law_588 : decode cL_law 588 = .ok (.iadd, 1) := by decide +kernel
theorem dL_law_589 : decode cL_law 589 = .ok (.iaload, 1) := by decide +kernel
theorem dL_law_590 : decode cL_law 590 = .ok (.invokevirtual 58, 3) := by decide +kernel
theorem dL_law_593 : decode cL_law 593 = .ok (.aload_n 2, 1) := by decide +kernel
theorem dL_law_594 : decode cL_law 594 = .ok (.aload_n 0, 1) := by decide +kernel
theorem dL_law_595 : decode cL_law 595 = .ok (.iload_n 3, 1) := by decide +kernel
theorem dL_law_596 : decode cL_law 596 = .ok (.iconst 1, 1) := by decide +kernel
theorem dL_law_597 : decode cL_law 597 = .ok (.iadd, 1) := by decide +kernel
theorem dL_law_598 : decode cL_law 598 = .ok (.iaload, 1) := by decide +kernel
theorem dL_law_599 : decode cL_law 599 = .ok (.invokevirtual 62, 3) := by decide +kernel
theorem dL_law_602 : decode cL_law 602 = .ok (.if_icmp .eq 809, 3) := by decide +kernel
theorem dL_law_605 : decode cL_law 605 = .ok (.iconst 0, 1) := by decide +kernel
theorem dL_law_606 : decode cL_law 606 = .ok (.ireturn, 1) := by decide +kernel
theorem dL_law_607 : decode cL_law 607 = .ok (.aload_n 1, 1) := by decide +kernel
theorem dL_law_608 : decode cL_law 608 = .ok (.aload_n 0, 1) := by decide +kernel
theorem dL_law_609 : decode cL_law 609 = .ok (.iload_n 3, 1) := by decide +kernel
theorem dL_law_610 : decode cL_law 610 = .ok (.iconst 1, 1) := by decide +kernel
theorem dL_law_611 : decode cL_law 611 = .ok (.iadd, 1) := by decide +kernel
theorem dL_law_612 : decode cL_law 612 = .ok (.iaload, 1) := by decide +kernel
theorem dL_law_613 : decode cL_law 613 = .ok (.aload_n 0, 1) := by decide +kernel
theorem dL_law_614 : decode cL_law 614 = .ok (.iload_n 3, 1) := by decide +kernel
theorem dL_law_615 : decode cL_law 615 = .ok (.iconst 2, 1) := by decide +kernel
theorem dL_law_616 : decode cL_law 616 = .ok (.iadd, 1) := by decide +kernel
theorem dL_law_617 : decode cL_law 617 = .ok (.iaload, 1) := by decide +kernel
theorem dL_law_618 : decode cL_law 618 = .ok (.aload_n 0, 1) := by decide +kernel
theorem dL_law_619 : decode cL_law 619 = .ok (.iload_n 3, 1) := by decide +kernel
theorem dL_law_620 : decode cL_law 620 = .ok (.iconst 3, 1) := by decide +kernel
theorem dL_law_621 : decode cL_law 621 = .ok (.iadd, 1) := by decide +kernel
theorem dL_law_622 : decode cL_law 622 = .ok (.iaload, 1) := by decide +kernel
theorem dL_law_623 : decode cL_law 623 = .ok (.aload_n 0, 1) := by decide +kernel
theorem dL_law_624 : decode cL_law 624 = .ok (.iload_n 3, 1) := by decide +kernel
theorem dL_law_625 : decode cL_law 625 = .ok (.iconst 4, 1) := by decide +kernel
theorem dL_law_626 : decode cL_law 626 = .ok (.iadd, 1) := by decide +kernel
theorem dL_law_627 : decode cL_law 627 = .ok (.iaload, 1) := by decide +kernel
theorem dL_law_628 : decode cL_law 628 = .ok (.invokevirtual 63, 3) := by decide +kernel
theorem dL_law_631 : decode cL_law 631 = .ok (.aload_n 2, 1) := by decide +kernel
theorem dL_law_632 : decode cL_law 632 = .ok (.aload_n 0, 1) := by decide +kernel
theorem dL_law_633 : decode cL_law 633 = .ok (.iload_n 3, 1) := by decide +kernel
theorem dL_law_634 : decode cL_law 634 = .ok (.iconst 1, 1) := by decide +kernel
theorem dL_law_635 : decode cL_law 635 = .ok (.iadd, 1) := by decide +kernel
theorem dL_law_636 : decode cL_law 636 = .ok (.iaload, 1) := by decide +kernel
theorem dL_law_637 : decode cL_law 637 = .ok (.aload_n 0, 1) := by decide +kernel
theorem dL_law_638 : decode cL_law 638 = .ok (.iload_n 3, 1) := by decide +kernel
theorem dL_law_639 : decode cL_law 639 = .ok (.iconst 2, 1) := by decide +kernel
theorem dL_law_640 : decode cL_law 640 = .ok (.iadd, 1) := by decide +kernel
theorem dL_law_641 : decode cL_law 641 = .ok (.iaload, 1) := by decide +kernel
theorem dL_law_642 : decode cL_law 642 = .ok (.aload_n 0, 1) := by decide +kernel
theorem dL_law_643 : decode cL_law 643 = .ok (.iload_n 3, 1) := by decide +kernel
theorem dL_law_644 : decode cL_law 644 = .ok (.iconst 3, 1) := by decide +kernel
theorem dL_law_645 : decode cL_law 645 = .ok (.iadd, 1) := by decide +kernel
theorem dL_law_646 : decode cL_law 646 = .ok (.iaload, 1) := by decide +kernel
theorem dL_law_647 : decode cL_law 647 = .ok (.aload_n 0, 1) := by decide +kernel
theorem dL_law_648 : decode cL_law 648 = .ok (.iload_n 3, 1) := by decide +kernel
theorem dL_law_649 : decode cL_law 649 = .ok (.iconst 4, 1) := by decide +kernel
theorem dL_law_650 : decode cL_law 650 = .ok (.iadd, 1) := by decide +kernel
theorem dL_law_651 : decode cL_law 651 = .ok (.iaload, 1) := by decide +kernel
theorem dL_law_652 : decode cL_law 652 = .ok (.invokevirtual 67, 3) := by decide +kernel
theorem dL_law_655 : decode cL_law 655 = .ok (.if_icmp .eq 756, 3) := by decide +kernel
theorem dL_law_658 : decode cL_law 658 = .ok (.iconst 0, 1) := by decide +kernel
theorem dL_law_659 : decode cL_law 659 = .ok (.ireturn, 1) := by decide +kernel
theorem dL_law_660 : decode cL_law 660 = .ok (.aload_n 1, 1) := by decide +kernel
theorem dL_law_661 : decode cL_law 661 = .ok (.aload_n 0, 1) := by decide +kernel
theorem dL_law_662 : decode cL_law 662 = .ok (.iload_n 3, 1) := by decide +kernel
theorem dL_law_663 : decode cL_law 663 = .ok (.iconst 1, 1) := by decide +kernel
theorem dL_law_664 : decode cL_law 664 = .ok (.iadd, 1) := by decide +kernel
theorem dL_law_665 : decode cL_law 665 = .ok (.iaload, 1) := by decide +kernel
theorem dL_law_666 : decode cL_law 666 = .ok (.invokevirtual 68, 3) := by decide +kernel
theorem dL_law_669 : decode cL_law 669 = .ok (.aload_n 2, 1) := by decide +kernel
theorem dL_law_670 : decode cL_law 670 = .ok (.aload_n 0, 1) := by decide +kernel
theorem dL_law_671 : decode cL_law 671 = .ok (.iload_n 3, 1) := by decide +kernel
theorem dL_law_672 : decode cL_law 672 = .ok (.iconst 1, 1) := by decide +kernel
theorem dL_law_673 : decode cL_law 673 = .ok (.iadd, 1) := by decide +kernel
theorem dL_law_674 : decode cL_law 674 = .ok (.iaload, 1) := by decide +kernel
theorem dL_law_675 : decode cL_law 675 = .ok (.invokevirtual 71, 3) := by decide +kernel
theorem dL_law_678 : decode cL_law 678 = .ok (.if_icmp .eq 733, 3) := by decide +kernel
theorem dL_law_681 : decode cL_law 681 = .ok (.iconst 0, 1) := by decide +kernel
theorem dL_law_682 : decode cL_law 682 = .ok (.ireturn, 1) := by decide +kernel
theorem dL_law_683 : decode cL_law 683 = .ok (.aload_n 1, 1) := by decide +kernel
theorem dL_law_684 : decode cL_law 684 = .ok (.aload_n 0, 1) := by decide +kernel
theorem dL_law_685 : decode cL_law 685 = .ok (.iload_n 3, 1) := by decide +kernel
theorem dL_law_686 : decode cL_law 686 = .ok (.iconst 1, 1) := by decide +kernel
theorem dL_law_687 : decode cL_law 687 = .ok (.iadd, 1) := by decide +kernel
theorem dL_law_688 : decode cL_law 688 = .ok (.iaload, 1) := by decide +kernel
theorem dL_law_689 : decode cL_law 689 = .ok (.invokevirtual 72, 3) := by decide +kernel
theorem dL_law_692 : decode cL_law 692 = .ok (.aload_n 2, 1) := by decide +kernel
theorem dL_law_693 : decode cL_law 693 = .ok (.aload_n 0, 1) := by decide +kernel
theorem dL_law_694 : decode cL_law 694 = .ok (.iload_n 3, 1) := by decide +kernel
theorem dL_law_695 : decode cL_law 695 = .ok (.iconst 1, 1) := by decide +kernel
theorem dL_law_696 : decode cL_law 696 = .ok (.iadd, 1) := by decide +kernel
theorem dL_law_697 : decode cL_law 697 = .ok (.iaload, 1) := by decide +kernel
theorem dL_law_698 : decode cL_law 698 = .ok (.invokevirtual 75, 3) := by decide +kernel
theorem dL_law_701 : decode cL_law 701 = .ok (.if_icmp .eq 710, 3) := by decide +kernel
theorem dL_law_704 : decode cL_law 704 = .ok (.iconst 0, 1) := by decide +kernel
theorem dL_law_705 : decode cL_law 705 = .ok (.ireturn, 1) := by decide +kernel
theorem dL_law_706 : decode cL_law 706 = .ok (.aload_n 1, 1) := by decide +kernel
theorem dL_law_707 : decode cL_law 707 = .ok (.aload_n 0, 1) := by decide +kernel
theorem dL_law_708 : decode cL_law 708 = .ok (.iload_n 3, 1) := by decide +kernel
theorem dL_law_709 : decode cL_law 709 = .ok (.iconst 1, 1) := by decide +kernel
theorem dL_law_710 : decode cL_law 710 = .ok (.iadd, 1) := by decide +kernel
theorem dL_law_711 : decode cL_law 711 = .ok (.iaload, 1) := by decide +kernel
theorem dL_law_712 : decode cL_law 712 = .ok (.aload_n 0, 1) := by decide +kernel
theorem dL_law_713 : decode cL_law 713 = .ok (.iload_n 3, 1) := by decide +kernel
theorem dL_law_714 : decode cL_law 714 = .ok (.iconst 2, 1) := by decide +kernel
theorem dL_law_715 : decode cL_law 715 = .ok (.iadd, 1) := by decide +kernel
theorem dL_law_716 : decode cL_law 716 = .ok (.iaload, 1) := by decide +kernel
theorem dL_law_717 : decode cL_law 717 = .ok (.aload_n 0, 1) := by decide +kernel
theorem dL_law_718 : decode cL_law 718 = .ok (.iload_n 3, 1) := by decide +kernel
theorem dL_law_719 : decode cL_law 719 = .ok (.iconst 3, 1) := by decide +kernel
theorem dL_law_720 : decode cL_law 720 = .ok (.iadd, 1) := by decide +kernel
theorem dL_law_721 : decode cL_law 721 = .ok (.iaload, 1) := by decide +kernel
theorem dL_law_722 : decode cL_law 722 = .ok (.invokevirtual 76, 3) := by decide +kernel
theorem dL_law_725 : decode cL_law 725 = .ok (.aload_n 2, 1) := by decide +kernel
theorem dL_law_726 : decode cL_law 726 = .ok (.aload_n 0, 1) := by decide +kernel
theorem dL_law_727 : decode cL_law 727 = .ok (.iload_n 3, 1) := by decide +kernel
theorem dL_law_728 : decode cL_law 728 = .ok (.iconst 1, 1) := by decide +kernel
theorem dL_law_729 : decode cL_law 729 = .ok (.iadd, 1) := by decide +kernel
theorem dL_law_730 : decode cL_law 730 = .ok (.iaload, 1) := by decide +kernel
theorem dL_law_731 : decode cL_law 731 = .ok (.aload_n 0, 1) := by decide +kernel
theorem dL_law_732 : decode cL_law 732 = .ok (.iload_n 3, 1) := by decide +kernel
theorem dL_law_733 : decode cL_law 733 = .ok (.iconst 2, 1) := by decide +kernel
theorem dL_law_734 : decode cL_law 734 = .ok (.iadd, 1) := by decide +kernel
theorem dL_law_735 : decode cL_law 735 = .ok (.iaload, 1) := by decide +kernel
theorem dL_law_736 : decode cL_law 736 = .ok (.aload_n 0, 1) := by decide +kernel
theorem dL_law_737 : decode cL_law 737 = .ok (.iload_n 3, 1) := by decide +kernel
theorem dL_law_738 : decode cL_law 738 = .ok (.iconst 3, 1) := by decide +kernel
theorem dL_law_739 : decode cL_law 739 = .ok (.iadd, 1) := by decide +kernel
theorem dL_law_740 : decode cL_law 740 = .ok (.iaload, 1) := by decide +kernel
theorem dL_law_741 : decode cL_law 741 = .ok (.invokevirtual 79, 3) := by decide +kernel
theorem dL_law_744 : decode cL_law 744 = .ok (.if_icmp .eq 667, 3) := by decide +kernel
theorem dL_law_747 : decode cL_law 747 = .ok (.iconst 0, 1) := by decide +kernel
theorem dL_law_748 : decode cL_law 748 = .ok (.ireturn, 1) := by decide +kernel
theorem dL_law_749 : decode cL_law 749 = .ok (.aload_n 1, 1) := by decide +kernel
theorem dL_law_750 : decode cL_law 750 = .ok (.invokevirtual 80, 3) := by decide +kernel
theorem dL_law_753 : decode cL_law 753 = .ok (.aload_n 2, 1) := by decide +kernel
theorem dL_law_754 : decode cL_law 754 = .ok (.invokevirtual 84, 3) := by decide +kernel
theorem dL_law_757 : decode cL_law 757 = .ok (.if_icmp .eq 654, 3) := by decide +kernel
theorem dL_law_760 : decode cL_law 760 = .ok (.iconst 0, 1) := by decide +kernel
theorem dL_law_761 : decode cL_law 761 = .ok (.ireturn, 1) := by decide +kernel
theorem dL_law_762 : decode cL_law 762 = .ok (.aload_n 1, 1) := by decide +kernel
theorem dL_law_763 : decode cL_law 763 = .ok (.aload_n 0, 1) := by decide +kernel
theorem dL_law_764 : decode cL_law 764 = .ok (.iload_n 3, 1) := by decide +kernel
theorem dL_law_765 : decode cL_law 765 = .ok (.iconst 1, 1) := by decide +kernel
theorem dL_law_766 : decode cL_law 766 = .ok (.iadd, 1) := by decide +kernel
theorem dL_law_767 : decode cL_law 767 = .ok (.iaload, 1) := by decide +kernel
theorem dL_law_768 : decode cL_law 768 = .ok (.invokevirtual 85, 3) := by decide +kernel
theorem dL_law_771 : decode cL_law 771 = .ok (.aload_n 2, 1) := by decide +kernel
theorem dL_law_772 : decode cL_law 772 = .ok (.aload_n 0, 1) := by decide +kernel
theorem dL_law_773 : decode cL_law 773 = .ok (.iload_n 3, 1) := by decide +kernel
theorem dL_law_774 : decode cL_law 774 = .ok (.iconst 1, 1) := by decide +kernel
theorem dL_law_775 : decode cL_law 775 = .ok (.iadd, 1) := by decide +kernel
theorem dL_law_776 : decode cL_law 776 = .ok (.iaload, 1) := by decide +kernel
theorem dL_law_777 : decode cL_law 777 = .ok (.invokevirtual 88, 3) := by decide +kernel
theorem dL_law_780 : decode cL_law 780 = .ok (.if_icmp .eq 631, 3) := by decide +kernel
theorem dL_law_783 : decode cL_law 783 = .ok (.iconst 0, 1) := by decide +kernel
theorem dL_law_784 : decode cL_law 784 = .ok (.ireturn, 1) := by decide +kernel
theorem dL_law_785 : decode cL_law 785 = .ok (.aload_n 1, 1) := by decide +kernel
theorem dL_law_786 : decode cL_law 786 = .ok (.invokevirtual 89, 3) := by decide +kernel
theorem dL_law_789 : decode cL_law 789 = .ok (.aload_n 2, 1) := by decide +kernel
theorem dL_law_790 : decode cL_law 790 = .ok (.invokevirtual 92, 3) := by decide +kernel
theorem dL_law_793 : decode cL_law 793 = .ok (.if_icmp .eq 618, 3) := by decide +kernel
theorem dL_law_796 : decode cL_law 796 = .ok (.iconst 0, 1) := by decide +kernel
theorem dL_law_797 : decode cL_law 797 = .ok (.ireturn, 1) := by decide +kernel
theorem dL_law_798 : decode cL_law 798 = .ok (.aload_n 1, 1) := by decide +kernel
theorem dL_law_799 : decode cL_law 799 = .ok (.aload_n 0, 1) := by decide +kernel
theorem dL_law_800 : decode cL_law 800 = .ok (.iload_n 3, 1) := by decide +kernel
theorem dL_law_801 : decode cL_law 801 = .ok (.iconst 1, 1) := by decide +kernel
theorem dL_law_802 : decode cL_law 802 = .ok (.iadd, 1) := by decide +kernel
theorem dL_law_803 : decode cL_law 803 = .ok (.iaload, 1) := by decide +kernel
theorem dL_law_804 : decode cL_law 804 = .ok (.aload_n 0, 1) := by decide +kernel
theorem dL_law_805 : decode cL_law 805 = .ok (.iload_n 3, 1) := by decide +kernel
theorem dL_law_806 : decode cL_law 806 = .ok (.iconst 2, 1) := by decide +kernel
theorem dL_law_807 : decode cL_law 807 = .ok (.iadd, 1) := by decide +kernel
theorem dL_law_808 : decode cL_law 808 = .ok (.iaload, 1) := by decide +kernel
theorem dL_law_809 : decode cL_law 809 = .ok (.invokevirtual 93, 3) := by decide +kernel
theorem dL_law_812 : decode cL_law 812 = .ok (.aload_n 2, 1) := by decide +kernel
theorem dL_law_813 : decode cL_law 813 = .ok (.aload_n 0, 1) := by decide +kernel
theorem dL_law_814 : decode cL_law 814 = .ok (.iload_n 3, 1) := by decide +kernel
theorem dL_law_815 : decode cL_law 815 = .ok (.iconst 1, 1) := by decide +kernel
theorem dL_law_816 : decode cL_law 816 = .ok (.iadd, 1) := by decide +kernel
theorem dL_law_817 : decode cL_law 817 = .ok (.iaload, 1) := by decide +kernel
theorem dL_law_818 : decode cL_law 818 = .ok (.aload_n 0, 1) := by decide +kernel
theorem dL_law_819 : decode cL_law 819 = .ok (.iload_n 3, 1) := by decide +kernel
theorem dL_law_820 : decode cL_law 820 = .ok (.iconst 2, 1) := by decide +kernel
theorem dL_law_821 : decode cL_law 821 = .ok (.iadd, 1) := by decide +kernel
theorem dL_law_822 : decode cL_law 822 = .ok (.iaload, 1) := by decide +kernel
theorem dL_law_823 : decode cL_law 823 = .ok (.invokevirtual 96, 3) := by decide +kernel
theorem dL_law_826 : decode cL_law 826 = .ok (.if_icmp .eq 585, 3) := by decide +kernel
theorem dL_law_829 : decode cL_law 829 = .ok (.iconst 0, 1) := by decide +kernel
theorem dL_law_830 : decode cL_law 830 = .ok (.ireturn, 1) := by decide +kernel
theorem dL_law_831 : decode cL_law 831 = .ok (.aload_n 1, 1) := by decide +kernel
theorem dL_law_832 : decode cL_law 832 = .ok (.aload_n 0, 1) := by decide +kernel
theorem dL_law_833 : decode cL_law 833 = .ok (.iload_n 3, 1) := by decide +kernel
theorem dL_law_834 : decode cL_law 834 = .ok (.iconst 1, 1) := by decide +kernel
theorem dL_law_835 : decode cL_law 835 = .ok (.iadd, 1) := by decide +kernel
theorem dL_law_836 : decode cL_law 836 = .ok (.iaload, 1) := by decide +kernel
theorem dL_law_837 : decode cL_law 837 = .ok (.invokevirtual 97, 3) := by decide +kernel
theorem dL_law_840 : decode cL_law 840 = .ok (.aload_n 2, 1) := by decide +kernel
theorem dL_law_841 : decode cL_law 841 = .ok (.aload_n 0, 1) := by decide +kernel
theorem dL_law_842 : decode cL_law 842 = .ok (.iload_n 3, 1) := by decide +kernel
theorem dL_law_843 : decode cL_law 843 = .ok (.iconst 1, 1) := by decide +kernel
theorem dL_law_844 : decode cL_law 844 = .ok (.iadd, 1) := by decide +kernel
theorem dL_law_845 : decode cL_law 845 = .ok (.iaload, 1) := by decide +kernel
theorem dL_law_846 : decode cL_law 846 = .ok (.invokevirtual 100, 3) := by decide +kernel
theorem dL_law_849 : decode cL_law 849 = .ok (.if_icmp .eq 562, 3) := by decide +kernel
theorem dL_law_852 : decode cL_law 852 = .ok (.iconst 0, 1) := by decide +kernel
theorem dL_law_853 : decode cL_law 853 = .ok (.ireturn, 1) := by decide +kernel
theorem dL_law_854 : decode cL_law 854 = .ok (.aload_n 1, 1) := by decide +kernel
theorem dL_law_855 : decode cL_law 855 = .ok (.aload_n 0, 1) := by decide +kernel
theorem dL_law_856 : decode cL_law 856 = .ok (.iload_n 3, 1) := by decide +kernel
theorem dL_law_857 : decode cL_law 857 = .ok (.iconst 1, 1) := by decide +kernel
theorem dL_law_858 : decode cL_law 858 = .ok (.iadd, 1) := by decide +kernel
theorem dL_law_859 : decode cL_law 859 = .ok (.iaload, 1) := by decide +kernel
theorem dL_law_860 : decode cL_law 860 = .ok (.aload_n 0, 1) := by decide +kernel
theorem dL_law_861 : decode cL_law 861 = .ok (.iload_n 3, 1) := by decide +kernel
theorem dL_law_862 : decode cL_law 862 = .ok (.iconst 2, 1) := by decide +kernel
theorem dL_law_863 : decode cL_law 863 = .ok (.iadd, 1) := by decide +kernel
theorem dL_law_864 : decode cL_law 864 = .ok (.iaload, 1) := by decide +kernel
theorem dL_law_865 : decode cL_law 865 = .ok (.invokevirtual 101, 3) := by decide +kernel
theorem dL_law_868 : decode cL_law 868 = .ok (.aload_n 2, 1) := by decide +kernel
theorem dL_law_869 : decode cL_law 869 = .ok (.aload_n 0, 1) := by decide +kernel
theorem dL_law_870 : decode cL_law 870 = .ok (.iload_n 3, 1) := by decide +kernel
theorem dL_law_871 : decode cL_law 871 = .ok (.iconst 1, 1) := by decide +kernel
theorem dL_law_872 : decode cL_law 872 = .ok (.iadd, 1) := by decide +kernel
theorem dL_law_873 : decode cL_law 873 = .ok (.iaload, 1) := by decide +kernel
theorem dL_law_874 : decode cL_law 874 = .ok (.aload_n 0, 1) := by decide +kernel
theorem dL_law_875 : decode cL_law 875 = .ok (.iload_n 3, 1) := by decide +kernel
theorem dL_law_876 : decode cL_law 876 = .ok (.iconst 2, 1) := by decide +kernel
theorem dL_law_877 : decode cL_law 877 = .ok (.iadd, 1) := by decide +kernel
theorem dL_law_878 : decode cL_law 878 = .ok (.iaload, 1) := by decide +kernel
theorem dL_law_879 : decode cL_law 879 = .ok (.invokevirtual 104, 3) := by decide +kernel
theorem dL_law_882 : decode cL_law 882 = .ok (.if_icmp .eq 529, 3) := by decide +kernel
theorem dL_law_885 : decode cL_law 885 = .ok (.iconst 0, 1) := by decide +kernel
theorem dL_law_886 : decode cL_law 886 = .ok (.ireturn, 1) := by decide +kernel
theorem dL_law_887 : decode cL_law 887 = .ok (.aload_n 1, 1) := by decide +kernel
theorem dL_law_888 : decode cL_law 888 = .ok (.aload_n 0, 1) := by decide +kernel
theorem dL_law_889 : decode cL_law 889 = .ok (.iload_n 3, 1) := by decide +kernel
theorem dL_law_890 : decode cL_law 890 = .ok (.iconst 1, 1) := by decide +kernel
theorem dL_law_891 : decode cL_law 891 = .ok (.iadd, 1) := by decide +kernel
theorem dL_law_892 : decode cL_law 892 = .ok (.iaload, 1) := by decide +kernel
theorem dL_law_893 : decode cL_law 893 = .ok (.aload_n 0, 1) := by decide +kernel
theorem dL_law_894 : decode cL_law 894 = .ok (.iload_n 3, 1) := by decide +kernel
theorem dL_law_895 : decode cL_law 895 = .ok (.iconst 2, 1) := by decide +kernel
theorem dL_law_896 : decode cL_law 896 = .ok (.iadd, 1) := by decide +kernel
theorem dL_law_897 : decode cL_law 897 = .ok (.iaload, 1) := by decide +kernel
theorem dL_law_898 : decode cL_law 898 = .ok (.invokevirtual 105, 3) := by decide +kernel
theorem dL_law_901 : decode cL_law 901 = .ok (.aload_n 2, 1) := by decide +kernel
theorem dL_law_902 : decode cL_law 902 = .ok (.aload_n 0, 1) := by decide +kernel
theorem dL_law_903 : decode cL_law 903 = .ok (.iload_n 3, 1) := by decide +kernel
theorem dL_law_904 : decode cL_law 904 = .ok (.iconst 1, 1) := by decide +kernel
theorem dL_law_905 : decode cL_law 905 = .ok (.iadd, 1) := by decide +kernel
theorem dL_law_906 : decode cL_law 906 = .ok (.iaload, 1) := by decide +kernel
theorem dL_law_907 : decode cL_law 907 = .ok (.aload_n 0, 1) := by decide +kernel
theorem dL_law_908 : decode cL_law 908 = .ok (.iload_n 3, 1) := by decide +kernel
theorem dL_law_909 : decode cL_law 909 = .ok (.iconst 2, 1) := by decide +kernel
theorem dL_law_910 : decode cL_law 910 = .ok (.iadd, 1) := by decide +kernel
theorem dL_law_911 : decode cL_law 911 = .ok (.iaload, 1) := by decide +kernel
theorem dL_law_912 : decode cL_law 912 = .ok (.invokevirtual 108, 3) := by decide +kernel
theorem dL_law_915 : decode cL_law 915 = .ok (.if_icmp .eq 496, 3) := by decide +kernel
theorem dL_law_918 : decode cL_law 918 = .ok (.iconst 0, 1) := by decide +kernel
theorem dL_law_919 : decode cL_law 919 = .ok (.ireturn, 1) := by decide +kernel
theorem dL_law_920 : decode cL_law 920 = .ok (.aload_n 1, 1) := by decide +kernel
theorem dL_law_921 : decode cL_law 921 = .ok (.invokevirtual 109, 3) := by decide +kernel
theorem dL_law_924 : decode cL_law 924 = .ok (.aload_n 2, 1) := by decide +kernel
theorem dL_law_925 : decode cL_law 925 = .ok (.invokevirtual 112, 3) := by decide +kernel
theorem dL_law_928 : decode cL_law 928 = .ok (.if_icmp .eq 483, 3) := by decide +kernel
theorem dL_law_931 : decode cL_law 931 = .ok (.iconst 0, 1) := by decide +kernel
theorem dL_law_932 : decode cL_law 932 = .ok (.ireturn, 1) := by decide +kernel
theorem dL_law_933 : decode cL_law 933 = .ok (.aload_n 1, 1) := by decide +kernel
theorem dL_law_934 : decode cL_law 934 = .ok (.aload_n 0, 1) := by decide +kernel
theorem dL_law_935 : decode cL_law 935 = .ok (.iload_n 3, 1) := by decide +kernel
theorem dL_law_936 : decode cL_law 936 = .ok (.iconst 1, 1) := by decide +kernel
theorem dL_law_937 : decode cL_law 937 = .ok (.iadd, 1) := by decide +kernel
theorem dL_law_938 : decode cL_law 938 = .ok (.iaload, 1) := by decide +kernel
theorem dL_law_939 : decode cL_law 939 = .ok (.aload_n 0, 1) := by decide +kernel
theorem dL_law_940 : decode cL_law 940 = .ok (.iload_n 3, 1) := by decide +kernel
theorem dL_law_941 : decode cL_law 941 = .ok (.iconst 2, 1) := by decide +kernel
theorem dL_law_942 : decode cL_law 942 = .ok (.iadd, 1) := by decide +kernel
theorem dL_law_943 : decode cL_law 943 = .ok (.iaload, 1) := by decide +kernel
theorem dL_law_944 : decode cL_law 944 = .ok (.aload_n 0, 1) := by decide +kernel
theorem dL_law_945 : decode cL_law 945 = .ok (.iload_n 3, 1) := by decide +kernel
theorem dL_law_946 : decode cL_law 946 = .ok (.iconst 3, 1) := by decide +kernel
theorem dL_law_947 : decode cL_law 947 = .ok (.iadd, 1) := by decide +kernel
theorem dL_law_948 : decode cL_law 948 = .ok (.iaload, 1) := by decide +kernel
theorem dL_law_949 : decode cL_law 949 = .ok (.invokevirtual 113, 3) := by decide +kernel
theorem dL_law_952 : decode cL_law 952 = .ok (.aload_n 2, 1) := by decide +kernel
theorem dL_law_953 : decode cL_law 953 = .ok (.aload_n 0, 1) := by decide +kernel
theorem dL_law_954 : decode cL_law 954 = .ok (.iload_n 3, 1) := by decide +kernel
theorem dL_law_955 : decode cL_law 955 = .ok (.iconst 1, 1) := by decide +kernel
theorem dL_law_956 : decode cL_law 956 = .ok (.iadd, 1) := by decide +kernel
theorem dL_law_957 : decode cL_law 957 = .ok (.iaload, 1) := by decide +kernel
theorem dL_law_958 : decode cL_law 958 = .ok (.aload_n 0, 1) := by decide +kernel
theorem dL_law_959 : decode cL_law 959 = .ok (.iload_n 3, 1) := by decide +kernel
theorem dL_law_960 : decode cL_law 960 = .ok (.iconst 2, 1) := by decide +kernel
theorem dL_law_961 : decode cL_law 961 = .ok (.iadd, 1) := by decide +kernel
theorem dL_law_962 : decode cL_law 962 = .ok (.iaload, 1) := by decide +kernel
theorem dL_law_963 : decode cL_law 963 = .ok (.aload_n 0, 1) := by decide +kernel
theorem dL_law_964 : decode cL_law 964 = .ok (.iload_n 3, 1) := by decide +kernel
theorem dL_law_965 : decode cL_law 965 = .ok (.iconst 3, 1) := by decide +kernel
theorem dL_law_966 : decode cL_law 966 = .ok (.iadd, 1) := by decide +kernel
theorem dL_law_967 : decode cL_law 967 = .ok (.iaload, 1) := by decide +kernel
theorem dL_law_968 : decode cL_law 968 = .ok (.invokevirtual 116, 3) := by decide +kernel
theorem dL_law_971 : decode cL_law 971 = .ok (.if_icmp .eq 440, 3) := by decide +kernel
theorem dL_law_974 : decode cL_law 974 = .ok (.iconst 0, 1) := by decide +kernel
theorem dL_law_975 : decode cL_law 975 = .ok (.ireturn, 1) := by decide +kernel
theorem dL_law_976 : decode cL_law 976 = .ok (.aload_n 1, 1) := by decide +kernel
theorem dL_law_977 : decode cL_law 977 = .ok (.aload_n 0, 1) := by decide +kernel
theorem dL_law_978 : decode cL_law 978 = .ok (.iload_n 3, 1) := by decide +kernel
theorem dL_law_979 : decode cL_law 979 = .ok (.iconst 1, 1) := by decide +kernel
theorem dL_law_980 : decode cL_law 980 = .ok (.iadd, 1) := by decide +kernel
theorem dL_law_981 : decode cL_law 981 = .ok (.iaload, 1) := by decide +kernel
theorem dL_law_982 : decode cL_law 982 = .ok (.aload_n 0, 1) := by decide +kernel
theorem dL_law_983 : decode cL_law 983 = .ok (.iload_n 3, 1) := by decide +kernel
theorem dL_law_984 : decode cL_law 984 = .ok (.iconst 2, 1) := by decide +kernel
theorem dL_law_985 : decode cL_law 985 = .ok (.iadd, 1) := by decide +kernel
theorem dL_law_986 : decode cL_law 986 = .ok (.iaload, 1) := by decide +kernel
theorem dL_law_987 : decode cL_law 987 = .ok (.aload_n 0, 1) := by decide +kernel
theorem dL_law_988 : decode cL_law 988 = .ok (.iload_n 3, 1) := by decide +kernel
theorem dL_law_989 : decode cL_law 989 = .ok (.iconst 3, 1) := by decide +kernel
theorem dL_law_990 : decode cL_law 990 = .ok (.iadd, 1) := by decide +kernel
theorem dL_law_991 : decode cL_law 991 = .ok (.iaload, 1) := by decide +kernel
theorem dL_law_992 : decode cL_law 992 = .ok (.invokevirtual 117, 3) := by decide +kernel
theorem dL_law_995 : decode cL_law 995 = .ok (.aload_n 2, 1) := by decide +kernel
theorem dL_law_996 : decode cL_law 996 = .ok (.aload_n 0, 1) := by decide +kernel
theorem dL_law_997 : decode cL_law 997 = .ok (.iload_n 3, 1) := by decide +kernel
theorem dL_law_998 : decode cL_law 998 = .ok (.iconst 1, 1) := by decide +kernel
theorem dL_law_999 : decode cL_law 999 = .ok (.iadd, 1) := by decide +kernel
theorem dL_law_1000 : decode cL_law 1000 = .ok (.iaload, 1) := by decide +kernel
theorem dL_law_1001 : decode cL_law 1001 = .ok (.aload_n 0, 1) := by decide +kernel
theorem dL_law_1002 : decode cL_law 1002 = .ok (.iload_n 3, 1) := by decide +kernel
theorem dL_law_1003 : decode cL_law 1003 = .ok (.iconst 2, 1) := by decide +kernel
theorem dL_law_1004 : decode cL_law 1004 = .ok (.iadd, 1) := by decide +kernel
theorem dL_law_1005 : decode cL_law 1005 = .ok (.iaload, 1) := by decide +kernel
theorem dL_law_1006 : decode cL_law 1006 = .ok (.aload_n 0, 1) := by decide +kernel
theorem dL_law_1007 : decode cL_law 1007 = .ok (.iload_n 3, 1) := by decide +kernel
theorem dL_law_1008 : decode cL_law 1008 = .ok (.iconst 3, 1) := by decide +kernel
theorem dL_law_1009 : decode cL_law 1009 = .ok (.iadd, 1) := by decide +kernel
theorem dL_law_1010 : decode cL_law 1010 = .ok (.iaload, 1) := by decide +kernel
theorem dL_law_1011 : decode cL_law 1011 = .ok (.invokevirtual 120, 3) := by decide +kernel
theorem dL_law_1014 : decode cL_law 1014 = .ok (.if_icmp .eq 397, 3) := by decide +kernel
theorem dL_law_1017 : decode cL_law 1017 = .ok (.iconst 0, 1) := by decide +kernel
theorem dL_law_1018 : decode cL_law 1018 = .ok (.ireturn, 1) := by decide +kernel
theorem dL_law_1019 : decode cL_law 1019 = .ok (.aload_n 1, 1) := by decide +kernel
theorem dL_law_1020 : decode cL_law 1020 = .ok (.aload_n 0, 1) := by decide +kernel
theorem dL_law_1021 : decode cL_law 1021 = .ok (.iload_n 3, 1) := by decide +kernel
theorem dL_law_1022 : decode cL_law 1022 = .ok (.iconst 1, 1) := by decide +kernel
theorem dL_law_1023 : decode cL_law 1023 = .ok (.iadd, 1) := by decide +kernel
theorem dL_law_1024 : decode cL_law 1024 = .ok (.iaload, 1) := by decide +kernel
theorem dL_law_1025 : decode cL_law 1025 = .ok (.invokevirtual 121, 3) := by decide +kernel
theorem dL_law_1028 : decode cL_law 1028 = .ok (.aload_n 2, 1) := by decide +kernel
theorem dL_law_1029 : decode cL_law 1029 = .ok (.aload_n 0, 1) := by decide +kernel
theorem dL_law_1030 : decode cL_law 1030 = .ok (.iload_n 3, 1) := by decide +kernel
theorem dL_law_1031 : decode cL_law 1031 = .ok (.iconst 1, 1) := by decide +kernel
theorem dL_law_1032 : decode cL_law 1032 = .ok (.iadd, 1) := by decide +kernel
theorem dL_law_1033 : decode cL_law 1033 = .ok (.iaload, 1) := by decide +kernel
theorem dL_law_1034 : decode cL_law 1034 = .ok (.invokevirtual 124, 3) := by decide +kernel
theorem dL_law_1037 : decode cL_law 1037 = .ok (.if_icmp .eq 374, 3) := by decide +kernel
theorem dL_law_1040 : decode cL_law 1040 = .ok (.iconst 0, 1) := by decide +kernel
theorem dL_law_1041 : decode cL_law 1041 = .ok (.ireturn, 1) := by decide +kernel
theorem dL_law_1042 : decode cL_law 1042 = .ok (.aload_n 1, 1) := by decide +kernel
theorem dL_law_1043 : decode cL_law 1043 = .ok (.aload_n 0, 1) := by decide +kernel
theorem dL_law_1044 : decode cL_law 1044 = .ok (.iload_n 3, 1) := by decide +kernel
theorem dL_law_1045 : decode cL_law 1045 = .ok (.iconst 1, 1) := by decide +kernel
theorem dL_law_1046 : decode cL_law 1046 = .ok (.iadd, 1) := by decide +kernel
theorem dL_law_1047 : decode cL_law 1047 = .ok (.iaload, 1) := by decide +kernel
theorem dL_law_1048 : decode cL_law 1048 = .ok (.aload_n 0, 1) := by decide +kernel
theorem dL_law_1049 : decode cL_law 1049 = .ok (.iload_n 3, 1) := by decide +kernel
theorem dL_law_1050 : decode cL_law 1050 = .ok (.iconst 2, 1) := by decide +kernel
theorem dL_law_1051 : decode cL_law 1051 = .ok (.iadd, 1) := by decide +kernel
theorem dL_law_1052 : decode cL_law 1052 = .ok (.iaload, 1) := by decide +kernel
theorem dL_law_1053 : decode cL_law 1053 = .ok (.aload_n 0, 1) := by decide +kernel
theorem dL_law_1054 : decode cL_law 1054 = .ok (.iload_n 3, 1) := by decide +kernel
theorem dL_law_1055 : decode cL_law 1055 = .ok (.iconst 3, 1) := by decide +kernel
theorem dL_law_1056 : decode cL_law 1056 = .ok (.iadd, 1) := by decide +kernel
theorem dL_law_1057 : decode cL_law 1057 = .ok (.iaload, 1) := by decide +kernel
theorem dL_law_1058 : decode cL_law 1058 = .ok (.invokevirtual 125, 3) := by decide +kernel
theorem dL_law_1061 : decode cL_law 1061 = .ok (.aload_n 2, 1) := by decide +kernel
theorem dL_law_1062 : decode cL_law 1062 = .ok (.aload_n 0, 1) := by decide +kernel
theorem dL_law_1063 : decode cL_law 1063 = .ok (.iload_n 3, 1) := by decide +kernel
theorem dL_law_1064 : decode cL_law 1064 = .ok (.iconst 1, 1) := by decide +kernel
theorem dL_law_1065 : decode cL_law 1065 = .ok (.iadd, 1) := by decide +kernel
theorem dL_law_1066 : decode cL_law 1066 = .ok (.iaload, 1) := by decide +kernel
theorem dL_law_1067 : decode cL_law 1067 = .ok (.aload_n 0, 1) := by decide +kernel
theorem dL_law_1068 : decode cL_law 1068 = .ok (.iload_n 3, 1) := by decide +kernel
theorem dL_law_1069 : decode cL_law 1069 = .ok (.iconst 2, 1) := by decide +kernel
theorem dL_law_1070 : decode cL_law 1070 = .ok (.iadd, 1) := by decide +kernel
theorem dL_law_1071 : decode cL_law 1071 = .ok (.iaload, 1) := by decide +kernel
theorem dL_law_1072 : decode cL_law 1072 = .ok (.aload_n 0, 1) := by decide +kernel
theorem dL_law_1073 : decode cL_law 1073 = .ok (.iload_n 3, 1) := by decide +kernel
theorem dL_law_1074 : decode cL_law 1074 = .ok (.iconst 3, 1) := by decide +kernel
theorem dL_law_1075 : decode cL_law 1075 = .ok (.iadd, 1) := by decide +kernel
theorem dL_law_1076 : decode cL_law 1076 = .ok (.iaload, 1) := by decide +kernel
theorem dL_law_1077 : decode cL_law 1077 = .ok (.invokevirtual 128, 3) := by decide +kernel
theorem dL_law_1080 : decode cL_law 1080 = .ok (.if_icmp .eq 331, 3) := by decide +kernel
theorem dL_law_1083 : decode cL_law 1083 = .ok (.iconst 0, 1) := by decide +kernel
theorem dL_law_1084 : decode cL_law 1084 = .ok (.ireturn, 1) := by decide +kernel
theorem dL_law_1085 : decode cL_law 1085 = .ok (.aload_n 1, 1) := by decide +kernel
theorem dL_law_1086 : decode cL_law 1086 = .ok (.aload_n 0, 1) := by decide +kernel
theorem dL_law_1087 : decode cL_law 1087 = .ok (.iload_n 3, 1) := by decide +kernel
theorem dL_law_1088 : decode cL_law 1088 = .ok (.iconst 1, 1) := by decide +kernel
theorem dL_law_1089 : decode cL_law 1089 = .ok (.iadd, 1) := by decide +kernel
theorem dL_law_1090 : decode cL_law 1090 = .ok (.iaload, 1) := by decide +kernel
theorem dL_law_1091 : decode cL_law 1091 = .ok (.invokevirtual 129, 3) := by decide +kernel
theorem dL_law_1094 : decode cL_law 1094 = .ok (.aload_n 2, 1) := by decide +kernel
theorem dL_law_1095 : decode cL_law 1095 = .ok (.aload_n 0, 1) := by decide +kernel
theorem dL_law_1096 : decode cL_law 1096 = .ok (.iload_n 3, 1) := by decide +kernel
theorem dL_law_1097 : decode cL_law 1097 = .ok (.iconst 1, 1) := by decide +kernel
theorem dL_law_1098 : decode cL_law 1098 = .ok (.iadd, 1) := by decide +kernel
theorem dL_law_1099 : decode cL_law 1099 = .ok (.iaload, 1) := by decide +kernel
theorem dL_law_1100 : decode cL_law 1100 = .ok (.invokevirtual 132, 3) := by decide +kernel
theorem dL_law_1103 : decode cL_law 1103 = .ok (.if_icmp .eq 308, 3) := by decide +kernel
theorem dL_law_1106 : decode cL_law 1106 = .ok (.iconst 0, 1) := by decide +kernel
theorem dL_law_1107 : decode cL_law 1107 = .ok (.ireturn, 1) := by decide +kernel
theorem dL_law_1108 : decode cL_law 1108 = .ok (.aload_n 1, 1) := by decide +kernel
theorem dL_law_1109 : decode cL_law 1109 = .ok (.aload_n 0, 1) := by decide +kernel
theorem dL_law_1110 : decode cL_law 1110 = .ok (.iload_n 3, 1) := by decide +kernel
theorem dL_law_1111 : decode cL_law 1111 = .ok (.iconst 1, 1) := by decide +kernel
theorem dL_law_1112 : decode cL_law 1112 = .ok (.iadd, 1) := by decide +kernel
theorem dL_law_1113 : decode cL_law 1113 = .ok (.iaload, 1) := by decide +kernel
theorem dL_law_1114 : decode cL_law 1114 = .ok (.aload_n 0, 1) := by decide +kernel
theorem dL_law_1115 : decode cL_law 1115 = .ok (.iload_n 3, 1) := by decide +kernel
theorem dL_law_1116 : decode cL_law 1116 = .ok (.iconst 2, 1) := by decide +kernel
theorem dL_law_1117 : decode cL_law 1117 = .ok (.iadd, 1) := by decide +kernel
theorem dL_law_1118 : decode cL_law 1118 = .ok (.iaload, 1) := by decide +kernel
theorem dL_law_1119 : decode cL_law 1119 = .ok (.aload_n 0, 1) := by decide +kernel
theorem dL_law_1120 : decode cL_law 1120 = .ok (.iload_n 3, 1) := by decide +kernel
theorem dL_law_1121 : decode cL_law 1121 = .ok (.iconst 3, 1) := by decide +kernel
theorem dL_law_1122 : decode cL_law 1122 = .ok (.iadd, 1) := by decide +kernel
theorem dL_law_1123 : decode cL_law 1123 = .ok (.iaload, 1) := by decide +kernel
theorem dL_law_1124 : decode cL_law 1124 = .ok (.invokevirtual 133, 3) := by decide +kernel
theorem dL_law_1127 : decode cL_law 1127 = .ok (.aload_n 2, 1) := by decide +kernel
theorem dL_law_1128 : decode cL_law 1128 = .ok (.aload_n 0, 1) := by decide +kernel
theorem dL_law_1129 : decode cL_law 1129 = .ok (.iload_n 3, 1) := by decide +kernel
theorem dL_law_1130 : decode cL_law 1130 = .ok (.iconst 1, 1) := by decide +kernel
theorem dL_law_1131 : decode cL_law 1131 = .ok (.iadd, 1) := by decide +kernel
theorem dL_law_1132 : decode cL_law 1132 = .ok (.iaload, 1) := by decide +kernel
theorem dL_law_1133 : decode cL_law 1133 = .ok (.aload_n 0, 1) := by decide +kernel
theorem dL_law_1134 : decode cL_law 1134 = .ok (.iload_n 3, 1) := by decide +kernel
theorem dL_law_1135 : decode cL_law 1135 = .ok (.iconst 2, 1) := by decide +kernel
theorem dL_law_1136 : decode cL_law 1136 = .ok (.iadd, 1) := by decide +kernel
theorem dL_law_1137 : decode cL_law 1137 = .ok (.iaload, 1) := by decide +kernel
theorem dL_law_1138 : decode cL_law 1138 = .ok (.aload_n 0, 1) := by decide +kernel
theorem dL_law_1139 : decode cL_law 1139 = .ok (.iload_n 3, 1) := by decide +kernel
theorem dL_law_1140 : decode cL_law 1140 = .ok (.iconst 3, 1) := by decide +kernel
theorem dL_law_1141 : decode cL_law 1141 = .ok (.iadd, 1) := by decide +kernel
theorem dL_law_1142 : decode cL_law 1142 = .ok (.iaload, 1) := by decide +kernel
theorem dL_law_1143 : decode cL_law 1143 = .ok (.invokevirtual 136, 3) := by decide +kernel
theorem dL_law_1146 : decode cL_law 1146 = .ok (.if_icmp .eq 265, 3) := by decide +kernel
theorem dL_law_1149 : decode cL_law 1149 = .ok (.iconst 0, 1) := by decide +kernel
theorem dL_law_1150 : decode cL_law 1150 = .ok (.ireturn, 1) := by decide +kernel
theorem dL_law_1151 : decode cL_law 1151 = .ok (.aload_n 1, 1) := by decide +kernel
theorem dL_law_1152 : decode cL_law 1152 = .ok (.aload_n 0, 1) := by decide +kernel
theorem dL_law_1153 : decode cL_law 1153 = .ok (.iload_n 3, 1) := by decide +kernel
theorem dL_law_1154 : decode cL_law 1154 = .ok (.iconst 1, 1) := by decide +kernel
theorem dL_law_1155 : decode cL_law 1155 = .ok (.iadd, 1) := by decide +kernel
theorem dL_law_1156 : decode cL_law 1156 = .ok (.iaload, 1) := by decide +kernel
theorem dL_law_1157 : decode cL_law 1157 = .ok (.aload_n 0, 1) := by decide +kernel
theorem dL_law_1158 : decode cL_law 1158 = .ok (.iload_n 3, 1) := by decide +kernel
theorem dL_law_1159 : decode cL_law 1159 = .ok (.iconst 2, 1) := by decide +kernel
theorem dL_law_1160 : decode cL_law 1160 = .ok (.iadd, 1) := by decide +kernel
theorem dL_law_1161 : decode cL_law 1161 = .ok (.iaload, 1) := by decide +kernel
theorem dL_law_1162 : decode cL_law 1162 = .ok (.aload_n 0, 1) := by decide +kernel
theorem dL_law_1163 : decode cL_law 1163 = .ok (.iload_n 3, 1) := by decide +kernel
theorem dL_law_1164 : decode cL_law 1164 = .ok (.iconst 3, 1) := by decide +kernel
theorem dL_law_1165 : decode cL_law 1165 = .ok (.iadd, 1) := by decide +kernel
theorem dL_law_1166 : decode cL_law 1166 = .ok (.iaload, 1) := by decide +kernel
theorem dL_law_1167 : decode cL_law 1167 = .ok (.invokevirtual 137, 3) := by decide +kernel
theorem dL_law_1170 : decode cL_law 1170 = .ok (.aload_n 2, 1) := by decide +kernel
theorem dL_law_1171 : decode cL_law 1171 = .ok (.aload_n 0, 1) := by decide +kernel
theorem dL_law_1172 : decode cL_law 1172 = .ok (.iload_n 3, 1) := by decide +kernel
theorem dL_law_1173 : decode cL_law 1173 = .ok (.iconst 1, 1) := by decide +kernel
theorem dL_law_1174 : decode cL_law 1174 = .ok (.iadd, 1) := by decide +kernel
theorem dL_law_1175 : decode cL_law 1175 = .ok (.iaload, 1) := by decide +kernel
theorem dL_law_1176 : decode cL_law 1176 = .ok (.aload_n 0, 1) := by decide +kernel
theorem dL_law_1177 : decode cL_law 1177 = .ok (.iload_n 3, 1) := by decide +kernel
theorem dL_law_1178 : decode cL_law 1178 = .ok (.iconst 2, 1) := by decide +kernel
theorem dL_law_1179 : decode cL_law 1179 = .ok (.iadd, 1) := by decide +kernel
theorem dL_law_1180 : decode cL_law 1180 = .ok (.iaload, 1) := by decide +kernel
theorem dL_law_1181 : decode cL_law 1181 = .ok (.aload_n 0, 1) := by decide +kernel
theorem dL_law_1182 : decode cL_law 1182 = .ok (.iload_n 3, 1) := by decide +kernel
theorem dL_law_1183 : decode cL_law 1183 = .ok (.iconst 3, 1) := by decide +kernel
theorem dL_law_1184 : decode cL_law 1184 = .ok (.iadd, 1) := by decide +kernel
theorem dL_law_1185 : decode cL_law 1185 = .ok (.iaload, 1) := by decide +kernel
theorem dL_law_1186 : decode cL_law 1186 = .ok (.invokevirtual 140, 3) := by decide +kernel
theorem dL_law_1189 : decode cL_law 1189 = .ok (.if_icmp .eq 222, 3) := by decide +kernel
theorem dL_law_1192 : decode cL_law 1192 = .ok (.iconst 0, 1) := by decide +kernel
theorem dL_law_1193 : decode cL_law 1193 = .ok (.ireturn, 1) := by decide +kernel
theorem dL_law_1194 : decode cL_law 1194 = .ok (.aload_n 1, 1) := by decide +kernel
theorem dL_law_1195 : decode cL_law 1195 = .ok (.aload_n 0, 1) := by decide +kernel
theorem dL_law_1196 : decode cL_law 1196 = .ok (.iload_n 3, 1) := by decide +kernel
theorem dL_law_1197 : decode cL_law 1197 = .ok (.iconst 1, 1) := by decide +kernel
theorem dL_law_1198 : decode cL_law 1198 = .ok (.iadd, 1) := by decide +kernel
theorem dL_law_1199 : decode cL_law 1199 = .ok (.iaload, 1) := by decide +kernel
theorem dL_law_1200 : decode cL_law 1200 = .ok (.aload_n 0, 1) := by decide +kernel
theorem dL_law_1201 : decode cL_law 1201 = .ok (.iload_n 3, 1) := by decide +kernel
theorem dL_law_1202 : decode cL_law 1202 = .ok (.iconst 2, 1) := by decide +kernel
theorem dL_law_1203 : decode cL_law 1203 = .ok (.iadd, 1) := by decide +kernel
theorem dL_law_1204 : decode cL_law 1204 = .ok (.iaload, 1) := by decide +kernel
theorem dL_law_1205 : decode cL_law 1205 = .ok (.aload_n 0, 1) := by decide +kernel
theorem dL_law_1206 : decode cL_law 1206 = .ok (.iload_n 3, 1) := by decide +kernel
theorem dL_law_1207 : decode cL_law 1207 = .ok (.iconst 3, 1) := by decide +kernel
theorem dL_law_1208 : decode cL_law 1208 = .ok (.iadd, 1) := by decide +kernel
theorem dL_law_1209 : decode cL_law 1209 = .ok (.iaload, 1) := by decide +kernel
theorem dL_law_1210 : decode cL_law 1210 = .ok (.aload_n 0, 1) := by decide +kernel
theorem dL_law_1211 : decode cL_law 1211 = .ok (.iload_n 3, 1) := by decide +kernel
theorem dL_law_1212 : decode cL_law 1212 = .ok (.iconst 4, 1) := by decide +kernel
theorem dL_law_1213 : decode cL_law 1213 = .ok (.iadd, 1) := by decide +kernel
theorem dL_law_1214 : decode cL_law 1214 = .ok (.iaload, 1) := by decide +kernel
theorem dL_law_1215 : decode cL_law 1215 = .ok (.aload_n 0, 1) := by decide +kernel
theorem dL_law_1216 : decode cL_law 1216 = .ok (.iload_n 3, 1) := by decide +kernel
theorem dL_law_1217 : decode cL_law 1217 = .ok (.iconst 5, 1) := by decide +kernel
theorem dL_law_1218 : decode cL_law 1218 = .ok (.iadd, 1) := by decide +kernel
theorem dL_law_1219 : decode cL_law 1219 = .ok (.iaload, 1) := by decide +kernel
theorem dL_law_1220 : decode cL_law 1220 = .ok (.invokevirtual 141, 3) := by decide +kernel
theorem dL_law_1223 : decode cL_law 1223 = .ok (.aload_n 2, 1) := by decide +kernel
theorem dL_law_1224 : decode cL_law 1224 = .ok (.aload_n 0, 1) := by decide +kernel
theorem dL_law_1225 : decode cL_law 1225 = .ok (.iload_n 3, 1) := by decide +kernel
theorem dL_law_1226 : decode cL_law 1226 = .ok (.iconst 1, 1) := by decide +kernel
theorem dL_law_1227 : decode cL_law 1227 = .ok (.iadd, 1) := by decide +kernel
theorem dL_law_1228 : decode cL_law 1228 = .ok (.iaload, 1) := by decide +kernel
theorem dL_law_1229 : decode cL_law 1229 = .ok (.aload_n 0, 1) := by decide +kernel
theorem dL_law_1230 : decode cL_law 1230 = .ok (.iload_n 3, 1) := by decide +kernel
theorem dL_law_1231 : decode cL_law 1231 = .ok (.iconst 2, 1) := by decide +kernel
theorem dL_law_1232 : decode cL_law 1232 = .ok (.iadd, 1) := by decide +kernel
theorem dL_law_1233 : decode cL_law 1233 = .ok (.iaload, 1) := by decide +kernel
theorem dL_law_1234 : decode cL_law 1234 = .ok (.aload_n 0, 1) := by decide +kernel
theorem dL_law_1235 : decode cL_law 1235 = .ok (.iload_n 3, 1) := by decide +kernel
theorem dL_law_1236 : decode cL_law 1236 = .ok (.iconst 3, 1) := by decide +kernel
theorem dL_law_1237 : decode cL_law 1237 = .ok (.iadd, 1) := by decide +kernel
theorem dL_law_1238 : decode cL_law 1238 = .ok (.iaload, 1) := by decide +kernel
theorem dL_law_1239 : decode cL_law 1239 = .ok (.aload_n 0, 1) := by decide +kernel
theorem dL_law_1240 : decode cL_law 1240 = .ok (.iload_n 3, 1) := by decide +kernel
theorem dL_law_1241 : decode cL_law 1241 = .ok (.iconst 4, 1) := by decide +kernel
theorem dL_law_1242 : decode cL_law 1242 = .ok (.iadd, 1) := by decide +kernel
theorem dL_law_1243 : decode cL_law 1243 = .ok (.iaload, 1) := by decide +kernel
theorem dL_law_1244 : decode cL_law 1244 = .ok (.aload_n 0, 1) := by decide +kernel
theorem dL_law_1245 : decode cL_law 1245 = .ok (.iload_n 3, 1) := by decide +kernel
theorem dL_law_1246 : decode cL_law 1246 = .ok (.iconst 5, 1) := by decide +kernel
theorem dL_law_1247 : decode cL_law 1247 = .ok (.iadd, 1) := by decide +kernel
theorem dL_law_1248 : decode cL_law 1248 = .ok (.iaload, 1) := by decide +kernel
theorem dL_law_1249 : decode cL_law 1249 = .ok (.invokevirtual 145, 3) := by decide +kernel
theorem dL_law_1252 : decode cL_law 1252 = .ok (.if_icmp .eq 159, 3) := by decide +kernel
theorem dL_law_1255 : decode cL_law 1255 = .ok (.iconst 0, 1) := by decide +kernel
theorem dL_law_1256 : decode cL_law 1256 = .ok (.ireturn, 1) := by decide +kernel
theorem dL_law_1257 : decode cL_law 1257 = .ok (.aload_n 1, 1) := by decide +kernel
theorem dL_law_1258 : decode cL_law 1258 = .ok (.aload_n 0, 1) := by decide +kernel
theorem dL_law_1259 : decode cL_law 1259 = .ok (.iload_n 3, 1) := by decide +kernel
theorem dL_law_1260 : decode cL_law 1260 = .ok (.iconst 1, 1) := by decide +kernel
theorem dL_law_1261 : decode cL_law 1261 = .ok (.iadd, 1) := by decide +kernel
theorem dL_law_1262 : decode cL_law 1262 = .ok (.iaload, 1) := by decide +kernel
theorem dL_law_1263 : decode cL_law 1263 = .ok (.invokevirtual 146, 3) := by decide +kernel
theorem dL_law_1266 : decode cL_law 1266 = .ok (.aload_n 2, 1) := by decide +kernel
theorem dL_law_1267 : decode cL_law 1267 = .ok (.aload_n 0, 1) := by decide +kernel
theorem dL_law_1268 : decode cL_law 1268 = .ok (.iload_n 3, 1) := by decide +kernel
theorem dL_law_1269 : decode cL_law 1269 = .ok (.iconst 1, 1) := by decide +kernel
theorem dL_law_1270 : decode cL_law 1270 = .ok (.iadd, 1) := by decide +kernel
theorem dL_law_1271 : decode cL_law 1271 = .ok (.iaload, 1) := by decide +kernel
theorem dL_law_1272 : decode cL_law 1272 = .ok (.invokevirtual 149, 3) := by decide +kernel
theorem dL_law_1275 : decode cL_law 1275 = .ok (.if_icmp .eq 136, 3) := by decide +kernel
theorem dL_law_1278 : decode cL_law 1278 = .ok (.iconst 0, 1) := by decide +kernel
theorem dL_law_1279 : decode cL_law 1279 = .ok (.ireturn, 1) := by decide +kernel
theorem dL_law_1280 : decode cL_law 1280 = .ok (.aload_n 1, 1) := by decide +kernel
theorem dL_law_1281 : decode cL_law 1281 = .ok (.aload_n 0, 1) := by decide +kernel
theorem dL_law_1282 : decode cL_law 1282 = .ok (.iload_n 3, 1) := by decide +kernel
theorem dL_law_1283 : decode cL_law 1283 = .ok (.iconst 1, 1) := by decide +kernel
theorem dL_law_1284 : decode cL_law 1284 = .ok (.iadd, 1) := by decide +kernel
theorem dL_law_1285 : decode cL_law 1285 = .ok (.iaload, 1) := by decide +kernel
theorem dL_law_1286 : decode cL_law 1286 = .ok (.invokevirtual 150, 3) := by decide +kernel
theorem dL_law_1289 : decode cL_law 1289 = .ok (.aload_n 2, 1) := by decide +kernel
theorem dL_law_1290 : decode cL_law 1290 = .ok (.aload_n 0, 1) := by decide +kernel
theorem dL_law_1291 : decode cL_law 1291 = .ok (.iload_n 3, 1) := by decide +kernel
theorem dL_law_1292 : decode cL_law 1292 = .ok (.iconst 1, 1) := by decide +kernel
theorem dL_law_1293 : decode cL_law 1293 = .ok (.iadd, 1) := by decide +kernel
theorem dL_law_1294 : decode cL_law 1294 = .ok (.iaload, 1) := by decide +kernel
theorem dL_law_1295 : decode cL_law 1295 = .ok (.invokevirtual 153, 3) := by decide +kernel
theorem dL_law_1298 : decode cL_law 1298 = .ok (.if_icmp .eq 113, 3) := by decide +kernel
theorem dL_law_1301 : decode cL_law 1301 = .ok (.iconst 0, 1) := by decide +kernel
theorem dL_law_1302 : decode cL_law 1302 = .ok (.ireturn, 1) := by decide +kernel
theorem dL_law_1303 : decode cL_law 1303 = .ok (.aload_n 1, 1) := by decide +kernel
theorem dL_law_1304 : decode cL_law 1304 = .ok (.invokevirtual 154, 3) := by decide +kernel
theorem dL_law_1307 : decode cL_law 1307 = .ok (.aload_n 2, 1) := by decide +kernel
theorem dL_law_1308 : decode cL_law 1308 = .ok (.invokevirtual 157, 3) := by decide +kernel
theorem dL_law_1311 : decode cL_law 1311 = .ok (.if_icmp .eq 100, 3) := by decide +kernel
theorem dL_law_1314 : decode cL_law 1314 = .ok (.iconst 0, 1) := by decide +kernel
theorem dL_law_1315 : decode cL_law 1315 = .ok (.ireturn, 1) := by decide +kernel
theorem dL_law_1316 : decode cL_law 1316 = .ok (.aload_n 1, 1) := by decide +kernel
theorem dL_law_1317 : decode cL_law 1317 = .ok (.invokevirtual 158, 3) := by decide +kernel
theorem dL_law_1320 : decode cL_law 1320 = .ok (.aload_n 2, 1) := by decide +kernel
theorem dL_law_1321 : decode cL_law 1321 = .ok (.invokevirtual 161, 3) := by decide +kernel
theorem dL_law_1324 : decode cL_law 1324 = .ok (.if_icmp .eq 87, 3) := by decide +kernel
theorem dL_law_1327 : decode cL_law 1327 = .ok (.iconst 0, 1) := by decide +kernel
theorem dL_law_1328 : decode cL_law 1328 = .ok (.ireturn, 1) := by decide +kernel
theorem dL_law_1329 : decode cL_law 1329 = .ok (.aload_n 1, 1) := by decide +kernel
theorem dL_law_1330 : decode cL_law 1330 = .ok (.aload_n 0, 1) := by decide +kernel
theorem dL_law_1331 : decode cL_law 1331 = .ok (.iload_n 3, 1) := by decide +kernel
theorem dL_law_1332 : decode cL_law 1332 = .ok (.iconst 1, 1) := by decide +kernel
theorem dL_law_1333 : decode cL_law 1333 = .ok (.iadd, 1) := by decide +kernel
theorem dL_law_1334 : decode cL_law 1334 = .ok (.iaload, 1) := by decide +kernel
theorem dL_law_1335 : decode cL_law 1335 = .ok (.invokevirtual 162, 3) := by decide +kernel
theorem dL_law_1338 : decode cL_law 1338 = .ok (.aload_n 2, 1) := by decide +kernel
theorem dL_law_1339 : decode cL_law 1339 = .ok (.aload_n 0, 1) := by decide +kernel
theorem dL_law_1340 : decode cL_law 1340 = .ok (.iload_n 3, 1) := by decide +kernel
theorem dL_law_1341 : decode cL_law 1341 = .ok (.iconst 1, 1) := by decide +kernel
theorem dL_law_1342 : decode cL_law 1342 = .ok (.iadd, 1) := by decide +kernel
theorem dL_law_1343 : decode cL_law 1343 = .ok (.iaload, 1) := by decide +kernel
theorem dL_law_1344 : decode cL_law 1344 = .ok (.invokevirtual 165, 3) := by decide +kernel
theorem dL_law_1347 : decode cL_law 1347 = .ok (.if_icmp .eq 64, 3) := by decide +kernel
theorem dL_law_1350 : decode cL_law 1350 = .ok (.iconst 0, 1) := by decide +kernel
theorem dL_law_1351 : decode cL_law 1351 = .ok (.ireturn, 1) := by decide +kernel
theorem dL_law_1352 : decode cL_law 1352 = .ok (.aload_n 1, 1) := by decide +kernel
theorem dL_law_1353 : decode cL_law 1353 = .ok (.invokevirtual 166, 3) := by decide +kernel
theorem dL_law_1356 : decode cL_law 1356 = .ok (.aload_n 2, 1) := by decide +kernel
theorem dL_law_1357 : decode cL_law 1357 = .ok (.invokevirtual 169, 3) := by decide +kernel
theorem dL_law_1360 : decode cL_law 1360 = .ok (.if_icmp .eq 51, 3) := by decide +kernel
theorem dL_law_1363 : decode cL_law 1363 = .ok (.iconst 0, 1) := by decide +kernel
theorem dL_law_1364 : decode cL_law 1364 = .ok (.ireturn, 1) := by decide +kernel
theorem dL_law_1365 : decode cL_law 1365 = .ok (.aload_n 1, 1) := by decide +kernel
theorem dL_law_1366 : decode cL_law 1366 = .ok (.aload_n 0, 1) := by decide +kernel
theorem dL_law_1367 : decode cL_law 1367 = .ok (.iload_n 3, 1) := by decide +kernel
theorem dL_law_1368 : decode cL_law 1368 = .ok (.iconst 1, 1) := by decide +kernel
theorem dL_law_1369 : decode cL_law 1369 = .ok (.iadd, 1) := by decide +kernel
theorem dL_law_1370 : decode cL_law 1370 = .ok (.iaload, 1) := by decide +kernel
theorem dL_law_1371 : decode cL_law 1371 = .ok (.invokevirtual 170, 3) := by decide +kernel
theorem dL_law_1374 : decode cL_law 1374 = .ok (.aload_n 2, 1) := by decide +kernel
theorem dL_law_1375 : decode cL_law 1375 = .ok (.aload_n 0, 1) := by decide +kernel
theorem dL_law_1376 : decode cL_law 1376 = .ok (.iload_n 3, 1) := by decide +kernel
theorem dL_law_1377 : decode cL_law 1377 = .ok (.iconst 1, 1) := by decide +kernel
theorem dL_law_1378 : decode cL_law 1378 = .ok (.iadd, 1) := by decide +kernel
theorem dL_law_1379 : decode cL_law 1379 = .ok (.iaload, 1) := by decide +kernel
theorem dL_law_1380 : decode cL_law 1380 = .ok (.invokevirtual 173, 3) := by decide +kernel
theorem dL_law_1383 : decode cL_law 1383 = .ok (.if_icmp .eq 28, 3) := by decide +kernel
theorem dL_law_1386 : decode cL_law 1386 = .ok (.iconst 0, 1) := by decide +kernel
theorem dL_law_1387 : decode cL_law 1387 = .ok (.ireturn, 1) := by decide +kernel
theorem dL_law_1388 : decode cL_law 1388 = .ok (.aload_n 1, 1) := by decide +kernel
theorem dL_law_1389 : decode cL_law 1389 = .ok (.aload_n 0, 1) := by decide +kernel
theorem dL_law_1390 : decode cL_law 1390 = .ok (.iload_n 3, 1) := by decide +kernel
theorem dL_law_1391 : decode cL_law 1391 = .ok (.iconst 1, 1) := by decide +kernel
theorem dL_law_1392 : decode cL_law 1392 = .ok (.iadd, 1) := by decide +kernel
theorem dL_law_1393 : decode cL_law 1393 = .ok (.iaload, 1) := by decide +kernel
theorem dL_law_1394 : decode cL_law 1394 = .ok (.invokevirtual 174, 3) := by decide +kernel
theorem dL_law_1397 : decode cL_law 1397 = .ok (.aload_n 2, 1) := by decide +kernel
theorem dL_law_1398 : decode cL_law 1398 = .ok (.aload_n 0, 1) := by decide +kernel
theorem dL_law_1399 : decode cL_law 1399 = .ok (.iload_n 3, 1) := by decide +kernel
theorem dL_law_1400 : decode cL_law 1400 = .ok (.iconst 1, 1) := by decide +kernel
theorem dL_law_1401 : decode cL_law 1401 = .ok (.iadd, 1) := by decide +kernel
theorem dL_law_1402 : decode cL_law 1402 = .ok (.iaload, 1) := by decide +kernel
theorem dL_law_1403 : decode cL_law 1403 = .ok (.invokevirtual 177, 3) := by decide +kernel
theorem dL_law_1406 : decode cL_law 1406 = .ok (.if_icmp .eq 5, 3) := by decide +kernel
theorem dL_law_1409 : decode cL_law 1409 = .ok (.iconst 0, 1) := by decide +kernel
theorem dL_law_1410 : decode cL_law 1410 = .ok (.ireturn, 1) := by decide +kernel
theorem dL_law_1411 : decode cL_law 1411 = .ok (.iinc 3 6, 3) := by decide +kernel
theorem dL_law_1414 : decode cL_law 1414 = .ok (.goto (-1396), 3) := by decide +kernel
theorem dL_law_1417 : decode cL_law 1417 = .ok (.iconst 1, 1) := by decide +kernel
theorem dL_law_1418 : decode cL_law 1418 = .ok (.ireturn, 1) := by decide +kernel
abbrev vwCl : List vw_C := [(RX0, TX0, 6), (RX1, TX1, 3), (RX2, TX2, 13), (RX3, TX3, 4), (RX4, TX4, 6), (RX5, TX5, 5), (RX6, TX6, 8), (RX7, TX7, 24)]
end
section
/-! the world of this claim: by program -/
def nC : Nat := 113
def layL : List Nat := [6, 2, 8, 1012, 1008, 1050, 3, 1050, 1050, 3, 1050, 1050, 1020, 0, 1003, 0, 1003, 0, 1003, 0, 1003, 0, 1003, 0, 1003, 0, 1003, 0, 1003, 2, 8, 1012, 1008, 1050, 3, 1050, 1050, 3, 1050, 1050, 1020, 0, 1003, 0, 1003, 0, 1003, 0, 1003, 0, 1003, 0, 1003, 0, 1003, 0, 1003, 2, 8, 1012, 1008, 1050, 3, 1050, 1050, 3, 1050, 1050, 1020, 0, 1003, 0, 1003, 0, 1003, 0, 1003, 0, 1003, 0, 1003, 0, 1003, 0, 1003, 9, 4, 3, 1050, 1050, 1000, 5, 1040, 1006, 1, 1040, 1, 1040, 1, 1040, 1, 1040, 7, 1262, 1262, 1262, 1262, 1006, 1004, 1004, 1160, 1040, 1040]
def nfL : List Nat := [6, 3, 13, 4, 6, 5, 8, 24]
def fkL : List (List Nat) := [[0, 0, 0, 0, 0, 3], [0, 0, 3], [3, 0, 4, 5, 0, 0, 0, 6, 0, 7, 10, 13, 0], [0, 3, 0, 4], [3, 1, 0, 1, 0, 0], [3, 0, 0, 0, 0], [3, 31, 59, 0, 87, 88, 93, 95], [3, 4, 5, 6, 0, 0, 7, 0, 0, 0, 0, 0, 0, 0, 0, 8, 9, 10, 11, 12, 0, 0, 0, 0]]
def strL : List (Nat × String) := [(26, ""), (44, "tws"), (46, "abh"), (107, "!("), (109, ")"), (92, "*/%"), (87, "+-"), (82, "<=>"), (77, "&"), (65, "|")]
def lenS : List Nat := [0, 3, 3, 2, 1, 3, 2, 3, 1, 1]
def bytS : List (List Int32) := [[], [116, 119, 115], [97, 98, 104], [33, 40], [41], [42, 47, 37], [43, 45], [60, 61, 62], [38], [124]]
def nestL : List (String × Nat × MethodName × String) := [("SaltClouds$Cloud", 46, (⟨"SaltClouds", "tasteBy", "(II)I"⟩ : MethodName), "SaltClouds"), ("SaltClouds$Sky", 117, (⟨"SaltClouds", "isPlace", "(I)Z"⟩ : MethodName), "SaltClouds"), ("SaltClouds$Sky", 179, (⟨"SaltClouds", "tasteBy", "(II)I"⟩ : MethodName), "SaltClouds"), ("SaltClouds$Voices", 44, (⟨"SaltClouds", "kindAbove", "(I)I"⟩ : MethodName), "SaltClouds")]
/-! THE WORLD: one block of cells from a place on, laid once for all; 'lay k' is the kind of its cell k. What the cells hold of numbers is a memory: cell, place, number. -/
abbrev Mem : Type := Nat → Nat → Int32
def lay (k : Nat) : Nat := layL.getD k 10
def nf (ci : Nat) : Nat := nfL.getD ci 0
/-- 0: a number; 1: a reference told by the memory; n + 2: the reference to the cell n behind -/
def fk (ci j : Nat) : Nat := (fkL.getD ci []).getD j 0
/-- the place of the block; what the tables say of the classes; the classes of the arrays; the String constants, and their bytes -/
abbrev WX : Type := Nat × va_G × (ClassId × ClassId × ClassId) × (Nat → Nat) × (Nat → Nat)
def adr (ω : WX) (x : Int32) : Nat := if x < 0 then ω.2.2.2.1 ((-x).toNatClampNeg - 1) else ω.1 + x.toNatClampNeg
def fv (ω : WX) (h : Mem) (k j : Nat) : Nat → Value
  | 0 => .int (h k j)
  | 1 => .ref (adr ω (h k j))
  | n + 2 => .ref (ω.1 + (k + n))
def flds (ω : WX) (h : Mem) (k ci : Nat) : List Value := (List.range (nf ci)).map fun j => fv ω h k j (fk ci j)
def cont (ω : WX) (h : Mem) (k : Nat) : va_E :=
  if lay k < 8 then .inr (lay k, flds ω h k (lay k))
  else if lay k = 8 then .inl (ω.2.2.1.2.1, 8, .inr (.inr (.inr (.inr (fun i => some (ω.1 + (k + 11 + 2 * i)))))))
  else if lay k = 9 then .inl (ω.2.2.1.2.2, 4, .inr (.inr (.inr (.inr (fun i => some (ω.1 + (k + 9 + 2 * i)))))))
  else .inl (ω.2.2.1.1, lay k - 1000, .inl (h k))
def wsOf (ω : WX) (h : Mem) : va_W := (List.range nC).map fun k => (ω.1 + k, cont ω h k)
def jA (ω : WX) : Nat → Prop := fun q => ω.1 ≤ q
theorem ws_at {ω : WX} {h : Mem} {k : Nat} (hk : k < nC) : (wsOf ω h)[k]? = some (ω.1 + k, cont ω h k) := by
  simp [wsOf, List.getElem?_map, List.getElem?_range, hk]
theorem ws_inv {ω : WX} {h : Mem} {k : Nat} {q : Nat × va_E} (hk : (wsOf ω h)[k]? = some q) : k < nC ∧ q = (ω.1 + k, cont ω h k) := by
  have hl : k < nC := by
    have := (List.getElem?_eq_some_iff.mp hk).1
    simpa [wsOf] using this
  exact ⟨hl, by rw [ws_at hl] at hk; exact (Option.some.inj hk).symm⟩
theorem ws_D (ω : WX) (h : Mem) : va_D (jA ω) (wsOf ω h) := by
  refine ⟨fun i j p q hi hj e => ?_, fun k q hk => ?_⟩
  · obtain ⟨-, rfl⟩ := ws_inv hi
    obtain ⟨-, rfl⟩ := ws_inv hj
    have e' : ω.1 + i = ω.1 + j := e
    omega
  · obtain ⟨-, rfl⟩ := ws_inv hk
    exact Nat.le_add_right _ _
theorem cont_congr {ω : WX} {h h' : Mem} {k : Nat} (e : h' k = h k) : cont ω h' k = cont ω h k := by
  unfold cont flds
  have e2 : ∀ j, fv ω h' k j = fv ω h k j := by
    intro j
    funext n
    match n with
    | 0 => simp [fv, e]
    | 1 => simp [fv, e]
    | n + 2 => simp [fv]
  simp only [e, e2]
theorem ws_set {ω : WX} {h h' : Mem} {k : Nat} (hk : k < nC) (e : ∀ a, a ≠ k → h' a = h a) : (wsOf ω h).set k (ω.1 + k, cont ω h' k) = wsOf ω h' := by
  apply List.ext_getElem?
  intro i
  by_cases hi : i = k
  · subst hi
    rw [List.getElem?_set_self (by simpa [wsOf] using hk), ws_at hk]
  · rw [List.getElem?_set_ne (Ne.symm hi)]
    by_cases hl : i < nC
    · rw [ws_at hl, ws_at hl, cont_congr (e i hi)]
    · simp [wsOf, List.getElem?_map, hl]
def upm (h : Mem) (k j : Nat) (x : Int32) : Mem := fun a b => if a = k ∧ b = j then x else h a b
def rwm (h : Mem) (k : Nat) (f : Nat → Int32) : Mem := fun a => if a = k then f else h a
theorem upm_off {h : Mem} {k j : Nat} {x : Int32} : ∀ a, a ≠ k → upm h k j x a = h a := by
  intro a ha
  funext b
  simp [upm, ha]
theorem rwm_off {h : Mem} {k : Nat} {f : Nat → Int32} : ∀ a, a ≠ k → rwm h k f a = h a := by
  intro a ha
  simp [rwm, ha]
theorem upm_row {h : Mem} {k j : Nat} {x : Int32} : upm h k j x k = upd (h k) j x := by
  funext b
  simp [upm, upd]
theorem rwm_row {h : Mem} {k : Nat} {f : Nat → Int32} : rwm h k f k = f := by simp [rwm]
theorem lay_lt {k t : Nat} (h : lay k = t) (ht : t ≠ 10) : k < nC := by
  rcases Nat.lt_or_ge k nC with q | q
  · exact q
  · exfalso
    apply ht
    rw [← h]
    have hl : layL.length = nC := by decide +kernel
    have hn : layL[k]? = none := List.getElem?_eq_none (by omega)
    simp [lay, List.getD, hn]
theorem cont_obj {ω : WX} {h : Mem} {k ci : Nat} (hk : lay k = ci) (hc : ci < 8) : cont ω h k = .inr (ci, flds ω h k ci) := by
  unfold cont
  rw [hk, if_pos hc]
theorem cont_arr {ω : WX} {h : Mem} {k n : Nat} (hk : lay k = 1000 + n) : cont ω h k = .inl (ω.2.2.1.1, n, .inl (h k)) := by
  unfold cont
  rw [hk, if_neg (by omega), if_neg (by omega), if_neg (by omega), Nat.add_sub_cancel_left]
theorem flds_at {ω : WX} {h : Mem} {k ci j : Nat} (hj : j < nf ci) : (flds ω h k ci)[j]? = some (fv ω h k j (fk ci j)) := by
  simp [flds, List.getElem?_map, List.getElem?_range, hj]
theorem flds_set {ω : WX} {h : Mem} {k ci j : Nat} {x : Int32} (hj : j < nf ci) (hf : fk ci j = 0) : (flds ω h k ci).set j (.int x) = flds ω (upm h k j x) k ci := by
  apply List.ext_getElem?
  intro i
  by_cases hi : i = j
  · subst hi
    rw [List.getElem?_set_self (by simpa [flds] using hj), flds_at hj, hf]
    simp [fv, upm]
  · rw [List.getElem?_set_ne (Ne.symm hi)]
    by_cases hl : i < nf ci
    · rw [flds_at hl, flds_at hl]
      congr 1
      generalize fk ci i = n
      match n with
      | 0 => simp [fv, upm, hi]
      | 1 => simp [fv, upm, hi]
      | n + 2 => simp [fv]
    · simp [flds, List.getElem?_map, hl]
theorem flds_setR {ω : WX} {h : Mem} {k ci j : Nat} {x : Int32} (hj : j < nf ci) (hf : fk ci j = 1) : (flds ω h k ci).set j (.ref (adr ω x)) = flds ω (upm h k j x) k ci := by
  apply List.ext_getElem?
  intro i
  by_cases hi : i = j
  · subst hi
    rw [List.getElem?_set_self (by simpa [flds] using hj), flds_at hj, hf]
    simp [fv, upm]
  · rw [List.getElem?_set_ne (Ne.symm hi)]
    by_cases hl : i < nf ci
    · rw [flds_at hl, flds_at hl]
      congr 1
      generalize fk ci i = n
      match n with
      | 0 => simp [fv, upm, hi]
      | 1 => simp [fv, upm, hi]
      | n + 2 => simp [fv]
    · simp [flds, List.getElem?_map, hl]
/-- the words that stay true: those of the tables that a callee may be told -/
def jw : List Cond := lw_tbl.filter goodWord
theorem jw_at {w : Cond} (i : Nat) (h : lw_tbl[i]? = some w) (hg : goodWord w = true) : w ∈ jw := List.mem_filter.mpr ⟨List.mem_of_getElem? h, hg⟩
theorem jw_good : GoodIn jw jw := fun w h => ⟨h, good_of_word (List.mem_filter.mp h).2⟩
/-- String constants and the outer class's own static methods -/
def SS (ω : WX) (U : State) : Prop :=
  vk_S 10 lenS bytS ω.2.2.2.1 ω.2.2.2.2 (jA ω) U U.heap ∧ (∀ i, i < 10 → vk_R "SaltClouds$TextReader" (strL.getD i (0, "")).1 (strL.getD i (0, "")).2 (ω.2.2.2.1 i) U) ∧ va_Z "java/lang/String" "COMPACT_STRINGS" "Z" (.int 1) (jA ω) U U.heap ∧ ∀ q ∈ nestL, va_Nw (.methodLinkNest q.1 q.2.1 q.2.2.1 q.2.2.2) U
def jT (ω : WX) : List (ClassId × FieldType) := [(ω.2.2.1.1, .int), (ω.2.2.1.2.1, .object RX0), (ω.2.2.1.2.2, .object RX1)]
def InvS (ω : WX) (h : Mem) (U : State) : Prop := va_P ω.2.1 vwCl (wsOf ω h) U.heap ∧ va_K ω.2.1 vwCl (jT ω) U ∧ SS ω U
theorem SS.to {ω : WX} {s U : State} {H : Heap} {locs : List Loc} (h : SS ω s) (hS : va_S (jA ω) s.heap H locs) (hU : U.heap = H) (hW : s.WarmedH U.vm) : SS ω U := by
  obtain ⟨h1, h2, h3, h4⟩ := h
  refine ⟨?_, fun i hi => (h2 i hi).warm hW, ?_, fun q hq => va_Nw.warmM hW (h4 q hq)⟩
  · rw [hU]
    exact (h1.moved hW.alike).kept hS.2.1
  · rw [hU]
    exact (h3.moved hW.alike).kept hS.2.1
/-! THE JUDGEMENT: from here the method comes to its end as the function says -/
abbrev KT : Type := Program × Env × Room × Nat × Nat × State × MethodId × Array Value × List Frame × Method × Code
abbrev kP (χ : KT) : Program := χ.1
abbrev kE (χ : KT) : Env := χ.2.1
abbrev kR (χ : KT) : Room := χ.2.2.1
abbrev kC (χ : KT) : Nat := χ.2.2.2.1
abbrev kN (χ : KT) : Nat := χ.2.2.2.2.1
abbrev kS (χ : KT) : State := χ.2.2.2.2.2.1
abbrev kM (χ : KT) : MethodId := χ.2.2.2.2.2.2.1
abbrev kA (χ : KT) : Array Value := χ.2.2.2.2.2.2.2.1
abbrev kB (χ : KT) : List Frame := χ.2.2.2.2.2.2.2.2.1
abbrev kH (χ : KT) : Method := χ.2.2.2.2.2.2.2.2.2.1
abbrev kD (χ : KT) : Code := χ.2.2.2.2.2.2.2.2.2.2
def rmOf (d : Nat) : Room := { frames := d, cells := 0, slots := 0, locals := 64 * d }
def Kok (ω : WX) (χ : KT) (own : String) (cc : ByteArray) (nL : Nat) (rt : Option FieldType) (d : Nat) : Prop :=
  (kP χ).tables.exec = Jvm.exec ∧ (kD χ).code = cc ∧ (kD χ).maxLocals = nL ∧ (kS χ).vm.findClass own = some (kM χ).cls ∧ (∀ w ∈ jw, w.before (kA χ) (kS χ) = true) ∧
  (kH χ).sig.returnType = rt ∧ (kH χ).locks = false ∧ va_K ω.2.1 vwCl (jT ω) (kS χ) ∧ SS ω (kS χ) ∧ (d ≤ (kR χ).frames ∧ 64 * d ≤ (kR χ).locals) ∧ (kC χ ≤ (kR χ).cells ∧ kN χ ≤ (kR χ).slots)
def QJ (ω : WX) (v : Option Value) (h' : Mem) : Array Value → State → Outcome → State → Prop := fun _ st oc t => oc = .returned v ∧ va_P ω.2.1 vwCl (wsOf ω h') t.heap ∧ va_F (jA ω) st t
def J {ρ : Type} (Z : ρ → Mem → State → Prop) (l : Launch) (ω : WX) (χ : KT) (pc nL : Nat) (lv : List (Nat × Value)) (st : List Value) (h : Mem) (o : Option (ρ × Mem)) : Prop :=
  ∀ (r : ρ) (h' : Mem), o = some (r, h') → ∀ (H : Heap) (locs : List Loc) (ls : Array Slot), va_P ω.2.1 vwCl (wsOf ω h) H → va_S (jA ω) (kS χ).heap H locs → lv_has ls nL lv →
    W (kP χ) l (kE χ) (kR χ) (kS χ) (kM χ) (kA χ) (kB χ) (kH χ) (kD χ) H locs (kC χ) (kN χ) (Z r h') (F0 (kM χ) pc ls st)
/-- a method's end -/
def ZM {ρ : Type} (rv : ρ → Option Value) (ω : WX) (χ : KT) : ρ → Mem → State → Prop := fun r h' => MQ (kB χ) (QJ ω (rv r) h') (kA χ) (kS χ) (kC χ) (kN χ) (jA ω)
def MC {ρ : Type} (rv : ρ → Option Value) (l : Launch) (ω : WX) (y : MethodName) (cc : ByteArray) (nL : Nat) (rt : Option FieldType) (d : Nat) (as : List Value) (h : Mem) (o : Option (ρ × Mem)) : Prop :=
  ∀ (r : ρ) (h' : Mem), o = some (r, h') → Met l y (Cond.code y cc nL rt :: jw) (rmOf d) (va_Pc as (fun U => InvS ω h U)) (QJ ω (rv r) h') 0 0 (jA ω)
def rvI : Int32 → Option Value := fun x => some (.int x)
def rvV : Unit → Option Value := fun _ => none
def rvR (ω : WX) : Nat → Option Value := fun k => some (.ref (ω.1 + k))
/-- the words of the functions: a memory, a number by name; an index in range; a call -/
def seqh {α : Type} (h : Mem) (k : Mem → α) : α := k h
def seqi {α : Type} (x : Int32) (k : Int32 → α) : α := k x
def ix (i : Int32) : Nat := i.toNatClampNeg
def gin {α : Type} (i : Int32) (n : Nat) (o : Option α) : Option α := if i < 0 ∨ n ≤ i.toNatClampNeg then none else o
def gnz {α : Type} (y : Int32) (o : Option α) : Option α := if y = 0 then none else o
def gbo {α : Type} (x : Int32) (o : Option α) : Option α := if x = 0 ∨ x = 1 then o else none
def bnd {ρ σ : Type} (o : Option (ρ × Mem)) (k : ρ → Mem → Option (σ × Mem)) : Option (σ × Mem) := match o with
  | none => none
  | some q => k q.1 q.2
theorem bnd_some {ρ σ : Type} {o : Option (ρ × Mem)} {k : ρ → Mem → Option (σ × Mem)} {z : σ × Mem} (h : bnd o k = some z) : ∃ r h1, o = some (r, h1) ∧ k r h1 = some z := by
  cases o with
  | none => cases h
  | some q => exact ⟨q.1, q.2, rfl, h⟩
theorem MC.of {ρ : Type} {rv : ρ → Option Value} {l : Launch} {ω : WX} {y : MethodName} {cc : ByteArray} {nL : Nat} {rt : Option FieldType} {d : Nat} {as : List Value} {h : Mem} {o : Option (ρ × Mem)} (hy : plainName y.cls = true) (lv : List (Nat × Value)) (hlv : lv_args 0 as = lv) (hn : (lg_sl as).length ≤ nL)
    (body : ∀ χ : KT, Kok ω χ y.cls cc nL rt d → J (ZM rv ω χ) l ω χ 0 nL lv [] h o) : MC rv l ω y cc nL rt d as h o := by
  intro r h' ho
  refine Met.ofW (cc := cc) (maxL := nL) (ret := rt) hy rfl ?_
  intro p e s m args below meth c s₁ B hml hv
  obtain ⟨rfl, hP, hK, hSS⟩ := hv
  have hts := atoms_spec (ws := Cond.code y cc nL rt :: jw) B.pre
  have K : Kok ω (p, e, rmOf d, 0, 0, s, m, as.toArray, below, meth, c) y.cls cc nL rt d := ⟨B.exec, B.bytes, hml, findClass_of_methodNamed B.named, fun w hw => hts w (List.mem_cons_of_mem _ hw), B.returns, B.notSynchronized, hK, hSS, ⟨Nat.le_refl _, Nat.le_refl _⟩, Nat.le_refl _, Nat.le_refl _⟩
  have hl := lv_entry as (n := nL) hn
  rw [lg_entry_eq]
  rw [hlv] at hl
  exact body _ K r h' ho s.heap [] _ hP va_S.rf hl
section JR
variable {ρ : Type} {Z : ρ → Mem → State → Prop} {l : Launch} {ω : WX} {χ : KT} {own : String} {cc : ByteArray} {d pc nL : Nat} {rt : Option FieldType} {lv lv' : List (Nat × Value)} {st : List Value} {h : Mem} {o o1 o2 : Option (ρ × Mem)}
theorem J_iconst (K : Kok ω χ own cc nL rt d) {n : Int} (v : Int32) (hdg : decode cc pc = .ok (.iconst n, 1)) (hv : Int32.ofInt n = v) (kk : J Z l ω χ (pc + 1) nL lv (.int v :: st) h o) : J Z l ω χ pc nL lv st h o := by
  intro r h' ho H locs ls hP hS hl
  exact lv_iconst K.1 K.2.1 hdg hv (kk r h' ho H locs ls hP hS hl)
theorem J_bipush (K : Kok ω χ own cc nL rt d) {n : Int} (v : Int32) (hdg : decode cc pc = .ok (.bipush n, 2)) (hv : (Int8.ofInt n).toInt32 = v) (kk : J Z l ω χ (pc + 2) nL lv (.int v :: st) h o) : J Z l ω χ pc nL lv st h o := by
  intro r h' ho H locs ls hP hS hl
  exact lv_bipush K.1 K.2.1 hdg hv (kk r h' ho H locs ls hP hS hl)
theorem J_sipush (K : Kok ω χ own cc nL rt d) {n : Int} (v : Int32) (hdg : decode cc pc = .ok (.sipush n, 3)) (hv : (Int16.ofInt n).toInt32 = v) (kk : J Z l ω χ (pc + 3) nL lv (.int v :: st) h o) : J Z l ω χ pc nL lv st h o := by
  intro r h' ho H locs ls hP hS hl
  exact lv_sipush K.1 K.2.1 hdg hv (kk r h' ho H locs ls hP hS hl)
theorem J_ldc (K : Kok ω χ own cc nL rt d) {index : Nat} {v : Int32} (hw : Cond.constant own index v ∈ jw) (hdg : decode cc pc = .ok (.ldc index, 2)) (kk : J Z l ω χ (pc + 2) nL lv (.int v :: st) h o) : J Z l ω χ pc nL lv st h o := by
  intro r h' ho H locs ls hP hS hl
  exact lv_ldc K.1 K.2.1 K.2.2.2.1 (K.2.2.2.2.1 _ hw) hdg (kk r h' ho H locs ls hP hS hl)
theorem J_ldcw (K : Kok ω χ own cc nL rt d) {index : Nat} {v : Int32} (hw : Cond.constant own index v ∈ jw) (hdg : decode cc pc = .ok (.ldc_w index, 3)) (kk : J Z l ω χ (pc + 3) nL lv (.int v :: st) h o) : J Z l ω χ pc nL lv st h o := by
  intro r h' ho H locs ls hP hS hl
  exact lv_ldcw K.1 K.2.1 K.2.2.2.1 (K.2.2.2.2.1 _ hw) hdg (kk r h' ho H locs ls hP hS hl)
theorem J_ldc2 (K : Kok ω χ own cc nL rt d) {index : Nat} {v : Int64} (hw : Cond.constantLong own index v ∈ jw) (hdg : decode cc pc = .ok (.ldc2_w index, 3)) (kk : J Z l ω χ (pc + 3) nL lv (.long v :: st) h o) : J Z l ω χ pc nL lv st h o := by
  intro r h' ho H locs ls hP hS hl
  exact lv_ldc2 K.1 K.2.1 K.2.2.2.1 (K.2.2.2.2.1 _ hw) hdg (kk r h' ho H locs ls hP hS hl)
theorem J_iload_n (K : Kok ω χ own cc nL rt d) {k : Fin 4} {x : Int32} (hdg : decode cc pc = .ok (.iload_n k, 1)) (i : Nat) (hi : (k : Nat) = i) (q : Nat) (hq : lv[q]? = some (i, .int x)) (kk : J Z l ω χ (pc + 1) nL lv (.int x :: st) h o) : J Z l ω χ pc nL lv st h o := by
  intro r h' ho H locs ls hP hS hl
  exact lv_iload_n K.1 K.2.1 hdg hi (lv_at hl q hq) (kk r h' ho H locs ls hP hS hl)
theorem J_iload (K : Kok ω χ own cc nL rt d) {i : Nat} {x : Int32} (hdg : decode cc pc = .ok (.iload i, 2)) (q : Nat) (hq : lv[q]? = some (i, .int x)) (kk : J Z l ω χ (pc + 2) nL lv (.int x :: st) h o) : J Z l ω χ pc nL lv st h o := by
  intro r h' ho H locs ls hP hS hl
  exact lv_iload K.1 K.2.1 hdg (lv_at hl q hq) (kk r h' ho H locs ls hP hS hl)
theorem J_lload_n (K : Kok ω χ own cc nL rt d) {k : Fin 4} {x : Int64} (hdg : decode cc pc = .ok (.lload_n k, 1)) (i : Nat) (hi : (k : Nat) = i) (q : Nat) (hq : lv[q]? = some (i, .long x)) (kk : J Z l ω χ (pc + 1) nL lv (.long x :: st) h o) : J Z l ω χ pc nL lv st h o := by
  intro r h' ho H locs ls hP hS hl
  exact lv_lload_n K.1 K.2.1 hdg hi (lv_at hl q hq) (kk r h' ho H locs ls hP hS hl)
theorem J_aload_n (K : Kok ω χ own cc nL rt d) {k : Fin 4} {x : Nat} (hdg : decode cc pc = .ok (.aload_n k, 1)) (i : Nat) (hi : (k : Nat) = i) (q : Nat) (hq : lv[q]? = some (i, .ref x)) (kk : J Z l ω χ (pc + 1) nL lv (.ref x :: st) h o) : J Z l ω χ pc nL lv st h o := by
  intro r h' ho H locs ls hP hS hl
  exact lv_aload_n K.1 K.2.1 hdg hi (lv_at hl q hq) (kk r h' ho H locs ls hP hS hl)
theorem J_aload (K : Kok ω χ own cc nL rt d) {i : Nat} {x : Nat} (hdg : decode cc pc = .ok (.aload i, 2)) (q : Nat) (hq : lv[q]? = some (i, .ref x)) (kk : J Z l ω χ (pc + 2) nL lv (.ref x :: st) h o) : J Z l ω χ pc nL lv st h o := by
  intro r h' ho H locs ls hP hS hl
  exact lv_aload K.1 K.2.1 hdg (lv_at hl q hq) (kk r h' ho H locs ls hP hS hl)
theorem J_istore_n (K : Kok ω χ own cc nL rt d) {k : Fin 4} {x : Int32} (hdg : decode cc pc = .ok (.istore_n k, 1)) (i : Nat) (hi : (k : Nat) = i) (hn : i < nL) (lv' : List (Nat × Value)) (hl' : (i, Value.int x) :: lv.filter (fun q => !(q.1 == i) && !(q.1 + 1 == i && q.2.category == 2)) = lv') (kk : J Z l ω χ (pc + 1) nL lv' st h o) : J Z l ω χ pc nL lv (.int x :: st) h o := by
  intro r h' ho H locs ls hP hS hl
  exact lv_istore_n K.1 K.2.1 hdg hi hl hn hl' (fun ls hl => kk r h' ho H locs ls hP hS hl)
theorem J_istore (K : Kok ω χ own cc nL rt d) {i : Nat} {x : Int32} (hdg : decode cc pc = .ok (.istore i, 2)) (hn : i < nL) (lv' : List (Nat × Value)) (hl' : (i, Value.int x) :: lv.filter (fun q => !(q.1 == i) && !(q.1 + 1 == i && q.2.category == 2)) = lv') (kk : J Z l ω χ (pc + 2) nL lv' st h o) : J Z l ω χ pc nL lv (.int x :: st) h o := by
  intro r h' ho H locs ls hP hS hl
  exact lv_istore K.1 K.2.1 hdg hl hn hl' (fun ls hl => kk r h' ho H locs ls hP hS hl)
theorem J_astore_n (K : Kok ω χ own cc nL rt d) {k : Fin 4} {x : Nat} (hdg : decode cc pc = .ok (.astore_n k, 1)) (i : Nat) (hi : (k : Nat) = i) (hn : i < nL) (lv' : List (Nat × Value)) (hl' : (i, Value.ref x) :: lv.filter (fun q => !(q.1 == i) && !(q.1 + 1 == i && q.2.category == 2)) = lv') (kk : J Z l ω χ (pc + 1) nL lv' st h o) : J Z l ω χ pc nL lv (.ref x :: st) h o := by
  intro r h' ho H locs ls hP hS hl
  exact lv_astore_n K.1 K.2.1 hdg hi hl hn hl' (fun ls hl => kk r h' ho H locs ls hP hS hl)
theorem J_astore (K : Kok ω χ own cc nL rt d) {i : Nat} {x : Nat} (hdg : decode cc pc = .ok (.astore i, 2)) (hn : i < nL) (lv' : List (Nat × Value)) (hl' : (i, Value.ref x) :: lv.filter (fun q => !(q.1 == i) && !(q.1 + 1 == i && q.2.category == 2)) = lv') (kk : J Z l ω χ (pc + 2) nL lv' st h o) : J Z l ω χ pc nL lv (.ref x :: st) h o := by
  intro r h' ho H locs ls hP hS hl
  exact lv_astore K.1 K.2.1 hdg hl hn hl' (fun ls hl => kk r h' ho H locs ls hP hS hl)
theorem J_iinc (K : Kok ω χ own cc nL rt d) {i : Nat} {n : Int} {x : Int32} (v : Int32) (hdg : decode cc pc = .ok (.iinc i n, 3)) (q : Nat) (hq : lv[q]? = some (i, .int x)) (hv : Int32.ofInt n = v) (hn : i < nL) (lv' : List (Nat × Value)) (hl' : (i, Value.int (x + v)) :: lv.filter (fun q => !(q.1 == i) && !(q.1 + 1 == i && q.2.category == 2)) = lv') (kk : J Z l ω χ (pc + 3) nL lv' st h o) : J Z l ω χ pc nL lv st h o := by
  intro r h' ho H locs ls hP hS hl
  exact lv_iinc K.1 K.2.1 hdg hl hq (by rw [hv]) hn hl' (fun ls hl => kk r h' ho H locs ls hP hS hl)
theorem J_goto (K : Kok ω χ own cc nL rt d) {off : Int} (tgt : Nat) (hdg : decode cc pc = .ok (.goto off, 3)) (ht : (pc : Int) + off = (tgt : Int)) (kk : J Z l ω χ tgt nL lv st h o) : J Z l ω χ pc nL lv st h o := by
  intro r h' ho H locs ls hP hS hl
  exact lv_goto K.1 K.2.1 hdg ht (kk r h' ho H locs ls hP hS hl)
theorem J_dup (K : Kok ω χ own cc nL rt d) {va : Value} (hdg : decode cc pc = .ok (.dup, 1)) (hva : va.category = 1) (kk : J Z l ω χ (pc + 1) nL lv (va :: va :: st) h o) : J Z l ω χ pc nL lv (va :: st) h o := by
  intro r h' ho H locs ls hP hS hl
  exact lv_dup K.1 K.2.1 hdg hva (kk r h' ho H locs ls hP hS hl)
theorem J_dup2 (K : Kok ω χ own cc nL rt d) {va vb : Value} (hdg : decode cc pc = .ok (.dup2, 1)) (hva : va.category = 1) (hvb : vb.category = 1) (kk : J Z l ω χ (pc + 1) nL lv (va :: vb :: va :: vb :: st) h o) : J Z l ω χ pc nL lv (va :: vb :: st) h o := by
  intro r h' ho H locs ls hP hS hl
  exact lv_dup2_11 K.1 K.2.1 hdg hva hvb (kk r h' ho H locs ls hP hS hl)
theorem J_pop (K : Kok ω χ own cc nL rt d) {va : Value} (hdg : decode cc pc = .ok (.pop, 1)) (hva : va.category = 1) (kk : J Z l ω χ (pc + 1) nL lv st h o) : J Z l ω χ pc nL lv (va :: st) h o := by
  intro r h' ho H locs ls hP hS hl
  exact lv_pop K.1 K.2.1 hdg hva (kk r h' ho H locs ls hP hS hl)
theorem J_iadd (K : Kok ω χ own cc nL rt d) {x y : Int32} (hdg : decode cc pc = .ok (.iadd, 1)) (kk : J Z l ω χ (pc + 1) nL lv (.int (x + y) :: st) h o) : J Z l ω χ pc nL lv (.int y :: .int x :: st) h o := by
  intro r h' ho H locs ls hP hS hl
  exact lv_iadd K.1 K.2.1 hdg (kk r h' ho H locs ls hP hS hl)
theorem J_isub (K : Kok ω χ own cc nL rt d) {x y : Int32} (hdg : decode cc pc = .ok (.isub, 1)) (kk : J Z l ω χ (pc + 1) nL lv (.int (x - y) :: st) h o) : J Z l ω χ pc nL lv (.int y :: .int x :: st) h o := by
  intro r h' ho H locs ls hP hS hl
  exact lv_isub K.1 K.2.1 hdg (kk r h' ho H locs ls hP hS hl)
theorem J_imul (K : Kok ω χ own cc nL rt d) {x y : Int32} (hdg : decode cc pc = .ok (.imul, 1)) (kk : J Z l ω χ (pc + 1) nL lv (.int (x * y) :: st) h o) : J Z l ω χ pc nL lv (.int y :: .int x :: st) h o := by
  intro r h' ho H locs ls hP hS hl
  exact lv_imul K.1 K.2.1 hdg (kk r h' ho H locs ls hP hS hl)
theorem J_iand (K : Kok ω χ own cc nL rt d) {x y : Int32} (hdg : decode cc pc = .ok (.iand, 1)) (kk : J Z l ω χ (pc + 1) nL lv (.int (x &&& y) :: st) h o) : J Z l ω χ pc nL lv (.int y :: .int x :: st) h o := by
  intro r h' ho H locs ls hP hS hl
  exact lv_iand K.1 K.2.1 hdg (kk r h' ho H locs ls hP hS hl)
theorem J_ior (K : Kok ω χ own cc nL rt d) {x y : Int32} (hdg : decode cc pc = .ok (.ior, 1)) (kk : J Z l ω χ (pc + 1) nL lv (.int (x ||| y) :: st) h o) : J Z l ω χ pc nL lv (.int y :: .int x :: st) h o := by
  intro r h' ho H locs ls hP hS hl
  exact lv_ior K.1 K.2.1 hdg (kk r h' ho H locs ls hP hS hl)
theorem J_ixor (K : Kok ω χ own cc nL rt d) {x y : Int32} (hdg : decode cc pc = .ok (.ixor, 1)) (kk : J Z l ω χ (pc + 1) nL lv (.int (x ^^^ y) :: st) h o) : J Z l ω χ pc nL lv (.int y :: .int x :: st) h o := by
  intro r h' ho H locs ls hP hS hl
  exact lv_ixor K.1 K.2.1 hdg (kk r h' ho H locs ls hP hS hl)
theorem J_ishl (K : Kok ω χ own cc nL rt d) {x y : Int32} (hdg : decode cc pc = .ok (.ishl, 1)) (kk : J Z l ω χ (pc + 1) nL lv (.int (x <<< (y &&& 31)) :: st) h o) : J Z l ω χ pc nL lv (.int y :: .int x :: st) h o := by
  intro r h' ho H locs ls hP hS hl
  exact lv_ishl K.1 K.2.1 hdg (kk r h' ho H locs ls hP hS hl)
theorem J_ishr (K : Kok ω χ own cc nL rt d) {x y : Int32} (hdg : decode cc pc = .ok (.ishr, 1)) (kk : J Z l ω χ (pc + 1) nL lv (.int (x >>> (y &&& 31)) :: st) h o) : J Z l ω χ pc nL lv (.int y :: .int x :: st) h o := by
  intro r h' ho H locs ls hP hS hl
  exact lv_ishr K.1 K.2.1 hdg (kk r h' ho H locs ls hP hS hl)
theorem J_land (K : Kok ω χ own cc nL rt d) {x y : Int64} (hdg : decode cc pc = .ok (.land, 1)) (kk : J Z l ω χ (pc + 1) nL lv (.long (x &&& y) :: st) h o) : J Z l ω χ pc nL lv (.long y :: .long x :: st) h o := by
  intro r h' ho H locs ls hP hS hl
  exact lv_land K.1 K.2.1 hdg (kk r h' ho H locs ls hP hS hl)
theorem J_lor (K : Kok ω χ own cc nL rt d) {x y : Int64} (hdg : decode cc pc = .ok (.lor, 1)) (kk : J Z l ω χ (pc + 1) nL lv (.long (x ||| y) :: st) h o) : J Z l ω χ pc nL lv (.long y :: .long x :: st) h o := by
  intro r h' ho H locs ls hP hS hl
  exact lv_lor K.1 K.2.1 hdg (kk r h' ho H locs ls hP hS hl)
def iush (x y : Int32) : Int32 := (x.toUInt32 >>> (y.toUInt32 &&& Int32.toUInt32 31)).toInt32
def lush (x : Int64) (y : Int32) : Int64 := (x.toUInt64 >>> (y.toInt64.toUInt64 &&& Int64.toUInt64 63)).toInt64
def lshl (x : Int64) (y : Int32) : Int64 := x <<< (y.toInt64 &&& 63)
def lshr (x : Int64) (y : Int32) : Int64 := x >>> (y.toInt64 &&& 63)
def irm (x y : Int32) : Int32 := x - x / y * y
def i2b (x : Int32) : Int32 := x.toInt8.toInt32
def i2s (x : Int32) : Int32 := x.toInt16.toInt32
def i2c (x : Int32) : Int32 := (x.toUInt32 % 65536).toInt32
theorem J_iushr (K : Kok ω χ own cc nL rt d) {x y : Int32} (hdg : decode cc pc = .ok (.iushr, 1)) (kk : J Z l ω χ (pc + 1) nL lv (.int (iush x y) :: st) h o) : J Z l ω χ pc nL lv (.int y :: .int x :: st) h o := by
  intro r h' ho H locs ls hP hS hl
  exact lv_iushr K.1 K.2.1 hdg rfl (kk r h' ho H locs ls hP hS hl)
theorem J_lushr (K : Kok ω χ own cc nL rt d) {x : Int64} {y : Int32} (hdg : decode cc pc = .ok (.lushr, 1)) (kk : J Z l ω χ (pc + 1) nL lv (.long (lush x y) :: st) h o) : J Z l ω χ pc nL lv (.int y :: .long x :: st) h o := by
  intro r h' ho H locs ls hP hS hl
  exact lv_lushr K.1 K.2.1 hdg rfl (kk r h' ho H locs ls hP hS hl)
theorem J_lshl (K : Kok ω χ own cc nL rt d) {x : Int64} {y : Int32} (hdg : decode cc pc = .ok (.lshl, 1)) (kk : J Z l ω χ (pc + 1) nL lv (.long (lshl x y) :: st) h o) : J Z l ω χ pc nL lv (.int y :: .long x :: st) h o := by
  intro r h' ho H locs ls hP hS hl
  exact lv_lshl K.1 K.2.1 hdg rfl (kk r h' ho H locs ls hP hS hl)
theorem J_lshr (K : Kok ω χ own cc nL rt d) {x : Int64} {y : Int32} (hdg : decode cc pc = .ok (.lshr, 1)) (kk : J Z l ω χ (pc + 1) nL lv (.long (lshr x y) :: st) h o) : J Z l ω χ pc nL lv (.int y :: .long x :: st) h o := by
  intro r h' ho H locs ls hP hS hl
  exact lv_lshr K.1 K.2.1 hdg rfl (kk r h' ho H locs ls hP hS hl)
theorem J_i2b (K : Kok ω χ own cc nL rt d) {x : Int32} (hdg : decode cc pc = .ok (.i2b, 1)) (kk : J Z l ω χ (pc + 1) nL lv (.int (i2b x) :: st) h o) : J Z l ω χ pc nL lv (.int x :: st) h o := by
  intro r h' ho H locs ls hP hS hl
  exact lv_i2b K.1 K.2.1 hdg rfl (kk r h' ho H locs ls hP hS hl)
theorem J_i2s (K : Kok ω χ own cc nL rt d) {x : Int32} (hdg : decode cc pc = .ok (.i2s, 1)) (kk : J Z l ω χ (pc + 1) nL lv (.int (i2s x) :: st) h o) : J Z l ω χ pc nL lv (.int x :: st) h o := by
  intro r h' ho H locs ls hP hS hl
  exact lv_i2s K.1 K.2.1 hdg rfl (kk r h' ho H locs ls hP hS hl)
theorem J_i2c (K : Kok ω χ own cc nL rt d) {x : Int32} (hdg : decode cc pc = .ok (.i2c, 1)) (kk : J Z l ω χ (pc + 1) nL lv (.int (i2c x) :: st) h o) : J Z l ω χ pc nL lv (.int x :: st) h o := by
  intro r h' ho H locs ls hP hS hl
  exact lv_i2c K.1 K.2.1 hdg rfl (kk r h' ho H locs ls hP hS hl)
theorem J_i2l (K : Kok ω χ own cc nL rt d) {x : Int32} (hdg : decode cc pc = .ok (.i2l, 1)) (kk : J Z l ω χ (pc + 1) nL lv (.long x.toInt64 :: st) h o) : J Z l ω χ pc nL lv (.int x :: st) h o := by
  intro r h' ho H locs ls hP hS hl
  exact lv_i2l K.1 K.2.1 hdg rfl (kk r h' ho H locs ls hP hS hl)
theorem J_l2i (K : Kok ω χ own cc nL rt d) {x : Int64} (hdg : decode cc pc = .ok (.l2i, 1)) (kk : J Z l ω χ (pc + 1) nL lv (.int x.toInt32 :: st) h o) : J Z l ω χ pc nL lv (.long x :: st) h o := by
  intro r h' ho H locs ls hP hS hl
  exact lv_l2i K.1 K.2.1 hdg rfl (kk r h' ho H locs ls hP hS hl)
theorem J_ineg (K : Kok ω χ own cc nL rt d) {x : Int32} (hdg : decode cc pc = .ok (.ineg, 1)) (kk : J Z l ω χ (pc + 1) nL lv (.int (-x) :: st) h o) : J Z l ω χ pc nL lv (.int x :: st) h o := by
  intro r h' ho H locs ls hP hS hl
  exact lv_ineg K.1 K.2.1 hdg (kk r h' ho H locs ls hP hS hl)
theorem gnz_some {α : Type} {y : Int32} {o : Option α} {z : α} (h : gnz y o = some z) : ¬ y = 0 ∧ o = some z := by
  unfold gnz at h
  split at h
  · cases h
  · exact ⟨by assumption, h⟩
theorem gin_some {α : Type} {i : Int32} {n : Nat} {o : Option α} {z : α} (h : gin i n o = some z) : vp_in i n ∧ o = some z := by
  unfold gin at h
  split at h
  · cases h
  · exact ⟨by assumption, h⟩
theorem gbo_some {α : Type} {x : Int32} {o : Option α} {z : α} (h : gbo x o = some z) : (x = 0 ∨ x = 1) ∧ o = some z := by
  unfold gbo at h
  split at h
  · exact ⟨by assumption, h⟩
  · cases h
theorem J_idiv (K : Kok ω χ own cc nL rt d) {x y : Int32} (hdg : decode cc pc = .ok (.idiv, 1)) (kk : J Z l ω χ (pc + 1) nL lv (.int (x / y) :: st) h o) : J Z l ω χ pc nL lv (.int y :: .int x :: st) h (gnz y o) := by
  intro r h' ho H locs ls hP hS hl
  obtain ⟨hy, ho⟩ := gnz_some ho
  exact lv_idiv K.1 K.2.1 hdg hy (kk r h' ho H locs ls hP hS hl)
theorem J_irem (K : Kok ω χ own cc nL rt d) {x y : Int32} (hdg : decode cc pc = .ok (.irem, 1)) (kk : J Z l ω χ (pc + 1) nL lv (.int (irm x y) :: st) h o) : J Z l ω χ pc nL lv (.int y :: .int x :: st) h (gnz y o) := by
  intro r h' ho H locs ls hP hS hl
  obtain ⟨hy, ho⟩ := gnz_some ho
  exact lv_irem K.1 K.2.1 hdg hy (kk r h' ho H locs ls hP hS hl)
theorem J_if_eq (K : Kok ω χ own cc nL rt d) {x : Int32} {off : Int} (tgt : Nat) (hdg : decode cc pc = .ok (.ifCond .eq off, 3)) (ht : (pc : Int) + off = (tgt : Int)) (k1 : J Z l ω χ tgt nL lv st h o1) (k2 : J Z l ω χ (pc + 3) nL lv st h o2) : J Z l ω χ pc nL lv (.int x :: st) h (if x = 0 then o1 else o2) := by
  intro r h' ho H locs ls hP hS hl
  refine lv_if_eq K.1 K.2.1 hdg ht (fun q => ?_) (fun q => ?_)
  · rw [if_pos q] at ho
    exact k1 r h' ho H locs ls hP hS hl
  · rw [if_neg q] at ho
    exact k2 r h' ho H locs ls hP hS hl
theorem J_if_ne (K : Kok ω χ own cc nL rt d) {x : Int32} {off : Int} (tgt : Nat) (hdg : decode cc pc = .ok (.ifCond .ne off, 3)) (ht : (pc : Int) + off = (tgt : Int)) (k1 : J Z l ω χ (pc + 3) nL lv st h o1) (k2 : J Z l ω χ tgt nL lv st h o2) : J Z l ω χ pc nL lv (.int x :: st) h (if x = 0 then o1 else o2) := by
  intro r h' ho H locs ls hP hS hl
  refine lv_if_ne K.1 K.2.1 hdg ht (fun q => ?_) (fun q => ?_)
  · rw [if_neg q] at ho
    exact k2 r h' ho H locs ls hP hS hl
  · rw [if_pos q] at ho
    exact k1 r h' ho H locs ls hP hS hl
theorem J_if_lt (K : Kok ω χ own cc nL rt d) {x : Int32} {off : Int} (tgt : Nat) (hdg : decode cc pc = .ok (.ifCond .lt off, 3)) (ht : (pc : Int) + off = (tgt : Int)) (k1 : J Z l ω χ tgt nL lv st h o1) (k2 : J Z l ω χ (pc + 3) nL lv st h o2) : J Z l ω χ pc nL lv (.int x :: st) h (if x < 0 then o1 else o2) := by
  intro r h' ho H locs ls hP hS hl
  refine lv_if_lt K.1 K.2.1 hdg ht (fun q => ?_) (fun q => ?_)
  · rw [if_pos q] at ho
    exact k1 r h' ho H locs ls hP hS hl
  · rw [if_neg q] at ho
    exact k2 r h' ho H locs ls hP hS hl
theorem J_if_ge (K : Kok ω χ own cc nL rt d) {x : Int32} {off : Int} (tgt : Nat) (hdg : decode cc pc = .ok (.ifCond .ge off, 3)) (ht : (pc : Int) + off = (tgt : Int)) (k1 : J Z l ω χ tgt nL lv st h o1) (k2 : J Z l ω χ (pc + 3) nL lv st h o2) : J Z l ω χ pc nL lv (.int x :: st) h (if 0 ≤ x then o1 else o2) := by
  intro r h' ho H locs ls hP hS hl
  refine lv_if_ge K.1 K.2.1 hdg ht (fun q => ?_) (fun q => ?_)
  · rw [if_pos q] at ho
    exact k1 r h' ho H locs ls hP hS hl
  · rw [if_neg q] at ho
    exact k2 r h' ho H locs ls hP hS hl
theorem J_if_gt (K : Kok ω χ own cc nL rt d) {x : Int32} {off : Int} (tgt : Nat) (hdg : decode cc pc = .ok (.ifCond .gt off, 3)) (ht : (pc : Int) + off = (tgt : Int)) (k1 : J Z l ω χ tgt nL lv st h o1) (k2 : J Z l ω χ (pc + 3) nL lv st h o2) : J Z l ω χ pc nL lv (.int x :: st) h (if 0 < x then o1 else o2) := by
  intro r h' ho H locs ls hP hS hl
  refine lv_if_gt K.1 K.2.1 hdg ht (fun q => ?_) (fun q => ?_)
  · rw [if_pos q] at ho
    exact k1 r h' ho H locs ls hP hS hl
  · rw [if_neg q] at ho
    exact k2 r h' ho H locs ls hP hS hl
theorem J_if_le (K : Kok ω χ own cc nL rt d) {x : Int32} {off : Int} (tgt : Nat) (hdg : decode cc pc = .ok (.ifCond .le off, 3)) (ht : (pc : Int) + off = (tgt : Int)) (k1 : J Z l ω χ tgt nL lv st h o1) (k2 : J Z l ω χ (pc + 3) nL lv st h o2) : J Z l ω χ pc nL lv (.int x :: st) h (if x ≤ 0 then o1 else o2) := by
  intro r h' ho H locs ls hP hS hl
  refine lv_if_le K.1 K.2.1 hdg ht (fun q => ?_) (fun q => ?_)
  · rw [if_pos q] at ho
    exact k1 r h' ho H locs ls hP hS hl
  · rw [if_neg q] at ho
    exact k2 r h' ho H locs ls hP hS hl
theorem J_icmp_eq (K : Kok ω χ own cc nL rt d) {x y : Int32} {off : Int} (tgt : Nat) (hdg : decode cc pc = .ok (.if_icmp .eq off, 3)) (ht : (pc : Int) + off = (tgt : Int)) (k1 : J Z l ω χ tgt nL lv st h o1) (k2 : J Z l ω χ (pc + 3) nL lv st h o2) : J Z l ω χ pc nL lv (.int y :: .int x :: st) h (if x = y then o1 else o2) := by
  intro r h' ho H locs ls hP hS hl
  refine lv_icmp_eq K.1 K.2.1 hdg ht (fun q => ?_) (fun q => ?_)
  · rw [if_pos q] at ho
    exact k1 r h' ho H locs ls hP hS hl
  · rw [if_neg q] at ho
    exact k2 r h' ho H locs ls hP hS hl
theorem J_icmp_ne (K : Kok ω χ own cc nL rt d) {x y : Int32} {off : Int} (tgt : Nat) (hdg : decode cc pc = .ok (.if_icmp .ne off, 3)) (ht : (pc : Int) + off = (tgt : Int)) (k1 : J Z l ω χ (pc + 3) nL lv st h o1) (k2 : J Z l ω χ tgt nL lv st h o2) : J Z l ω χ pc nL lv (.int y :: .int x :: st) h (if x = y then o1 else o2) := by
  intro r h' ho H locs ls hP hS hl
  refine lv_icmp_ne K.1 K.2.1 hdg ht (fun q => ?_) (fun q => ?_)
  · rw [if_neg q] at ho
    exact k2 r h' ho H locs ls hP hS hl
  · rw [if_pos q] at ho
    exact k1 r h' ho H locs ls hP hS hl
theorem J_icmp_lt (K : Kok ω χ own cc nL rt d) {x y : Int32} {off : Int} (tgt : Nat) (hdg : decode cc pc = .ok (.if_icmp .lt off, 3)) (ht : (pc : Int) + off = (tgt : Int)) (k1 : J Z l ω χ tgt nL lv st h o1) (k2 : J Z l ω χ (pc + 3) nL lv st h o2) : J Z l ω χ pc nL lv (.int y :: .int x :: st) h (if x < y then o1 else o2) := by
  intro r h' ho H locs ls hP hS hl
  refine lv_icmp_lt K.1 K.2.1 hdg ht (fun q => ?_) (fun q => ?_)
  · rw [if_pos q] at ho
    exact k1 r h' ho H locs ls hP hS hl
  · rw [if_neg q] at ho
    exact k2 r h' ho H locs ls hP hS hl
theorem J_icmp_ge (K : Kok ω χ own cc nL rt d) {x y : Int32} {off : Int} (tgt : Nat) (hdg : decode cc pc = .ok (.if_icmp .ge off, 3)) (ht : (pc : Int) + off = (tgt : Int)) (k1 : J Z l ω χ tgt nL lv st h o1) (k2 : J Z l ω χ (pc + 3) nL lv st h o2) : J Z l ω χ pc nL lv (.int y :: .int x :: st) h (if y ≤ x then o1 else o2) := by
  intro r h' ho H locs ls hP hS hl
  refine lv_icmp_ge K.1 K.2.1 hdg ht (fun q => ?_) (fun q => ?_)
  · rw [if_pos q] at ho
    exact k1 r h' ho H locs ls hP hS hl
  · rw [if_neg q] at ho
    exact k2 r h' ho H locs ls hP hS hl
theorem J_icmp_gt (K : Kok ω χ own cc nL rt d) {x y : Int32} {off : Int} (tgt : Nat) (hdg : decode cc pc = .ok (.if_icmp .gt off, 3)) (ht : (pc : Int) + off = (tgt : Int)) (k1 : J Z l ω χ tgt nL lv st h o1) (k2 : J Z l ω χ (pc + 3) nL lv st h o2) : J Z l ω χ pc nL lv (.int y :: .int x :: st) h (if y < x then o1 else o2) := by
  intro r h' ho H locs ls hP hS hl
  refine lv_icmp_gt K.1 K.2.1 hdg ht (fun q => ?_) (fun q => ?_)
  · rw [if_pos q] at ho
    exact k1 r h' ho H locs ls hP hS hl
  · rw [if_neg q] at ho
    exact k2 r h' ho H locs ls hP hS hl
theorem J_icmp_le (K : Kok ω χ own cc nL rt d) {x y : Int32} {off : Int} (tgt : Nat) (hdg : decode cc pc = .ok (.if_icmp .le off, 3)) (ht : (pc : Int) + off = (tgt : Int)) (k1 : J Z l ω χ tgt nL lv st h o1) (k2 : J Z l ω χ (pc + 3) nL lv st h o2) : J Z l ω χ pc nL lv (.int y :: .int x :: st) h (if x ≤ y then o1 else o2) := by
  intro r h' ho H locs ls hP hS hl
  refine lv_icmp_le K.1 K.2.1 hdg ht (fun q => ?_) (fun q => ?_)
  · rw [if_pos q] at ho
    exact k1 r h' ho H locs ls hP hS hl
  · rw [if_neg q] at ho
    exact k2 r h' ho H locs ls hP hS hl
theorem J_ite {c : Prop} [Decidable c] (k1 : c → J Z l ω χ pc nL lv st h o1) (k2 : ¬ c → J Z l ω χ pc nL lv st h o2) : J Z l ω χ pc nL lv st h (if c then o1 else o2) := by
  intro r h' ho
  by_cases q : c
  · rw [if_pos q] at ho
    exact k1 q r h' ho
  · rw [if_neg q] at ho
    exact k2 q r h' ho
theorem J_tableIn (K : Kok ω χ own cc nL rt d) {dflt lo hi : Int} {offs : Array Int} {len : Nat} {x : Int32} {v : Int32} {off : Int} (tgt : Nat) (hx : x = v) (hdg : decode cc pc = .ok (.tableswitch dflt lo hi offs, len)) (h1 : ¬ v.toInt < lo) (h2 : ¬ hi < v.toInt) (hf : offs[(v.toInt - lo).toNat]? = some off) (ht : (pc : Int) + off = (tgt : Int)) (kk : J Z l ω χ tgt nL lv st h o) : J Z l ω χ pc nL lv (.int x :: st) h o := by
  subst hx
  intro r h' ho H locs ls hP hS hl
  exact lv_tableIn K.1 K.2.1 hdg h1 h2 hf ht (kk r h' ho H locs ls hP hS hl)
theorem J_tableOut (K : Kok ω χ own cc nL rt d) {dflt lo hi : Int} {offs : Array Int} {len : Nat} {x : Int32} (tgt : Nat) (hdg : decode cc pc = .ok (.tableswitch dflt lo hi offs, len)) (h1 : x.toInt < lo ∨ hi < x.toInt) (ht : (pc : Int) + dflt = (tgt : Int)) (kk : J Z l ω χ tgt nL lv st h o) : J Z l ω χ pc nL lv (.int x :: st) h o := by
  intro r h' ho H locs ls hP hS hl
  exact lv_tableOut K.1 K.2.1 hdg h1 ht (kk r h' ho H locs ls hP hS hl)
theorem J_lookup (K : Kok ω χ own cc nL rt d) {dflt : Int} {ps : Array (Int × Int)} {len : Nat} {x : Int32} {off : Int} (tgt : Nat) (hdg : decode cc pc = .ok (.lookupswitch dflt ps, len)) (hp : (ps.toList.zip (ps.toList.drop 1)).all (fun (a, next) => a.1 < next.1) = true) (hf : Op.lookupswitch.offset ps.toList dflt x.toInt = off) (ht : (pc : Int) + off = (tgt : Int)) (kk : J Z l ω χ tgt nL lv st h o) : J Z l ω χ pc nL lv (.int x :: st) h o := by
  intro r h' ho H locs ls hP hS hl
  exact lv_lookup K.1 K.2.1 hdg hp hf ht (kk r h' ho H locs ls hP hS hl)
/-- a number on the stack gets a name -/
theorem J_topi {x : Int32} {k : Int32 → Option (ρ × Mem)} (kk : ∀ y : Int32, J Z l ω χ pc nL lv (.int y :: st) h (k y)) : J Z l ω χ pc nL lv (.int x :: st) h (seqi x k) := kk x
theorem J_mono (e : o = o1) (kk : J Z l ω χ pc nL lv st h o1) : J Z l ω χ pc nL lv st h o := e ▸ kk
/-- what is known of a field's instruction -/
def GF (own : String) (index ci j : Nat) (ty : FieldType) (fin : Bool) : Prop := ∃ (q : vw_C) (ty0 : Nat → FieldType), vwCl[ci]? = some q ∧ j < q.2.2 ∧ nf ci = q.2.2 ∧ ci < 8 ∧ Cond.fieldLink own index (q.2.1 j).1 (q.2.1 j).2.1 (q.2.1 j).2.2.1 ∈ jw ∧
  (∀ w ∈ u_ws q.1 q.2.1 q.2.2, w ∈ jw) ∧ (∀ k, k < q.2.2 → parseFieldDescriptor (q.2.1 k).2.2.1 = some (ty0 k)) ∧ (∀ a, a < q.2.2 → ∀ b, b < q.2.2 → a ≠ b → (q.2.1 a).2.1 ≠ (q.2.1 b).2.1) ∧ ty0 j = ty ∧ (q.2.1 j).2.2.2 = fin
theorem J_get (K : Kok ω χ own cc nL rt d) {index ci j k : Nat} {ty : FieldType} {fin : Bool} (g : GF own index ci j ty fin) (hk : lay k = ci) {v : Value} (hv : fv ω h k j (fk ci j) = v) (hdg : decode cc pc = .ok (.getfield index, 3)) (kk : J Z l ω χ (pc + 3) nL lv (v :: st) h o) : J Z l ω χ pc nL lv (.ref (ω.1 + k) :: st) h o := by
  intro r h' ho H locs ls hP hS hl
  obtain ⟨⟨C, T, N⟩, ty0, g1, g2, g3, g4, g5, g6, g7, g8, g9, g10⟩ := g
  have hkn : k < nC := lay_lt hk (by omega)
  have he := ws_at (ω := ω) (h := h) hkn
  rw [cont_obj hk g4] at he
  exact va_get K.1 K.2.1 K.2.2.2.2.1 g6 K.2.2.2.1 K.2.2.2.2.2.2.2.1 hP k he g1 j g2 (K.2.2.2.2.1 _ g5) (fun _ q => q) (v := v) (by rw [flds_at (by rw [g3]; exact g2), hv]) hdg (kk r h' ho H locs ls hP hS hl)
theorem J_getI (K : Kok ω χ own cc nL rt d) {index ci j k : Nat} {ty : FieldType} {fin : Bool} (g : GF own index ci j ty fin) (hk : lay k = ci) (hf : fk ci j = 0) (hdg : decode cc pc = .ok (.getfield index, 3)) (kk : J Z l ω χ (pc + 3) nL lv (.int (h k j) :: st) h o) : J Z l ω χ pc nL lv (.ref (ω.1 + k) :: st) h o := J_get K g hk (by rw [hf]; rfl) hdg kk
theorem J_getR (K : Kok ω χ own cc nL rt d) {index ci j k : Nat} {ty : FieldType} {fin : Bool} (g : GF own index ci j ty fin) (hk : lay k = ci) (n : Nat) (hf : fk ci j = n + 2) (hdg : decode cc pc = .ok (.getfield index, 3)) (kk : J Z l ω χ (pc + 3) nL lv (.ref (ω.1 + (k + n)) :: st) h o) : J Z l ω χ pc nL lv (.ref (ω.1 + k) :: st) h o := J_get K g hk (by rw [hf]; rfl) hdg kk
/-- a reference of the memory to an array of numbers; to a String constant -/
def gar {α : Type} (x : Int32) (o : Nat → Option α) : Option α := if 0 ≤ x ∧ 1000 ≤ lay x.toNatClampNeg then o x.toNatClampNeg else none
def gst {α : Type} (x : Int32) (o : Nat → Option α) : Option α := if x < 0 ∧ (-x).toNatClampNeg - 1 < 10 then o ((-x).toNatClampNeg - 1) else none
theorem J_getA (K : Kok ω χ own cc nL rt d) {index ci j k : Nat} {ty : FieldType} {fin : Bool} (g : GF own index ci j ty fin) (hk : lay k = ci) (hf : fk ci j = 1) (hdg : decode cc pc = .ok (.getfield index, 3)) {k9 : Nat → Option (ρ × Mem)} (kk : ∀ a n : Nat, lay a = 1000 + n → n = lay a - 1000 → J Z l ω χ (pc + 3) nL lv (.ref (ω.1 + a) :: st) h (k9 a)) : J Z l ω χ pc nL lv (.ref (ω.1 + k) :: st) h (gar (h k j) k9) := by
  intro r h' ho
  unfold gar at ho
  split at ho
  · rename_i q
    have e : fv ω h k j (fk ci j) = .ref (ω.1 + (h k j).toNatClampNeg) := by
      rw [hf]
      simp only [fv, adr]
      rw [if_neg (Int32.not_lt.mpr q.1)]
    exact J_get K g hk e hdg (kk _ (lay (h k j).toNatClampNeg - 1000) (by omega) rfl) r h' ho
  · cases ho
theorem J_getS (K : Kok ω χ own cc nL rt d) {index ci j k : Nat} {ty : FieldType} {fin : Bool} (g : GF own index ci j ty fin) (hk : lay k = ci) (hf : fk ci j = 1) (hdg : decode cc pc = .ok (.getfield index, 3)) {k9 : Nat → Option (ρ × Mem)} (kk : ∀ a : Nat, a < 10 → J Z l ω χ (pc + 3) nL lv (.ref (ω.2.2.2.1 a) :: st) h (k9 a)) : J Z l ω χ pc nL lv (.ref (ω.1 + k) :: st) h (gst (h k j) k9) := by
  intro r h' ho
  unfold gst at ho
  split at ho
  · rename_i q
    have e : fv ω h k j (fk ci j) = .ref (ω.2.2.2.1 ((-(h k j)).toNatClampNeg - 1)) := by
      rw [hf]
      simp only [fv, adr]
      rw [if_pos q.1]
    exact J_get K g hk e hdg (kk _ q.2) r h' ho
  · cases ho
theorem J_put (K : Kok ω χ own cc nL rt d) {index ci j k : Nat} {ty : FieldType} (g : GF own index ci j ty false) (hk : lay k = ci) {v : Value} {h1 : Mem} (hfs : (flds ω h k ci).set j v = flds ω h1 k ci) (h1o : ∀ a, a ≠ k → h1 a = h a) (hn : narrow ty v = v) (hfit : fits ty v = true) (hdg : decode cc pc = .ok (.putfield index, 3)) (kk : J Z l ω χ (pc + 3) nL lv st h1 o) : J Z l ω χ pc nL lv (v :: .ref (ω.1 + k) :: st) h o := by
  intro r h' ho H locs ls hP hS hl
  obtain ⟨⟨C, T, N⟩, ty0, g1, g2, g3, g4, g5, g6, g7, g8, g9, g10⟩ := g
  have hkn : k < nC := lay_lt hk (by omega)
  have he := ws_at (ω := ω) (h := h) hkn
  rw [cont_obj hk g4] at he
  refine va_put K.1 K.2.1 K.2.2.2.2.1 g6 ty0 g7 g8 K.2.2.2.1 K.2.2.2.2.2.2.2.1 hP (ws_D ω h) hS k he g1 j g2 (K.2.2.2.2.1 _ g5) (fun _ q => q) g10 (ty := ty) (by rw [g7 j g2, g9]) hn hfit (by simpa [flds, g3] using g2) hdg (fun H1 locs1 hP1 hD1 hS1 => ?_)
  rw [hfs, ← cont_obj hk g4, ws_set hkn h1o] at hP1
  exact kk r h' ho H1 locs1 ls hP1 hS1 hl
theorem J_putI (K : Kok ω χ own cc nL rt d) {index ci j k : Nat} {x : Int32} (g : GF own index ci j .int false) (hk : lay k = ci) (hj : j < nf ci) (hf : fk ci j = 0) (hdg : decode cc pc = .ok (.putfield index, 3)) {k9 : Mem → Option (ρ × Mem)} (kk : ∀ h1 : Mem, J Z l ω χ (pc + 3) nL lv st h1 (k9 h1)) : J Z l ω χ pc nL lv (.int x :: .ref (ω.1 + k) :: st) h (seqh (upm h k j x) k9) :=
  J_put K g hk (flds_set hj hf) upm_off rfl rfl hdg (kk _)
theorem J_putZ (K : Kok ω χ own cc nL rt d) {index ci j k : Nat} {x : Int32} (g : GF own index ci j .boolean false) (hk : lay k = ci) (hj : j < nf ci) (hf : fk ci j = 0) (hdg : decode cc pc = .ok (.putfield index, 3)) {k9 : Mem → Option (ρ × Mem)} (kk : ∀ h1 : Mem, J Z l ω χ (pc + 3) nL lv st h1 (k9 h1)) : J Z l ω χ pc nL lv (.int x :: .ref (ω.1 + k) :: st) h (gbo x (seqh (upm h k j x) k9)) := by
  intro r h' ho
  obtain ⟨hx, ho⟩ := gbo_some ho
  have hn : narrow .boolean (.int x) = .int x ∧ fits .boolean (.int x) = true := by
    rcases hx with rfl | rfl
    · exact ⟨rfl, rfl⟩
    · exact ⟨rfl, rfl⟩
  exact J_put K g hk (flds_set hj hf) upm_off hn.1 hn.2 hdg (kk _) r h' ho
theorem J_putA (K : Kok ω χ own cc nL rt d) {index ci j k a : Nat} {ty : FieldType} {x : Int32} (g : GF own index ci j (.array ty) false) (hk : lay k = ci) (hj : j < nf ci) (hf : fk ci j = 1) (ha : a < nC) (hdg : decode cc pc = .ok (.putfield index, 3)) {k9 : Mem → Option (ρ × Mem)} (kk : ∀ h1 : Mem, J Z l ω χ (pc + 3) nL lv st h1 (k9 h1)) : J Z l ω χ pc nL lv (.ref (ω.1 + a) :: .ref (ω.1 + k) :: st) h (seqh (upm h k j (nI a)) k9) := by
  have hnc : nC < 1000 := by decide
  have e : adr ω (nI a) = ω.1 + a := by
    have h1 : ¬ nI a < 0 := nI_pos (by omega)
    simp only [adr]
    rw [if_neg h1, nI_clamp (by omega)]
  exact J_put K g hk (by rw [← e]; exact flds_setR hj hf) upm_off rfl rfl hdg (kk _)
theorem J_putS (K : Kok ω χ own cc nL rt d) {index ci j k a : Nat} {n : String} {x : Int32} (g : GF own index ci j (.object n) false) (hk : lay k = ci) (hj : j < nf ci) (hf : fk ci j = 1) (ha : a < 10) (hdg : decode cc pc = .ok (.putfield index, 3)) {k9 : Mem → Option (ρ × Mem)} (kk : ∀ h1 : Mem, J Z l ω χ (pc + 3) nL lv st h1 (k9 h1)) : J Z l ω χ pc nL lv (.ref (ω.2.2.2.1 a) :: .ref (ω.1 + k) :: st) h (seqh (upm h k j (-(nI (a + 1)))) k9) := by
  have e : adr ω (-(nI (a + 1))) = ω.2.2.2.1 a := by
    have hd : ∀ z, z < 10 → -(nI (z + 1)) < 0 ∧ (-(-(nI (z + 1)))).toNatClampNeg - 1 = z := by decide +kernel
    obtain ⟨h1, h2⟩ := hd a ha
    simp only [adr]
    rw [if_pos h1, h2]
  exact J_put K g hk (by rw [← e]; exact flds_setR hj hf) upm_off rfl rfl hdg (kk _)
theorem J_iald (K : Kok ω χ own cc nL rt d) {a n : Nat} (ha : lay a = 1000 + n) {i : Int32} (hdg : decode cc pc = .ok (.iaload, 1)) (kk : J Z l ω χ (pc + 1) nL lv (.int (h a (ix i)) :: st) h o) : J Z l ω χ pc nL lv (.int i :: .ref (ω.1 + a) :: st) h (gin i n o) := by
  intro r h' ho H locs ls hP hS hl
  obtain ⟨hin, ho⟩ := gin_some ho
  have he := ws_at (ω := ω) (h := h) (lay_lt ha (by omega))
  rw [cont_arr ha] at he
  exact va_iald K.1 K.2.1 K.2.2.2.2.2.2.2.1 hP a 0 he rfl hin hdg (kk r h' ho H locs ls hP hS hl)
theorem J_iast (K : Kok ω χ own cc nL rt d) {a n : Nat} (ha : lay a = 1000 + n) {i x : Int32} (hdg : decode cc pc = .ok (.iastore, 1)) {k9 : Mem → Option (ρ × Mem)} (kk : ∀ h1 : Mem, J Z l ω χ (pc + 1) nL lv st h1 (k9 h1)) : J Z l ω χ pc nL lv (.int x :: .int i :: .ref (ω.1 + a) :: st) h (gin i n (seqh (upm h a (ix i) x) k9)) := by
  intro r h' ho H locs ls hP hS hl
  obtain ⟨hin, ho⟩ := gin_some ho
  have hkn : a < nC := lay_lt ha (by omega)
  have he := ws_at (ω := ω) (h := h) hkn
  rw [cont_arr ha] at he
  refine va_iast K.1 K.2.1 K.2.2.2.2.2.2.2.1 hP (ws_D ω h) hS a 0 he rfl hin hdg (fun H1 locs1 hP1 hD1 hS1 => ?_)
  have e : cont ω (upm h a (ix i) x) a = .inl (ω.2.2.1.1, n, .inl (upd (h a) i.toNatClampNeg x)) := by rw [cont_arr ha, upm_row]; rfl
  rw [← e, ws_set hkn upm_off] at hP1
  exact kk _ r h' ho H1 locs1 ls hP1 hS1 hl
theorem J_alen (K : Kok ω χ own cc nL rt d) {a n : Nat} (ha : lay a = 1000 + n) (hdg : decode cc pc = .ok (.arraylength, 1)) (kk : J Z l ω χ (pc + 1) nL lv (.int (nI n) :: st) h o) : J Z l ω χ pc nL lv (.ref (ω.1 + a) :: st) h o := by
  intro r h' ho H locs ls hP hS hl
  have he := ws_at (ω := ω) (h := h) (lay_lt ha (by omega))
  rw [cont_arr ha] at he
  exact va_alen K.1 K.2.1 K.2.2.2.2.2.2.2.1 hP a 0 he rfl rfl hdg (kk r h' ho H locs ls hP hS hl)
theorem J_aldC (K : Kok ω χ own cc nL rt d) {a : Nat} (ha : lay a = 8) {i : Int32} (hdg : decode cc pc = .ok (.aaload, 1)) (kk : ix i < 8 → J Z l ω χ (pc + 1) nL lv (.ref (ω.1 + (a + 11 + 2 * ix i)) :: st) h o) : J Z l ω χ pc nL lv (.int i :: .ref (ω.1 + a) :: st) h (gin i 8 o) := by
  intro r h' ho H locs ls hP hS hl
  obtain ⟨hin, ho⟩ := gin_some ho
  have he := ws_at (ω := ω) (h := h) (lay_lt ha (by omega))
  have hc : cont ω h a = .inl (ω.2.2.1.2.1, 8, .inr (.inr (.inr (.inr (fun i => some (ω.1 + (a + 11 + 2 * i))))))) := by
    unfold cont
    rw [ha, if_neg (by omega), if_pos rfl]
  rw [hc] at he
  have hlt : ix i < 8 := Nat.not_le.mp fun q => hin (Or.inr q)
  exact va_aldq K.1 K.2.1 K.2.2.2.2.2.2.2.1 hP a 1 he rfl hin hdg (kk hlt r h' ho H locs ls hP hS hl)
theorem J_aldS (K : Kok ω χ own cc nL rt d) {a : Nat} (ha : lay a = 9) {i : Int32} (hdg : decode cc pc = .ok (.aaload, 1)) (kk : ix i < 4 → J Z l ω χ (pc + 1) nL lv (.ref (ω.1 + (a + 9 + 2 * ix i)) :: st) h o) : J Z l ω χ pc nL lv (.int i :: .ref (ω.1 + a) :: st) h (gin i 4 o) := by
  intro r h' ho H locs ls hP hS hl
  obtain ⟨hin, ho⟩ := gin_some ho
  have he := ws_at (ω := ω) (h := h) (lay_lt ha (by omega))
  have hc : cont ω h a = .inl (ω.2.2.1.2.2, 4, .inr (.inr (.inr (.inr (fun i => some (ω.1 + (a + 9 + 2 * i))))))) := by
    unfold cont
    rw [ha, if_neg (by omega), if_neg (by omega), if_pos rfl]
  rw [hc] at he
  have hlt : ix i < 4 := Nat.not_le.mp fun q => hin (Or.inr q)
  exact va_aldq K.1 K.2.1 K.2.2.2.2.2.2.2.1 hP a 2 he rfl hin hdg (kk hlt r h' ho H locs ls hP hS hl)
theorem J_alenC (K : Kok ω χ own cc nL rt d) {a : Nat} (ha : lay a = 8) (hdg : decode cc pc = .ok (.arraylength, 1)) (kk : J Z l ω χ (pc + 1) nL lv (.int 8 :: st) h o) : J Z l ω χ pc nL lv (.ref (ω.1 + a) :: st) h o := by
  intro r h' ho H locs ls hP hS hl
  have he := ws_at (ω := ω) (h := h) (lay_lt ha (by omega))
  have hc : cont ω h a = .inl (ω.2.2.1.2.1, 8, .inr (.inr (.inr (.inr (fun i => some (ω.1 + (a + 11 + 2 * i))))))) := by
    unfold cont
    rw [ha, if_neg (by omega), if_pos rfl]
  rw [hc] at he
  exact va_alen K.1 K.2.1 K.2.2.2.2.2.2.2.1 hP a 1 he rfl rfl hdg (kk r h' ho H locs ls hP hS hl)
theorem J_alenS (K : Kok ω χ own cc nL rt d) {a : Nat} (ha : lay a = 9) (hdg : decode cc pc = .ok (.arraylength, 1)) (kk : J Z l ω χ (pc + 1) nL lv (.int 4 :: st) h o) : J Z l ω χ pc nL lv (.ref (ω.1 + a) :: st) h o := by
  intro r h' ho H locs ls hP hS hl
  have he := ws_at (ω := ω) (h := h) (lay_lt ha (by omega))
  have hc : cont ω h a = .inl (ω.2.2.1.2.2, 4, .inr (.inr (.inr (.inr (fun i => some (ω.1 + (a + 9 + 2 * i))))))) := by
    unfold cont
    rw [ha, if_neg (by omega), if_neg (by omega), if_pos rfl]
  rw [hc] at he
  exact va_alen K.1 K.2.1 K.2.2.2.2.2.2.2.1 hP a 2 he rfl rfl hdg (kk r h' ho H locs ls hP hS hl)
theorem J_lv (ks : List Nat) (lv' : List (Nat × Value)) (e : lv_pick lv ks = lv') (kk : J Z l ω χ pc nL lv' st h o) : J Z l ω χ pc nL lv st h o := by
  intro r h' ho H locs ls hP hS hl
  exact kk r h' ho H locs ls hP hS (lv_sub hl ks e)
theorem J_none (e : o = none) : J Z l ω χ pc nL lv st h o := by
  intro r h' ho
  rw [e] at ho
  cases ho
/-- a place where ways meet again -/
def jn {α β : Type} (k : β) (f : β → α) : α := f k
theorem J_jn {β : Type} (P : β → Prop) {k : β} {f : β → Option (ρ × Mem)} (hk : P k) (hf : ∀ j, P j → J Z l ω χ pc nL lv st h (f j)) : J Z l ω χ pc nL lv st h (jn k f) := hf k hk
end JR
section JRI
variable {l : Launch} {ω : WX} {χ : KT} {own : String} {cc : ByteArray} {d pc nL : Nat} {rt : Option FieldType} {lv lv' : List (Nat × Value)} {st : List Value} {h : Mem}
theorem J_iret (K : Kok ω χ own cc nL (some .int) d) {x : Int32} (hdg : decode cc pc = .ok (.ireturn, 1)) : J (ZM rvI ω χ) l ω χ pc nL lv [.int x] h (some (x, h)) := by
  intro r h' ho H locs ls hP hS hl
  cases ho
  exact W.iret (v := x) K.1 K.2.1 K.2.2.2.2.2.1 (fun t ht hW => ⟨rfl, by rw [ht]; exact hP, hS.F ht⟩) hS.2.2 hdg (hlocks := K.2.2.2.2.2.2.1)
theorem J_zret (K : Kok ω χ own cc nL (some .boolean) d) {x : Int32} (hdg : decode cc pc = .ok (.ireturn, 1)) : J (ZM rvI ω χ) l ω χ pc nL lv [.int x] h (gbo x (some (x, h))) := by
  intro r h' ho H locs ls hP hS hl
  obtain ⟨hx, ho⟩ := gbo_some ho
  cases ho
  have hn : narrow .boolean (.int x) = .int x := by
    rcases hx with rfl | rfl <;> rfl
  exact W.zret (v := x) K.1 K.2.1 K.2.2.2.2.2.1 hn (fun t ht hW => ⟨rfl, by rw [ht]; exact hP, hS.F ht⟩) hS.2.2 hdg (hlocks := K.2.2.2.2.2.2.1)
theorem J_vret (K : Kok ω χ own cc nL none d) (hdg : decode cc pc = .ok (.return_, 1)) : J (ZM rvV ω χ) l ω χ pc nL lv [] h (some ((), h)) := by
  intro r h' ho H locs ls hP hS hl
  cases ho
  exact W.vret K.1 K.2.1 K.2.2.2.2.2.1 (fun t ht hW => ⟨rfl, by rw [ht]; exact hP, hS.F ht⟩) hS.2.2 hdg (hlocks := K.2.2.2.2.2.2.1)
theorem J_aret {rt9 : FieldType} (K : Kok ω χ own cc nL (some rt9) d) {k : Nat} (hr : (∃ n, rt9 = .object n) ∨ ∃ t, rt9 = .array t) (hdg : decode cc pc = .ok (.areturn, 1)) : J (ZM (rvR ω) ω χ) l ω χ pc nL lv [.ref (ω.1 + k)] h (some (k, h)) := by
  intro r h' ho H locs ls hP hS hl
  cases ho
  exact W.aret (v := .ref (ω.1 + k)) K.1 K.2.1 K.2.2.2.2.2.1 hr (Or.inr ⟨_, rfl⟩) (fun t ht hW => ⟨rfl, by rw [ht]; exact hP, hS.F ht⟩) hS.2.2 hdg (hlocks := K.2.2.2.2.2.2.1)
end JRI
/-! CALLS -/
def okY (y : MethodName) (n : Nat) : Prop := y.cls ≠ "java/lang/invoke/MethodHandle" ∧ y.cls ≠ "java/lang/invoke/VarHandle" ∧ (parseMethodDescriptor y.desc).map (fun d => d.parameters.length) = some n
def VS (own : String) (index : Nat) (y : MethodName) (cc : ByteArray) (nL : Nat) (rt : Option FieldType) (n ci : Nat) : Prop :=
  Cond.methodLink own index y ∈ jw ∧ Cond.instanceMethod y ∈ jw ∧ Cond.selects y.cls y y ∈ jw ∧ Cond.initialized y.cls ∈ jw ∧ Cond.code y cc nL rt ∈ jw ∧ okY y n ∧ nL ≤ 40 ∧ ci < 8 ∧ ∃ T N, vwCl[ci]? = some (y.cls, T, N)
def TS (own : String) (index : Nat) (y : MethodName) (cc : ByteArray) (nL : Nat) (rt : Option FieldType) (n : Nat) : Prop :=
  Cond.methodLink own index y ∈ jw ∧ Cond.static y ∈ jw ∧ Cond.initialized y.cls ∈ jw ∧ Cond.code y cc nL rt ∈ jw ∧ okY y n ∧ nL ≤ 40
def NS (own : String) (index : Nat) (y : MethodName) (cc : ByteArray) (nL : Nat) (rt : Option FieldType) (n : Nat) : Prop :=
  (∃ host, (own, index, y, host) ∈ nestL) ∧ Cond.static y ∈ jw ∧ Cond.initialized y.cls ∈ jw ∧ Cond.code y cc nL rt ∈ jw ∧ okY y n ∧ nL ≤ 40
theorem jw_code {y : MethodName} {cc : ByteArray} {nL : Nat} {rt : Option FieldType} (h : Cond.code y cc nL rt ∈ jw) : GoodIn jw (Cond.code y cc nL rt :: jw) := fun w hw => by
  rcases List.mem_cons.mp hw with rfl | hw
  · exact jw_good _ h
  · exact jw_good _ hw
theorem InvS.blind (ω : WX) (as : List Value) (h : Mem) : FrameBlind (va_Pc as (fun U => InvS ω h U)) := by
  intro a U g mk q
  obtain ⟨q0, qP, qK, q1, q2, q3, q4⟩ := q
  exact ⟨q0, qP, va_K.moved (u := U) (U := U.calling g mk a) (Vm.Alike.refl U.vm) qK, q1.moved (U := U.calling g mk a) (Vm.Alike.refl U.vm), fun i hi => (q2 i hi).same (U := U.calling g mk a) rfl, q3.moved (U := U.calling g mk a) (Vm.Alike.refl U.vm), fun z hz => (q4 z hz).same (U := U.calling g mk a) rfl rfl⟩
section JC
variable {ρ σ : Type} {Z : ρ → Mem → State → Prop} {rv1 : σ → Option Value} {l : Launch} {ω : WX} {χ : KT} {own : String} {cc : ByteArray} {d pc nL : Nat} {rt : Option FieldType} {lv lv' : List (Nat × Value)} {st : List Value} {h : Mem}
/-- behind a call -/
theorem J_behind {H : Heap} {locs : List Loc} {ls : Array Slot} {r : ρ} {h' h1 : Mem} {r1 : σ} {st0 rest : List Value} {a : Array Value} {o : Option (ρ × Mem)} (hS : va_S (jA ω) (kS χ).heap H locs) (hl : lv_has ls nL lv)
    (hr : va_Run (kP χ) l (kE χ) (kR χ) (kS χ) (kM χ) (kA χ) (kB χ) (kH χ) (kD χ) H locs (kC χ) (kN χ) 0 0 (F0 (kM χ) pc ls st0) rest (QJ ω (rv1 r1) h1 a) (jA ω))
    (kk : J Z l ω χ (pc + 3) nL lv ((rv1 r1).toList ++ rest) h1 o) (ho : o = some (r, h')) :
    W (kP χ) l (kE χ) (kR χ) (kS χ) (kM χ) (kA χ) (kB χ) (kH χ) (kD χ) H locs (kC χ) (kN χ) (Z r h') (F0 (kM χ) pc ls st0) := by
  intro T hT X
  obtain ⟨v, st₀, t, T', L, h0, X', hL, e1, e2, ⟨hv, hPt, hz, hk⟩, stp⟩ := hr T hT X
  cases hv
  rw [h0] at hz hk
  obtain ⟨t2, a1, b1⟩ := kk r h' ho T'.heap (locs ++ L) ls (by rw [e1]; exact hPt)
    ⟨Nat.le_trans hS.1 (by rw [e1]; exact hz), fun q h1 h2 => by rw [e1, hk q (Nat.lt_of_lt_of_le h1 hS.1) h2]; exact hS.2.1 q h1 h2, fun q hq => by
      rcases List.mem_append.mp hq with h | h
      · exact hS.2.2 q h
      · exact hL q h⟩ hl T' rfl X'
  exact ⟨t2, stp t2 a1, b1⟩
theorem jroom {R : Room} {d d1 : Nat} {nL1 : Nat} (hR : d ≤ R.frames ∧ 64 * d ≤ R.locals) (hd : d1 + 1 ≤ d) (hn : nL1 ≤ 40) : (rmOf d1).frames + 1 ≤ R.frames ∧ 8 + (nL1 + 11) + (rmOf d1).locals ≤ R.locals := by
  refine ⟨Nat.le_trans hd hR.1, ?_⟩
  show 8 + (nL1 + 11) + 64 * d1 ≤ R.locals
  omega
theorem J_callV (K : Kok ω χ own cc nL rt d) {index n ci nL1 d1 k : Nat} {y : MethodName} {cc1 : ByteArray} {rt1 : Option FieldType} {As rest st0 : List Value} {o1 : Option (σ × Mem)} (hV : VS own index y cc1 nL1 rt1 n ci) (hM : MC rv1 l ω y cc1 nL1 rt1 d1 (.ref (ω.1 + k) :: As) h o1) (hk : lay k = ci) (hd : d1 + 1 ≤ d) (hst : st0 = As.reverse ++ .ref (ω.1 + k) :: rest) (hn : As.length = n) (hc : (rest.map fun v => v.category).sum ≤ 8) (hdg : decode cc pc = .ok (.invokevirtual index, 3)) {k9 : σ → Mem → Option (ρ × Mem)}
    (kk : ∀ (r : σ) (h1 : Mem), J Z l ω χ (pc + 3) nL lv ((rv1 r).toList ++ rest) h1 (k9 r h1)) : J Z l ω χ pc nL lv st0 h (bnd o1 k9) := by
  intro r h' ho H locs ls hP hS hl
  obtain ⟨r1, h1, ho1, ho2⟩ := bnd_some ho
  obtain ⟨v1, v2, v3, v4, v5, v6, v7, v8, T, N, v9⟩ := hV
  have he := ws_at (ω := ω) (h := h) (lay_lt hk (by omega))
  rw [cont_obj hk v8] at he
  have hts := K.2.2.2.2.1
  refine J_behind hS hl (va_runV (cc := cc) (As := As) (rest := rest) (b := ω.1 + k) (C := y.cls) (n := n) ⟨K.1, K.2.1, K.2.2.1, K.2.2.2.1, hts⟩ (hM r1 h1 ho1) ⟨callB_of n hts (jw_code v5) rfl rfl rfl (hts _ v4) (hts _ v1) v6 (jroom K.2.2.2.2.2.2.2.2.2.1 hd v7), hts _ v2, hts _ v3⟩ ⟨InvS.blind ω _ h, ?_, fun U hU hW => ⟨rfl, by rw [hU]; exact hP, va_K.moved hW.alike K.2.2.2.2.2.2.2.1, SS.to K.2.2.2.2.2.2.2.2.1 hS hU hW⟩⟩ rfl hn hl.1 hst (lv_room hc) hdg K.2.2.2.2.2.2.2.2.2.2) (kk r1 h1) ho2
  exact va_recv K.2.2.2.2.2.2.2.1 hP v9 he
theorem J_callT (K : Kok ω χ own cc nL rt d) {index n nL1 d1 : Nat} {y : MethodName} {cc1 : ByteArray} {rt1 : Option FieldType} {As rest st0 : List Value} {o1 : Option (σ × Mem)} (hV : TS own index y cc1 nL1 rt1 n) (hM : MC rv1 l ω y cc1 nL1 rt1 d1 As h o1) (hd : d1 + 1 ≤ d) (hst : st0 = As.reverse ++ rest) (hn : As.length = n) (hc : (rest.map fun v => v.category).sum ≤ 8) (hdg : decode cc pc = .ok (.invokestatic index, 3)) {k9 : σ → Mem → Option (ρ × Mem)}
    (kk : ∀ (r : σ) (h1 : Mem), J Z l ω χ (pc + 3) nL lv ((rv1 r).toList ++ rest) h1 (k9 r h1)) : J Z l ω χ pc nL lv st0 h (bnd o1 k9) := by
  intro r h' ho H locs ls hP hS hl
  obtain ⟨r1, h1, ho1, ho2⟩ := bnd_some ho
  obtain ⟨v1, v2, v4, v5, v6, v7⟩ := hV
  have hts := K.2.2.2.2.1
  exact J_behind hS hl (va_runS (cc := cc) (As := As) (rest := rest) (n := n) ⟨K.1, K.2.1, K.2.2.1, K.2.2.2.1, hts⟩ (hM r1 h1 ho1) ⟨callB_of n hts (jw_code v5) rfl rfl rfl (hts _ v4) (hts _ v1) v6 (jroom K.2.2.2.2.2.2.2.2.2.1 hd v7), hts _ v2⟩ ⟨InvS.blind ω _ h, fun U hU hW => ⟨rfl, by rw [hU]; exact hP, va_K.moved hW.alike K.2.2.2.2.2.2.2.1, SS.to K.2.2.2.2.2.2.2.2.1 hS hU hW⟩⟩ rfl hn hl.1 hst (lv_room hc) hdg K.2.2.2.2.2.2.2.2.2.2) (kk r1 h1) ho2
theorem J_callN (K : Kok ω χ own cc nL rt d) {index n nL1 d1 : Nat} {y : MethodName} {cc1 : ByteArray} {rt1 : Option FieldType} {As rest st0 : List Value} {o1 : Option (σ × Mem)} (hV : NS own index y cc1 nL1 rt1 n) (hM : MC rv1 l ω y cc1 nL1 rt1 d1 As h o1) (hd : d1 + 1 ≤ d) (hst : st0 = As.reverse ++ rest) (hn : As.length = n) (hc : (rest.map fun v => v.category).sum ≤ 8) (hdg : decode cc pc = .ok (.invokestatic index, 3)) {k9 : σ → Mem → Option (ρ × Mem)}
    (kk : ∀ (r : σ) (h1 : Mem), J Z l ω χ (pc + 3) nL lv ((rv1 r).toList ++ rest) h1 (k9 r h1)) : J Z l ω χ pc nL lv st0 h (bnd o1 k9) := by
  intro r h' ho H locs ls hP hS hl
  obtain ⟨r1, h1, ho1, ho2⟩ := bnd_some ho
  obtain ⟨⟨host, v1⟩, v2, v4, v5, v6, v7⟩ := hV
  have hts := K.2.2.2.2.1
  have hN := K.2.2.2.2.2.2.2.2.1.2.2.2 _ v1
  exact J_behind hS hl (va_runSN (cc := cc) (As := As) (rest := rest) (n := n) (host := host) ⟨K.1, K.2.1, K.2.2.1, K.2.2.2.1, hts⟩ (hM r1 h1 ho1) ⟨va_cnB n hts (jw_code v5) rfl rfl rfl hN (hts _ v4) v6 (jroom K.2.2.2.2.2.2.2.2.2.1 hd v7), hts _ v2, trivial⟩ ⟨InvS.blind ω _ h, fun U hU hW => ⟨rfl, by rw [hU]; exact hP, va_K.moved hW.alike K.2.2.2.2.2.2.2.1, SS.to K.2.2.2.2.2.2.2.2.1 hS hU hW⟩⟩ rfl hn hl.1 hst (lv_room hc) hdg K.2.2.2.2.2.2.2.2.2.2) (kk r1 h1) ho2
end JC
end
section
/-! ARRAYCOPY, STRING CONSTANTS, short forms of the calls -/
def gcp {α : Type} (sp dp n : Int32) (n0 n1 : Nat) (o : Option α) : Option α := if ¬ sp < 0 ∧ ¬ dp < 0 ∧ ¬ n < 0 ∧ ix sp + ix n ≤ n0 ∧ ix dp + ix n ≤ n1 then o else none
def CP (own : String) (index : Nat) : Prop := Cond.methodLink own index arraycopyName ∈ jw ∧ Cond.native arraycopyName ∈ jw ∧ Cond.static arraycopyName ∈ jw ∧ Cond.initialized "java/lang/System" ∈ jw
def VSs (index : Nat) (y : MethodName) (cc : ByteArray) (nL : Nat) (rt : Option FieldType) (n : Nat) (own : String) : Prop :=
  Cond.methodLink own index y ∈ jw ∧ Cond.instanceMethod y ∈ jw ∧ Cond.selects "java/lang/String" y y ∈ jw ∧ Cond.initialized y.cls ∈ jw ∧ Cond.code y cc nL rt ∈ jw ∧ okY y n ∧ nL ≤ 40
section JS
variable {ρ σ : Type} {Z : ρ → Mem → State → Prop} {rv1 : σ → Option Value} {l : Launch} {ω : WX} {χ : KT} {own : String} {cc : ByteArray} {d pc nL : Nat} {rt : Option FieldType} {lv lv' : List (Nat × Value)} {st : List Value} {h : Mem} {o : Option (ρ × Mem)}
theorem J_copy (K : Kok ω χ own cc nL rt d) {index a0 a1 n0 n1 : Nat} (hw : CP own index) (ha0 : lay a0 = 1000 + n0) (ha1 : lay a1 = 1000 + n1) (hd : 1 ≤ d) {sp dp n : Int32} (hc : (st.map fun v => v.category).sum ≤ 8) (hdg : decode cc pc = .ok (.invokestatic index, 3)) {k9 : Mem → Option (ρ × Mem)} (kk : ∀ h1 : Mem, J Z l ω χ (pc + 3) nL lv st h1 (k9 h1)) : J Z l ω χ pc nL lv (.int n :: .int dp :: .ref (ω.1 + a1) :: .int sp :: .ref (ω.1 + a0) :: st) h (gcp sp dp n n0 n1 (seqh (rwm h a1 (va_cpy (h a0) (h a1) (ix sp) (ix dp) (ix n))) k9)) := by
  intro r h' ho H locs ls hP hS hl
  unfold gcp at ho
  split at ho
  · rename_i q
    obtain ⟨w1, w2, w3, w4⟩ := hw
    have hts := K.2.2.2.2.1
    have hk0 : a0 < nC := lay_lt ha0 (by omega)
    have hk1 : a1 < nC := lay_lt ha1 (by omega)
    have he0 := ws_at (ω := ω) (h := h) hk0
    have he1 := ws_at (ω := ω) (h := h) hk1
    rw [cont_arr ha0] at he0
    rw [cont_arr ha1] at he1
    have h9 : nativeFrameWords "java/lang/System" "arraycopy" 5 + 11 + 8 ≤ 64 := by decide
    refine va_copyi K.1 K.2.1 (K.2.2.1.trans hl.1.symm) K.2.2.2.1 (hts _ w1) (hts _ w2) (hts _ w3) (hts _ w4) K.2.2.2.2.2.2.2.1 hP (ws_D ω h) hS a0 a1 0 0 (ty := .int) he0 he1 rfl rfl rfl q.1 q.2.1 q.2.2.1 q.2.2.2.1 q.2.2.2.2 (fun i _ => rfl) (Nat.le_trans hd K.2.2.2.2.2.2.2.2.2.1.1) (by have := K.2.2.2.2.2.2.2.2.2.1.2; omega) hdg (fun H1 locs1 hP1 hD1 hS1 => ?_)
    have e : cont ω (rwm h a1 (va_cpy (h a0) (h a1) (ix sp) (ix dp) (ix n))) a1 = .inl (ω.2.2.1.1, n1, .inl (va_cpy (h a0) (h a1) sp.toNatClampNeg dp.toNatClampNeg n.toNatClampNeg)) := by rw [cont_arr ha1, rwm_row]; rfl
    rw [← e, ws_set hk1 rwm_off] at hP1
    exact kk _ r h' ho H1 locs1 ls hP1 hS1 hl
  · cases ho
theorem J_ldcS (K : Kok ω χ "SaltClouds$TextReader" cc nL rt d) {index : Nat} (i : Nat) (hi : i < 10) (tx : String) (hs : strL[i]? = some (index, tx)) (hdg : decode cc pc = .ok (.ldc index, 2)) (kk : J Z l ω χ (pc + 2) nL lv (.ref (ω.2.2.2.1 i) :: st) h o) : J Z l ω χ pc nL lv st h o := by
  intro r h' ho H locs ls hP hS hl
  have h2 := K.2.2.2.2.2.2.2.2.1.2.1 i hi
  have e : strL.getD i (0, "") = (index, tx) := by simp [List.getD, hs]
  rw [e] at h2
  exact va_ldcS K.1 K.2.1 K.2.2.2.1 h2 hdg (kk r h' ho H locs ls hP hS hl)
theorem J_sval (K : Kok ω χ "java/lang/String" cc nL rt d) {index i : Nat} (hi : i < 10) (hw : Cond.fieldLink "java/lang/String" index "java/lang/String" "value" "[B" ∈ jw) (hdg : decode cc pc = .ok (.getfield index, 3)) (kk : J Z l ω χ (pc + 3) nL lv (.ref (ω.2.2.2.2 i) :: st) h o) : J Z l ω χ pc nL lv (.ref (ω.2.2.2.1 i) :: st) h o := by
  intro r h' ho H locs ls hP hS hl
  exact vk_getf K.1 K.2.1 (K.2.2.2.2.2.2.2.2.1.1.1 i hi).2.2.1 hS K.2.2.2.1 (K.2.2.2.2.1 _ hw) (fun _ q => q) hdg (kk r h' ho H locs ls hP hS hl)
theorem J_scod (K : Kok ω χ "java/lang/String" cc nL rt d) {index i : Nat} (hi : i < 10) (hw : Cond.fieldLink "java/lang/String" index "java/lang/String" "coder" "B" ∈ jw) (hdg : decode cc pc = .ok (.getfield index, 3)) (kk : J Z l ω χ (pc + 3) nL lv (.int 0 :: st) h o) : J Z l ω χ pc nL lv (.ref (ω.2.2.2.1 i) :: st) h o := by
  intro r h' ho H locs ls hP hS hl
  exact vk_getf K.1 K.2.1 (K.2.2.2.2.2.2.2.2.1.1.1 i hi).2.1 hS K.2.2.2.1 (K.2.2.2.2.1 _ hw) (fun _ q => q) hdg (kk r h' ho H locs ls hP hS hl)
theorem J_gets (K : Kok ω χ "java/lang/String" cc nL rt d) {index : Nat} (hw : Cond.fieldLink "java/lang/String" index "java/lang/String" "COMPACT_STRINGS" "Z" ∈ jw) (hdg : decode cc pc = .ok (.getstatic index, 3)) (kk : J Z l ω χ (pc + 3) nL lv (.int 1 :: st) h o) : J Z l ω χ pc nL lv st h o := by
  intro r h' ho H locs ls hP hS hl
  exact va_gets K.1 K.2.1 K.2.2.2.2.2.2.2.2.1.2.2.1 hS K.2.2.2.1 (K.2.2.2.2.1 _ hw) (fun _ q => q) hdg (kk r h' ho H locs ls hP hS hl)
theorem J_slen (K : Kok ω χ own cc nL rt d) {i : Nat} (hi : i < 10) (hdg : decode cc pc = .ok (.arraylength, 1)) (kk : J Z l ω χ (pc + 1) nL lv (.int (nI (lenS.getD i 0)) :: st) h o) : J Z l ω χ pc nL lv (.ref (ω.2.2.2.2 i) :: st) h o := by
  intro r h' ho H locs ls hP hS hl
  exact va_tlen K.1 K.2.1 (K.2.2.2.2.2.2.2.2.1.1.1 i hi).2.2.2 hS rfl hdg (kk r h' ho H locs ls hP hS hl)
theorem J_bald (K : Kok ω χ own cc nL rt d) {i : Nat} (hi : i < 10) {j : Int32} (hdg : decode cc pc = .ok (.baload, 1)) (kk : J Z l ω χ (pc + 1) nL lv (.int ((bytS.getD i []).getD (ix j) 0) :: st) h o) : J Z l ω χ pc nL lv (.int j :: .ref (ω.2.2.2.2 i) :: st) h (gin j (lenS.getD i 0) o) := by
  intro r h' ho H locs ls hP hS hl
  obtain ⟨hin, ho⟩ := gin_some ho
  exact va_tb K.1 K.2.1 (K.2.2.2.2.2.2.2.2.1.1.1 i hi).2.2.2 hS hin rfl hdg (kk r h' ho H locs ls hP hS hl)
theorem J_callVs (K : Kok ω χ own cc nL rt d) {index n nL1 d1 i : Nat} {y : MethodName} {cc1 : ByteArray} {rt1 : Option FieldType} {As rest st0 : List Value} {o1 : Option (σ × Mem)} (hV : VSs index y cc1 nL1 rt1 n own) (hM : MC rv1 l ω y cc1 nL1 rt1 d1 (.ref (ω.2.2.2.1 i) :: As) h o1) (hi : i < 10) (hd : d1 + 1 ≤ d) (hst : st0 = As.reverse ++ .ref (ω.2.2.2.1 i) :: rest) (hn : As.length = n) (hc : (rest.map fun v => v.category).sum ≤ 8) (hdg : decode cc pc = .ok (.invokevirtual index, 3)) {k9 : σ → Mem → Option (ρ × Mem)}
    (kk : ∀ (r : σ) (h1 : Mem), J Z l ω χ (pc + 3) nL lv ((rv1 r).toList ++ rest) h1 (k9 r h1)) : J Z l ω χ pc nL lv st0 h (bnd o1 k9) := by
  intro r h' ho H locs ls hP hS hl
  obtain ⟨r1, h1, ho1, ho2⟩ := bnd_some ho
  obtain ⟨v1, v2, v3, v4, v5, v6, v7⟩ := hV
  have hts := K.2.2.2.2.1
  refine J_behind hS hl (va_runV (cc := cc) (As := As) (rest := rest) (b := ω.2.2.2.1 i) (C := "java/lang/String") (n := n) ⟨K.1, K.2.1, K.2.2.1, K.2.2.2.1, hts⟩ (hM r1 h1 ho1) ⟨callB_of n hts (jw_code v5) rfl rfl rfl (hts _ v4) (hts _ v1) v6 (jroom K.2.2.2.2.2.2.2.2.2.1 hd v7), hts _ v2, hts _ v3⟩ ⟨InvS.blind ω _ h, ?_, fun U hU hW => ⟨rfl, by rw [hU]; exact hP, va_K.moved hW.alike K.2.2.2.2.2.2.2.1, SS.to K.2.2.2.2.2.2.2.2.1 hS hU hW⟩⟩ rfl hn hl.1 hst (lv_room hc) hdg K.2.2.2.2.2.2.2.2.2.2) (kk r1 h1) ho2
  exact vk_recv K.2.2.2.2.2.2.2.2.1.1 hi hS
end JS
section JW
variable {ρ : Type} {Z : ρ → Mem → State → Prop} {l : Launch} {ω : WX} {χ : KT} {own : String} {cc : ByteArray} {d pc nL : Nat} {rt : Option FieldType} {lv lv' : List (Nat × Value)} {st : List Value} {h : Mem} {o : Option (ρ × Mem)}
theorem J_callVI (K : Kok ω χ own cc nL rt d) {index n ci nL1 d1 k : Nat} {y : MethodName} {cc1 : ByteArray} {rt1 : Option FieldType} {As rest st0 : List Value} {o1 : Option (Int32 × Mem)} (hV : VS own index y cc1 nL1 rt1 n ci) (hM : MC rvI l ω y cc1 nL1 rt1 d1 (.ref (ω.1 + k) :: As) h o1) (hk : lay k = ci) (hd : d1 + 1 ≤ d) (hst : st0 = As.reverse ++ .ref (ω.1 + k) :: rest) (hn : As.length = n) (hc : (rest.map fun v => v.category).sum ≤ 8) (hdg : decode cc pc = .ok (.invokevirtual index, 3)) {k9 : Int32 → Mem → Option (ρ × Mem)}
    (kk : ∀ (r : Int32) (h1 : Mem), J Z l ω χ (pc + 3) nL lv (.int r :: rest) h1 (k9 r h1)) : J Z l ω χ pc nL lv st0 h (bnd o1 k9) := J_callV K hV hM hk hd hst hn hc hdg kk
theorem J_callVU (K : Kok ω χ own cc nL rt d) {index n ci nL1 d1 k : Nat} {y : MethodName} {cc1 : ByteArray} {rt1 : Option FieldType} {As rest st0 : List Value} {o1 : Option (Unit × Mem)} (hV : VS own index y cc1 nL1 rt1 n ci) (hM : MC rvV l ω y cc1 nL1 rt1 d1 (.ref (ω.1 + k) :: As) h o1) (hk : lay k = ci) (hd : d1 + 1 ≤ d) (hst : st0 = As.reverse ++ .ref (ω.1 + k) :: rest) (hn : As.length = n) (hc : (rest.map fun v => v.category).sum ≤ 8) (hdg : decode cc pc = .ok (.invokevirtual index, 3)) {k9 : Unit → Mem → Option (ρ × Mem)}
    (kk : ∀ (r : Unit) (h1 : Mem), J Z l ω χ (pc + 3) nL lv rest h1 (k9 r h1)) : J Z l ω χ pc nL lv st0 h (bnd o1 k9) := J_callV K hV hM hk hd hst hn hc hdg kk
theorem J_callVR (K : Kok ω χ own cc nL rt d) {index n ci nL1 d1 k : Nat} {y : MethodName} {cc1 : ByteArray} {rt1 : Option FieldType} {As rest st0 : List Value} {o1 : Option (Nat × Mem)} (hV : VS own index y cc1 nL1 rt1 n ci) (hM : MC (rvR ω) l ω y cc1 nL1 rt1 d1 (.ref (ω.1 + k) :: As) h o1) (hk : lay k = ci) (hd : d1 + 1 ≤ d) (hst : st0 = As.reverse ++ .ref (ω.1 + k) :: rest) (hn : As.length = n) (hc : (rest.map fun v => v.category).sum ≤ 8) (hdg : decode cc pc = .ok (.invokevirtual index, 3)) {k9 : Nat → Mem → Option (ρ × Mem)}
    (kk : ∀ (r : Nat) (h1 : Mem), J Z l ω χ (pc + 3) nL lv (.ref (ω.1 + r) :: rest) h1 (k9 r h1)) : J Z l ω χ pc nL lv st0 h (bnd o1 k9) := J_callV K hV hM hk hd hst hn hc hdg kk
theorem J_callTI (K : Kok ω χ own cc nL rt d) {index n nL1 d1 : Nat} {y : MethodName} {cc1 : ByteArray} {rt1 : Option FieldType} {As rest st0 : List Value} {o1 : Option (Int32 × Mem)} (hV : TS own index y cc1 nL1 rt1 n) (hM : MC rvI l ω y cc1 nL1 rt1 d1 (As) h o1) (hd : d1 + 1 ≤ d) (hst : st0 = As.reverse ++  rest) (hn : As.length = n) (hc : (rest.map fun v => v.category).sum ≤ 8) (hdg : decode cc pc = .ok (.invokestatic index, 3)) {k9 : Int32 → Mem → Option (ρ × Mem)}
    (kk : ∀ (r : Int32) (h1 : Mem), J Z l ω χ (pc + 3) nL lv (.int r :: rest) h1 (k9 r h1)) : J Z l ω χ pc nL lv st0 h (bnd o1 k9) := J_callT K hV hM hd hst hn hc hdg kk
theorem J_callNI (K : Kok ω χ own cc nL rt d) {index n nL1 d1 : Nat} {y : MethodName} {cc1 : ByteArray} {rt1 : Option FieldType} {As rest st0 : List Value} {o1 : Option (Int32 × Mem)} (hV : NS own index y cc1 nL1 rt1 n) (hM : MC rvI l ω y cc1 nL1 rt1 d1 (As) h o1) (hd : d1 + 1 ≤ d) (hst : st0 = As.reverse ++  rest) (hn : As.length = n) (hc : (rest.map fun v => v.category).sum ≤ 8) (hdg : decode cc pc = .ok (.invokestatic index, 3)) {k9 : Int32 → Mem → Option (ρ × Mem)}
    (kk : ∀ (r : Int32) (h1 : Mem), J Z l ω χ (pc + 3) nL lv (.int r :: rest) h1 (k9 r h1)) : J Z l ω χ pc nL lv st0 h (bnd o1 k9) := J_callN K hV hM hd hst hn hc hdg kk
theorem J_callVsI (K : Kok ω χ own cc nL rt d) {index n nL1 d1 i : Nat} {y : MethodName} {cc1 : ByteArray} {rt1 : Option FieldType} {As rest st0 : List Value} {o1 : Option (Int32 × Mem)} (hV : VSs index y cc1 nL1 rt1 n own) (hM : MC rvI l ω y cc1 nL1 rt1 d1 (.ref (ω.2.2.2.1 i) :: As) h o1) (hi : i < 10) (hd : d1 + 1 ≤ d) (hst : st0 = As.reverse ++ .ref (ω.2.2.2.1 i) :: rest) (hn : As.length = n) (hc : (rest.map fun v => v.category).sum ≤ 8) (hdg : decode cc pc = .ok (.invokevirtual index, 3)) {k9 : Int32 → Mem → Option (ρ × Mem)}
    (kk : ∀ (r : Int32) (h1 : Mem), J Z l ω χ (pc + 3) nL lv (.int r :: rest) h1 (k9 r h1)) : J Z l ω χ pc nL lv st0 h (bnd o1 k9) := J_callVs K hV hM hi hd hst hn hc hdg kk
end JW
end
section
/-- the end -/
theorem zz_end : True := trivial
end
