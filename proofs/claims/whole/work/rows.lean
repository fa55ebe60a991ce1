section
-- ===== PART A: goes FIRST, ahead of the names: the tables' words, and 'selects' of the private methods out of them =====
/-- a private method of a class that the tables say can be made, by its rows of tables_1 -/
def lw_okq (q : MethodName × Nat) : Prop := (q.1.cls ≠ "java/lang/invoke/MethodHandle" ∧ q.1.cls ≠ "java/lang/invoke/VarHandle") ∧ Cond.instantiable q.1.cls q.2 ∈ tables_1 ∧ Cond.privateMethod q.1 ∈ tables_1 ∧ Cond.instanceMethod q.1 ∈ tables_1
theorem lw_p0 : lw_okq (⟨"PointLayers", "refuse", "(I)I"⟩, 13) := ⟨⟨by decide +kernel, by decide +kernel⟩, List.mem_of_getElem? (i := 14) (by decide +kernel), List.mem_of_getElem? (i := 246) (by decide +kernel), List.mem_of_getElem? (i := 247) (by decide +kernel)⟩
theorem lw_p1 : lw_okq (⟨"PointLayers$Field", "layAnew", "()V"⟩, 11) := ⟨⟨by decide +kernel, by decide +kernel⟩, List.mem_of_getElem? (i := 22) (by decide +kernel), List.mem_of_getElem? (i := 297) (by decide +kernel), List.mem_of_getElem? (i := 298) (by decide +kernel)⟩
theorem lw_p2 : lw_okq (⟨"PointLayers", "pickRectangle", "(IIII)V"⟩, 13) := ⟨⟨by decide +kernel, by decide +kernel⟩, List.mem_of_getElem? (i := 14) (by decide +kernel), List.mem_of_getElem? (i := 327) (by decide +kernel), List.mem_of_getElem? (i := 328) (by decide +kernel)⟩
theorem lw_p3 : lw_okq (⟨"PointLayers$Shape", "inRectangle", "(III)Z"⟩, 4) := ⟨⟨by decide +kernel, by decide +kernel⟩, List.mem_of_getElem? (i := 112) (by decide +kernel), List.mem_of_getElem? (i := 356) (by decide +kernel), List.mem_of_getElem? (i := 357) (by decide +kernel)⟩
theorem lw_p4 : lw_okq (⟨"PointLayers$Picks", "add", "(I)V"⟩, 2) := ⟨⟨by decide +kernel, by decide +kernel⟩, List.mem_of_getElem? (i := 97) (by decide +kernel), List.mem_of_getElem? (i := 363) (by decide +kernel), List.mem_of_getElem? (i := 364) (by decide +kernel)⟩
theorem lw_p5 : lw_okq (⟨"PointLayers", "takePicked", "()I"⟩, 13) := ⟨⟨by decide +kernel, by decide +kernel⟩, List.mem_of_getElem? (i := 14) (by decide +kernel), List.mem_of_getElem? (i := 367) (by decide +kernel), List.mem_of_getElem? (i := 368) (by decide +kernel)⟩
theorem lw_p6 : lw_okq (⟨"PointLayers$Picks", "sort", "(LPointLayers$Field;Z)V"⟩, 2) := ⟨⟨by decide +kernel, by decide +kernel⟩, List.mem_of_getElem? (i := 97) (by decide +kernel), List.mem_of_getElem? (i := 375) (by decide +kernel), List.mem_of_getElem? (i := 376) (by decide +kernel)⟩
theorem lw_p7 : lw_okq (⟨"PointLayers$Field", "north", "(I)I"⟩, 11) := ⟨⟨by decide +kernel, by decide +kernel⟩, List.mem_of_getElem? (i := 22) (by decide +kernel), List.mem_of_getElem? (i := 410) (by decide +kernel), List.mem_of_getElem? (i := 411) (by decide +kernel)⟩
theorem lw_p8 : lw_okq (⟨"PointLayers$Picks", "inColumn", "(LPointLayers$Field;III)I"⟩, 2) := ⟨⟨by decide +kernel, by decide +kernel⟩, List.mem_of_getElem? (i := 97) (by decide +kernel), List.mem_of_getElem? (i := 502) (by decide +kernel), List.mem_of_getElem? (i := 503) (by decide +kernel)⟩
theorem lw_p9 : lw_okq (⟨"PointLayers$Picks", "tops", "(LPointLayers$Field;I)Z"⟩, 2) := ⟨⟨by decide +kernel, by decide +kernel⟩, List.mem_of_getElem? (i := 97) (by decide +kernel), List.mem_of_getElem? (i := 526) (by decide +kernel), List.mem_of_getElem? (i := 527) (by decide +kernel)⟩
theorem lw_p10 : lw_okq (⟨"PointLayers$Reader", "readArea", "(I)V"⟩, 5) := ⟨⟨by decide +kernel, by decide +kernel⟩, List.mem_of_getElem? (i := 132) (by decide +kernel), List.mem_of_getElem? (i := 573) (by decide +kernel), List.mem_of_getElem? (i := 574) (by decide +kernel)⟩
theorem lw_p11 : lw_okq (⟨"PointLayers$Reader", "readPart", "(I)V"⟩, 5) := ⟨⟨by decide +kernel, by decide +kernel⟩, List.mem_of_getElem? (i := 132) (by decide +kernel), List.mem_of_getElem? (i := 577) (by decide +kernel), List.mem_of_getElem? (i := 578) (by decide +kernel)⟩
theorem lw_p12 : lw_okq (⟨"PointLayers$Reader", "readSpot", "(I)V"⟩, 5) := ⟨⟨by decide +kernel, by decide +kernel⟩, List.mem_of_getElem? (i := 132) (by decide +kernel), List.mem_of_getElem? (i := 581) (by decide +kernel), List.mem_of_getElem? (i := 582) (by decide +kernel)⟩
theorem lw_p13 : lw_okq (⟨"PointLayers$Reader", "nextSign", "()I"⟩, 5) := ⟨⟨by decide +kernel, by decide +kernel⟩, List.mem_of_getElem? (i := 132) (by decide +kernel), List.mem_of_getElem? (i := 585) (by decide +kernel), List.mem_of_getElem? (i := 586) (by decide +kernel)⟩
theorem lw_p14 : lw_okq (⟨"PointLayers$Reader", "readRectangle", "()V"⟩, 5) := ⟨⟨by decide +kernel, by decide +kernel⟩, List.mem_of_getElem? (i := 132) (by decide +kernel), List.mem_of_getElem? (i := 589) (by decide +kernel), List.mem_of_getElem? (i := 590) (by decide +kernel)⟩
theorem lw_p15 : lw_okq (⟨"PointLayers$Reader", "expect", "(I)V"⟩, 5) := ⟨⟨by decide +kernel, by decide +kernel⟩, List.mem_of_getElem? (i := 132) (by decide +kernel), List.mem_of_getElem? (i := 593) (by decide +kernel), List.mem_of_getElem? (i := 594) (by decide +kernel)⟩
def lw_privs_1 : List (MethodName × Nat) := [(⟨"PointLayers", "refuse", "(I)I"⟩, 13), (⟨"PointLayers$Field", "layAnew", "()V"⟩, 11), (⟨"PointLayers", "pickRectangle", "(IIII)V"⟩, 13), (⟨"PointLayers$Shape", "inRectangle", "(III)Z"⟩, 4), (⟨"PointLayers$Picks", "add", "(I)V"⟩, 2), (⟨"PointLayers", "takePicked", "()I"⟩, 13), (⟨"PointLayers$Picks", "sort", "(LPointLayers$Field;Z)V"⟩, 2), (⟨"PointLayers$Field", "north", "(I)I"⟩, 11), (⟨"PointLayers$Picks", "inColumn", "(LPointLayers$Field;III)I"⟩, 2), (⟨"PointLayers$Picks", "tops", "(LPointLayers$Field;I)Z"⟩, 2), (⟨"PointLayers$Reader", "readArea", "(I)V"⟩, 5), (⟨"PointLayers$Reader", "readPart", "(I)V"⟩, 5), (⟨"PointLayers$Reader", "readSpot", "(I)V"⟩, 5), (⟨"PointLayers$Reader", "nextSign", "()I"⟩, 5), (⟨"PointLayers$Reader", "readRectangle", "()V"⟩, 5), (⟨"PointLayers$Reader", "expect", "(I)V"⟩, 5)]
theorem lw_r1 : ∀ q ∈ lw_privs_1, lw_okq q := List.forall_mem_cons.mpr ⟨lw_p0, List.forall_mem_cons.mpr ⟨lw_p1, List.forall_mem_cons.mpr ⟨lw_p2, List.forall_mem_cons.mpr ⟨lw_p3, List.forall_mem_cons.mpr ⟨lw_p4, List.forall_mem_cons.mpr ⟨lw_p5, List.forall_mem_cons.mpr ⟨lw_p6, List.forall_mem_cons.mpr ⟨lw_p7, List.forall_mem_cons.mpr ⟨lw_p8, List.forall_mem_cons.mpr ⟨lw_p9, List.forall_mem_cons.mpr ⟨lw_p10, List.forall_mem_cons.mpr ⟨lw_p11, List.forall_mem_cons.mpr ⟨lw_p12, List.forall_mem_cons.mpr ⟨lw_p13, List.forall_mem_cons.mpr ⟨lw_p14, List.forall_mem_cons.mpr ⟨lw_p15, fun _ h => absurd h List.not_mem_nil⟩⟩⟩⟩⟩⟩⟩⟩⟩⟩⟩⟩⟩⟩⟩⟩
theorem lw_p16 : lw_okq (⟨"PointLayers$Reader", "fail", "(I)V"⟩, 5) := ⟨⟨by decide +kernel, by decide +kernel⟩, List.mem_of_getElem? (i := 132) (by decide +kernel), List.mem_of_getElem? (i := 597) (by decide +kernel), List.mem_of_getElem? (i := 598) (by decide +kernel)⟩
theorem lw_p17 : lw_okq (⟨"PointLayers$Reader", "readNumber", "(I)I"⟩, 5) := ⟨⟨by decide +kernel, by decide +kernel⟩, List.mem_of_getElem? (i := 132) (by decide +kernel), List.mem_of_getElem? (i := 601) (by decide +kernel), List.mem_of_getElem? (i := 602) (by decide +kernel)⟩
theorem lw_p18 : lw_okq (⟨"PointLayersModel", "bad", "()I"⟩, 20) := ⟨⟨by decide +kernel, by decide +kernel⟩, List.mem_of_getElem? (i := 694) (by decide +kernel), List.mem_of_getElem? (i := 775) (by decide +kernel), List.mem_of_getElem? (i := 776) (by decide +kernel)⟩
theorem lw_p19 : lw_okq (⟨"PointLayersModel", "points", "()I"⟩, 20) := ⟨⟨by decide +kernel, by decide +kernel⟩, List.mem_of_getElem? (i := 694) (by decide +kernel), List.mem_of_getElem? (i := 780) (by decide +kernel), List.mem_of_getElem? (i := 781) (by decide +kernel)⟩
theorem lw_p20 : lw_okq (⟨"PointLayersModel", "full", "()I"⟩, 20) := ⟨⟨by decide +kernel, by decide +kernel⟩, List.mem_of_getElem? (i := 694) (by decide +kernel), List.mem_of_getElem? (i := 784) (by decide +kernel), List.mem_of_getElem? (i := 785) (by decide +kernel)⟩
theorem lw_p21 : lw_okq (⟨"PointLayersModel", "minds", "()V"⟩, 20) := ⟨⟨by decide +kernel, by decide +kernel⟩, List.mem_of_getElem? (i := 694) (by decide +kernel), List.mem_of_getElem? (i := 789) (by decide +kernel), List.mem_of_getElem? (i := 790) (by decide +kernel)⟩
theorem lw_p22 : lw_okq (⟨"PointLayersModel", "copy", "(II)V"⟩, 20) := ⟨⟨by decide +kernel, by decide +kernel⟩, List.mem_of_getElem? (i := 694) (by decide +kernel), List.mem_of_getElem? (i := 793) (by decide +kernel), List.mem_of_getElem? (i := 794) (by decide +kernel)⟩
theorem lw_p23 : lw_okq (⟨"PointLayersModel", "comes", "(III)V"⟩, 20) := ⟨⟨by decide +kernel, by decide +kernel⟩, List.mem_of_getElem? (i := 694) (by decide +kernel), List.mem_of_getElem? (i := 797) (by decide +kernel), List.mem_of_getElem? (i := 798) (by decide +kernel)⟩
theorem lw_p24 : lw_okq (⟨"PointLayersModel", "find", "(I)I"⟩, 20) := ⟨⟨by decide +kernel, by decide +kernel⟩, List.mem_of_getElem? (i := 694) (by decide +kernel), List.mem_of_getElem? (i := 808) (by decide +kernel), List.mem_of_getElem? (i := 809) (by decide +kernel)⟩
theorem lw_p25 : lw_okq (⟨"PointLayersModel", "isThere", "(I)Z"⟩, 20) := ⟨⟨by decide +kernel, by decide +kernel⟩, List.mem_of_getElem? (i := 694) (by decide +kernel), List.mem_of_getElem? (i := 812) (by decide +kernel), List.mem_of_getElem? (i := 813) (by decide +kernel)⟩
theorem lw_p26 : lw_okq (⟨"PointLayersModel", "goes", "(I)V"⟩, 20) := ⟨⟨by decide +kernel, by decide +kernel⟩, List.mem_of_getElem? (i := 694) (by decide +kernel), List.mem_of_getElem? (i := 816) (by decide +kernel), List.mem_of_getElem? (i := 817) (by decide +kernel)⟩
theorem lw_p27 : lw_okq (⟨"PointLayersModel", "laysAnew", "()V"⟩, 20) := ⟨⟨by decide +kernel, by decide +kernel⟩, List.mem_of_getElem? (i := 694) (by decide +kernel), List.mem_of_getElem? (i := 820) (by decide +kernel), List.mem_of_getElem? (i := 821) (by decide +kernel)⟩
theorem lw_p28 : lw_okq (⟨"PointLayersModel", "draws", "(I)I"⟩, 20) := ⟨⟨by decide +kernel, by decide +kernel⟩, List.mem_of_getElem? (i := 694) (by decide +kernel), List.mem_of_getElem? (i := 834) (by decide +kernel), List.mem_of_getElem? (i := 835) (by decide +kernel)⟩
theorem lw_p29 : lw_okq (⟨"PointLayersModel", "lines", "(IIII)V"⟩, 20) := ⟨⟨by decide +kernel, by decide +kernel⟩, List.mem_of_getElem? (i := 694) (by decide +kernel), List.mem_of_getElem? (i := 847) (by decide +kernel), List.mem_of_getElem? (i := 848) (by decide +kernel)⟩
theorem lw_p30 : lw_okq (⟨"PointLayersModel", "isIn", "(IIIII)Z"⟩, 20) := ⟨⟨by decide +kernel, by decide +kernel⟩, List.mem_of_getElem? (i := 694) (by decide +kernel), List.mem_of_getElem? (i := 851) (by decide +kernel), List.mem_of_getElem? (i := 852) (by decide +kernel)⟩
theorem lw_p31 : lw_okq (⟨"PointLayersModel", "insert", "(I)V"⟩, 20) := ⟨⟨by decide +kernel, by decide +kernel⟩, List.mem_of_getElem? (i := 694) (by decide +kernel), List.mem_of_getElem? (i := 855) (by decide +kernel), List.mem_of_getElem? (i := 856) (by decide +kernel)⟩
def lw_privs_2 : List (MethodName × Nat) := [(⟨"PointLayers$Reader", "fail", "(I)V"⟩, 5), (⟨"PointLayers$Reader", "readNumber", "(I)I"⟩, 5), (⟨"PointLayersModel", "bad", "()I"⟩, 20), (⟨"PointLayersModel", "points", "()I"⟩, 20), (⟨"PointLayersModel", "full", "()I"⟩, 20), (⟨"PointLayersModel", "minds", "()V"⟩, 20), (⟨"PointLayersModel", "copy", "(II)V"⟩, 20), (⟨"PointLayersModel", "comes", "(III)V"⟩, 20), (⟨"PointLayersModel", "find", "(I)I"⟩, 20), (⟨"PointLayersModel", "isThere", "(I)Z"⟩, 20), (⟨"PointLayersModel", "goes", "(I)V"⟩, 20), (⟨"PointLayersModel", "laysAnew", "()V"⟩, 20), (⟨"PointLayersModel", "draws", "(I)I"⟩, 20), (⟨"PointLayersModel", "lines", "(IIII)V"⟩, 20), (⟨"PointLayersModel", "isIn", "(IIIII)Z"⟩, 20), (⟨"PointLayersModel", "insert", "(I)V"⟩, 20)]
theorem lw_r2 : ∀ q ∈ lw_privs_2, lw_okq q := List.forall_mem_cons.mpr ⟨lw_p16, List.forall_mem_cons.mpr ⟨lw_p17, List.forall_mem_cons.mpr ⟨lw_p18, List.forall_mem_cons.mpr ⟨lw_p19, List.forall_mem_cons.mpr ⟨lw_p20, List.forall_mem_cons.mpr ⟨lw_p21, List.forall_mem_cons.mpr ⟨lw_p22, List.forall_mem_cons.mpr ⟨lw_p23, List.forall_mem_cons.mpr ⟨lw_p24, List.forall_mem_cons.mpr ⟨lw_p25, List.forall_mem_cons.mpr ⟨lw_p26, List.forall_mem_cons.mpr ⟨lw_p27, List.forall_mem_cons.mpr ⟨lw_p28, List.forall_mem_cons.mpr ⟨lw_p29, List.forall_mem_cons.mpr ⟨lw_p30, List.forall_mem_cons.mpr ⟨lw_p31, fun _ h => absurd h List.not_mem_nil⟩⟩⟩⟩⟩⟩⟩⟩⟩⟩⟩⟩⟩⟩⟩⟩
theorem lw_p32 : lw_okq (⟨"PointLayersModel", "isAhead", "(II)Z"⟩, 20) := ⟨⟨by decide +kernel, by decide +kernel⟩, List.mem_of_getElem? (i := 694) (by decide +kernel), List.mem_of_getElem? (i := 859) (by decide +kernel), List.mem_of_getElem? (i := 860) (by decide +kernel)⟩
theorem lw_p33 : lw_okq (⟨"PointLayersModel", "takesLine", "()I"⟩, 20) := ⟨⟨by decide +kernel, by decide +kernel⟩, List.mem_of_getElem? (i := 694) (by decide +kernel), List.mem_of_getElem? (i := 863) (by decide +kernel), List.mem_of_getElem? (i := 864) (by decide +kernel)⟩
theorem lw_p34 : lw_okq (⟨"PointLayersModel", "no", "()I"⟩, 20) := ⟨⟨by decide +kernel, by decide +kernel⟩, List.mem_of_getElem? (i := 694) (by decide +kernel), List.mem_of_getElem? (i := 876) (by decide +kernel), List.mem_of_getElem? (i := 877) (by decide +kernel)⟩
theorem lw_p35 : lw_okq (⟨"PointLayersModel", "ofPoint", "(II)I"⟩, 20) := ⟨⟨by decide +kernel, by decide +kernel⟩, List.mem_of_getElem? (i := 694) (by decide +kernel), List.mem_of_getElem? (i := 886) (by decide +kernel), List.mem_of_getElem? (i := 887) (by decide +kernel)⟩
theorem lw_p36 : lw_okq (⟨"PointLayersModel", "counts", "(I)I"⟩, 20) := ⟨⟨by decide +kernel, by decide +kernel⟩, List.mem_of_getElem? (i := 694) (by decide +kernel), List.mem_of_getElem? (i := 890) (by decide +kernel), List.mem_of_getElem? (i := 891) (by decide +kernel)⟩
theorem lw_p37 : lw_okq (⟨"PointLayersModel", "manyIn", "(IIII)I"⟩, 20) := ⟨⟨by decide +kernel, by decide +kernel⟩, List.mem_of_getElem? (i := 694) (by decide +kernel), List.mem_of_getElem? (i := 910) (by decide +kernel), List.mem_of_getElem? (i := 911) (by decide +kernel)⟩
theorem lw_p38 : lw_okq (⟨"PointLayersModel", "apart", "(III)I"⟩, 20) := ⟨⟨by decide +kernel, by decide +kernel⟩, List.mem_of_getElem? (i := 694) (by decide +kernel), List.mem_of_getElem? (i := 935) (by decide +kernel), List.mem_of_getElem? (i := 936) (by decide +kernel)⟩
theorem lw_p39 : lw_okq (⟨"PointLayersModel", "isStair", "(I)Z"⟩, 20) := ⟨⟨by decide +kernel, by decide +kernel⟩, List.mem_of_getElem? (i := 694) (by decide +kernel), List.mem_of_getElem? (i := 960) (by decide +kernel), List.mem_of_getElem? (i := 961) (by decide +kernel)⟩
theorem lw_p40 : lw_okq (⟨"PointLayersModel", "layersOf", "(I)I"⟩, 20) := ⟨⟨by decide +kernel, by decide +kernel⟩, List.mem_of_getElem? (i := 694) (by decide +kernel), List.mem_of_getElem? (i := 969) (by decide +kernel), List.mem_of_getElem? (i := 970) (by decide +kernel)⟩
theorem lw_p41 : lw_okq (⟨"PointLayersModel", "spot", "()I"⟩, 20) := ⟨⟨by decide +kernel, by decide +kernel⟩, List.mem_of_getElem? (i := 694) (by decide +kernel), List.mem_of_getElem? (i := 991) (by decide +kernel), List.mem_of_getElem? (i := 992) (by decide +kernel)⟩
theorem lw_p42 : lw_okq (⟨"PointLayersModel", "next", "()I"⟩, 20) := ⟨⟨by decide +kernel, by decide +kernel⟩, List.mem_of_getElem? (i := 694) (by decide +kernel), List.mem_of_getElem? (i := 995) (by decide +kernel), List.mem_of_getElem? (i := 996) (by decide +kernel)⟩
theorem lw_p43 : lw_okq (⟨"PointLayersModel", "here", "()I"⟩, 20) := ⟨⟨by decide +kernel, by decide +kernel⟩, List.mem_of_getElem? (i := 694) (by decide +kernel), List.mem_of_getElem? (i := 999) (by decide +kernel), List.mem_of_getElem? (i := 1000) (by decide +kernel)⟩
theorem lw_p44 : lw_okq (⟨"PointLayersModel", "takesRect", "()Z"⟩, 20) := ⟨⟨by decide +kernel, by decide +kernel⟩, List.mem_of_getElem? (i := 694) (by decide +kernel), List.mem_of_getElem? (i := 1003) (by decide +kernel), List.mem_of_getElem? (i := 1004) (by decide +kernel)⟩
theorem lw_p45 : lw_okq (⟨"PointLayersModel", "takes", "(I)Z"⟩, 20) := ⟨⟨by decide +kernel, by decide +kernel⟩, List.mem_of_getElem? (i := 694) (by decide +kernel), List.mem_of_getElem? (i := 1007) (by decide +kernel), List.mem_of_getElem? (i := 1008) (by decide +kernel)⟩
theorem lw_p46 : lw_okq (⟨"PointLayersModel", "takesNumber", "(I)Z"⟩, 20) := ⟨⟨by decide +kernel, by decide +kernel⟩, List.mem_of_getElem? (i := 694) (by decide +kernel), List.mem_of_getElem? (i := 1011) (by decide +kernel), List.mem_of_getElem? (i := 1012) (by decide +kernel)⟩
theorem lw_p47 : lw_okq (⟨"PointLayersModel", "puts", "(I)V"⟩, 20) := ⟨⟨by decide +kernel, by decide +kernel⟩, List.mem_of_getElem? (i := 694) (by decide +kernel), List.mem_of_getElem? (i := 1017) (by decide +kernel), List.mem_of_getElem? (i := 1018) (by decide +kernel)⟩
def lw_privs_3 : List (MethodName × Nat) := [(⟨"PointLayersModel", "isAhead", "(II)Z"⟩, 20), (⟨"PointLayersModel", "takesLine", "()I"⟩, 20), (⟨"PointLayersModel", "no", "()I"⟩, 20), (⟨"PointLayersModel", "ofPoint", "(II)I"⟩, 20), (⟨"PointLayersModel", "counts", "(I)I"⟩, 20), (⟨"PointLayersModel", "manyIn", "(IIII)I"⟩, 20), (⟨"PointLayersModel", "apart", "(III)I"⟩, 20), (⟨"PointLayersModel", "isStair", "(I)Z"⟩, 20), (⟨"PointLayersModel", "layersOf", "(I)I"⟩, 20), (⟨"PointLayersModel", "spot", "()I"⟩, 20), (⟨"PointLayersModel", "next", "()I"⟩, 20), (⟨"PointLayersModel", "here", "()I"⟩, 20), (⟨"PointLayersModel", "takesRect", "()Z"⟩, 20), (⟨"PointLayersModel", "takes", "(I)Z"⟩, 20), (⟨"PointLayersModel", "takesNumber", "(I)Z"⟩, 20), (⟨"PointLayersModel", "puts", "(I)V"⟩, 20)]
theorem lw_r3 : ∀ q ∈ lw_privs_3, lw_okq q := List.forall_mem_cons.mpr ⟨lw_p32, List.forall_mem_cons.mpr ⟨lw_p33, List.forall_mem_cons.mpr ⟨lw_p34, List.forall_mem_cons.mpr ⟨lw_p35, List.forall_mem_cons.mpr ⟨lw_p36, List.forall_mem_cons.mpr ⟨lw_p37, List.forall_mem_cons.mpr ⟨lw_p38, List.forall_mem_cons.mpr ⟨lw_p39, List.forall_mem_cons.mpr ⟨lw_p40, List.forall_mem_cons.mpr ⟨lw_p41, List.forall_mem_cons.mpr ⟨lw_p42, List.forall_mem_cons.mpr ⟨lw_p43, List.forall_mem_cons.mpr ⟨lw_p44, List.forall_mem_cons.mpr ⟨lw_p45, List.forall_mem_cons.mpr ⟨lw_p46, List.forall_mem_cons.mpr ⟨lw_p47, fun _ h => absurd h List.not_mem_nil⟩⟩⟩⟩⟩⟩⟩⟩⟩⟩⟩⟩⟩⟩⟩⟩
theorem lw_p48 : lw_okq (⟨"PointLayersModel", "notes", "()V"⟩, 20) := ⟨⟨by decide +kernel, by decide +kernel⟩, List.mem_of_getElem? (i := 694) (by decide +kernel), List.mem_of_getElem? (i := 1021) (by decide +kernel), List.mem_of_getElem? (i := 1022) (by decide +kernel)⟩
theorem lw_p49 : lw_okq (⟨"PointLayersModel", "deep", "()I"⟩, 20) := ⟨⟨by decide +kernel, by decide +kernel⟩, List.mem_of_getElem? (i := 694) (by decide +kernel), List.mem_of_getElem? (i := 1025) (by decide +kernel), List.mem_of_getElem? (i := 1026) (by decide +kernel)⟩
theorem lw_p50 : lw_okq (⟨"PointLayersModel", "opens", "(I)V"⟩, 20) := ⟨⟨by decide +kernel, by decide +kernel⟩, List.mem_of_getElem? (i := 694) (by decide +kernel), List.mem_of_getElem? (i := 1029) (by decide +kernel), List.mem_of_getElem? (i := 1030) (by decide +kernel)⟩
theorem lw_p51 : lw_okq (⟨"PointLayersModel", "behind", "()I"⟩, 20) := ⟨⟨by decide +kernel, by decide +kernel⟩, List.mem_of_getElem? (i := 694) (by decide +kernel), List.mem_of_getElem? (i := 1033) (by decide +kernel), List.mem_of_getElem? (i := 1034) (by decide +kernel)⟩
theorem lw_p52 : lw_okq (⟨"PointLayersModel", "does", "(Z)V"⟩, 20) := ⟨⟨by decide +kernel, by decide +kernel⟩, List.mem_of_getElem? (i := 694) (by decide +kernel), List.mem_of_getElem? (i := 1037) (by decide +kernel), List.mem_of_getElem? (i := 1038) (by decide +kernel)⟩
theorem lw_p53 : lw_okq (⟨"PointLayersModel", "copyArea", "(II)V"⟩, 20) := ⟨⟨by decide +kernel, by decide +kernel⟩, List.mem_of_getElem? (i := 694) (by decide +kernel), List.mem_of_getElem? (i := 1041) (by decide +kernel), List.mem_of_getElem? (i := 1042) (by decide +kernel)⟩
theorem lw_p54 : lw_okq (⟨"PointLayersModel", "linesArea", "()V"⟩, 20) := ⟨⟨by decide +kernel, by decide +kernel⟩, List.mem_of_getElem? (i := 694) (by decide +kernel), List.mem_of_getElem? (i := 1049) (by decide +kernel), List.mem_of_getElem? (i := 1050) (by decide +kernel)⟩
theorem lw_p55 : lw_okq (⟨"PointLayersModel", "isCovered", "(II)Z"⟩, 20) := ⟨⟨by decide +kernel, by decide +kernel⟩, List.mem_of_getElem? (i := 694) (by decide +kernel), List.mem_of_getElem? (i := 1053) (by decide +kernel), List.mem_of_getElem? (i := 1054) (by decide +kernel)⟩
theorem lw_p56 : lw_okq (⟨"PointLayersModel", "tells", "(JJ)I"⟩, 20) := ⟨⟨by decide +kernel, by decide +kernel⟩, List.mem_of_getElem? (i := 694) (by decide +kernel), List.mem_of_getElem? (i := 1075) (by decide +kernel), List.mem_of_getElem? (i := 1076) (by decide +kernel)⟩
theorem lw_p57 : lw_okq (⟨"PointLayersModel", "sizeOf", "(I)I"⟩, 20) := ⟨⟨by decide +kernel, by decide +kernel⟩, List.mem_of_getElem? (i := 694) (by decide +kernel), List.mem_of_getElem? (i := 1101) (by decide +kernel), List.mem_of_getElem? (i := 1102) (by decide +kernel)⟩
theorem lw_p58 : lw_okq (⟨"PointLayersModel", "weights", "()I"⟩, 20) := ⟨⟨by decide +kernel, by decide +kernel⟩, List.mem_of_getElem? (i := 694) (by decide +kernel), List.mem_of_getElem? (i := 1105) (by decide +kernel), List.mem_of_getElem? (i := 1106) (by decide +kernel)⟩
theorem lw_p59 : lw_okq (⟨"PointLayersModel", "mix", "(J)V"⟩, 20) := ⟨⟨by decide +kernel, by decide +kernel⟩, List.mem_of_getElem? (i := 694) (by decide +kernel), List.mem_of_getElem? (i := 1114) (by decide +kernel), List.mem_of_getElem? (i := 1115) (by decide +kernel)⟩
def lw_privs_4 : List (MethodName × Nat) := [(⟨"PointLayersModel", "notes", "()V"⟩, 20), (⟨"PointLayersModel", "deep", "()I"⟩, 20), (⟨"PointLayersModel", "opens", "(I)V"⟩, 20), (⟨"PointLayersModel", "behind", "()I"⟩, 20), (⟨"PointLayersModel", "does", "(Z)V"⟩, 20), (⟨"PointLayersModel", "copyArea", "(II)V"⟩, 20), (⟨"PointLayersModel", "linesArea", "()V"⟩, 20), (⟨"PointLayersModel", "isCovered", "(II)Z"⟩, 20), (⟨"PointLayersModel", "tells", "(JJ)I"⟩, 20), (⟨"PointLayersModel", "sizeOf", "(I)I"⟩, 20), (⟨"PointLayersModel", "weights", "()I"⟩, 20), (⟨"PointLayersModel", "mix", "(J)V"⟩, 20)]
theorem lw_r4 : ∀ q ∈ lw_privs_4, lw_okq q := List.forall_mem_cons.mpr ⟨lw_p48, List.forall_mem_cons.mpr ⟨lw_p49, List.forall_mem_cons.mpr ⟨lw_p50, List.forall_mem_cons.mpr ⟨lw_p51, List.forall_mem_cons.mpr ⟨lw_p52, List.forall_mem_cons.mpr ⟨lw_p53, List.forall_mem_cons.mpr ⟨lw_p54, List.forall_mem_cons.mpr ⟨lw_p55, List.forall_mem_cons.mpr ⟨lw_p56, List.forall_mem_cons.mpr ⟨lw_p57, List.forall_mem_cons.mpr ⟨lw_p58, List.forall_mem_cons.mpr ⟨lw_p59, fun _ h => absurd h List.not_mem_nil⟩⟩⟩⟩⟩⟩⟩⟩⟩⟩⟩⟩
def lw_privs : List (MethodName × Nat) := lw_privs_1 ++ (lw_privs_2 ++ (lw_privs_3 ++ (lw_privs_4)))
def lw_tbl : List Cond := k2_sels lw_privs ++ tables_1
theorem lw_privs_ok : ∀ q ∈ lw_privs, lw_okq q := by
  show ∀ q ∈ lw_privs_1 ++ (lw_privs_2 ++ (lw_privs_3 ++ (lw_privs_4))), lw_okq q
  exact List.forall_mem_append.mpr ⟨lw_r1, List.forall_mem_append.mpr ⟨lw_r2, List.forall_mem_append.mpr ⟨lw_r3, lw_r4⟩⟩⟩
-- ===== end of PART A; then your names; then what follows =====
end
section
def RX0 : String := "PointLayers$Field"
def TX0 : u_T := fun k => match k with
  | 0 => ("PointLayers$Field", "numbers", "[I", true)
  | 1 => ("PointLayers$Field", "xs", "[I", true)
  | 2 => ("PointLayers$Field", "ys", "[I", true)
  | 3 => ("PointLayers$Field", "weights", "[I", true)
  | 4 => ("PointLayers$Field", "goneAs", "[I", true)
  | 5 => ("PointLayers$Field", "laid", "I", false)
  | 6 => ("PointLayers$Field", "ghosts", "I", false)
  | 7 => ("PointLayers$Field", "carried", "I", false)
  | 8 => ("PointLayers$Field", "anew", "I", false)
  | 9 => ("PointLayers$Field", "kind", "I", false)
  | _ => ("PointLayers$Field", "next", "I", false)
def tyX0 : Nat → FieldType := fun k => match k with
  | 0 => .array .int
  | 1 => .array .int
  | 2 => .array .int
  | 3 => .array .int
  | 4 => .array .int
  | 5 => .int
  | 6 => .int
  | 7 => .int
  | 8 => .int
  | 9 => .int
  | _ => .int
abbrev wsX00 : List Cond := u_ws RX0 TX0 11
theorem nmX0 : ∀ a, a < 11 → ∀ b, b < 11 → a ≠ b → (TX0 a).2.1 ≠ (TX0 b).2.1 := by decide +kernel
theorem tyX0_ok : ∀ k, k < 11 → parseFieldDescriptor (TX0 k).2.2.1 = some (tyX0 k) := by decide +kernel
abbrev cX0_init : ByteArray := prog_2_method_1_code
def yX0_init : MethodName := ⟨RX0, "<init>", "()V"⟩
abbrev cX0_there : ByteArray := prog_2_method_2_code
def yX0_there : MethodName := ⟨RX0, "there", "()I"⟩
abbrev cX0_hasNumbers : ByteArray := prog_2_method_3_code
def yX0_hasNumbers : MethodName := ⟨RX0, "hasNumbers", "(I)Z"⟩
abbrev cX0_isThere : ByteArray := prog_2_method_4_code
def yX0_isThere : MethodName := ⟨RX0, "isThere", "(I)Z"⟩
abbrev cX0_layersThere : ByteArray := prog_2_method_5_code
def yX0_layersThere : MethodName := ⟨RX0, "layersThere", "()I"⟩
abbrev cX0_find : ByteArray := prog_2_method_6_code
def yX0_find : MethodName := ⟨RX0, "find", "(I)I"⟩
abbrev cX0_come : ByteArray := prog_2_method_7_code
def yX0_come : MethodName := ⟨RX0, "come", "(III)I"⟩
abbrev cX0_goAway : ByteArray := prog_2_method_8_code
def yX0_goAway : MethodName := ⟨RX0, "goAway", "(I)I"⟩
abbrev cX0_layAnew : ByteArray := prog_2_method_9_code
def yX0_layAnew : MethodName := ⟨RX0, "layAnew", "()V"⟩
abbrev cX0_worth : ByteArray := prog_2_method_10_code
def yX0_worth : MethodName := ⟨RX0, "worth", "(I)I"⟩
abbrev cX0_north : ByteArray := prog_2_method_11_code
def yX0_north : MethodName := ⟨RX0, "north", "(I)I"⟩
abbrev cX0_weightOfAll : ByteArray := prog_2_method_12_code
def yX0_weightOfAll : MethodName := ⟨RX0, "weightOfAll", "()I"⟩
abbrev cX0_distance : ByteArray := prog_2_method_13_code
def yX0_distance : MethodName := ⟨RX0, "distance", "(III)I"⟩
abbrev cX0_isLess : ByteArray := prog_2_method_14_code
def yX0_isLess : MethodName := ⟨RX0, "isLess", "(II)Z"⟩
abbrev cX0_isTopped : ByteArray := prog_2_method_15_code
def yX0_isTopped : MethodName := ⟨RX0, "isTopped", "(II)Z"⟩
abbrev cX0_isBeforeByPlace : ByteArray := prog_2_method_16_code
def yX0_isBeforeByPlace : MethodName := ⟨RX0, "isBeforeByPlace", "(II)Z"⟩
abbrev cX0_hasInLayer : ByteArray := prog_2_method_17_code
def yX0_hasInLayer : MethodName := ⟨RX0, "hasInLayer", "(IZLPointLayers$Shape;)I"⟩
abbrev cX0_newestLayer : ByteArray := prog_2_method_18_code
def yX0_newestLayer : MethodName := ⟨RX0, "newestLayer", "(I)I"⟩
abbrev cX0_layerStart : ByteArray := prog_2_method_19_code
def yX0_layerStart : MethodName := ⟨RX0, "layerStart", "(II)I"⟩
abbrev cX0_copyFrom : ByteArray := prog_2_method_20_code
def yX0_copyFrom : MethodName := ⟨RX0, "copyFrom", "(LPointLayers$Field;)V"⟩
def RX1 : String := "PointLayers$Fraction"
def TX1 : u_T := fun k => match k with
  | 0 => ("PointLayers$Fraction", "above", "J", false)
  | _ => ("PointLayers$Fraction", "below", "J", false)
def tyX1 : Nat → FieldType := fun k => match k with
  | 0 => .long
  | _ => .long
abbrev wsX10 : List Cond := u_ws RX1 TX1 2
theorem nmX1 : ∀ a, a < 2 → ∀ b, b < 2 → a ≠ b → (TX1 a).2.1 ≠ (TX1 b).2.1 := by decide +kernel
theorem tyX1_ok : ∀ k, k < 2 → parseFieldDescriptor (TX1 k).2.2.1 = some (tyX1 k) := by decide +kernel
abbrev cX1_init : ByteArray := prog_3_method_1_code
def yX1_init : MethodName := ⟨RX1, "<init>", "()V"⟩
abbrev cX1_becomeOdds : ByteArray := prog_3_method_2_code
def yX1_becomeOdds : MethodName := ⟨RX1, "becomeOdds", "(III)V"⟩
abbrev cX1_power : ByteArray := prog_3_method_3_code
def yX1_power : MethodName := ⟨RX1, "power", "(JI)J"⟩
abbrev cX1_divisorOf : ByteArray := prog_3_method_4_code
def yX1_divisorOf : MethodName := ⟨RX1, "divisorOf", "(JJ)J"⟩
def RX2 : String := "PointLayers$History"
def TX2 : u_T := fun k => match k with
  | 0 => ("PointLayers$History", "slots", "[LPointLayers$Field;", true)
  | 1 => ("PointLayers$History", "oldest", "I", false)
  | _ => ("PointLayers$History", "known", "I", false)
def tyX2 : Nat → FieldType := fun k => match k with
  | 0 => .array (.object "PointLayers$Field")
  | 1 => .int
  | _ => .int
abbrev wsX20 : List Cond := u_ws RX2 TX2 3
theorem nmX2 : ∀ a, a < 3 → ∀ b, b < 3 → a ≠ b → (TX2 a).2.1 ≠ (TX2 b).2.1 := by decide +kernel
theorem tyX2_ok : ∀ k, k < 3 → parseFieldDescriptor (TX2 k).2.2.1 = some (tyX2 k) := by decide +kernel
abbrev cX2_init : ByteArray := prog_4_method_1_code
def yX2_init : MethodName := ⟨RX2, "<init>", "()V"⟩
abbrev cX2_keep : ByteArray := prog_4_method_2_code
def yX2_keep : MethodName := ⟨RX2, "keep", "(LPointLayers$Field;)V"⟩
abbrev cX2_bringBack : ByteArray := prog_4_method_3_code
def yX2_bringBack : MethodName := ⟨RX2, "bringBack", "(LPointLayers$Field;)V"⟩
abbrev cX2_forget : ByteArray := prog_4_method_4_code
def yX2_forget : MethodName := ⟨RX2, "forget", "()V"⟩
def RX3 : String := "PointLayers$Image"
def TX3 : u_T := fun k => match k with
  | 0 => ("PointLayers$Image", "field", "LPointLayers$Field;", true)
  | 1 => ("PointLayers$Image", "shape", "LPointLayers$Shape;", true)
  | _ => ("PointLayers$Image", "isKept", "Z", false)
def tyX3 : Nat → FieldType := fun k => match k with
  | 0 => .object "PointLayers$Field"
  | 1 => .object "PointLayers$Shape"
  | _ => .boolean
abbrev wsX30 : List Cond := u_ws RX3 TX3 3
theorem nmX3 : ∀ a, a < 3 → ∀ b, b < 3 → a ≠ b → (TX3 a).2.1 ≠ (TX3 b).2.1 := by decide +kernel
theorem tyX3_ok : ∀ k, k < 3 → parseFieldDescriptor (TX3 k).2.2.1 = some (tyX3 k) := by decide +kernel
abbrev cX3_init : ByteArray := prog_5_method_1_code
def yX3_init : MethodName := ⟨RX3, "<init>", "()V"⟩
abbrev cX3_keep : ByteArray := prog_5_method_2_code
def yX3_keep : MethodName := ⟨RX3, "keep", "(LPointLayers$Field;LPointLayers$Shape;)V"⟩
abbrev cX3_bringBack : ByteArray := prog_5_method_3_code
def yX3_bringBack : MethodName := ⟨RX3, "bringBack", "(LPointLayers$Field;LPointLayers$Shape;)V"⟩
def RX4 : String := "PointLayers$Picks"
def TX4 : u_T := fun k => match k with
  | 0 => ("PointLayers$Picks", "row", "[I", true)
  | _ => ("PointLayers$Picks", "filled", "I", false)
def tyX4 : Nat → FieldType := fun k => match k with
  | 0 => .array .int
  | _ => .int
abbrev wsX40 : List Cond := u_ws RX4 TX4 2
theorem nmX4 : ∀ a, a < 2 → ∀ b, b < 2 → a ≠ b → (TX4 a).2.1 ≠ (TX4 b).2.1 := by decide +kernel
theorem tyX4_ok : ∀ k, k < 2 → parseFieldDescriptor (TX4 k).2.2.1 = some (tyX4 k) := by decide +kernel
abbrev cX4_init : ByteArray := prog_6_method_1_code
def yX4_init : MethodName := ⟨RX4, "<init>", "()V"⟩
abbrev cX4_add : ByteArray := prog_6_method_2_code
def yX4_add : MethodName := ⟨RX4, "add", "(I)V"⟩
abbrev cX4_pickAll : ByteArray := prog_6_method_3_code
def yX4_pickAll : MethodName := ⟨RX4, "pickAll", "(LPointLayers$Field;)V"⟩
abbrev cX4_pickShape : ByteArray := prog_6_method_4_code
def yX4_pickShape : MethodName := ⟨RX4, "pickShape", "(LPointLayers$Field;LPointLayers$Shape;)V"⟩
abbrev cX4_pickStairs : ByteArray := prog_6_method_5_code
def yX4_pickStairs : MethodName := ⟨RX4, "pickStairs", "(LPointLayers$Field;LPointLayers$Picks;)V"⟩
abbrev cX4_tops : ByteArray := prog_6_method_6_code
def yX4_tops : MethodName := ⟨RX4, "tops", "(LPointLayers$Field;I)Z"⟩
abbrev cX4_sortByPlace : ByteArray := prog_6_method_7_code
def yX4_sortByPlace : MethodName := ⟨RX4, "sortByPlace", "(LPointLayers$Field;)V"⟩
abbrev cX4_sortByHeight : ByteArray := prog_6_method_8_code
def yX4_sortByHeight : MethodName := ⟨RX4, "sortByHeight", "(LPointLayers$Field;)V"⟩
abbrev cX4_sort : ByteArray := prog_6_method_9_code
def yX4_sort : MethodName := ⟨RX4, "sort", "(LPointLayers$Field;Z)V"⟩
abbrev cX4_isBefore : ByteArray := prog_6_method_10_code
def yX4_isBefore : MethodName := ⟨RX4, "isBefore", "(LPointLayers$Field;IIZ)Z"⟩
abbrev cX4_turnToNumbers : ByteArray := prog_6_method_11_code
def yX4_turnToNumbers : MethodName := ⟨RX4, "turnToNumbers", "(LPointLayers$Field;)V"⟩
abbrev cX4_numberOf : ByteArray := prog_6_method_12_code
def yX4_numberOf : MethodName := ⟨RX4, "numberOf", "(LPointLayers$Field;I)I"⟩
abbrev cX4_worthOfAll : ByteArray := prog_6_method_13_code
def yX4_worthOfAll : MethodName := ⟨RX4, "worthOfAll", "(LPointLayers$Field;)I"⟩
abbrev cX4_within : ByteArray := prog_6_method_14_code
def yX4_within : MethodName := ⟨RX4, "within", "(LPointLayers$Field;III)I"⟩
abbrev cX4_inSquare : ByteArray := prog_6_method_15_code
def yX4_inSquare : MethodName := ⟨RX4, "inSquare", "(LPointLayers$Field;III)I"⟩
abbrev cX4_fullestFrom : ByteArray := prog_6_method_16_code
def yX4_fullestFrom : MethodName := ⟨RX4, "fullestFrom", "(LPointLayers$Field;II)I"⟩
abbrev cX4_inColumn : ByteArray := prog_6_method_17_code
def yX4_inColumn : MethodName := ⟨RX4, "inColumn", "(LPointLayers$Field;III)I"⟩
def RX5 : String := "PointLayers$Reader"
def TX5 : u_T := fun k => match k with
  | 0 => ("PointLayers$Reader", "signs", "[I", true)
  | 1 => ("PointLayers$Reader", "draft", "LPointLayers$Shape;", true)
  | 2 => ("PointLayers$Reader", "length", "I", false)
  | 3 => ("PointLayers$Reader", "at", "I", false)
  | _ => ("PointLayers$Reader", "fault", "I", false)
def tyX5 : Nat → FieldType := fun k => match k with
  | 0 => .array .int
  | 1 => .object "PointLayers$Shape"
  | 2 => .int
  | 3 => .int
  | _ => .int
abbrev wsX50 : List Cond := u_ws RX5 TX5 5
theorem nmX5 : ∀ a, a < 5 → ∀ b, b < 5 → a ≠ b → (TX5 a).2.1 ≠ (TX5 b).2.1 := by decide +kernel
theorem tyX5_ok : ∀ k, k < 5 → parseFieldDescriptor (TX5 k).2.2.1 = some (tyX5 k) := by decide +kernel
abbrev cX5_init : ByteArray := prog_7_method_1_code
def yX5_init : MethodName := ⟨RX5, "<init>", "()V"⟩
abbrev cX5_append : ByteArray := prog_7_method_2_code
def yX5_append : MethodName := ⟨RX5, "append", "(I)V"⟩
abbrev cX5_read : ByteArray := prog_7_method_3_code
def yX5_read : MethodName := ⟨RX5, "read", "()I"⟩
abbrev cX5_readArea : ByteArray := prog_7_method_4_code
def yX5_readArea : MethodName := ⟨RX5, "readArea", "(I)V"⟩
abbrev cX5_readPart : ByteArray := prog_7_method_5_code
def yX5_readPart : MethodName := ⟨RX5, "readPart", "(I)V"⟩
abbrev cX5_readSpot : ByteArray := prog_7_method_6_code
def yX5_readSpot : MethodName := ⟨RX5, "readSpot", "(I)V"⟩
abbrev cX5_readRectangle : ByteArray := prog_7_method_7_code
def yX5_readRectangle : MethodName := ⟨RX5, "readRectangle", "()V"⟩
abbrev cX5_readNumber : ByteArray := prog_7_method_8_code
def yX5_readNumber : MethodName := ⟨RX5, "readNumber", "(I)I"⟩
abbrev cX5_isFigure : ByteArray := prog_7_method_9_code
def yX5_isFigure : MethodName := ⟨RX5, "isFigure", "(I)Z"⟩
abbrev cX5_nextSign : ByteArray := prog_7_method_10_code
def yX5_nextSign : MethodName := ⟨RX5, "nextSign", "()I"⟩
abbrev cX5_expect : ByteArray := prog_7_method_11_code
def yX5_expect : MethodName := ⟨RX5, "expect", "(I)V"⟩
abbrev cX5_fail : ByteArray := prog_7_method_12_code
def yX5_fail : MethodName := ⟨RX5, "fail", "(I)V"⟩
def RX6 : String := "PointLayers$Shape"
def TX6 : u_T := fun k => match k with
  | 0 => ("PointLayers$Shape", "steps", "[I", true)
  | 1 => ("PointLayers$Shape", "sides", "[I", true)
  | 2 => ("PointLayers$Shape", "filled", "I", false)
  | _ => ("PointLayers$Shape", "rectangles", "I", false)
def tyX6 : Nat → FieldType := fun k => match k with
  | 0 => .array .int
  | 1 => .array .int
  | 2 => .int
  | _ => .int
abbrev wsX60 : List Cond := u_ws RX6 TX6 4
theorem nmX6 : ∀ a, a < 4 → ∀ b, b < 4 → a ≠ b → (TX6 a).2.1 ≠ (TX6 b).2.1 := by decide +kernel
theorem tyX6_ok : ∀ k, k < 4 → parseFieldDescriptor (TX6 k).2.2.1 = some (tyX6 k) := by decide +kernel
abbrev cX6_init : ByteArray := prog_8_method_1_code
def yX6_init : MethodName := ⟨RX6, "<init>", "()V"⟩
abbrev cX6_empty : ByteArray := prog_8_method_2_code
def yX6_empty : MethodName := ⟨RX6, "empty", "()V"⟩
abbrev cX6_becomeRectangle : ByteArray := prog_8_method_3_code
def yX6_becomeRectangle : MethodName := ⟨RX6, "becomeRectangle", "(IIII)V"⟩
abbrev cX6_addRectangle : ByteArray := prog_8_method_4_code
def yX6_addRectangle : MethodName := ⟨RX6, "addRectangle", "(IIII)V"⟩
abbrev cX6_addStep : ByteArray := prog_8_method_5_code
def yX6_addStep : MethodName := ⟨RX6, "addStep", "(I)V"⟩
abbrev cX6_holds : ByteArray := prog_8_method_6_code
def yX6_holds : MethodName := ⟨RX6, "holds", "(II)Z"⟩
abbrev cX6_join : ByteArray := prog_8_method_7_code
def yX6_join : MethodName := ⟨RX6, "join", "(II)I"⟩
abbrev cX6_inRectangle : ByteArray := prog_8_method_8_code
def yX6_inRectangle : MethodName := ⟨RX6, "inRectangle", "(III)Z"⟩
abbrev cX6_copyFrom : ByteArray := prog_8_method_9_code
def yX6_copyFrom : MethodName := ⟨RX6, "copyFrom", "(LPointLayers$Shape;)V"⟩
def RX7 : String := "PointLayers"
def TX7 : u_T := fun k => match k with
  | 0 => ("PointLayers", "field", "LPointLayers$Field;", true)
  | 1 => ("PointLayers", "history", "LPointLayers$History;", true)
  | 2 => ("PointLayers", "picks", "LPointLayers$Picks;", true)
  | 3 => ("PointLayers", "heights", "LPointLayers$Picks;", true)
  | 4 => ("PointLayers", "box", "LPointLayers$Shape;", true)
  | 5 => ("PointLayers", "shape", "LPointLayers$Shape;", true)
  | 6 => ("PointLayers", "reader", "LPointLayers$Reader;", true)
  | 7 => ("PointLayers", "fraction", "LPointLayers$Fraction;", true)
  | 8 => ("PointLayers", "kept", "[LPointLayers$Image;", true)
  | 9 => ("PointLayers", "searches", "I", false)
  | 10 => ("PointLayers", "refusedBad", "I", false)
  | 11 => ("PointLayers", "refusedNo", "I", false)
  | _ => ("PointLayers", "refusedFull", "I", false)
def tyX7 : Nat → FieldType := fun k => match k with
  | 0 => .object "PointLayers$Field"
  | 1 => .object "PointLayers$History"
  | 2 => .object "PointLayers$Picks"
  | 3 => .object "PointLayers$Picks"
  | 4 => .object "PointLayers$Shape"
  | 5 => .object "PointLayers$Shape"
  | 6 => .object "PointLayers$Reader"
  | 7 => .object "PointLayers$Fraction"
  | 8 => .array (.object "PointLayers$Image")
  | 9 => .int
  | 10 => .int
  | 11 => .int
  | _ => .int
abbrev wsX70 : List Cond := u_ws RX7 TX7 13
theorem nmX7 : ∀ a, a < 13 → ∀ b, b < 13 → a ≠ b → (TX7 a).2.1 ≠ (TX7 b).2.1 := by decide +kernel
theorem tyX7_ok : ∀ k, k < 13 → parseFieldDescriptor (TX7 k).2.2.1 = some (tyX7 k) := by decide +kernel
abbrev cX7_init : ByteArray := prog_1_method_1_code
def yX7_init : MethodName := ⟨RX7, "<init>", "()V"⟩
abbrev cX7_put : ByteArray := prog_1_method_2_code
def yX7_put : MethodName := ⟨RX7, "put", "(III)I"⟩
abbrev cX7_take : ByteArray := prog_1_method_3_code
def yX7_take : MethodName := ⟨RX7, "take", "(I)I"⟩
abbrev cX7_move : ByteArray := prog_1_method_4_code
def yX7_move : MethodName := ⟨RX7, "move", "(III)I"⟩
abbrev cX7_scatter : ByteArray := prog_1_method_5_code
def yX7_scatter : MethodName := ⟨RX7, "scatter", "(II)I"⟩
abbrev cX7_sweep : ByteArray := prog_1_method_6_code
def yX7_sweep : MethodName := ⟨RX7, "sweep", "(IIII)I"⟩
abbrev cX7_counter : ByteArray := prog_1_method_7_code
def yX7_counter : MethodName := ⟨RX7, "counter", "(I)I"⟩
abbrev cX7_undo : ByteArray := prog_1_method_8_code
def yX7_undo : MethodName := ⟨RX7, "undo", "()I"⟩
abbrev cX7_of : ByteArray := prog_1_method_9_code
def yX7_of : MethodName := ⟨RX7, "of", "(II)I"⟩
abbrev cX7_nth : ByteArray := prog_1_method_10_code
def yX7_nth : MethodName := ⟨RX7, "nth", "(I)I"⟩
abbrev cX7_count : ByteArray := prog_1_method_11_code
def yX7_count : MethodName := ⟨RX7, "count", "(IIII)I"⟩
abbrev cX7_many : ByteArray := prog_1_method_12_code
def yX7_many : MethodName := ⟨RX7, "many", "(IIII)I"⟩
abbrev cX7_kth : ByteArray := prog_1_method_13_code
def yX7_kth : MethodName := ⟨RX7, "kth", "(IIIII)I"⟩
abbrev cX7_half : ByteArray := prog_1_method_14_code
def yX7_half : MethodName := ⟨RX7, "half", "(IIII)I"⟩
abbrev cX7_below : ByteArray := prog_1_method_15_code
def yX7_below : MethodName := ⟨RX7, "below", "(II)I"⟩
abbrev cX7_ring : ByteArray := prog_1_method_16_code
def yX7_ring : MethodName := ⟨RX7, "ring", "(III)I"⟩
abbrev cX7_near : ByteArray := prog_1_method_17_code
def yX7_near : MethodName := ⟨RX7, "near", "(II)I"⟩
abbrev cX7_strip : ByteArray := prog_1_method_18_code
def yX7_strip : MethodName := ⟨RX7, "strip", "(I)I"⟩
abbrev cX7_square : ByteArray := prog_1_method_19_code
def yX7_square : MethodName := ⟨RX7, "square", "(II)I"⟩
abbrev cX7_pairs : ByteArray := prog_1_method_20_code
def yX7_pairs : MethodName := ⟨RX7, "pairs", "()I"⟩
abbrev cX7_stair : ByteArray := prog_1_method_21_code
def yX7_stair : MethodName := ⟨RX7, "stair", "(I)I"⟩
abbrev cX7_layers : ByteArray := prog_1_method_22_code
def yX7_layers : MethodName := ⟨RX7, "layers", "(I)I"⟩
abbrev cX7_inLayer : ByteArray := prog_1_method_23_code
def yX7_inLayer : MethodName := ⟨RX7, "inLayer", "(IIIIII)I"⟩
abbrev cX7_type : ByteArray := prog_1_method_24_code
def yX7_type : MethodName := ⟨RX7, "type", "(I)I"⟩
abbrev cX7_clear : ByteArray := prog_1_method_25_code
def yX7_clear : MethodName := ⟨RX7, "clear", "()I"⟩
abbrev cX7_area : ByteArray := prog_1_method_26_code
def yX7_area : MethodName := ⟨RX7, "area", "()I"⟩
abbrev cX7_inside : ByteArray := prog_1_method_27_code
def yX7_inside : MethodName := ⟨RX7, "inside", "()I"⟩
abbrev cX7_covers : ByteArray := prog_1_method_28_code
def yX7_covers : MethodName := ⟨RX7, "covers", "(II)I"⟩
abbrev cX7_found : ByteArray := prog_1_method_29_code
def yX7_found : MethodName := ⟨RX7, "found", "(I)I"⟩
abbrev cX7_mow : ByteArray := prog_1_method_30_code
def yX7_mow : MethodName := ⟨RX7, "mow", "()I"⟩
abbrev cX7_odds : ByteArray := prog_1_method_31_code
def yX7_odds : MethodName := ⟨RX7, "odds", "(IIIIII)I"⟩
abbrev cX7_part : ByteArray := prog_1_method_32_code
def yX7_part : MethodName := ⟨RX7, "part", "(I)J"⟩
abbrev cX7_image : ByteArray := prog_1_method_33_code
def yX7_image : MethodName := ⟨RX7, "image", "(I)I"⟩
abbrev cX7_from : ByteArray := prog_1_method_34_code
def yX7_from : MethodName := ⟨RX7, "from", "(I)I"⟩
abbrev cX7_status : ByteArray := prog_1_method_35_code
def yX7_status : MethodName := ⟨RX7, "status", "(I)I"⟩
abbrev cX7_size : ByteArray := prog_1_method_36_code
def yX7_size : MethodName := ⟨RX7, "size", "(I)I"⟩
abbrev cX7_digest : ByteArray := prog_1_method_37_code
def yX7_digest : MethodName := ⟨RX7, "digest", "()J"⟩
abbrev cX7_refuse : ByteArray := prog_1_method_38_code
def yX7_refuse : MethodName := ⟨RX7, "refuse", "(I)I"⟩
abbrev cX7_pickRectangle : ByteArray := prog_1_method_39_code
def yX7_pickRectangle : MethodName := ⟨RX7, "pickRectangle", "(IIII)V"⟩
abbrev cX7_takePicked : ByteArray := prog_1_method_40_code
def yX7_takePicked : MethodName := ⟨RX7, "takePicked", "()I"⟩
abbrev cX7_isOnAxis : ByteArray := prog_1_method_41_code
def yX7_isOnAxis : MethodName := ⟨RX7, "isOnAxis", "(I)Z"⟩
abbrev cX7_isPlace : ByteArray := prog_1_method_42_code
def yX7_isPlace : MethodName := ⟨RX7, "isPlace", "(II)Z"⟩
abbrev cX7_isRectangle : ByteArray := prog_1_method_43_code
def yX7_isRectangle : MethodName := ⟨RX7, "isRectangle", "(IIII)Z"⟩
abbrev cX7_draw : ByteArray := prog_1_method_44_code
def yX7_draw : MethodName := ⟨RX7, "draw", "(J)J"⟩
abbrev cX7_leftOver : ByteArray := prog_1_method_45_code
def yX7_leftOver : MethodName := ⟨RX7, "leftOver", "(JI)I"⟩
def RX8 : String := "PointLayersModel"
def TX8 : u_T := fun k => match k with
  | 0 => ("PointLayersModel", "w", "[I", true)
  | 1 => ("PointLayersModel", "areas", "[I", true)
  | 2 => ("PointLayersModel", "undoes", "I", false)
  | 3 => ("PointLayersModel", "searches", "I", false)
  | 4 => ("PointLayersModel", "isKept", "[Z", true)
  | 5 => ("PointLayersModel", "text", "[I", true)
  | 6 => ("PointLayersModel", "texted", "I", false)
  | 7 => ("PointLayersModel", "above", "J", false)
  | 8 => ("PointLayersModel", "below", "J", false)
  | 9 => ("PointLayersModel", "statuses", "[I", true)
  | 10 => ("PointLayersModel", "draw", "I", false)
  | 11 => ("PointLayersModel", "line", "[I", true)
  | 12 => ("PointLayersModel", "lined", "I", false)
  | 13 => ("PointLayersModel", "at", "I", false)
  | 14 => ("PointLayersModel", "fault", "I", false)
  | 15 => ("PointLayersModel", "signs", "[I", true)
  | 16 => ("PointLayersModel", "open", "I", false)
  | 17 => ("PointLayersModel", "number", "I", false)
  | 18 => ("PointLayersModel", "stack", "[Z", true)
  | _ => ("PointLayersModel", "h0", "J", false)
def tyX8 : Nat → FieldType := fun k => match k with
  | 0 => .array .int
  | 1 => .array .int
  | 2 => .int
  | 3 => .int
  | 4 => .array .boolean
  | 5 => .array .int
  | 6 => .int
  | 7 => .long
  | 8 => .long
  | 9 => .array .int
  | 10 => .int
  | 11 => .array .int
  | 12 => .int
  | 13 => .int
  | 14 => .int
  | 15 => .array .int
  | 16 => .int
  | 17 => .int
  | 18 => .array .boolean
  | _ => .long
abbrev wsX80 : List Cond := u_ws RX8 TX8 20
theorem nmX8 : ∀ a, a < 20 → ∀ b, b < 20 → a ≠ b → (TX8 a).2.1 ≠ (TX8 b).2.1 := by decide +kernel
theorem tyX8_ok : ∀ k, k < 20 → parseFieldDescriptor (TX8 k).2.2.1 = some (tyX8 k) := by decide +kernel
abbrev cX8_init : ByteArray := prog_10_method_1_code
def yX8_init : MethodName := ⟨RX8, "<init>", "()V"⟩
abbrev cX8_in : ByteArray := prog_10_method_3_code
def yX8_in : MethodName := ⟨RX8, "in", "(JJJ)Z"⟩
abbrev cX8_bits : ByteArray := prog_10_method_5_code
def yX8_bits : MethodName := ⟨RX8, "bits", "(I)I"⟩
abbrev cX8_bad : ByteArray := prog_10_method_6_code
def yX8_bad : MethodName := ⟨RX8, "bad", "()I"⟩
abbrev cX8_no : ByteArray := prog_10_method_7_code
def yX8_no : MethodName := ⟨RX8, "no", "()I"⟩
abbrev cX8_full : ByteArray := prog_10_method_8_code
def yX8_full : MethodName := ⟨RX8, "full", "()I"⟩
abbrev cX8_copy : ByteArray := prog_10_method_9_code
def yX8_copy : MethodName := ⟨RX8, "copy", "(II)V"⟩
abbrev cX8_copyArea : ByteArray := prog_10_method_10_code
def yX8_copyArea : MethodName := ⟨RX8, "copyArea", "(II)V"⟩
abbrev cX8_isPlace : ByteArray := prog_10_method_11_code
def yX8_isPlace : MethodName := ⟨RX8, "isPlace", "(I)Z"⟩
abbrev cX8_isRect : ByteArray := prog_10_method_12_code
def yX8_isRect : MethodName := ⟨RX8, "isRect", "(IIII)Z"⟩
abbrev cX8_points : ByteArray := prog_10_method_13_code
def yX8_points : MethodName := ⟨RX8, "points", "()I"⟩
abbrev cX8_isThere : ByteArray := prog_10_method_14_code
def yX8_isThere : MethodName := ⟨RX8, "isThere", "(I)Z"⟩
abbrev cX8_isIn : ByteArray := prog_10_method_15_code
def yX8_isIn : MethodName := ⟨RX8, "isIn", "(IIIII)Z"⟩
abbrev cX8_find : ByteArray := prog_10_method_16_code
def yX8_find : MethodName := ⟨RX8, "find", "(I)I"⟩
abbrev cX8_counts : ByteArray := prog_10_method_17_code
def yX8_counts : MethodName := ⟨RX8, "counts", "(I)I"⟩
abbrev cX8_minds : ByteArray := prog_10_method_18_code
def yX8_minds : MethodName := ⟨RX8, "minds", "()V"⟩
abbrev cX8_carriedBy : ByteArray := prog_10_method_19_code
def yX8_carriedBy : MethodName := ⟨RX8, "carriedBy", "(I)I"⟩
abbrev cX8_comes : ByteArray := prog_10_method_20_code
def yX8_comes : MethodName := ⟨RX8, "comes", "(III)V"⟩
abbrev cX8_laysAnew : ByteArray := prog_10_method_21_code
def yX8_laysAnew : MethodName := ⟨RX8, "laysAnew", "()V"⟩
abbrev cX8_goes : ByteArray := prog_10_method_22_code
def yX8_goes : MethodName := ⟨RX8, "goes", "(I)V"⟩
abbrev cX8_put : ByteArray := prog_10_method_23_code
def yX8_put : MethodName := ⟨RX8, "put", "(III)I"⟩
abbrev cX8_take : ByteArray := prog_10_method_24_code
def yX8_take : MethodName := ⟨RX8, "take", "(I)I"⟩
abbrev cX8_move : ByteArray := prog_10_method_25_code
def yX8_move : MethodName := ⟨RX8, "move", "(III)I"⟩
abbrev cX8_draws : ByteArray := prog_10_method_26_code
def yX8_draws : MethodName := ⟨RX8, "draws", "(I)I"⟩
abbrev cX8_scatter : ByteArray := prog_10_method_27_code
def yX8_scatter : MethodName := ⟨RX8, "scatter", "(II)I"⟩
abbrev cX8_isAhead : ByteArray := prog_10_method_28_code
def yX8_isAhead : MethodName := ⟨RX8, "isAhead", "(II)Z"⟩
abbrev cX8_insert : ByteArray := prog_10_method_29_code
def yX8_insert : MethodName := ⟨RX8, "insert", "(I)V"⟩
abbrev cX8_lines : ByteArray := prog_10_method_30_code
def yX8_lines : MethodName := ⟨RX8, "lines", "(IIII)V"⟩
abbrev cX8_takesLine : ByteArray := prog_10_method_31_code
def yX8_takesLine : MethodName := ⟨RX8, "takesLine", "()I"⟩
abbrev cX8_sweep : ByteArray := prog_10_method_32_code
def yX8_sweep : MethodName := ⟨RX8, "sweep", "(IIII)I"⟩
abbrev cX8_counter : ByteArray := prog_10_method_33_code
def yX8_counter : MethodName := ⟨RX8, "counter", "(I)I"⟩
abbrev cX8_undo : ByteArray := prog_10_method_34_code
def yX8_undo : MethodName := ⟨RX8, "undo", "()I"⟩
abbrev cX8_ofPoint : ByteArray := prog_10_method_35_code
def yX8_ofPoint : MethodName := ⟨RX8, "ofPoint", "(II)I"⟩
abbrev cX8_of : ByteArray := prog_10_method_36_code
def yX8_of : MethodName := ⟨RX8, "of", "(II)I"⟩
abbrev cX8_nth : ByteArray := prog_10_method_37_code
def yX8_nth : MethodName := ⟨RX8, "nth", "(I)I"⟩
abbrev cX8_count : ByteArray := prog_10_method_38_code
def yX8_count : MethodName := ⟨RX8, "count", "(IIII)I"⟩
abbrev cX8_manyIn : ByteArray := prog_10_method_39_code
def yX8_manyIn : MethodName := ⟨RX8, "manyIn", "(IIII)I"⟩
abbrev cX8_many : ByteArray := prog_10_method_40_code
def yX8_many : MethodName := ⟨RX8, "many", "(IIII)I"⟩
abbrev cX8_kth : ByteArray := prog_10_method_41_code
def yX8_kth : MethodName := ⟨RX8, "kth", "(IIIII)I"⟩
abbrev cX8_half : ByteArray := prog_10_method_42_code
def yX8_half : MethodName := ⟨RX8, "half", "(IIII)I"⟩
abbrev cX8_below : ByteArray := prog_10_method_43_code
def yX8_below : MethodName := ⟨RX8, "below", "(II)I"⟩
abbrev cX8_ring : ByteArray := prog_10_method_44_code
def yX8_ring : MethodName := ⟨RX8, "ring", "(III)I"⟩
abbrev cX8_abs : ByteArray := prog_10_method_45_code
def yX8_abs : MethodName := ⟨RX8, "abs", "(I)I"⟩
abbrev cX8_apart : ByteArray := prog_10_method_46_code
def yX8_apart : MethodName := ⟨RX8, "apart", "(III)I"⟩
abbrev cX8_near : ByteArray := prog_10_method_47_code
def yX8_near : MethodName := ⟨RX8, "near", "(II)I"⟩
abbrev cX8_strip : ByteArray := prog_10_method_48_code
def yX8_strip : MethodName := ⟨RX8, "strip", "(I)I"⟩
abbrev cX8_square : ByteArray := prog_10_method_49_code
def yX8_square : MethodName := ⟨RX8, "square", "(II)I"⟩
abbrev cX8_pairs : ByteArray := prog_10_method_50_code
def yX8_pairs : MethodName := ⟨RX8, "pairs", "()I"⟩
abbrev cX8_isStair : ByteArray := prog_10_method_51_code
def yX8_isStair : MethodName := ⟨RX8, "isStair", "(I)Z"⟩
abbrev cX8_stair : ByteArray := prog_10_method_52_code
def yX8_stair : MethodName := ⟨RX8, "stair", "(I)I"⟩
abbrev cX8_layersOf : ByteArray := prog_10_method_53_code
def yX8_layersOf : MethodName := ⟨RX8, "layersOf", "(I)I"⟩
abbrev cX8_layers : ByteArray := prog_10_method_54_code
def yX8_layers : MethodName := ⟨RX8, "layers", "(I)I"⟩
abbrev cX8_inLayer : ByteArray := prog_10_method_55_code
def yX8_inLayer : MethodName := ⟨RX8, "inLayer", "(IIIIII)I"⟩
abbrev cX8_type : ByteArray := prog_10_method_56_code
def yX8_type : MethodName := ⟨RX8, "type", "(I)I"⟩
abbrev cX8_clear : ByteArray := prog_10_method_57_code
def yX8_clear : MethodName := ⟨RX8, "clear", "()I"⟩
abbrev cX8_here : ByteArray := prog_10_method_58_code
def yX8_here : MethodName := ⟨RX8, "here", "()I"⟩
abbrev cX8_next : ByteArray := prog_10_method_59_code
def yX8_next : MethodName := ⟨RX8, "next", "()I"⟩
abbrev cX8_takes : ByteArray := prog_10_method_60_code
def yX8_takes : MethodName := ⟨RX8, "takes", "(I)Z"⟩
abbrev cX8_takesNumber : ByteArray := prog_10_method_61_code
def yX8_takesNumber : MethodName := ⟨RX8, "takesNumber", "(I)Z"⟩
abbrev cX8_puts : ByteArray := prog_10_method_62_code
def yX8_puts : MethodName := ⟨RX8, "puts", "(I)V"⟩
abbrev cX8_takesRect : ByteArray := prog_10_method_63_code
def yX8_takesRect : MethodName := ⟨RX8, "takesRect", "()Z"⟩
abbrev cX8_notes : ByteArray := prog_10_method_64_code
def yX8_notes : MethodName := ⟨RX8, "notes", "()V"⟩
abbrev cX8_does : ByteArray := prog_10_method_65_code
def yX8_does : MethodName := ⟨RX8, "does", "(Z)V"⟩
abbrev cX8_deep : ByteArray := prog_10_method_66_code
def yX8_deep : MethodName := ⟨RX8, "deep", "()I"⟩
abbrev cX8_opens : ByteArray := prog_10_method_67_code
def yX8_opens : MethodName := ⟨RX8, "opens", "(I)V"⟩
abbrev cX8_spot : ByteArray := prog_10_method_68_code
def yX8_spot : MethodName := ⟨RX8, "spot", "()I"⟩
abbrev cX8_behind : ByteArray := prog_10_method_69_code
def yX8_behind : MethodName := ⟨RX8, "behind", "()I"⟩
abbrev cX8_area : ByteArray := prog_10_method_70_code
def yX8_area : MethodName := ⟨RX8, "area", "()I"⟩
abbrev cX8_isCovered : ByteArray := prog_10_method_71_code
def yX8_isCovered : MethodName := ⟨RX8, "isCovered", "(II)Z"⟩
abbrev cX8_linesArea : ByteArray := prog_10_method_72_code
def yX8_linesArea : MethodName := ⟨RX8, "linesArea", "()V"⟩
abbrev cX8_inside : ByteArray := prog_10_method_73_code
def yX8_inside : MethodName := ⟨RX8, "inside", "()I"⟩
abbrev cX8_covers : ByteArray := prog_10_method_74_code
def yX8_covers : MethodName := ⟨RX8, "covers", "(II)I"⟩
abbrev cX8_found : ByteArray := prog_10_method_75_code
def yX8_found : MethodName := ⟨RX8, "found", "(I)I"⟩
abbrev cX8_mow : ByteArray := prog_10_method_76_code
def yX8_mow : MethodName := ⟨RX8, "mow", "()I"⟩
abbrev cX8_tells : ByteArray := prog_10_method_77_code
def yX8_tells : MethodName := ⟨RX8, "tells", "(JJ)I"⟩
abbrev cX8_odds : ByteArray := prog_10_method_78_code
def yX8_odds : MethodName := ⟨RX8, "odds", "(IIIIII)I"⟩
abbrev cX8_part : ByteArray := prog_10_method_79_code
def yX8_part : MethodName := ⟨RX8, "part", "(I)J"⟩
abbrev cX8_image : ByteArray := prog_10_method_80_code
def yX8_image : MethodName := ⟨RX8, "image", "(I)I"⟩
abbrev cX8_from : ByteArray := prog_10_method_81_code
def yX8_from : MethodName := ⟨RX8, "from", "(I)I"⟩
abbrev cX8_status : ByteArray := prog_10_method_82_code
def yX8_status : MethodName := ⟨RX8, "status", "(I)I"⟩
abbrev cX8_weights : ByteArray := prog_10_method_83_code
def yX8_weights : MethodName := ⟨RX8, "weights", "()I"⟩
abbrev cX8_sizeOf : ByteArray := prog_10_method_84_code
def yX8_sizeOf : MethodName := ⟨RX8, "sizeOf", "(I)I"⟩
abbrev cX8_size : ByteArray := prog_10_method_85_code
def yX8_size : MethodName := ⟨RX8, "size", "(I)I"⟩
abbrev cX8_mix : ByteArray := prog_10_method_86_code
def yX8_mix : MethodName := ⟨RX8, "mix", "(J)V"⟩
abbrev cX8_digest : ByteArray := prog_10_method_87_code
def yX8_digest : MethodName := ⟨RX8, "digest", "()J"⟩
def RJ6 : String := "java/lang/Integer"
def TJ6 : u_T := fun k => match k with
  | _ => ("", "", "", false)
def tyJ6 : Nat → FieldType := fun k => match k with
  | _ => .int
theorem nmJ6 : ∀ a, a < 0 → ∀ b, b < 0 → a ≠ b → (TJ6 a).2.1 ≠ (TJ6 b).2.1 := by decide +kernel
theorem tyJ6_ok : ∀ k, k < 0 → parseFieldDescriptor (TJ6 k).2.2.1 = some (tyJ6 k) := by decide +kernel
abbrev cJ6_bitCount_0f7a4 : ByteArray := prog_11_method_49_code
def yJ6_bitCount_0f7a4 : MethodName := ⟨RJ6, "bitCount", "(I)I"⟩
def RJ9 : String := "java/lang/Math"
def TJ9 : u_T := fun k => match k with
  | _ => ("", "", "", false)
def tyJ9 : Nat → FieldType := fun k => match k with
  | _ => .int
theorem nmJ9 : ∀ a, a < 0 → ∀ b, b < 0 → a ≠ b → (TJ9 a).2.1 ≠ (TJ9 b).2.1 := by decide +kernel
theorem tyJ9_ok : ∀ k, k < 0 → parseFieldDescriptor (TJ9 k).2.2.1 = some (tyJ9 k) := by decide +kernel
abbrev cJ9_abs_0f7a4 : ByteArray := prog_12_method_59_code
def yJ9_abs_0f7a4 : MethodName := ⟨RJ9, "abs", "(I)I"⟩
abbrev cJ9_max_7cf53 : ByteArray := prog_12_method_65_code
def yJ9_max_7cf53 : MethodName := ⟨RJ9, "max", "(II)I"⟩
def RJ10 : String := "java/lang/System"
def TJ10 : u_T := fun k => match k with
  | _ => ("", "", "", false)
def tyJ10 : Nat → FieldType := fun k => match k with
  | _ => .int
theorem nmJ10 : ∀ a, a < 0 → ∀ b, b < 0 → a ≠ b → (TJ10 a).2.1 ≠ (TJ10 b).2.1 := by decide +kernel
theorem tyJ10_ok : ∀ k, k < 0 → parseFieldDescriptor (TJ10 k).2.2.1 = some (tyJ10 k) := by decide +kernel
def RL : String := "PointLayersLaw"
abbrev cL_law : ByteArray := code
def yL_law : MethodName := ⟨RL, "law", "([I)Z"⟩
abbrev vwCl : List vw_C := [(RX0, TX0, 11), (RX1, TX1, 2), (RX2, TX2, 3), (RX3, TX3, 3), (RX4, TX4, 2), (RX5, TX5, 5), (RX6, TX6, 4), (RX7, TX7, 13), (RX8, TX8, 20)]
end
section
theorem dX0_init_0 : decode cX0_init 0 = .ok (.aload_n 0, 1) := by decide +kernel
theorem dX0_init_1 : decode cX0_init 1 = .ok (.invokespecial 3, 3) := by decide +kernel
theorem dX0_init_4 : decode cX0_init 4 = .ok (.aload_n 0, 1) := by decide +kernel
theorem dX0_init_5 : decode cX0_init 5 = .ok (.bipush 121, 2) := by decide +kernel
theorem dX0_init_7 : decode cX0_init 7 = .ok (.newarray .int, 2) := by decide +kernel
theorem dX0_init_9 : decode cX0_init 9 = .ok (.putfield 11, 3) := by decide +kernel
theorem dX0_init_12 : decode cX0_init 12 = .ok (.aload_n 0, 1) := by decide +kernel
theorem dX0_init_13 : decode cX0_init 13 = .ok (.bipush 121, 2) := by decide +kernel
theorem dX0_init_15 : decode cX0_init 15 = .ok (.newarray .int, 2) := by decide +kernel
theorem dX0_init_17 : decode cX0_init 17 = .ok (.putfield 15, 3) := by decide +kernel
theorem dX0_init_20 : decode cX0_init 20 = .ok (.aload_n 0, 1) := by decide +kernel
theorem dX0_init_21 : decode cX0_init 21 = .ok (.bipush 121, 2) := by decide +kernel
theorem dX0_init_23 : decode cX0_init 23 = .ok (.newarray .int, 2) := by decide +kernel
theorem dX0_init_25 : decode cX0_init 25 = .ok (.putfield 18, 3) := by decide +kernel
theorem dX0_init_28 : decode cX0_init 28 = .ok (.aload_n 0, 1) := by decide +kernel
theorem dX0_init_29 : decode cX0_init 29 = .ok (.bipush 121, 2) := by decide +kernel
theorem dX0_init_31 : decode cX0_init 31 = .ok (.newarray .int, 2) := by decide +kernel
theorem dX0_init_33 : decode cX0_init 33 = .ok (.putfield 21, 3) := by decide +kernel
theorem dX0_init_36 : decode cX0_init 36 = .ok (.aload_n 0, 1) := by decide +kernel
theorem dX0_init_37 : decode cX0_init 37 = .ok (.bipush 121, 2) := by decide +kernel
theorem dX0_init_39 : decode cX0_init 39 = .ok (.newarray .int, 2) := by decide +kernel
theorem dX0_init_41 : decode cX0_init 41 = .ok (.putfield 24, 3) := by decide +kernel
theorem dX0_init_44 : decode cX0_init 44 = .ok (.return_, 1) := by decide +kernel
theorem dX0_there_0 : decode cX0_there 0 = .ok (.aload_n 0, 1) := by decide +kernel
theorem dX0_there_1 : decode cX0_there 1 = .ok (.getfield 27, 3) := by decide +kernel
theorem dX0_there_4 : decode cX0_there 4 = .ok (.aload_n 0, 1) := by decide +kernel
theorem dX0_there_5 : decode cX0_there 5 = .ok (.getfield 31, 3) := by decide +kernel
theorem dX0_there_8 : decode cX0_there 8 = .ok (.isub, 1) := by decide +kernel
theorem dX0_there_9 : decode cX0_there 9 = .ok (.ireturn, 1) := by decide +kernel
theorem dX0_hasNumbers_0 : decode cX0_hasNumbers 0 = .ok (.aload_n 0, 1) := by decide +kernel
theorem dX0_hasNumbers_1 : decode cX0_hasNumbers 1 = .ok (.getfield 34, 3) := by decide +kernel
theorem dX0_hasNumbers_4 : decode cX0_hasNumbers 4 = .ok (.iload_n 1, 1) := by decide +kernel
theorem dX0_hasNumbers_5 : decode cX0_hasNumbers 5 = .ok (.iadd, 1) := by decide +kernel
theorem dX0_hasNumbers_6 : decode cX0_hasNumbers 6 = .ok (.iconst 1, 1) := by decide +kernel
theorem dX0_hasNumbers_7 : decode cX0_hasNumbers 7 = .ok (.isub, 1) := by decide +kernel
theorem dX0_hasNumbers_8 : decode cX0_hasNumbers 8 = .ok (.sipush 9999, 3) := by decide +kernel
theorem dX0_hasNumbers_11 : decode cX0_hasNumbers 11 = .ok (.if_icmp .gt 7, 3) := by decide +kernel
theorem dX0_hasNumbers_14 : decode cX0_hasNumbers 14 = .ok (.iconst 1, 1) := by decide +kernel
theorem dX0_hasNumbers_15 : decode cX0_hasNumbers 15 = .ok (.goto 4, 3) := by decide +kernel
theorem dX0_hasNumbers_18 : decode cX0_hasNumbers 18 = .ok (.iconst 0, 1) := by decide +kernel
theorem dX0_hasNumbers_19 : decode cX0_hasNumbers 19 = .ok (.ireturn, 1) := by decide +kernel
theorem dX0_isThere_0 : decode cX0_isThere 0 = .ok (.aload_n 0, 1) := by decide +kernel
theorem dX0_isThere_1 : decode cX0_isThere 1 = .ok (.getfield 24, 3) := by decide +kernel
theorem dX0_isThere_4 : decode cX0_isThere 4 = .ok (.iload_n 1, 1) := by decide +kernel
theorem dX0_isThere_5 : decode cX0_isThere 5 = .ok (.iaload, 1) := by decide +kernel
theorem dX0_isThere_6 : decode cX0_isThere 6 = .ok (.ifCond .ne 7, 3) := by decide +kernel
theorem dX0_isThere_9 : decode cX0_isThere 9 = .ok (.iconst 1, 1) := by decide +kernel
theorem dX0_isThere_10 : decode cX0_isThere 10 = .ok (.goto 4, 3) := by decide +kernel
theorem dX0_isThere_13 : decode cX0_isThere 13 = .ok (.iconst 0, 1) := by decide +kernel
theorem dX0_isThere_14 : decode cX0_isThere 14 = .ok (.ireturn, 1) := by decide +kernel
theorem dX0_layersThere_0 : decode cX0_layersThere 0 = .ok (.aload_n 0, 1) := by decide +kernel
theorem dX0_layersThere_1 : decode cX0_layersThere 1 = .ok (.getfield 27, 3) := by decide +kernel
theorem dX0_layersThere_4 : decode cX0_layersThere 4 = .ok (.invokestatic 37, 3) := by decide +kernel
theorem dX0_layersThere_7 : decode cX0_layersThere 7 = .ok (.aload_n 0, 1) := by decide +kernel
theorem dX0_layersThere_8 : decode cX0_layersThere 8 = .ok (.getfield 31, 3) := by decide +kernel
theorem dX0_layersThere_11 : decode cX0_layersThere 11 = .ok (.invokestatic 37, 3) := by decide +kernel
theorem dX0_layersThere_14 : decode cX0_layersThere 14 = .ok (.iadd, 1) := by decide +kernel
theorem dX0_layersThere_15 : decode cX0_layersThere 15 = .ok (.ireturn, 1) := by decide +kernel
theorem dX0_find_0 : decode cX0_find 0 = .ok (.iconst 0, 1) := by decide +kernel
theorem dX0_find_1 : decode cX0_find 1 = .ok (.istore_n 2, 1) := by decide +kernel
theorem dX0_find_2 : decode cX0_find 2 = .ok (.iload_n 2, 1) := by decide +kernel
theorem dX0_find_3 : decode cX0_find 3 = .ok (.aload_n 0, 1) := by decide +kernel
theorem dX0_find_4 : decode cX0_find 4 = .ok (.getfield 27, 3) := by decide +kernel
theorem dX0_find_7 : decode cX0_find 7 = .ok (.if_icmp .ge 29, 3) := by decide +kernel
theorem dX0_find_10 : decode cX0_find 10 = .ok (.aload_n 0, 1) := by decide +kernel
theorem dX0_find_11 : decode cX0_find 11 = .ok (.getfield 11, 3) := by decide +kernel
theorem dX0_find_14 : decode cX0_find 14 = .ok (.iload_n 2, 1) := by decide +kernel
theorem dX0_find_15 : decode cX0_find 15 = .ok (.iaload, 1) := by decide +kernel
theorem dX0_find_16 : decode cX0_find 16 = .ok (.iload_n 1, 1) := by decide +kernel
theorem dX0_find_17 : decode cX0_find 17 = .ok (.if_icmp .ne 13, 3) := by decide +kernel
theorem dX0_find_20 : decode cX0_find 20 = .ok (.aload_n 0, 1) := by decide +kernel
theorem dX0_find_21 : decode cX0_find 21 = .ok (.iload_n 2, 1) := by decide +kernel
theorem dX0_find_22 : decode cX0_find 22 = .ok (.invokevirtual 43, 3) := by decide +kernel
theorem dX0_find_25 : decode cX0_find 25 = .ok (.ifCond .eq 5, 3) := by decide +kernel
theorem dX0_find_28 : decode cX0_find 28 = .ok (.iload_n 2, 1) := by decide +kernel
theorem dX0_find_29 : decode cX0_find 29 = .ok (.ireturn, 1) := by decide +kernel
theorem dX0_find_30 : decode cX0_find 30 = .ok (.iinc 2 1, 3) := by decide +kernel
theorem dX0_find_33 : decode cX0_find 33 = .ok (.goto (-31), 3) := by decide +kernel
theorem dX0_find_36 : decode cX0_find 36 = .ok (.iconst (-1), 1) := by decide +kernel
theorem dX0_find_37 : decode cX0_find 37 = .ok (.ireturn, 1) := by decide +kernel
theorem dX0_come_0 : decode cX0_come 0 = .ok (.aload_n 0, 1) := by decide +kernel
theorem dX0_come_1 : decode cX0_come 1 = .ok (.getfield 27, 3) := by decide +kernel
theorem dX0_come_4 : decode cX0_come 4 = .ok (.bipush 121, 2) := by decide +kernel
theorem dX0_come_6 : decode cX0_come 6 = .ok (.if_icmp .lt 6, 3) := by decide +kernel
theorem dX0_come_9 : decode cX0_come 9 = .ok (.ldc 47, 2) := by decide +kernel
theorem dX0_come_11 : decode cX0_come 11 = .ok (.ireturn, 1) := by decide +kernel
theorem dX0_come_12 : decode cX0_come 12 = .ok (.aload_n 0, 1) := by decide +kernel
theorem dX0_come_13 : decode cX0_come 13 = .ok (.getfield 11, 3) := by decide +kernel
theorem dX0_come_16 : decode cX0_come 16 = .ok (.aload_n 0, 1) := by decide +kernel
theorem dX0_come_17 : decode cX0_come 17 = .ok (.getfield 27, 3) := by decide +kernel
theorem dX0_come_20 : decode cX0_come 20 = .ok (.aload_n 0, 1) := by decide +kernel
theorem dX0_come_21 : decode cX0_come 21 = .ok (.getfield 34, 3) := by decide +kernel
theorem dX0_come_24 : decode cX0_come 24 = .ok (.iastore, 1) := by decide +kernel
theorem dX0_come_25 : decode cX0_come 25 = .ok (.aload_n 0, 1) := by decide +kernel
theorem dX0_come_26 : decode cX0_come 26 = .ok (.getfield 15, 3) := by decide +kernel
theorem dX0_come_29 : decode cX0_come 29 = .ok (.aload_n 0, 1) := by decide +kernel
theorem dX0_come_30 : decode cX0_come 30 = .ok (.getfield 27, 3) := by decide +kernel
theorem dX0_come_33 : decode cX0_come 33 = .ok (.iload_n 1, 1) := by decide +kernel
theorem dX0_come_34 : decode cX0_come 34 = .ok (.iastore, 1) := by decide +kernel
theorem dX0_come_35 : decode cX0_come 35 = .ok (.aload_n 0, 1) := by decide +kernel
theorem dX0_come_36 : decode cX0_come 36 = .ok (.getfield 18, 3) := by decide +kernel
theorem dX0_come_39 : decode cX0_come 39 = .ok (.aload_n 0, 1) := by decide +kernel
theorem dX0_come_40 : decode cX0_come 40 = .ok (.getfield 27, 3) := by decide +kernel
theorem dX0_come_43 : decode cX0_come 43 = .ok (.iload_n 2, 1) := by decide +kernel
theorem dX0_come_44 : decode cX0_come 44 = .ok (.iastore, 1) := by decide +kernel
theorem dX0_come_45 : decode cX0_come 45 = .ok (.aload_n 0, 1) := by decide +kernel
theorem dX0_come_46 : decode cX0_come 46 = .ok (.getfield 21, 3) := by decide +kernel
theorem dX0_come_49 : decode cX0_come 49 = .ok (.aload_n 0, 1) := by decide +kernel
theorem dX0_come_50 : decode cX0_come 50 = .ok (.getfield 27, 3) := by decide +kernel
theorem dX0_come_53 : decode cX0_come 53 = .ok (.iload_n 3, 1) := by decide +kernel
theorem dX0_come_54 : decode cX0_come 54 = .ok (.iastore, 1) := by decide +kernel
theorem dX0_come_55 : decode cX0_come 55 = .ok (.aload_n 0, 1) := by decide +kernel
theorem dX0_come_56 : decode cX0_come 56 = .ok (.getfield 24, 3) := by decide +kernel
theorem dX0_come_59 : decode cX0_come 59 = .ok (.aload_n 0, 1) := by decide +kernel
theorem dX0_come_60 : decode cX0_come 60 = .ok (.getfield 27, 3) := by decide +kernel
theorem dX0_come_63 : decode cX0_come 63 = .ok (.iconst 0, 1) := by decide +kernel
theorem dX0_come_64 : decode cX0_come 64 = .ok (.iastore, 1) := by decide +kernel
theorem dX0_come_65 : decode cX0_come 65 = .ok (.aload_n 0, 1) := by decide +kernel
theorem dX0_come_66 : decode cX0_come 66 = .ok (.dup, 1) := by decide +kernel
theorem dX0_come_67 : decode cX0_come 67 = .ok (.getfield 27, 3) := by decide +kernel
theorem dX0_come_70 : decode cX0_come 70 = .ok (.iconst 1, 1) := by decide +kernel
theorem dX0_come_71 : decode cX0_come 71 = .ok (.iadd, 1) := by decide +kernel
theorem dX0_come_72 : decode cX0_come 72 = .ok (.putfield 27, 3) := by decide +kernel
theorem dX0_come_75 : decode cX0_come 75 = .ok (.aload_n 0, 1) := by decide +kernel
theorem dX0_come_76 : decode cX0_come 76 = .ok (.dup, 1) := by decide +kernel
theorem dX0_come_77 : decode cX0_come 77 = .ok (.getfield 48, 3) := by decide +kernel
theorem dX0_come_80 : decode cX0_come 80 = .ok (.aload_n 0, 1) := by decide +kernel
theorem dX0_come_81 : decode cX0_come 81 = .ok (.getfield 27, 3) := by decide +kernel
theorem dX0_come_84 : decode cX0_come 84 = .ok (.invokestatic 51, 3) := by decide +kernel
theorem dX0_come_87 : decode cX0_come 87 = .ok (.iadd, 1) := by decide +kernel
theorem dX0_come_88 : decode cX0_come 88 = .ok (.putfield 48, 3) := by decide +kernel
theorem dX0_come_91 : decode cX0_come 91 = .ok (.aload_n 0, 1) := by decide +kernel
theorem dX0_come_92 : decode cX0_come 92 = .ok (.dup, 1) := by decide +kernel
theorem dX0_come_93 : decode cX0_come 93 = .ok (.getfield 34, 3) := by decide +kernel
theorem dX0_come_96 : decode cX0_come 96 = .ok (.iconst 1, 1) := by decide +kernel
theorem dX0_come_97 : decode cX0_come 97 = .ok (.iadd, 1) := by decide +kernel
theorem dX0_come_98 : decode cX0_come 98 = .ok (.putfield 34, 3) := by decide +kernel
theorem dX0_come_101 : decode cX0_come 101 = .ok (.aload_n 0, 1) := by decide +kernel
theorem dX0_come_102 : decode cX0_come 102 = .ok (.getfield 34, 3) := by decide +kernel
theorem dX0_come_105 : decode cX0_come 105 = .ok (.iconst 1, 1) := by decide +kernel
theorem dX0_come_106 : decode cX0_come 106 = .ok (.isub, 1) := by decide +kernel
theorem dX0_come_107 : decode cX0_come 107 = .ok (.ireturn, 1) := by decide +kernel
theorem dX0_goAway_0 : decode cX0_goAway 0 = .ok (.iload_n 1, 1) := by decide +kernel
theorem dX0_goAway_1 : decode cX0_goAway 1 = .ok (.ifCond .lt 11, 3) := by decide +kernel
theorem dX0_goAway_4 : decode cX0_goAway 4 = .ok (.iload_n 1, 1) := by decide +kernel
theorem dX0_goAway_5 : decode cX0_goAway 5 = .ok (.aload_n 0, 1) := by decide +kernel
theorem dX0_goAway_6 : decode cX0_goAway 6 = .ok (.getfield 27, 3) := by decide +kernel
theorem dX0_goAway_9 : decode cX0_goAway 9 = .ok (.if_icmp .lt 6, 3) := by decide +kernel
theorem dX0_goAway_12 : decode cX0_goAway 12 = .ok (.ldc 54, 2) := by decide +kernel
theorem dX0_goAway_14 : decode cX0_goAway 14 = .ok (.ireturn, 1) := by decide +kernel
theorem dX0_goAway_15 : decode cX0_goAway 15 = .ok (.aload_n 0, 1) := by decide +kernel
theorem dX0_goAway_16 : decode cX0_goAway 16 = .ok (.getfield 21, 3) := by decide +kernel
theorem dX0_goAway_19 : decode cX0_goAway 19 = .ok (.iload_n 1, 1) := by decide +kernel
theorem dX0_goAway_20 : decode cX0_goAway 20 = .ok (.iaload, 1) := by decide +kernel
theorem dX0_goAway_21 : decode cX0_goAway 21 = .ok (.istore_n 2, 1) := by decide +kernel
theorem dX0_goAway_22 : decode cX0_goAway 22 = .ok (.aload_n 0, 1) := by decide +kernel
theorem dX0_goAway_23 : decode cX0_goAway 23 = .ok (.dup, 1) := by decide +kernel
theorem dX0_goAway_24 : decode cX0_goAway 24 = .ok (.getfield 31, 3) := by decide +kernel
theorem dX0_goAway_27 : decode cX0_goAway 27 = .ok (.iconst 1, 1) := by decide +kernel
theorem dX0_goAway_28 : decode cX0_goAway 28 = .ok (.iadd, 1) := by decide +kernel
theorem dX0_goAway_29 : decode cX0_goAway 29 = .ok (.putfield 31, 3) := by decide +kernel
theorem dX0_goAway_32 : decode cX0_goAway 32 = .ok (.aload_n 0, 1) := by decide +kernel
theorem dX0_goAway_33 : decode cX0_goAway 33 = .ok (.getfield 24, 3) := by decide +kernel
theorem dX0_goAway_36 : decode cX0_goAway 36 = .ok (.iload_n 1, 1) := by decide +kernel
theorem dX0_goAway_37 : decode cX0_goAway 37 = .ok (.aload_n 0, 1) := by decide +kernel
theorem dX0_goAway_38 : decode cX0_goAway 38 = .ok (.getfield 31, 3) := by decide +kernel
theorem dX0_goAway_41 : decode cX0_goAway 41 = .ok (.iastore, 1) := by decide +kernel
theorem dX0_goAway_42 : decode cX0_goAway 42 = .ok (.aload_n 0, 1) := by decide +kernel
theorem dX0_goAway_43 : decode cX0_goAway 43 = .ok (.dup, 1) := by decide +kernel
theorem dX0_goAway_44 : decode cX0_goAway 44 = .ok (.getfield 48, 3) := by decide +kernel
theorem dX0_goAway_47 : decode cX0_goAway 47 = .ok (.aload_n 0, 1) := by decide +kernel
theorem dX0_goAway_48 : decode cX0_goAway 48 = .ok (.getfield 31, 3) := by decide +kernel
theorem dX0_goAway_51 : decode cX0_goAway 51 = .ok (.invokestatic 51, 3) := by decide +kernel
theorem dX0_goAway_54 : decode cX0_goAway 54 = .ok (.iadd, 1) := by decide +kernel
theorem dX0_goAway_55 : decode cX0_goAway 55 = .ok (.putfield 48, 3) := by decide +kernel
theorem dX0_goAway_58 : decode cX0_goAway 58 = .ok (.aload_n 0, 1) := by decide +kernel
theorem dX0_goAway_59 : decode cX0_goAway 59 = .ok (.getfield 31, 3) := by decide +kernel
theorem dX0_goAway_62 : decode cX0_goAway 62 = .ok (.aload_n 0, 1) := by decide +kernel
theorem dX0_goAway_63 : decode cX0_goAway 63 = .ok (.invokevirtual 55, 3) := by decide +kernel
theorem dX0_goAway_66 : decode cX0_goAway 66 = .ok (.if_icmp .le 7, 3) := by decide +kernel
theorem dX0_goAway_69 : decode cX0_goAway 69 = .ok (.aload_n 0, 1) := by decide +kernel
theorem dX0_goAway_70 : decode cX0_goAway 70 = .ok (.invokevirtual 59, 3) := by decide +kernel
theorem dX0_goAway_73 : decode cX0_goAway 73 = .ok (.iload_n 2, 1) := by decide +kernel
theorem dX0_goAway_74 : decode cX0_goAway 74 = .ok (.ireturn, 1) := by decide +kernel
theorem dX0_layAnew_0 : decode cX0_layAnew 0 = .ok (.iconst 0, 1) := by decide +kernel
theorem dX0_layAnew_1 : decode cX0_layAnew 1 = .ok (.istore_n 1, 1) := by decide +kernel
theorem dX0_layAnew_2 : decode cX0_layAnew 2 = .ok (.iconst 0, 1) := by decide +kernel
theorem dX0_layAnew_3 : decode cX0_layAnew 3 = .ok (.istore_n 2, 1) := by decide +kernel
theorem dX0_layAnew_4 : decode cX0_layAnew 4 = .ok (.iload_n 2, 1) := by decide +kernel
theorem dX0_layAnew_5 : decode cX0_layAnew 5 = .ok (.aload_n 0, 1) := by decide +kernel
theorem dX0_layAnew_6 : decode cX0_layAnew 6 = .ok (.getfield 27, 3) := by decide +kernel
theorem dX0_layAnew_9 : decode cX0_layAnew 9 = .ok (.if_icmp .ge 75, 3) := by decide +kernel
theorem dX0_layAnew_12 : decode cX0_layAnew 12 = .ok (.aload_n 0, 1) := by decide +kernel
theorem dX0_layAnew_13 : decode cX0_layAnew 13 = .ok (.iload_n 2, 1) := by decide +kernel
theorem dX0_layAnew_14 : decode cX0_layAnew 14 = .ok (.invokevirtual 43, 3) := by decide +kernel
theorem dX0_layAnew_17 : decode cX0_layAnew 17 = .ok (.ifCond .eq 61, 3) := by decide +kernel
theorem dX0_layAnew_20 : decode cX0_layAnew 20 = .ok (.aload_n 0, 1) := by decide +kernel
theorem dX0_layAnew_21 : decode cX0_layAnew 21 = .ok (.getfield 11, 3) := by decide +kernel
theorem dX0_layAnew_24 : decode cX0_layAnew 24 = .ok (.iload_n 1, 1) := by decide +kernel
theorem dX0_layAnew_25 : decode cX0_layAnew 25 = .ok (.aload_n 0, 1) := by decide +kernel
theorem dX0_layAnew_26 : decode cX0_layAnew 26 = .ok (.getfield 11, 3) := by decide +kernel
theorem dX0_layAnew_29 : decode cX0_layAnew 29 = .ok (.iload_n 2, 1) := by decide +kernel
theorem dX0_layAnew_30 : decode cX0_layAnew 30 = .ok (.iaload, 1) := by decide +kernel
theorem dX0_layAnew_31 : decode cX0_layAnew 31 = .ok (.iastore, 1) := by decide +kernel
theorem dX0_layAnew_32 : decode cX0_layAnew 32 = .ok (.aload_n 0, 1) := by decide +kernel
theorem dX0_layAnew_33 : decode cX0_layAnew 33 = .ok (.getfield 15, 3) := by decide +kernel
theorem dX0_layAnew_36 : decode cX0_layAnew 36 = .ok (.iload_n 1, 1) := by decide +kernel
theorem dX0_layAnew_37 : decode cX0_layAnew 37 = .ok (.aload_n 0, 1) := by decide +kernel
theorem dX0_layAnew_38 : decode cX0_layAnew 38 = .ok (.getfield 15, 3) := by decide +kernel
theorem dX0_layAnew_41 : decode cX0_layAnew 41 = .ok (.iload_n 2, 1) := by decide +kernel
theorem dX0_layAnew_42 : decode cX0_layAnew 42 = .ok (.iaload, 1) := by decide +kernel
theorem dX0_layAnew_43 : decode cX0_layAnew 43 = .ok (.iastore, 1) := by decide +kernel
theorem dX0_layAnew_44 : decode cX0_layAnew 44 = .ok (.aload_n 0, 1) := by decide +kernel
theorem dX0_layAnew_45 : decode cX0_layAnew 45 = .ok (.getfield 18, 3) := by decide +kernel
theorem dX0_layAnew_48 : decode cX0_layAnew 48 = .ok (.iload_n 1, 1) := by decide +kernel
theorem dX0_layAnew_49 : decode cX0_layAnew 49 = .ok (.aload_n 0, 1) := by decide +kernel
theorem dX0_layAnew_50 : decode cX0_layAnew 50 = .ok (.getfield 18, 3) := by decide +kernel
theorem dX0_layAnew_53 : decode cX0_layAnew 53 = .ok (.iload_n 2, 1) := by decide +kernel
theorem dX0_layAnew_54 : decode cX0_layAnew 54 = .ok (.iaload, 1) := by decide +kernel
theorem dX0_layAnew_55 : decode cX0_layAnew 55 = .ok (.iastore, 1) := by decide +kernel
theorem dX0_layAnew_56 : decode cX0_layAnew 56 = .ok (.aload_n 0, 1) := by decide +kernel
theorem dX0_layAnew_57 : decode cX0_layAnew 57 = .ok (.getfield 21, 3) := by decide +kernel
theorem dX0_layAnew_60 : decode cX0_layAnew 60 = .ok (.iload_n 1, 1) := by decide +kernel
theorem dX0_layAnew_61 : decode cX0_layAnew 61 = .ok (.aload_n 0, 1) := by decide +kernel
theorem dX0_layAnew_62 : decode cX0_layAnew 62 = .ok (.getfield 21, 3) := by decide +kernel
theorem dX0_layAnew_65 : decode cX0_layAnew 65 = .ok (.iload_n 2, 1) := by decide +kernel
theorem dX0_layAnew_66 : decode cX0_layAnew 66 = .ok (.iaload, 1) := by decide +kernel
theorem dX0_layAnew_67 : decode cX0_layAnew 67 = .ok (.iastore, 1) := by decide +kernel
theorem dX0_layAnew_68 : decode cX0_layAnew 68 = .ok (.aload_n 0, 1) := by decide +kernel
theorem dX0_layAnew_69 : decode cX0_layAnew 69 = .ok (.getfield 24, 3) := by decide +kernel
theorem dX0_layAnew_72 : decode cX0_layAnew 72 = .ok (.iload_n 1, 1) := by decide +kernel
theorem dX0_layAnew_73 : decode cX0_layAnew 73 = .ok (.iconst 0, 1) := by decide +kernel
theorem dX0_layAnew_74 : decode cX0_layAnew 74 = .ok (.iastore, 1) := by decide +kernel
theorem dX0_layAnew_75 : decode cX0_layAnew 75 = .ok (.iinc 1 1, 3) := by decide +kernel
theorem dX0_layAnew_78 : decode cX0_layAnew 78 = .ok (.iinc 2 1, 3) := by decide +kernel
theorem dX0_layAnew_81 : decode cX0_layAnew 81 = .ok (.goto (-77), 3) := by decide +kernel
theorem dX0_layAnew_84 : decode cX0_layAnew 84 = .ok (.aload_n 0, 1) := by decide +kernel
theorem dX0_layAnew_85 : decode cX0_layAnew 85 = .ok (.iload_n 1, 1) := by decide +kernel
theorem dX0_layAnew_86 : decode cX0_layAnew 86 = .ok (.putfield 27, 3) := by decide +kernel
theorem dX0_layAnew_89 : decode cX0_layAnew 89 = .ok (.aload_n 0, 1) := by decide +kernel
theorem dX0_layAnew_90 : decode cX0_layAnew 90 = .ok (.iconst 0, 1) := by decide +kernel
theorem dX0_layAnew_91 : decode cX0_layAnew 91 = .ok (.putfield 31, 3) := by decide +kernel
theorem dX0_layAnew_94 : decode cX0_layAnew 94 = .ok (.aload_n 0, 1) := by decide +kernel
theorem dX0_layAnew_95 : decode cX0_layAnew 95 = .ok (.dup, 1) := by decide +kernel
theorem dX0_layAnew_96 : decode cX0_layAnew 96 = .ok (.getfield 62, 3) := by decide +kernel
theorem dX0_layAnew_99 : decode cX0_layAnew 99 = .ok (.iconst 1, 1) := by decide +kernel
theorem dX0_layAnew_100 : decode cX0_layAnew 100 = .ok (.iadd, 1) := by decide +kernel
theorem dX0_layAnew_101 : decode cX0_layAnew 101 = .ok (.putfield 62, 3) := by decide +kernel
theorem dX0_layAnew_104 : decode cX0_layAnew 104 = .ok (.return_, 1) := by decide +kernel
theorem dX0_worth_0 : decode cX0_worth 0 = .ok (.aload_n 0, 1) := by decide +kernel
theorem dX0_worth_1 : decode cX0_worth 1 = .ok (.getfield 65, 3) := by decide +kernel
theorem dX0_worth_4 : decode cX0_worth 4 = .ok (.tableswitch 98 1 5 #[36, 43, 67, 76, 82], 36) := by decide +kernel
theorem dX0_worth_40 : decode cX0_worth 40 = .ok (.aload_n 0, 1) := by decide +kernel
theorem dX0_worth_41 : decode cX0_worth 41 = .ok (.getfield 21, 3) := by decide +kernel
theorem dX0_worth_44 : decode cX0_worth 44 = .ok (.iload_n 1, 1) := by decide +kernel
theorem dX0_worth_45 : decode cX0_worth 45 = .ok (.iaload, 1) := by decide +kernel
theorem dX0_worth_46 : decode cX0_worth 46 = .ok (.ireturn, 1) := by decide +kernel
theorem dX0_worth_47 : decode cX0_worth 47 = .ok (.aload_n 0, 1) := by decide +kernel
theorem dX0_worth_48 : decode cX0_worth 48 = .ok (.getfield 15, 3) := by decide +kernel
theorem dX0_worth_51 : decode cX0_worth 51 = .ok (.iload_n 1, 1) := by decide +kernel
theorem dX0_worth_52 : decode cX0_worth 52 = .ok (.iaload, 1) := by decide +kernel
theorem dX0_worth_53 : decode cX0_worth 53 = .ok (.aload_n 0, 1) := by decide +kernel
theorem dX0_worth_54 : decode cX0_worth 54 = .ok (.getfield 18, 3) := by decide +kernel
theorem dX0_worth_57 : decode cX0_worth 57 = .ok (.iload_n 1, 1) := by decide +kernel
theorem dX0_worth_58 : decode cX0_worth 58 = .ok (.iaload, 1) := by decide +kernel
theorem dX0_worth_59 : decode cX0_worth 59 = .ok (.iadd, 1) := by decide +kernel
theorem dX0_worth_60 : decode cX0_worth 60 = .ok (.iconst 2, 1) := by decide +kernel
theorem dX0_worth_61 : decode cX0_worth 61 = .ok (.irem, 1) := by decide +kernel
theorem dX0_worth_62 : decode cX0_worth 62 = .ok (.ifCond .ne 7, 3) := by decide +kernel
theorem dX0_worth_65 : decode cX0_worth 65 = .ok (.iconst 1, 1) := by decide +kernel
theorem dX0_worth_66 : decode cX0_worth 66 = .ok (.goto 4, 3) := by decide +kernel
theorem dX0_worth_69 : decode cX0_worth 69 = .ok (.iconst 0, 1) := by decide +kernel
theorem dX0_worth_70 : decode cX0_worth 70 = .ok (.ireturn, 1) := by decide +kernel
theorem dX0_worth_71 : decode cX0_worth 71 = .ok (.iconst 2, 1) := by decide +kernel
theorem dX0_worth_72 : decode cX0_worth 72 = .ok (.aload_n 0, 1) := by decide +kernel
theorem dX0_worth_73 : decode cX0_worth 73 = .ok (.getfield 21, 3) := by decide +kernel
theorem dX0_worth_76 : decode cX0_worth 76 = .ok (.iload_n 1, 1) := by decide +kernel
theorem dX0_worth_77 : decode cX0_worth 77 = .ok (.iaload, 1) := by decide +kernel
theorem dX0_worth_78 : decode cX0_worth 78 = .ok (.imul, 1) := by decide +kernel
theorem dX0_worth_79 : decode cX0_worth 79 = .ok (.ireturn, 1) := by decide +kernel
theorem dX0_worth_80 : decode cX0_worth 80 = .ok (.aload_n 0, 1) := by decide +kernel
theorem dX0_worth_81 : decode cX0_worth 81 = .ok (.iload_n 1, 1) := by decide +kernel
theorem dX0_worth_82 : decode cX0_worth 82 = .ok (.invokevirtual 68, 3) := by decide +kernel
theorem dX0_worth_85 : decode cX0_worth 85 = .ok (.ireturn, 1) := by decide +kernel
theorem dX0_worth_86 : decode cX0_worth 86 = .ok (.aload_n 0, 1) := by decide +kernel
theorem dX0_worth_87 : decode cX0_worth 87 = .ok (.iload_n 1, 1) := by decide +kernel
theorem dX0_worth_88 : decode cX0_worth 88 = .ok (.invokevirtual 68, 3) := by decide +kernel
theorem dX0_worth_91 : decode cX0_worth 91 = .ok (.aload_n 0, 1) := by decide +kernel
theorem dX0_worth_92 : decode cX0_worth 92 = .ok (.getfield 11, 3) := by decide +kernel
theorem dX0_worth_95 : decode cX0_worth 95 = .ok (.iload_n 1, 1) := by decide +kernel
theorem dX0_worth_96 : decode cX0_worth 96 = .ok (.iaload, 1) := by decide +kernel
theorem dX0_worth_97 : decode cX0_worth 97 = .ok (.bipush 10, 2) := by decide +kernel
theorem dX0_worth_99 : decode cX0_worth 99 = .ok (.irem, 1) := by decide +kernel
theorem dX0_worth_100 : decode cX0_worth 100 = .ok (.iadd, 1) := by decide +kernel
theorem dX0_worth_101 : decode cX0_worth 101 = .ok (.ireturn, 1) := by decide +kernel
theorem dX0_worth_102 : decode cX0_worth 102 = .ok (.iconst 1, 1) := by decide +kernel
theorem dX0_worth_103 : decode cX0_worth 103 = .ok (.ireturn, 1) := by decide +kernel
theorem dX0_north_0 : decode cX0_north 0 = .ok (.aload_n 0, 1) := by decide +kernel
theorem dX0_north_1 : decode cX0_north 1 = .ok (.getfield 18, 3) := by decide +kernel
theorem dX0_north_4 : decode cX0_north 4 = .ok (.iload_n 1, 1) := by decide +kernel
theorem dX0_north_5 : decode cX0_north 5 = .ok (.iaload, 1) := by decide +kernel
theorem dX0_north_6 : decode cX0_north 6 = .ok (.ifCond .lt 12, 3) := by decide +kernel
theorem dX0_north_9 : decode cX0_north 9 = .ok (.aload_n 0, 1) := by decide +kernel
theorem dX0_north_10 : decode cX0_north 10 = .ok (.getfield 21, 3) := by decide +kernel
theorem dX0_north_13 : decode cX0_north 13 = .ok (.iload_n 1, 1) := by decide +kernel
theorem dX0_north_14 : decode cX0_north 14 = .ok (.iaload, 1) := by decide +kernel
theorem dX0_north_15 : decode cX0_north 15 = .ok (.goto 4, 3) := by decide +kernel
theorem dX0_north_18 : decode cX0_north 18 = .ok (.iconst 0, 1) := by decide +kernel
theorem dX0_north_19 : decode cX0_north 19 = .ok (.ireturn, 1) := by decide +kernel
theorem dX0_weightOfAll_0 : decode cX0_weightOfAll 0 = .ok (.iconst 0, 1) := by decide +kernel
theorem dX0_weightOfAll_1 : decode cX0_weightOfAll 1 = .ok (.istore_n 1, 1) := by decide +kernel
theorem dX0_weightOfAll_2 : decode cX0_weightOfAll 2 = .ok (.iconst 0, 1) := by decide +kernel
theorem dX0_weightOfAll_3 : decode cX0_weightOfAll 3 = .ok (.istore_n 2, 1) := by decide +kernel
theorem dX0_weightOfAll_4 : decode cX0_weightOfAll 4 = .ok (.iload_n 2, 1) := by decide +kernel
theorem dX0_weightOfAll_5 : decode cX0_weightOfAll 5 = .ok (.aload_n 0, 1) := by decide +kernel
theorem dX0_weightOfAll_6 : decode cX0_weightOfAll 6 = .ok (.getfield 27, 3) := by decide +kernel
theorem dX0_weightOfAll_9 : decode cX0_weightOfAll 9 = .ok (.if_icmp .ge 26, 3) := by decide +kernel
theorem dX0_weightOfAll_12 : decode cX0_weightOfAll 12 = .ok (.aload_n 0, 1) := by decide +kernel
theorem dX0_weightOfAll_13 : decode cX0_weightOfAll 13 = .ok (.iload_n 2, 1) := by decide +kernel
theorem dX0_weightOfAll_14 : decode cX0_weightOfAll 14 = .ok (.invokevirtual 43, 3) := by decide +kernel
theorem dX0_weightOfAll_17 : decode cX0_weightOfAll 17 = .ok (.ifCond .eq 12, 3) := by decide +kernel
theorem dX0_weightOfAll_20 : decode cX0_weightOfAll 20 = .ok (.iload_n 1, 1) := by decide +kernel
theorem dX0_weightOfAll_21 : decode cX0_weightOfAll 21 = .ok (.aload_n 0, 1) := by decide +kernel
theorem dX0_weightOfAll_22 : decode cX0_weightOfAll 22 = .ok (.getfield 21, 3) := by decide +kernel
theorem dX0_weightOfAll_25 : decode cX0_weightOfAll 25 = .ok (.iload_n 2, 1) := by decide +kernel
theorem dX0_weightOfAll_26 : decode cX0_weightOfAll 26 = .ok (.iaload, 1) := by decide +kernel
theorem dX0_weightOfAll_27 : decode cX0_weightOfAll 27 = .ok (.iadd, 1) := by decide +kernel
theorem dX0_weightOfAll_28 : decode cX0_weightOfAll 28 = .ok (.istore_n 1, 1) := by decide +kernel
theorem dX0_weightOfAll_29 : decode cX0_weightOfAll 29 = .ok (.iinc 2 1, 3) := by decide +kernel
theorem dX0_weightOfAll_32 : decode cX0_weightOfAll 32 = .ok (.goto (-28), 3) := by decide +kernel
theorem dX0_weightOfAll_35 : decode cX0_weightOfAll 35 = .ok (.iload_n 1, 1) := by decide +kernel
theorem dX0_weightOfAll_36 : decode cX0_weightOfAll 36 = .ok (.ireturn, 1) := by decide +kernel
theorem dX0_distance_0 : decode cX0_distance 0 = .ok (.aload_n 0, 1) := by decide +kernel
theorem dX0_distance_1 : decode cX0_distance 1 = .ok (.getfield 15, 3) := by decide +kernel
theorem dX0_distance_4 : decode cX0_distance 4 = .ok (.iload_n 1, 1) := by decide +kernel
theorem dX0_distance_5 : decode cX0_distance 5 = .ok (.iaload, 1) := by decide +kernel
theorem dX0_distance_6 : decode cX0_distance 6 = .ok (.iload_n 2, 1) := by decide +kernel
theorem dX0_distance_7 : decode cX0_distance 7 = .ok (.isub, 1) := by decide +kernel
theorem dX0_distance_8 : decode cX0_distance 8 = .ok (.invokestatic 71, 3) := by decide +kernel
theorem dX0_distance_11 : decode cX0_distance 11 = .ok (.aload_n 0, 1) := by decide +kernel
theorem dX0_distance_12 : decode cX0_distance 12 = .ok (.getfield 18, 3) := by decide +kernel
theorem dX0_distance_15 : decode cX0_distance 15 = .ok (.iload_n 1, 1) := by decide +kernel
theorem dX0_distance_16 : decode cX0_distance 16 = .ok (.iaload, 1) := by decide +kernel
theorem dX0_distance_17 : decode cX0_distance 17 = .ok (.iload_n 3, 1) := by decide +kernel
theorem dX0_distance_18 : decode cX0_distance 18 = .ok (.isub, 1) := by decide +kernel
theorem dX0_distance_19 : decode cX0_distance 19 = .ok (.invokestatic 71, 3) := by decide +kernel
theorem dX0_distance_22 : decode cX0_distance 22 = .ok (.invokestatic 76, 3) := by decide +kernel
theorem dX0_distance_25 : decode cX0_distance 25 = .ok (.ireturn, 1) := by decide +kernel
theorem dX0_isLess_0 : decode cX0_isLess 0 = .ok (.aload_n 0, 1) := by decide +kernel
theorem dX0_isLess_1 : decode cX0_isLess 1 = .ok (.getfield 15, 3) := by decide +kernel
theorem dX0_isLess_4 : decode cX0_isLess 4 = .ok (.iload_n 1, 1) := by decide +kernel
theorem dX0_isLess_5 : decode cX0_isLess 5 = .ok (.iaload, 1) := by decide +kernel
theorem dX0_isLess_6 : decode cX0_isLess 6 = .ok (.aload_n 0, 1) := by decide +kernel
theorem dX0_isLess_7 : decode cX0_isLess 7 = .ok (.getfield 15, 3) := by decide +kernel
theorem dX0_isLess_10 : decode cX0_isLess 10 = .ok (.iload_n 2, 1) := by decide +kernel
theorem dX0_isLess_11 : decode cX0_isLess 11 = .ok (.iaload, 1) := by decide +kernel
theorem dX0_isLess_12 : decode cX0_isLess 12 = .ok (.if_icmp .ge 22, 3) := by decide +kernel
theorem dX0_isLess_15 : decode cX0_isLess 15 = .ok (.aload_n 0, 1) := by decide +kernel
theorem dX0_isLess_16 : decode cX0_isLess 16 = .ok (.getfield 18, 3) := by decide +kernel
theorem dX0_isLess_19 : decode cX0_isLess 19 = .ok (.iload_n 1, 1) := by decide +kernel
theorem dX0_isLess_20 : decode cX0_isLess 20 = .ok (.iaload, 1) := by decide +kernel
theorem dX0_isLess_21 : decode cX0_isLess 21 = .ok (.aload_n 0, 1) := by decide +kernel
theorem dX0_isLess_22 : decode cX0_isLess 22 = .ok (.getfield 18, 3) := by decide +kernel
theorem dX0_isLess_25 : decode cX0_isLess 25 = .ok (.iload_n 2, 1) := by decide +kernel
theorem dX0_isLess_26 : decode cX0_isLess 26 = .ok (.iaload, 1) := by decide +kernel
theorem dX0_isLess_27 : decode cX0_isLess 27 = .ok (.if_icmp .ge 7, 3) := by decide +kernel
theorem dX0_isLess_30 : decode cX0_isLess 30 = .ok (.iconst 1, 1) := by decide +kernel
theorem dX0_isLess_31 : decode cX0_isLess 31 = .ok (.goto 4, 3) := by decide +kernel
theorem dX0_isLess_34 : decode cX0_isLess 34 = .ok (.iconst 0, 1) := by decide +kernel
theorem dX0_isLess_35 : decode cX0_isLess 35 = .ok (.ireturn, 1) := by decide +kernel
theorem dX0_isTopped_0 : decode cX0_isTopped 0 = .ok (.aload_n 0, 1) := by decide +kernel
theorem dX0_isTopped_1 : decode cX0_isTopped 1 = .ok (.getfield 15, 3) := by decide +kernel
theorem dX0_isTopped_4 : decode cX0_isTopped 4 = .ok (.iload_n 2, 1) := by decide +kernel
theorem dX0_isTopped_5 : decode cX0_isTopped 5 = .ok (.iaload, 1) := by decide +kernel
theorem dX0_isTopped_6 : decode cX0_isTopped 6 = .ok (.aload_n 0, 1) := by decide +kernel
theorem dX0_isTopped_7 : decode cX0_isTopped 7 = .ok (.getfield 15, 3) := by decide +kernel
theorem dX0_isTopped_10 : decode cX0_isTopped 10 = .ok (.iload_n 1, 1) := by decide +kernel
theorem dX0_isTopped_11 : decode cX0_isTopped 11 = .ok (.iaload, 1) := by decide +kernel
theorem dX0_isTopped_12 : decode cX0_isTopped 12 = .ok (.if_icmp .lt 52, 3) := by decide +kernel
theorem dX0_isTopped_15 : decode cX0_isTopped 15 = .ok (.aload_n 0, 1) := by decide +kernel
theorem dX0_isTopped_16 : decode cX0_isTopped 16 = .ok (.getfield 18, 3) := by decide +kernel
theorem dX0_isTopped_19 : decode cX0_isTopped 19 = .ok (.iload_n 2, 1) := by decide +kernel
theorem dX0_isTopped_20 : decode cX0_isTopped 20 = .ok (.iaload, 1) := by decide +kernel
theorem dX0_isTopped_21 : decode cX0_isTopped 21 = .ok (.aload_n 0, 1) := by decide +kernel
theorem dX0_isTopped_22 : decode cX0_isTopped 22 = .ok (.getfield 18, 3) := by decide +kernel
theorem dX0_isTopped_25 : decode cX0_isTopped 25 = .ok (.iload_n 1, 1) := by decide +kernel
theorem dX0_isTopped_26 : decode cX0_isTopped 26 = .ok (.iaload, 1) := by decide +kernel
theorem dX0_isTopped_27 : decode cX0_isTopped 27 = .ok (.if_icmp .lt 37, 3) := by decide +kernel
theorem dX0_isTopped_30 : decode cX0_isTopped 30 = .ok (.aload_n 0, 1) := by decide +kernel
theorem dX0_isTopped_31 : decode cX0_isTopped 31 = .ok (.getfield 15, 3) := by decide +kernel
theorem dX0_isTopped_34 : decode cX0_isTopped 34 = .ok (.iload_n 2, 1) := by decide +kernel
theorem dX0_isTopped_35 : decode cX0_isTopped 35 = .ok (.iaload, 1) := by decide +kernel
theorem dX0_isTopped_36 : decode cX0_isTopped 36 = .ok (.aload_n 0, 1) := by decide +kernel
theorem dX0_isTopped_37 : decode cX0_isTopped 37 = .ok (.getfield 15, 3) := by decide +kernel
theorem dX0_isTopped_40 : decode cX0_isTopped 40 = .ok (.iload_n 1, 1) := by decide +kernel
theorem dX0_isTopped_41 : decode cX0_isTopped 41 = .ok (.iaload, 1) := by decide +kernel
theorem dX0_isTopped_42 : decode cX0_isTopped 42 = .ok (.if_icmp .ne 18, 3) := by decide +kernel
theorem dX0_isTopped_45 : decode cX0_isTopped 45 = .ok (.aload_n 0, 1) := by decide +kernel
theorem dX0_isTopped_46 : decode cX0_isTopped 46 = .ok (.getfield 18, 3) := by decide +kernel
theorem dX0_isTopped_49 : decode cX0_isTopped 49 = .ok (.iload_n 2, 1) := by decide +kernel
theorem dX0_isTopped_50 : decode cX0_isTopped 50 = .ok (.iaload, 1) := by decide +kernel
theorem dX0_isTopped_51 : decode cX0_isTopped 51 = .ok (.aload_n 0, 1) := by decide +kernel
theorem dX0_isTopped_52 : decode cX0_isTopped 52 = .ok (.getfield 18, 3) := by decide +kernel
theorem dX0_isTopped_55 : decode cX0_isTopped 55 = .ok (.iload_n 1, 1) := by decide +kernel
theorem dX0_isTopped_56 : decode cX0_isTopped 56 = .ok (.iaload, 1) := by decide +kernel
theorem dX0_isTopped_57 : decode cX0_isTopped 57 = .ok (.if_icmp .eq 7, 3) := by decide +kernel
theorem dX0_isTopped_60 : decode cX0_isTopped 60 = .ok (.iconst 1, 1) := by decide +kernel
theorem dX0_isTopped_61 : decode cX0_isTopped 61 = .ok (.goto 4, 3) := by decide +kernel
theorem dX0_isTopped_64 : decode cX0_isTopped 64 = .ok (.iconst 0, 1) := by decide +kernel
theorem dX0_isTopped_65 : decode cX0_isTopped 65 = .ok (.ireturn, 1) := by decide +kernel
theorem dX0_isBeforeByPlace_0 : decode cX0_isBeforeByPlace 0 = .ok (.aload_n 0, 1) := by decide +kernel
theorem dX0_isBeforeByPlace_1 : decode cX0_isBeforeByPlace 1 = .ok (.getfield 15, 3) := by decide +kernel
theorem dX0_isBeforeByPlace_4 : decode cX0_isBeforeByPlace 4 = .ok (.iload_n 1, 1) := by decide +kernel
theorem dX0_isBeforeByPlace_5 : decode cX0_isBeforeByPlace 5 = .ok (.iaload, 1) := by decide +kernel
theorem dX0_isBeforeByPlace_6 : decode cX0_isBeforeByPlace 6 = .ok (.aload_n 0, 1) := by decide +kernel
theorem dX0_isBeforeByPlace_7 : decode cX0_isBeforeByPlace 7 = .ok (.getfield 15, 3) := by decide +kernel
theorem dX0_isBeforeByPlace_10 : decode cX0_isBeforeByPlace 10 = .ok (.iload_n 2, 1) := by decide +kernel
theorem dX0_isBeforeByPlace_11 : decode cX0_isBeforeByPlace 11 = .ok (.iaload, 1) := by decide +kernel
theorem dX0_isBeforeByPlace_12 : decode cX0_isBeforeByPlace 12 = .ok (.if_icmp .eq 24, 3) := by decide +kernel
theorem dX0_isBeforeByPlace_15 : decode cX0_isBeforeByPlace 15 = .ok (.aload_n 0, 1) := by decide +kernel
theorem dX0_isBeforeByPlace_16 : decode cX0_isBeforeByPlace 16 = .ok (.getfield 15, 3) := by decide +kernel
theorem dX0_isBeforeByPlace_19 : decode cX0_isBeforeByPlace 19 = .ok (.iload_n 1, 1) := by decide +kernel
theorem dX0_isBeforeByPlace_20 : decode cX0_isBeforeByPlace 20 = .ok (.iaload, 1) := by decide +kernel
theorem dX0_isBeforeByPlace_21 : decode cX0_isBeforeByPlace 21 = .ok (.aload_n 0, 1) := by decide +kernel
theorem dX0_isBeforeByPlace_22 : decode cX0_isBeforeByPlace 22 = .ok (.getfield 15, 3) := by decide +kernel
theorem dX0_isBeforeByPlace_25 : decode cX0_isBeforeByPlace 25 = .ok (.iload_n 2, 1) := by decide +kernel
theorem dX0_isBeforeByPlace_26 : decode cX0_isBeforeByPlace 26 = .ok (.iaload, 1) := by decide +kernel
theorem dX0_isBeforeByPlace_27 : decode cX0_isBeforeByPlace 27 = .ok (.if_icmp .ge 7, 3) := by decide +kernel
theorem dX0_isBeforeByPlace_30 : decode cX0_isBeforeByPlace 30 = .ok (.iconst 1, 1) := by decide +kernel
theorem dX0_isBeforeByPlace_31 : decode cX0_isBeforeByPlace 31 = .ok (.goto 4, 3) := by decide +kernel
theorem dX0_isBeforeByPlace_34 : decode cX0_isBeforeByPlace 34 = .ok (.iconst 0, 1) := by decide +kernel
theorem dX0_isBeforeByPlace_35 : decode cX0_isBeforeByPlace 35 = .ok (.ireturn, 1) := by decide +kernel
theorem dX0_isBeforeByPlace_36 : decode cX0_isBeforeByPlace 36 = .ok (.aload_n 0, 1) := by decide +kernel
theorem dX0_isBeforeByPlace_37 : decode cX0_isBeforeByPlace 37 = .ok (.getfield 18, 3) := by decide +kernel
theorem dX0_isBeforeByPlace_40 : decode cX0_isBeforeByPlace 40 = .ok (.iload_n 1, 1) := by decide +kernel
theorem dX0_isBeforeByPlace_41 : decode cX0_isBeforeByPlace 41 = .ok (.iaload, 1) := by decide +kernel
theorem dX0_isBeforeByPlace_42 : decode cX0_isBeforeByPlace 42 = .ok (.aload_n 0, 1) := by decide +kernel
theorem dX0_isBeforeByPlace_43 : decode cX0_isBeforeByPlace 43 = .ok (.getfield 18, 3) := by decide +kernel
theorem dX0_isBeforeByPlace_46 : decode cX0_isBeforeByPlace 46 = .ok (.iload_n 2, 1) := by decide +kernel
theorem dX0_isBeforeByPlace_47 : decode cX0_isBeforeByPlace 47 = .ok (.iaload, 1) := by decide +kernel
theorem dX0_isBeforeByPlace_48 : decode cX0_isBeforeByPlace 48 = .ok (.if_icmp .eq 24, 3) := by decide +kernel
theorem dX0_isBeforeByPlace_51 : decode cX0_isBeforeByPlace 51 = .ok (.aload_n 0, 1) := by decide +kernel
theorem dX0_isBeforeByPlace_52 : decode cX0_isBeforeByPlace 52 = .ok (.getfield 18, 3) := by decide +kernel
theorem dX0_isBeforeByPlace_55 : decode cX0_isBeforeByPlace 55 = .ok (.iload_n 1, 1) := by decide +kernel
theorem dX0_isBeforeByPlace_56 : decode cX0_isBeforeByPlace 56 = .ok (.iaload, 1) := by decide +kernel
theorem dX0_isBeforeByPlace_57 : decode cX0_isBeforeByPlace 57 = .ok (.aload_n 0, 1) := by decide +kernel
theorem dX0_isBeforeByPlace_58 : decode cX0_isBeforeByPlace 58 = .ok (.getfield 18, 3) := by decide +kernel
theorem dX0_isBeforeByPlace_61 : decode cX0_isBeforeByPlace 61 = .ok (.iload_n 2, 1) := by decide +kernel
theorem dX0_isBeforeByPlace_62 : decode cX0_isBeforeByPlace 62 = .ok (.iaload, 1) := by decide +kernel
theorem dX0_isBeforeByPlace_63 : decode cX0_isBeforeByPlace 63 = .ok (.if_icmp .ge 7, 3) := by decide +kernel
theorem dX0_isBeforeByPlace_66 : decode cX0_isBeforeByPlace 66 = .ok (.iconst 1, 1) := by decide +kernel
theorem dX0_isBeforeByPlace_67 : decode cX0_isBeforeByPlace 67 = .ok (.goto 4, 3) := by decide +kernel
theorem dX0_isBeforeByPlace_70 : decode cX0_isBeforeByPlace 70 = .ok (.iconst 0, 1) := by decide +kernel
theorem dX0_isBeforeByPlace_71 : decode cX0_isBeforeByPlace 71 = .ok (.ireturn, 1) := by decide +kernel
theorem dX0_isBeforeByPlace_72 : decode cX0_isBeforeByPlace 72 = .ok (.aload_n 0, 1) := by decide +kernel
theorem dX0_isBeforeByPlace_73 : decode cX0_isBeforeByPlace 73 = .ok (.getfield 11, 3) := by decide +kernel
theorem dX0_isBeforeByPlace_76 : decode cX0_isBeforeByPlace 76 = .ok (.iload_n 1, 1) := by decide +kernel
theorem dX0_isBeforeByPlace_77 : decode cX0_isBeforeByPlace 77 = .ok (.iaload, 1) := by decide +kernel
theorem dX0_isBeforeByPlace_78 : decode cX0_isBeforeByPlace 78 = .ok (.aload_n 0, 1) := by decide +kernel
theorem dX0_isBeforeByPlace_79 : decode cX0_isBeforeByPlace 79 = .ok (.getfield 11, 3) := by decide +kernel
theorem dX0_isBeforeByPlace_82 : decode cX0_isBeforeByPlace 82 = .ok (.iload_n 2, 1) := by decide +kernel
theorem dX0_isBeforeByPlace_83 : decode cX0_isBeforeByPlace 83 = .ok (.iaload, 1) := by decide +kernel
theorem dX0_isBeforeByPlace_84 : decode cX0_isBeforeByPlace 84 = .ok (.if_icmp .ge 7, 3) := by decide +kernel
theorem dX0_isBeforeByPlace_87 : decode cX0_isBeforeByPlace 87 = .ok (.iconst 1, 1) := by decide +kernel
theorem dX0_isBeforeByPlace_88 : decode cX0_isBeforeByPlace 88 = .ok (.goto 4, 3) := by decide +kernel
theorem dX0_isBeforeByPlace_91 : decode cX0_isBeforeByPlace 91 = .ok (.iconst 0, 1) := by decide +kernel
theorem dX0_isBeforeByPlace_92 : decode cX0_isBeforeByPlace 92 = .ok (.ireturn, 1) := by decide +kernel
theorem dX0_hasInLayer_0 : decode cX0_hasInLayer 0 = .ok (.iload_n 2, 1) := by decide +kernel
theorem dX0_hasInLayer_1 : decode cX0_hasInLayer 1 = .ok (.ifCond .eq 10, 3) := by decide +kernel
theorem dX0_hasInLayer_4 : decode cX0_hasInLayer 4 = .ok (.aload_n 0, 1) := by decide +kernel
theorem dX0_hasInLayer_5 : decode cX0_hasInLayer 5 = .ok (.getfield 31, 3) := by decide +kernel
theorem dX0_hasInLayer_8 : decode cX0_hasInLayer 8 = .ok (.goto 7, 3) := by decide +kernel
theorem dX0_hasInLayer_11 : decode cX0_hasInLayer 11 = .ok (.aload_n 0, 1) := by decide +kernel
theorem dX0_hasInLayer_12 : decode cX0_hasInLayer 12 = .ok (.getfield 27, 3) := by decide +kernel
theorem dX0_hasInLayer_15 : decode cX0_hasInLayer 15 = .ok (.istore 4, 2) := by decide +kernel
theorem dX0_hasInLayer_17 : decode cX0_hasInLayer 17 = .ok (.iload 4, 2) := by decide +kernel
theorem dX0_hasInLayer_19 : decode cX0_hasInLayer 19 = .ok (.iload_n 1, 1) := by decide +kernel
theorem dX0_hasInLayer_20 : decode cX0_hasInLayer 20 = .ok (.iand, 1) := by decide +kernel
theorem dX0_hasInLayer_21 : decode cX0_hasInLayer 21 = .ok (.ifCond .ne 6, 3) := by decide +kernel
theorem dX0_hasInLayer_24 : decode cX0_hasInLayer 24 = .ok (.ldc 80, 2) := by decide +kernel
theorem dX0_hasInLayer_26 : decode cX0_hasInLayer 26 = .ok (.ireturn, 1) := by decide +kernel
theorem dX0_hasInLayer_27 : decode cX0_hasInLayer 27 = .ok (.iload 4, 2) := by decide +kernel
theorem dX0_hasInLayer_29 : decode cX0_hasInLayer 29 = .ok (.iload_n 1, 1) := by decide +kernel
theorem dX0_hasInLayer_30 : decode cX0_hasInLayer 30 = .ok (.invokestatic 81, 3) := by decide +kernel
theorem dX0_hasInLayer_33 : decode cX0_hasInLayer 33 = .ok (.istore 5, 2) := by decide +kernel
theorem dX0_hasInLayer_35 : decode cX0_hasInLayer 35 = .ok (.iconst 0, 1) := by decide +kernel
theorem dX0_hasInLayer_36 : decode cX0_hasInLayer 36 = .ok (.istore 6, 2) := by decide +kernel
theorem dX0_hasInLayer_38 : decode cX0_hasInLayer 38 = .ok (.iconst 0, 1) := by decide +kernel
theorem dX0_hasInLayer_39 : decode cX0_hasInLayer 39 = .ok (.istore 7, 2) := by decide +kernel
theorem dX0_hasInLayer_41 : decode cX0_hasInLayer 41 = .ok (.iload 7, 2) := by decide +kernel
theorem dX0_hasInLayer_43 : decode cX0_hasInLayer 43 = .ok (.aload_n 0, 1) := by decide +kernel
theorem dX0_hasInLayer_44 : decode cX0_hasInLayer 44 = .ok (.getfield 27, 3) := by decide +kernel
theorem dX0_hasInLayer_47 : decode cX0_hasInLayer 47 = .ok (.if_icmp .ge 69, 3) := by decide +kernel
theorem dX0_hasInLayer_50 : decode cX0_hasInLayer 50 = .ok (.iload_n 2, 1) := by decide +kernel
theorem dX0_hasInLayer_51 : decode cX0_hasInLayer 51 = .ok (.ifCond .eq 15, 3) := by decide +kernel
theorem dX0_hasInLayer_54 : decode cX0_hasInLayer 54 = .ok (.aload_n 0, 1) := by decide +kernel
theorem dX0_hasInLayer_55 : decode cX0_hasInLayer 55 = .ok (.getfield 24, 3) := by decide +kernel
theorem dX0_hasInLayer_58 : decode cX0_hasInLayer 58 = .ok (.iload 7, 2) := by decide +kernel
theorem dX0_hasInLayer_60 : decode cX0_hasInLayer 60 = .ok (.iaload, 1) := by decide +kernel
theorem dX0_hasInLayer_61 : decode cX0_hasInLayer 61 = .ok (.iconst 1, 1) := by decide +kernel
theorem dX0_hasInLayer_62 : decode cX0_hasInLayer 62 = .ok (.isub, 1) := by decide +kernel
theorem dX0_hasInLayer_63 : decode cX0_hasInLayer 63 = .ok (.goto 5, 3) := by decide +kernel
theorem dX0_hasInLayer_66 : decode cX0_hasInLayer 66 = .ok (.iload 7, 2) := by decide +kernel
theorem dX0_hasInLayer_68 : decode cX0_hasInLayer 68 = .ok (.istore 8, 2) := by decide +kernel
theorem dX0_hasInLayer_70 : decode cX0_hasInLayer 70 = .ok (.iload 8, 2) := by decide +kernel
theorem dX0_hasInLayer_72 : decode cX0_hasInLayer 72 = .ok (.iload 5, 2) := by decide +kernel
theorem dX0_hasInLayer_74 : decode cX0_hasInLayer 74 = .ok (.if_icmp .lt 36, 3) := by decide +kernel
theorem dX0_hasInLayer_77 : decode cX0_hasInLayer 77 = .ok (.iload 8, 2) := by decide +kernel
theorem dX0_hasInLayer_79 : decode cX0_hasInLayer 79 = .ok (.iload 5, 2) := by decide +kernel
theorem dX0_hasInLayer_81 : decode cX0_hasInLayer 81 = .ok (.iload_n 1, 1) := by decide +kernel
theorem dX0_hasInLayer_82 : decode cX0_hasInLayer 82 = .ok (.iadd, 1) := by decide +kernel
theorem dX0_hasInLayer_83 : decode cX0_hasInLayer 83 = .ok (.if_icmp .ge 27, 3) := by decide +kernel
theorem dX0_hasInLayer_86 : decode cX0_hasInLayer 86 = .ok (.aload_n 3, 1) := by decide +kernel
theorem dX0_hasInLayer_87 : decode cX0_hasInLayer 87 = .ok (.aload_n 0, 1) := by decide +kernel
theorem dX0_hasInLayer_88 : decode cX0_hasInLayer 88 = .ok (.getfield 15, 3) := by decide +kernel
theorem dX0_hasInLayer_91 : decode cX0_hasInLayer 91 = .ok (.iload 7, 2) := by decide +kernel
theorem dX0_hasInLayer_93 : decode cX0_hasInLayer 93 = .ok (.iaload, 1) := by decide +kernel
theorem dX0_hasInLayer_94 : decode cX0_hasInLayer 94 = .ok (.aload_n 0, 1) := by decide +kernel
theorem dX0_hasInLayer_95 : decode cX0_hasInLayer 95 = .ok (.getfield 18, 3) := by decide +kernel
theorem dX0_hasInLayer_98 : decode cX0_hasInLayer 98 = .ok (.iload 7, 2) := by decide +kernel
theorem dX0_hasInLayer_100 : decode cX0_hasInLayer 100 = .ok (.iaload, 1) := by decide +kernel
theorem dX0_hasInLayer_101 : decode cX0_hasInLayer 101 = .ok (.invokevirtual 84, 3) := by decide +kernel
theorem dX0_hasInLayer_104 : decode cX0_hasInLayer 104 = .ok (.ifCond .eq 6, 3) := by decide +kernel
theorem dX0_hasInLayer_107 : decode cX0_hasInLayer 107 = .ok (.iinc 6 1, 3) := by decide +kernel
theorem dX0_hasInLayer_110 : decode cX0_hasInLayer 110 = .ok (.iinc 7 1, 3) := by decide +kernel
theorem dX0_hasInLayer_113 : decode cX0_hasInLayer 113 = .ok (.goto (-72), 3) := by decide +kernel
theorem dX0_hasInLayer_116 : decode cX0_hasInLayer 116 = .ok (.iload 6, 2) := by decide +kernel
theorem dX0_hasInLayer_118 : decode cX0_hasInLayer 118 = .ok (.ireturn, 1) := by decide +kernel
theorem dX0_newestLayer_0 : decode cX0_newestLayer 0 = .ok (.iload_n 0, 1) := by decide +kernel
theorem dX0_newestLayer_1 : decode cX0_newestLayer 1 = .ok (.iload_n 0, 1) := by decide +kernel
theorem dX0_newestLayer_2 : decode cX0_newestLayer 2 = .ok (.ineg, 1) := by decide +kernel
theorem dX0_newestLayer_3 : decode cX0_newestLayer 3 = .ok (.iand, 1) := by decide +kernel
theorem dX0_newestLayer_4 : decode cX0_newestLayer 4 = .ok (.ireturn, 1) := by decide +kernel
theorem dX0_layerStart_0 : decode cX0_layerStart 0 = .ok (.iload_n 0, 1) := by decide +kernel
theorem dX0_layerStart_1 : decode cX0_layerStart 1 = .ok (.iconst 2, 1) := by decide +kernel
theorem dX0_layerStart_2 : decode cX0_layerStart 2 = .ok (.iload_n 1, 1) := by decide +kernel
theorem dX0_layerStart_3 : decode cX0_layerStart 3 = .ok (.imul, 1) := by decide +kernel
theorem dX0_layerStart_4 : decode cX0_layerStart 4 = .ok (.ineg, 1) := by decide +kernel
theorem dX0_layerStart_5 : decode cX0_layerStart 5 = .ok (.iand, 1) := by decide +kernel
theorem dX0_layerStart_6 : decode cX0_layerStart 6 = .ok (.ireturn, 1) := by decide +kernel
theorem dX0_copyFrom_0 : decode cX0_copyFrom 0 = .ok (.aload_n 1, 1) := by decide +kernel
theorem dX0_copyFrom_1 : decode cX0_copyFrom 1 = .ok (.getfield 27, 3) := by decide +kernel
theorem dX0_copyFrom_4 : decode cX0_copyFrom 4 = .ok (.istore_n 2, 1) := by decide +kernel
theorem dX0_copyFrom_5 : decode cX0_copyFrom 5 = .ok (.aload_n 1, 1) := by decide +kernel
theorem dX0_copyFrom_6 : decode cX0_copyFrom 6 = .ok (.getfield 11, 3) := by decide +kernel
theorem dX0_copyFrom_9 : decode cX0_copyFrom 9 = .ok (.iconst 0, 1) := by decide +kernel
theorem dX0_copyFrom_10 : decode cX0_copyFrom 10 = .ok (.aload_n 0, 1) := by decide +kernel
theorem dX0_copyFrom_11 : decode cX0_copyFrom 11 = .ok (.getfield 11, 3) := by decide +kernel
theorem dX0_copyFrom_14 : decode cX0_copyFrom 14 = .ok (.iconst 0, 1) := by decide +kernel
theorem dX0_copyFrom_15 : decode cX0_copyFrom 15 = .ok (.iload_n 2, 1) := by decide +kernel
theorem dX0_copyFrom_16 : decode cX0_copyFrom 16 = .ok (.invokestatic 90, 3) := by decide +kernel
theorem dX0_copyFrom_19 : decode cX0_copyFrom 19 = .ok (.aload_n 1, 1) := by decide +kernel
theorem dX0_copyFrom_20 : decode cX0_copyFrom 20 = .ok (.getfield 15, 3) := by decide +kernel
theorem dX0_copyFrom_23 : decode cX0_copyFrom 23 = .ok (.iconst 0, 1) := by decide +kernel
theorem dX0_copyFrom_24 : decode cX0_copyFrom 24 = .ok (.aload_n 0, 1) := by decide +kernel
theorem dX0_copyFrom_25 : decode cX0_copyFrom 25 = .ok (.getfield 15, 3) := by decide +kernel
theorem dX0_copyFrom_28 : decode cX0_copyFrom 28 = .ok (.iconst 0, 1) := by decide +kernel
theorem dX0_copyFrom_29 : decode cX0_copyFrom 29 = .ok (.iload_n 2, 1) := by decide +kernel
theorem dX0_copyFrom_30 : decode cX0_copyFrom 30 = .ok (.invokestatic 90, 3) := by decide +kernel
theorem dX0_copyFrom_33 : decode cX0_copyFrom 33 = .ok (.aload_n 1, 1) := by decide +kernel
theorem dX0_copyFrom_34 : decode cX0_copyFrom 34 = .ok (.getfield 18, 3) := by decide +kernel
theorem dX0_copyFrom_37 : decode cX0_copyFrom 37 = .ok (.iconst 0, 1) := by decide +kernel
theorem dX0_copyFrom_38 : decode cX0_copyFrom 38 = .ok (.aload_n 0, 1) := by decide +kernel
theorem dX0_copyFrom_39 : decode cX0_copyFrom 39 = .ok (.getfield 18, 3) := by decide +kernel
theorem dX0_copyFrom_42 : decode cX0_copyFrom 42 = .ok (.iconst 0, 1) := by decide +kernel
theorem dX0_copyFrom_43 : decode cX0_copyFrom 43 = .ok (.iload_n 2, 1) := by decide +kernel
theorem dX0_copyFrom_44 : decode cX0_copyFrom 44 = .ok (.invokestatic 90, 3) := by decide +kernel
theorem dX0_copyFrom_47 : decode cX0_copyFrom 47 = .ok (.aload_n 1, 1) := by decide +kernel
theorem dX0_copyFrom_48 : decode cX0_copyFrom 48 = .ok (.getfield 21, 3) := by decide +kernel
theorem dX0_copyFrom_51 : decode cX0_copyFrom 51 = .ok (.iconst 0, 1) := by decide +kernel
theorem dX0_copyFrom_52 : decode cX0_copyFrom 52 = .ok (.aload_n 0, 1) := by decide +kernel
theorem dX0_copyFrom_53 : decode cX0_copyFrom 53 = .ok (.getfield 21, 3) := by decide +kernel
theorem dX0_copyFrom_56 : decode cX0_copyFrom 56 = .ok (.iconst 0, 1) := by decide +kernel
theorem dX0_copyFrom_57 : decode cX0_copyFrom 57 = .ok (.iload_n 2, 1) := by decide +kernel
theorem dX0_copyFrom_58 : decode cX0_copyFrom 58 = .ok (.invokestatic 90, 3) := by decide +kernel
theorem dX0_copyFrom_61 : decode cX0_copyFrom 61 = .ok (.aload_n 1, 1) := by decide +kernel
theorem dX0_copyFrom_62 : decode cX0_copyFrom 62 = .ok (.getfield 24, 3) := by decide +kernel
theorem dX0_copyFrom_65 : decode cX0_copyFrom 65 = .ok (.iconst 0, 1) := by decide +kernel
theorem dX0_copyFrom_66 : decode cX0_copyFrom 66 = .ok (.aload_n 0, 1) := by decide +kernel
theorem dX0_copyFrom_67 : decode cX0_copyFrom 67 = .ok (.getfield 24, 3) := by decide +kernel
theorem dX0_copyFrom_70 : decode cX0_copyFrom 70 = .ok (.iconst 0, 1) := by decide +kernel
theorem dX0_copyFrom_71 : decode cX0_copyFrom 71 = .ok (.iload_n 2, 1) := by decide +kernel
theorem dX0_copyFrom_72 : decode cX0_copyFrom 72 = .ok (.invokestatic 90, 3) := by decide +kernel
theorem dX0_copyFrom_75 : decode cX0_copyFrom 75 = .ok (.aload_n 0, 1) := by decide +kernel
theorem dX0_copyFrom_76 : decode cX0_copyFrom 76 = .ok (.iload_n 2, 1) := by decide +kernel
theorem dX0_copyFrom_77 : decode cX0_copyFrom 77 = .ok (.putfield 27, 3) := by decide +kernel
theorem dX0_copyFrom_80 : decode cX0_copyFrom 80 = .ok (.aload_n 0, 1) := by decide +kernel
theorem dX0_copyFrom_81 : decode cX0_copyFrom 81 = .ok (.aload_n 1, 1) := by decide +kernel
theorem dX0_copyFrom_82 : decode cX0_copyFrom 82 = .ok (.getfield 31, 3) := by decide +kernel
theorem dX0_copyFrom_85 : decode cX0_copyFrom 85 = .ok (.putfield 31, 3) := by decide +kernel
theorem dX0_copyFrom_88 : decode cX0_copyFrom 88 = .ok (.aload_n 0, 1) := by decide +kernel
theorem dX0_copyFrom_89 : decode cX0_copyFrom 89 = .ok (.aload_n 1, 1) := by decide +kernel
theorem dX0_copyFrom_90 : decode cX0_copyFrom 90 = .ok (.getfield 48, 3) := by decide +kernel
theorem dX0_copyFrom_93 : decode cX0_copyFrom 93 = .ok (.putfield 48, 3) := by decide +kernel
theorem dX0_copyFrom_96 : decode cX0_copyFrom 96 = .ok (.aload_n 0, 1) := by decide +kernel
theorem dX0_copyFrom_97 : decode cX0_copyFrom 97 = .ok (.aload_n 1, 1) := by decide +kernel
theorem dX0_copyFrom_98 : decode cX0_copyFrom 98 = .ok (.getfield 62, 3) := by decide +kernel
theorem dX0_copyFrom_101 : decode cX0_copyFrom 101 = .ok (.putfield 62, 3) := by decide +kernel
theorem dX0_copyFrom_104 : decode cX0_copyFrom 104 = .ok (.aload_n 0, 1) := by decide +kernel
theorem dX0_copyFrom_105 : decode cX0_copyFrom 105 = .ok (.aload_n 1, 1) := by decide +kernel
theorem dX0_copyFrom_106 : decode cX0_copyFrom 106 = .ok (.getfield 65, 3) := by decide +kernel
theorem dX0_copyFrom_109 : decode cX0_copyFrom 109 = .ok (.putfield 65, 3) := by decide +kernel
theorem dX0_copyFrom_112 : decode cX0_copyFrom 112 = .ok (.aload_n 0, 1) := by decide +kernel
theorem dX0_copyFrom_113 : decode cX0_copyFrom 113 = .ok (.aload_n 1, 1) := by decide +kernel
theorem dX0_copyFrom_114 : decode cX0_copyFrom 114 = .ok (.getfield 34, 3) := by decide +kernel
theorem dX0_copyFrom_117 : decode cX0_copyFrom 117 = .ok (.putfield 34, 3) := by decide +kernel
theorem dX0_copyFrom_120 : decode cX0_copyFrom 120 = .ok (.return_, 1) := by decide +kernel
theorem dX1_init_0 : decode cX1_init 0 = .ok (.aload_n 0, 1) := by decide +kernel
theorem dX1_init_1 : decode cX1_init 1 = .ok (.invokespecial 3, 3) := by decide +kernel
theorem dX1_init_4 : decode cX1_init 4 = .ok (.aload_n 0, 1) := by decide +kernel
theorem dX1_init_5 : decode cX1_init 5 = .ok (.lconst 0, 1) := by decide +kernel
theorem dX1_init_6 : decode cX1_init 6 = .ok (.putfield 9, 3) := by decide +kernel
theorem dX1_init_9 : decode cX1_init 9 = .ok (.aload_n 0, 1) := by decide +kernel
theorem dX1_init_10 : decode cX1_init 10 = .ok (.lconst 1, 1) := by decide +kernel
theorem dX1_init_11 : decode cX1_init 11 = .ok (.putfield 15, 3) := by decide +kernel
theorem dX1_init_14 : decode cX1_init 14 = .ok (.return_, 1) := by decide +kernel
theorem dX1_becomeOdds_0 : decode cX1_becomeOdds 0 = .ok (.lconst 1, 1) := by decide +kernel
theorem dX1_becomeOdds_1 : decode cX1_becomeOdds 1 = .ok (.lstore 4, 2) := by decide +kernel
theorem dX1_becomeOdds_3 : decode cX1_becomeOdds 3 = .ok (.lconst 0, 1) := by decide +kernel
theorem dX1_becomeOdds_4 : decode cX1_becomeOdds 4 = .ok (.lstore 6, 2) := by decide +kernel
theorem dX1_becomeOdds_6 : decode cX1_becomeOdds 6 = .ok (.iconst 0, 1) := by decide +kernel
theorem dX1_becomeOdds_7 : decode cX1_becomeOdds 7 = .ok (.istore 8, 2) := by decide +kernel
theorem dX1_becomeOdds_9 : decode cX1_becomeOdds 9 = .ok (.iload 8, 2) := by decide +kernel
theorem dX1_becomeOdds_11 : decode cX1_becomeOdds 11 = .ok (.iload_n 1, 1) := by decide +kernel
theorem dX1_becomeOdds_12 : decode cX1_becomeOdds 12 = .ok (.if_icmp .gt 59, 3) := by decide +kernel
theorem dX1_becomeOdds_15 : decode cX1_becomeOdds 15 = .ok (.iload 8, 2) := by decide +kernel
theorem dX1_becomeOdds_17 : decode cX1_becomeOdds 17 = .ok (.iload_n 2, 1) := by decide +kernel
theorem dX1_becomeOdds_18 : decode cX1_becomeOdds 18 = .ok (.if_icmp .lt 31, 3) := by decide +kernel
theorem dX1_becomeOdds_21 : decode cX1_becomeOdds 21 = .ok (.lload 6, 2) := by decide +kernel
theorem dX1_becomeOdds_23 : decode cX1_becomeOdds 23 = .ok (.lload 4, 2) := by decide +kernel
theorem dX1_becomeOdds_25 : decode cX1_becomeOdds 25 = .ok (.iload_n 3, 1) := by decide +kernel
theorem dX1_becomeOdds_26 : decode cX1_becomeOdds 26 = .ok (.i2l, 1) := by decide +kernel
theorem dX1_becomeOdds_27 : decode cX1_becomeOdds 27 = .ok (.iload 8, 2) := by decide +kernel
theorem dX1_becomeOdds_29 : decode cX1_becomeOdds 29 = .ok (.invokestatic 18, 3) := by decide +kernel
theorem dX1_becomeOdds_32 : decode cX1_becomeOdds 32 = .ok (.lmul, 1) := by decide +kernel
theorem dX1_becomeOdds_33 : decode cX1_becomeOdds 33 = .ok (.bipush 10, 2) := by decide +kernel
theorem dX1_becomeOdds_35 : decode cX1_becomeOdds 35 = .ok (.iload_n 3, 1) := by decide +kernel
theorem dX1_becomeOdds_36 : decode cX1_becomeOdds 36 = .ok (.isub, 1) := by decide +kernel
theorem dX1_becomeOdds_37 : decode cX1_becomeOdds 37 = .ok (.i2l, 1) := by decide +kernel
theorem dX1_becomeOdds_38 : decode cX1_becomeOdds 38 = .ok (.iload_n 1, 1) := by decide +kernel
theorem dX1_becomeOdds_39 : decode cX1_becomeOdds 39 = .ok (.iload 8, 2) := by decide +kernel
theorem dX1_becomeOdds_41 : decode cX1_becomeOdds 41 = .ok (.isub, 1) := by decide +kernel
theorem dX1_becomeOdds_42 : decode cX1_becomeOdds 42 = .ok (.invokestatic 18, 3) := by decide +kernel
theorem dX1_becomeOdds_45 : decode cX1_becomeOdds 45 = .ok (.lmul, 1) := by decide +kernel
theorem dX1_becomeOdds_46 : decode cX1_becomeOdds 46 = .ok (.ladd, 1) := by decide +kernel
theorem dX1_becomeOdds_47 : decode cX1_becomeOdds 47 = .ok (.lstore 6, 2) := by decide +kernel
theorem dX1_becomeOdds_49 : decode cX1_becomeOdds 49 = .ok (.lload 4, 2) := by decide +kernel
theorem dX1_becomeOdds_51 : decode cX1_becomeOdds 51 = .ok (.iload_n 1, 1) := by decide +kernel
theorem dX1_becomeOdds_52 : decode cX1_becomeOdds 52 = .ok (.iload 8, 2) := by decide +kernel
theorem dX1_becomeOdds_54 : decode cX1_becomeOdds 54 = .ok (.isub, 1) := by decide +kernel
theorem dX1_becomeOdds_55 : decode cX1_becomeOdds 55 = .ok (.i2l, 1) := by decide +kernel
theorem dX1_becomeOdds_56 : decode cX1_becomeOdds 56 = .ok (.lmul, 1) := by decide +kernel
theorem dX1_becomeOdds_57 : decode cX1_becomeOdds 57 = .ok (.iload 8, 2) := by decide +kernel
theorem dX1_becomeOdds_59 : decode cX1_becomeOdds 59 = .ok (.iconst 1, 1) := by decide +kernel
theorem dX1_becomeOdds_60 : decode cX1_becomeOdds 60 = .ok (.iadd, 1) := by decide +kernel
theorem dX1_becomeOdds_61 : decode cX1_becomeOdds 61 = .ok (.i2l, 1) := by decide +kernel
theorem dX1_becomeOdds_62 : decode cX1_becomeOdds 62 = .ok (.ldiv, 1) := by decide +kernel
theorem dX1_becomeOdds_63 : decode cX1_becomeOdds 63 = .ok (.lstore 4, 2) := by decide +kernel
theorem dX1_becomeOdds_65 : decode cX1_becomeOdds 65 = .ok (.iinc 8 1, 3) := by decide +kernel
theorem dX1_becomeOdds_68 : decode cX1_becomeOdds 68 = .ok (.goto (-59), 3) := by decide +kernel
theorem dX1_becomeOdds_71 : decode cX1_becomeOdds 71 = .ok (.ldc2_w 22, 3) := by decide +kernel
theorem dX1_becomeOdds_74 : decode cX1_becomeOdds 74 = .ok (.iload_n 1, 1) := by decide +kernel
theorem dX1_becomeOdds_75 : decode cX1_becomeOdds 75 = .ok (.invokestatic 18, 3) := by decide +kernel
theorem dX1_becomeOdds_78 : decode cX1_becomeOdds 78 = .ok (.lstore 8, 2) := by decide +kernel
theorem dX1_becomeOdds_80 : decode cX1_becomeOdds 80 = .ok (.lload 6, 2) := by decide +kernel
theorem dX1_becomeOdds_82 : decode cX1_becomeOdds 82 = .ok (.lload 8, 2) := by decide +kernel
theorem dX1_becomeOdds_84 : decode cX1_becomeOdds 84 = .ok (.invokestatic 24, 3) := by decide +kernel
theorem dX1_becomeOdds_87 : decode cX1_becomeOdds 87 = .ok (.lstore 10, 2) := by decide +kernel
theorem dX1_becomeOdds_89 : decode cX1_becomeOdds 89 = .ok (.lload 10, 2) := by decide +kernel
theorem dX1_becomeOdds_91 : decode cX1_becomeOdds 91 = .ok (.lconst 0, 1) := by decide +kernel
theorem dX1_becomeOdds_92 : decode cX1_becomeOdds 92 = .ok (.lcmp, 1) := by decide +kernel
theorem dX1_becomeOdds_93 : decode cX1_becomeOdds 93 = .ok (.ifCond .le 21, 3) := by decide +kernel
theorem dX1_becomeOdds_96 : decode cX1_becomeOdds 96 = .ok (.aload_n 0, 1) := by decide +kernel
theorem dX1_becomeOdds_97 : decode cX1_becomeOdds 97 = .ok (.lload 6, 2) := by decide +kernel
theorem dX1_becomeOdds_99 : decode cX1_becomeOdds 99 = .ok (.lload 10, 2) := by decide +kernel
theorem dX1_becomeOdds_101 : decode cX1_becomeOdds 101 = .ok (.ldiv, 1) := by decide +kernel
theorem dX1_becomeOdds_102 : decode cX1_becomeOdds 102 = .ok (.putfield 9, 3) := by decide +kernel
theorem dX1_becomeOdds_105 : decode cX1_becomeOdds 105 = .ok (.aload_n 0, 1) := by decide +kernel
theorem dX1_becomeOdds_106 : decode cX1_becomeOdds 106 = .ok (.lload 8, 2) := by decide +kernel
theorem dX1_becomeOdds_108 : decode cX1_becomeOdds 108 = .ok (.lload 10, 2) := by decide +kernel
theorem dX1_becomeOdds_110 : decode cX1_becomeOdds 110 = .ok (.ldiv, 1) := by decide +kernel
theorem dX1_becomeOdds_111 : decode cX1_becomeOdds 111 = .ok (.putfield 15, 3) := by decide +kernel
theorem dX1_becomeOdds_114 : decode cX1_becomeOdds 114 = .ok (.return_, 1) := by decide +kernel
theorem dX1_power_0 : decode cX1_power 0 = .ok (.lconst 1, 1) := by decide +kernel
theorem dX1_power_1 : decode cX1_power 1 = .ok (.lstore_n 3, 1) := by decide +kernel
theorem dX1_power_2 : decode cX1_power 2 = .ok (.iconst 0, 1) := by decide +kernel
theorem dX1_power_3 : decode cX1_power 3 = .ok (.istore 5, 2) := by decide +kernel
theorem dX1_power_5 : decode cX1_power 5 = .ok (.iload 5, 2) := by decide +kernel
theorem dX1_power_7 : decode cX1_power 7 = .ok (.iload_n 2, 1) := by decide +kernel
theorem dX1_power_8 : decode cX1_power 8 = .ok (.if_icmp .ge 13, 3) := by decide +kernel
theorem dX1_power_11 : decode cX1_power 11 = .ok (.lload_n 3, 1) := by decide +kernel
theorem dX1_power_12 : decode cX1_power 12 = .ok (.lload_n 0, 1) := by decide +kernel
theorem dX1_power_13 : decode cX1_power 13 = .ok (.lmul, 1) := by decide +kernel
theorem dX1_power_14 : decode cX1_power 14 = .ok (.lstore_n 3, 1) := by decide +kernel
theorem dX1_power_15 : decode cX1_power 15 = .ok (.iinc 5 1, 3) := by decide +kernel
theorem dX1_power_18 : decode cX1_power 18 = .ok (.goto (-13), 3) := by decide +kernel
theorem dX1_power_21 : decode cX1_power 21 = .ok (.lload_n 3, 1) := by decide +kernel
theorem dX1_power_22 : decode cX1_power 22 = .ok (.lreturn, 1) := by decide +kernel
theorem dX1_divisorOf_0 : decode cX1_divisorOf 0 = .ok (.lload_n 0, 1) := by decide +kernel
theorem dX1_divisorOf_1 : decode cX1_divisorOf 1 = .ok (.lstore 4, 2) := by decide +kernel
theorem dX1_divisorOf_3 : decode cX1_divisorOf 3 = .ok (.lload_n 2, 1) := by decide +kernel
theorem dX1_divisorOf_4 : decode cX1_divisorOf 4 = .ok (.lstore 6, 2) := by decide +kernel
theorem dX1_divisorOf_6 : decode cX1_divisorOf 6 = .ok (.iconst 0, 1) := by decide +kernel
theorem dX1_divisorOf_7 : decode cX1_divisorOf 7 = .ok (.istore 8, 2) := by decide +kernel
theorem dX1_divisorOf_9 : decode cX1_divisorOf 9 = .ok (.iload 8, 2) := by decide +kernel
theorem dX1_divisorOf_11 : decode cX1_divisorOf 11 = .ok (.sipush 200, 3) := by decide +kernel
theorem dX1_divisorOf_14 : decode cX1_divisorOf 14 = .ok (.if_icmp .ge 31, 3) := by decide +kernel
theorem dX1_divisorOf_17 : decode cX1_divisorOf 17 = .ok (.lload 6, 2) := by decide +kernel
theorem dX1_divisorOf_19 : decode cX1_divisorOf 19 = .ok (.lconst 0, 1) := by decide +kernel
theorem dX1_divisorOf_20 : decode cX1_divisorOf 20 = .ok (.lcmp, 1) := by decide +kernel
theorem dX1_divisorOf_21 : decode cX1_divisorOf 21 = .ok (.ifCond .eq 24, 3) := by decide +kernel
theorem dX1_divisorOf_24 : decode cX1_divisorOf 24 = .ok (.lload 4, 2) := by decide +kernel
theorem dX1_divisorOf_26 : decode cX1_divisorOf 26 = .ok (.lload 6, 2) := by decide +kernel
theorem dX1_divisorOf_28 : decode cX1_divisorOf 28 = .ok (.lrem, 1) := by decide +kernel
theorem dX1_divisorOf_29 : decode cX1_divisorOf 29 = .ok (.lstore 9, 2) := by decide +kernel
theorem dX1_divisorOf_31 : decode cX1_divisorOf 31 = .ok (.lload 6, 2) := by decide +kernel
theorem dX1_divisorOf_33 : decode cX1_divisorOf 33 = .ok (.lstore 4, 2) := by decide +kernel
theorem dX1_divisorOf_35 : decode cX1_divisorOf 35 = .ok (.lload 9, 2) := by decide +kernel
theorem dX1_divisorOf_37 : decode cX1_divisorOf 37 = .ok (.lstore 6, 2) := by decide +kernel
theorem dX1_divisorOf_39 : decode cX1_divisorOf 39 = .ok (.iinc 8 1, 3) := by decide +kernel
theorem dX1_divisorOf_42 : decode cX1_divisorOf 42 = .ok (.goto (-33), 3) := by decide +kernel
theorem dX1_divisorOf_45 : decode cX1_divisorOf 45 = .ok (.lload 4, 2) := by decide +kernel
theorem dX1_divisorOf_47 : decode cX1_divisorOf 47 = .ok (.lreturn, 1) := by decide +kernel
theorem dX2_init_0 : decode cX2_init 0 = .ok (.aload_n 0, 1) := by decide +kernel
theorem dX2_init_1 : decode cX2_init 1 = .ok (.invokespecial 3, 3) := by decide +kernel
theorem dX2_init_4 : decode cX2_init 4 = .ok (.aload_n 0, 1) := by decide +kernel
theorem dX2_init_5 : decode cX2_init 5 = .ok (.bipush 8, 2) := by decide +kernel
theorem dX2_init_7 : decode cX2_init 7 = .ok (.anewarray 9, 3) := by decide +kernel
theorem dX2_init_10 : decode cX2_init 10 = .ok (.putfield 11, 3) := by decide +kernel
theorem dX2_init_13 : decode cX2_init 13 = .ok (.iconst 0, 1) := by decide +kernel
theorem dX2_init_14 : decode cX2_init 14 = .ok (.istore_n 1, 1) := by decide +kernel
theorem dX2_init_15 : decode cX2_init 15 = .ok (.iload_n 1, 1) := by decide +kernel
theorem dX2_init_16 : decode cX2_init 16 = .ok (.bipush 8, 2) := by decide +kernel
theorem dX2_init_18 : decode cX2_init 18 = .ok (.if_icmp .ge 22, 3) := by decide +kernel
theorem dX2_init_21 : decode cX2_init 21 = .ok (.aload_n 0, 1) := by decide +kernel
theorem dX2_init_22 : decode cX2_init 22 = .ok (.getfield 11, 3) := by decide +kernel
theorem dX2_init_25 : decode cX2_init 25 = .ok (.iload_n 1, 1) := by decide +kernel
theorem dX2_init_26 : decode cX2_init 26 = .ok (.new 9, 3) := by decide +kernel
theorem dX2_init_29 : decode cX2_init 29 = .ok (.dup, 1) := by decide +kernel
theorem dX2_init_30 : decode cX2_init 30 = .ok (.invokespecial 17, 3) := by decide +kernel
theorem dX2_init_33 : decode cX2_init 33 = .ok (.aastore, 1) := by decide +kernel
theorem dX2_init_34 : decode cX2_init 34 = .ok (.iinc 1 1, 3) := by decide +kernel
theorem dX2_init_37 : decode cX2_init 37 = .ok (.goto (-22), 3) := by decide +kernel
theorem dX2_init_40 : decode cX2_init 40 = .ok (.return_, 1) := by decide +kernel
theorem dX2_keep_0 : decode cX2_keep 0 = .ok (.aload_n 0, 1) := by decide +kernel
theorem dX2_keep_1 : decode cX2_keep 1 = .ok (.getfield 11, 3) := by decide +kernel
theorem dX2_keep_4 : decode cX2_keep 4 = .ok (.aload_n 0, 1) := by decide +kernel
theorem dX2_keep_5 : decode cX2_keep 5 = .ok (.getfield 18, 3) := by decide +kernel
theorem dX2_keep_8 : decode cX2_keep 8 = .ok (.aload_n 0, 1) := by decide +kernel
theorem dX2_keep_9 : decode cX2_keep 9 = .ok (.getfield 22, 3) := by decide +kernel
theorem dX2_keep_12 : decode cX2_keep 12 = .ok (.iadd, 1) := by decide +kernel
theorem dX2_keep_13 : decode cX2_keep 13 = .ok (.bipush 8, 2) := by decide +kernel
theorem dX2_keep_15 : decode cX2_keep 15 = .ok (.irem, 1) := by decide +kernel
theorem dX2_keep_16 : decode cX2_keep 16 = .ok (.aaload, 1) := by decide +kernel
theorem dX2_keep_17 : decode cX2_keep 17 = .ok (.aload_n 1, 1) := by decide +kernel
theorem dX2_keep_18 : decode cX2_keep 18 = .ok (.invokevirtual 25, 3) := by decide +kernel
theorem dX2_keep_21 : decode cX2_keep 21 = .ok (.aload_n 0, 1) := by decide +kernel
theorem dX2_keep_22 : decode cX2_keep 22 = .ok (.getfield 22, 3) := by decide +kernel
theorem dX2_keep_25 : decode cX2_keep 25 = .ok (.bipush 8, 2) := by decide +kernel
theorem dX2_keep_27 : decode cX2_keep 27 = .ok (.if_icmp .ge 16, 3) := by decide +kernel
theorem dX2_keep_30 : decode cX2_keep 30 = .ok (.aload_n 0, 1) := by decide +kernel
theorem dX2_keep_31 : decode cX2_keep 31 = .ok (.dup, 1) := by decide +kernel
theorem dX2_keep_32 : decode cX2_keep 32 = .ok (.getfield 22, 3) := by decide +kernel
theorem dX2_keep_35 : decode cX2_keep 35 = .ok (.iconst 1, 1) := by decide +kernel
theorem dX2_keep_36 : decode cX2_keep 36 = .ok (.iadd, 1) := by decide +kernel
theorem dX2_keep_37 : decode cX2_keep 37 = .ok (.putfield 22, 3) := by decide +kernel
theorem dX2_keep_40 : decode cX2_keep 40 = .ok (.goto 16, 3) := by decide +kernel
theorem dX2_keep_43 : decode cX2_keep 43 = .ok (.aload_n 0, 1) := by decide +kernel
theorem dX2_keep_44 : decode cX2_keep 44 = .ok (.aload_n 0, 1) := by decide +kernel
theorem dX2_keep_45 : decode cX2_keep 45 = .ok (.getfield 18, 3) := by decide +kernel
theorem dX2_keep_48 : decode cX2_keep 48 = .ok (.iconst 1, 1) := by decide +kernel
theorem dX2_keep_49 : decode cX2_keep 49 = .ok (.iadd, 1) := by decide +kernel
theorem dX2_keep_50 : decode cX2_keep 50 = .ok (.bipush 8, 2) := by decide +kernel
theorem dX2_keep_52 : decode cX2_keep 52 = .ok (.irem, 1) := by decide +kernel
theorem dX2_keep_53 : decode cX2_keep 53 = .ok (.putfield 18, 3) := by decide +kernel
theorem dX2_keep_56 : decode cX2_keep 56 = .ok (.return_, 1) := by decide +kernel
theorem dX2_bringBack_0 : decode cX2_bringBack 0 = .ok (.aload_n 0, 1) := by decide +kernel
theorem dX2_bringBack_1 : decode cX2_bringBack 1 = .ok (.getfield 22, 3) := by decide +kernel
theorem dX2_bringBack_4 : decode cX2_bringBack 4 = .ok (.ifCond .le 34, 3) := by decide +kernel
theorem dX2_bringBack_7 : decode cX2_bringBack 7 = .ok (.aload_n 0, 1) := by decide +kernel
theorem dX2_bringBack_8 : decode cX2_bringBack 8 = .ok (.dup, 1) := by decide +kernel
theorem dX2_bringBack_9 : decode cX2_bringBack 9 = .ok (.getfield 22, 3) := by decide +kernel
theorem dX2_bringBack_12 : decode cX2_bringBack 12 = .ok (.iconst 1, 1) := by decide +kernel
theorem dX2_bringBack_13 : decode cX2_bringBack 13 = .ok (.isub, 1) := by decide +kernel
theorem dX2_bringBack_14 : decode cX2_bringBack 14 = .ok (.putfield 22, 3) := by decide +kernel
theorem dX2_bringBack_17 : decode cX2_bringBack 17 = .ok (.aload_n 1, 1) := by decide +kernel
theorem dX2_bringBack_18 : decode cX2_bringBack 18 = .ok (.aload_n 0, 1) := by decide +kernel
theorem dX2_bringBack_19 : decode cX2_bringBack 19 = .ok (.getfield 11, 3) := by decide +kernel
theorem dX2_bringBack_22 : decode cX2_bringBack 22 = .ok (.aload_n 0, 1) := by decide +kernel
theorem dX2_bringBack_23 : decode cX2_bringBack 23 = .ok (.getfield 18, 3) := by decide +kernel
theorem dX2_bringBack_26 : decode cX2_bringBack 26 = .ok (.aload_n 0, 1) := by decide +kernel
theorem dX2_bringBack_27 : decode cX2_bringBack 27 = .ok (.getfield 22, 3) := by decide +kernel
theorem dX2_bringBack_30 : decode cX2_bringBack 30 = .ok (.iadd, 1) := by decide +kernel
theorem dX2_bringBack_31 : decode cX2_bringBack 31 = .ok (.bipush 8, 2) := by decide +kernel
theorem dX2_bringBack_33 : decode cX2_bringBack 33 = .ok (.irem, 1) := by decide +kernel
theorem dX2_bringBack_34 : decode cX2_bringBack 34 = .ok (.aaload, 1) := by decide +kernel
theorem dX2_bringBack_35 : decode cX2_bringBack 35 = .ok (.invokevirtual 25, 3) := by decide +kernel
theorem dX2_bringBack_38 : decode cX2_bringBack 38 = .ok (.return_, 1) := by decide +kernel
theorem dX2_forget_0 : decode cX2_forget 0 = .ok (.aload_n 0, 1) := by decide +kernel
theorem dX2_forget_1 : decode cX2_forget 1 = .ok (.iconst 0, 1) := by decide +kernel
theorem dX2_forget_2 : decode cX2_forget 2 = .ok (.putfield 22, 3) := by decide +kernel
theorem dX2_forget_5 : decode cX2_forget 5 = .ok (.return_, 1) := by decide +kernel
theorem dX3_init_0 : decode cX3_init 0 = .ok (.aload_n 0, 1) := by decide +kernel
theorem dX3_init_1 : decode cX3_init 1 = .ok (.invokespecial 1, 3) := by decide +kernel
theorem dX3_init_4 : decode cX3_init 4 = .ok (.aload_n 0, 1) := by decide +kernel
theorem dX3_init_5 : decode cX3_init 5 = .ok (.new 7, 3) := by decide +kernel
theorem dX3_init_8 : decode cX3_init 8 = .ok (.dup, 1) := by decide +kernel
theorem dX3_init_9 : decode cX3_init 9 = .ok (.invokespecial 9, 3) := by decide +kernel
theorem dX3_init_12 : decode cX3_init 12 = .ok (.putfield 10, 3) := by decide +kernel
theorem dX3_init_15 : decode cX3_init 15 = .ok (.aload_n 0, 1) := by decide +kernel
theorem dX3_init_16 : decode cX3_init 16 = .ok (.new 16, 3) := by decide +kernel
theorem dX3_init_19 : decode cX3_init 19 = .ok (.dup, 1) := by decide +kernel
theorem dX3_init_20 : decode cX3_init 20 = .ok (.invokespecial 18, 3) := by decide +kernel
theorem dX3_init_23 : decode cX3_init 23 = .ok (.putfield 19, 3) := by decide +kernel
theorem dX3_init_26 : decode cX3_init 26 = .ok (.return_, 1) := by decide +kernel
theorem dX3_keep_0 : decode cX3_keep 0 = .ok (.aload_n 0, 1) := by decide +kernel
theorem dX3_keep_1 : decode cX3_keep 1 = .ok (.getfield 10, 3) := by decide +kernel
theorem dX3_keep_4 : decode cX3_keep 4 = .ok (.aload_n 1, 1) := by decide +kernel
theorem dX3_keep_5 : decode cX3_keep 5 = .ok (.invokevirtual 23, 3) := by decide +kernel
theorem dX3_keep_8 : decode cX3_keep 8 = .ok (.aload_n 0, 1) := by decide +kernel
theorem dX3_keep_9 : decode cX3_keep 9 = .ok (.getfield 19, 3) := by decide +kernel
theorem dX3_keep_12 : decode cX3_keep 12 = .ok (.aload_n 2, 1) := by decide +kernel
theorem dX3_keep_13 : decode cX3_keep 13 = .ok (.invokevirtual 27, 3) := by decide +kernel
theorem dX3_keep_16 : decode cX3_keep 16 = .ok (.aload_n 0, 1) := by decide +kernel
theorem dX3_keep_17 : decode cX3_keep 17 = .ok (.iconst 1, 1) := by decide +kernel
theorem dX3_keep_18 : decode cX3_keep 18 = .ok (.putfield 30, 3) := by decide +kernel
theorem dX3_keep_21 : decode cX3_keep 21 = .ok (.return_, 1) := by decide +kernel
theorem dX3_bringBack_0 : decode cX3_bringBack 0 = .ok (.aload_n 1, 1) := by decide +kernel
theorem dX3_bringBack_1 : decode cX3_bringBack 1 = .ok (.aload_n 0, 1) := by decide +kernel
theorem dX3_bringBack_2 : decode cX3_bringBack 2 = .ok (.getfield 10, 3) := by decide +kernel
theorem dX3_bringBack_5 : decode cX3_bringBack 5 = .ok (.invokevirtual 23, 3) := by decide +kernel
theorem dX3_bringBack_8 : decode cX3_bringBack 8 = .ok (.aload_n 2, 1) := by decide +kernel
theorem dX3_bringBack_9 : decode cX3_bringBack 9 = .ok (.aload_n 0, 1) := by decide +kernel
theorem dX3_bringBack_10 : decode cX3_bringBack 10 = .ok (.getfield 19, 3) := by decide +kernel
theorem dX3_bringBack_13 : decode cX3_bringBack 13 = .ok (.invokevirtual 27, 3) := by decide +kernel
theorem dX3_bringBack_16 : decode cX3_bringBack 16 = .ok (.return_, 1) := by decide +kernel
theorem dX4_init_0 : decode cX4_init 0 = .ok (.aload_n 0, 1) := by decide +kernel
theorem dX4_init_1 : decode cX4_init 1 = .ok (.invokespecial 3, 3) := by decide +kernel
theorem dX4_init_4 : decode cX4_init 4 = .ok (.aload_n 0, 1) := by decide +kernel
theorem dX4_init_5 : decode cX4_init 5 = .ok (.bipush 60, 2) := by decide +kernel
theorem dX4_init_7 : decode cX4_init 7 = .ok (.newarray .int, 2) := by decide +kernel
theorem dX4_init_9 : decode cX4_init 9 = .ok (.putfield 9, 3) := by decide +kernel
theorem dX4_init_12 : decode cX4_init 12 = .ok (.return_, 1) := by decide +kernel
theorem dX4_add_0 : decode cX4_add 0 = .ok (.aload_n 0, 1) := by decide +kernel
theorem dX4_add_1 : decode cX4_add 1 = .ok (.getfield 15, 3) := by decide +kernel
theorem dX4_add_4 : decode cX4_add 4 = .ok (.bipush 60, 2) := by decide +kernel
theorem dX4_add_6 : decode cX4_add 6 = .ok (.if_icmp .ge 23, 3) := by decide +kernel
theorem dX4_add_9 : decode cX4_add 9 = .ok (.aload_n 0, 1) := by decide +kernel
theorem dX4_add_10 : decode cX4_add 10 = .ok (.getfield 9, 3) := by decide +kernel
theorem dX4_add_13 : decode cX4_add 13 = .ok (.aload_n 0, 1) := by decide +kernel
theorem dX4_add_14 : decode cX4_add 14 = .ok (.getfield 15, 3) := by decide +kernel
theorem dX4_add_17 : decode cX4_add 17 = .ok (.iload_n 1, 1) := by decide +kernel
theorem dX4_add_18 : decode cX4_add 18 = .ok (.iastore, 1) := by decide +kernel
theorem dX4_add_19 : decode cX4_add 19 = .ok (.aload_n 0, 1) := by decide +kernel
theorem dX4_add_20 : decode cX4_add 20 = .ok (.dup, 1) := by decide +kernel
theorem dX4_add_21 : decode cX4_add 21 = .ok (.getfield 15, 3) := by decide +kernel
theorem dX4_add_24 : decode cX4_add 24 = .ok (.iconst 1, 1) := by decide +kernel
theorem dX4_add_25 : decode cX4_add 25 = .ok (.iadd, 1) := by decide +kernel
theorem dX4_add_26 : decode cX4_add 26 = .ok (.putfield 15, 3) := by decide +kernel
theorem dX4_add_29 : decode cX4_add 29 = .ok (.return_, 1) := by decide +kernel
theorem dX4_pickAll_0 : decode cX4_pickAll 0 = .ok (.aload_n 0, 1) := by decide +kernel
theorem dX4_pickAll_1 : decode cX4_pickAll 1 = .ok (.iconst 0, 1) := by decide +kernel
theorem dX4_pickAll_2 : decode cX4_pickAll 2 = .ok (.putfield 15, 3) := by decide +kernel
theorem dX4_pickAll_5 : decode cX4_pickAll 5 = .ok (.iconst 0, 1) := by decide +kernel
theorem dX4_pickAll_6 : decode cX4_pickAll 6 = .ok (.istore_n 2, 1) := by decide +kernel
theorem dX4_pickAll_7 : decode cX4_pickAll 7 = .ok (.iload_n 2, 1) := by decide +kernel
theorem dX4_pickAll_8 : decode cX4_pickAll 8 = .ok (.aload_n 1, 1) := by decide +kernel
theorem dX4_pickAll_9 : decode cX4_pickAll 9 = .ok (.getfield 19, 3) := by decide +kernel
theorem dX4_pickAll_12 : decode cX4_pickAll 12 = .ok (.if_icmp .ge 22, 3) := by decide +kernel
theorem dX4_pickAll_15 : decode cX4_pickAll 15 = .ok (.aload_n 1, 1) := by decide +kernel
theorem dX4_pickAll_16 : decode cX4_pickAll 16 = .ok (.iload_n 2, 1) := by decide +kernel
theorem dX4_pickAll_17 : decode cX4_pickAll 17 = .ok (.invokevirtual 24, 3) := by decide +kernel
theorem dX4_pickAll_20 : decode cX4_pickAll 20 = .ok (.ifCond .eq 8, 3) := by decide +kernel
theorem dX4_pickAll_23 : decode cX4_pickAll 23 = .ok (.aload_n 0, 1) := by decide +kernel
theorem dX4_pickAll_24 : decode cX4_pickAll 24 = .ok (.iload_n 2, 1) := by decide +kernel
theorem dX4_pickAll_25 : decode cX4_pickAll 25 = .ok (.invokevirtual 28, 3) := by decide +kernel
theorem dX4_pickAll_28 : decode cX4_pickAll 28 = .ok (.iinc 2 1, 3) := by decide +kernel
theorem dX4_pickAll_31 : decode cX4_pickAll 31 = .ok (.goto (-24), 3) := by decide +kernel
theorem dX4_pickAll_34 : decode cX4_pickAll 34 = .ok (.return_, 1) := by decide +kernel
theorem dX4_pickShape_0 : decode cX4_pickShape 0 = .ok (.aload_n 0, 1) := by decide +kernel
theorem dX4_pickShape_1 : decode cX4_pickShape 1 = .ok (.iconst 0, 1) := by decide +kernel
theorem dX4_pickShape_2 : decode cX4_pickShape 2 = .ok (.putfield 15, 3) := by decide +kernel
theorem dX4_pickShape_5 : decode cX4_pickShape 5 = .ok (.iconst 0, 1) := by decide +kernel
theorem dX4_pickShape_6 : decode cX4_pickShape 6 = .ok (.istore_n 3, 1) := by decide +kernel
theorem dX4_pickShape_7 : decode cX4_pickShape 7 = .ok (.iload_n 3, 1) := by decide +kernel
theorem dX4_pickShape_8 : decode cX4_pickShape 8 = .ok (.aload_n 1, 1) := by decide +kernel
theorem dX4_pickShape_9 : decode cX4_pickShape 9 = .ok (.getfield 19, 3) := by decide +kernel
theorem dX4_pickShape_12 : decode cX4_pickShape 12 = .ok (.if_icmp .ge 41, 3) := by decide +kernel
theorem dX4_pickShape_15 : decode cX4_pickShape 15 = .ok (.aload_n 1, 1) := by decide +kernel
theorem dX4_pickShape_16 : decode cX4_pickShape 16 = .ok (.iload_n 3, 1) := by decide +kernel
theorem dX4_pickShape_17 : decode cX4_pickShape 17 = .ok (.invokevirtual 24, 3) := by decide +kernel
theorem dX4_pickShape_20 : decode cX4_pickShape 20 = .ok (.ifCond .eq 27, 3) := by decide +kernel
theorem dX4_pickShape_23 : decode cX4_pickShape 23 = .ok (.aload_n 2, 1) := by decide +kernel
theorem dX4_pickShape_24 : decode cX4_pickShape 24 = .ok (.aload_n 1, 1) := by decide +kernel
theorem dX4_pickShape_25 : decode cX4_pickShape 25 = .ok (.getfield 32, 3) := by decide +kernel
theorem dX4_pickShape_28 : decode cX4_pickShape 28 = .ok (.iload_n 3, 1) := by decide +kernel
theorem dX4_pickShape_29 : decode cX4_pickShape 29 = .ok (.iaload, 1) := by decide +kernel
theorem dX4_pickShape_30 : decode cX4_pickShape 30 = .ok (.aload_n 1, 1) := by decide +kernel
theorem dX4_pickShape_31 : decode cX4_pickShape 31 = .ok (.getfield 35, 3) := by decide +kernel
theorem dX4_pickShape_34 : decode cX4_pickShape 34 = .ok (.iload_n 3, 1) := by decide +kernel
theorem dX4_pickShape_35 : decode cX4_pickShape 35 = .ok (.iaload, 1) := by decide +kernel
theorem dX4_pickShape_36 : decode cX4_pickShape 36 = .ok (.invokevirtual 38, 3) := by decide +kernel
theorem dX4_pickShape_39 : decode cX4_pickShape 39 = .ok (.ifCond .eq 8, 3) := by decide +kernel
theorem dX4_pickShape_42 : decode cX4_pickShape 42 = .ok (.aload_n 0, 1) := by decide +kernel
theorem dX4_pickShape_43 : decode cX4_pickShape 43 = .ok (.iload_n 3, 1) := by decide +kernel
theorem dX4_pickShape_44 : decode cX4_pickShape 44 = .ok (.invokevirtual 28, 3) := by decide +kernel
theorem dX4_pickShape_47 : decode cX4_pickShape 47 = .ok (.iinc 3 1, 3) := by decide +kernel
theorem dX4_pickShape_50 : decode cX4_pickShape 50 = .ok (.goto (-43), 3) := by decide +kernel
theorem dX4_pickShape_53 : decode cX4_pickShape 53 = .ok (.return_, 1) := by decide +kernel
theorem dX4_pickStairs_0 : decode cX4_pickStairs 0 = .ok (.aload_n 0, 1) := by decide +kernel
theorem dX4_pickStairs_1 : decode cX4_pickStairs 1 = .ok (.iconst 0, 1) := by decide +kernel
theorem dX4_pickStairs_2 : decode cX4_pickStairs 2 = .ok (.putfield 15, 3) := by decide +kernel
theorem dX4_pickStairs_5 : decode cX4_pickStairs 5 = .ok (.iconst 0, 1) := by decide +kernel
theorem dX4_pickStairs_6 : decode cX4_pickStairs 6 = .ok (.istore_n 3, 1) := by decide +kernel
theorem dX4_pickStairs_7 : decode cX4_pickStairs 7 = .ok (.iload_n 3, 1) := by decide +kernel
theorem dX4_pickStairs_8 : decode cX4_pickStairs 8 = .ok (.aload_n 2, 1) := by decide +kernel
theorem dX4_pickStairs_9 : decode cX4_pickStairs 9 = .ok (.getfield 15, 3) := by decide +kernel
theorem dX4_pickStairs_12 : decode cX4_pickStairs 12 = .ok (.if_icmp .ge 33, 3) := by decide +kernel
theorem dX4_pickStairs_15 : decode cX4_pickStairs 15 = .ok (.aload_n 2, 1) := by decide +kernel
theorem dX4_pickStairs_16 : decode cX4_pickStairs 16 = .ok (.aload_n 1, 1) := by decide +kernel
theorem dX4_pickStairs_17 : decode cX4_pickStairs 17 = .ok (.aload_n 2, 1) := by decide +kernel
theorem dX4_pickStairs_18 : decode cX4_pickStairs 18 = .ok (.getfield 9, 3) := by decide +kernel
theorem dX4_pickStairs_21 : decode cX4_pickStairs 21 = .ok (.iload_n 3, 1) := by decide +kernel
theorem dX4_pickStairs_22 : decode cX4_pickStairs 22 = .ok (.iaload, 1) := by decide +kernel
theorem dX4_pickStairs_23 : decode cX4_pickStairs 23 = .ok (.invokevirtual 44, 3) := by decide +kernel
theorem dX4_pickStairs_26 : decode cX4_pickStairs 26 = .ok (.ifCond .ne 13, 3) := by decide +kernel
theorem dX4_pickStairs_29 : decode cX4_pickStairs 29 = .ok (.aload_n 0, 1) := by decide +kernel
theorem dX4_pickStairs_30 : decode cX4_pickStairs 30 = .ok (.aload_n 2, 1) := by decide +kernel
theorem dX4_pickStairs_31 : decode cX4_pickStairs 31 = .ok (.getfield 9, 3) := by decide +kernel
theorem dX4_pickStairs_34 : decode cX4_pickStairs 34 = .ok (.iload_n 3, 1) := by decide +kernel
theorem dX4_pickStairs_35 : decode cX4_pickStairs 35 = .ok (.iaload, 1) := by decide +kernel
theorem dX4_pickStairs_36 : decode cX4_pickStairs 36 = .ok (.invokevirtual 28, 3) := by decide +kernel
theorem dX4_pickStairs_39 : decode cX4_pickStairs 39 = .ok (.iinc 3 1, 3) := by decide +kernel
theorem dX4_pickStairs_42 : decode cX4_pickStairs 42 = .ok (.goto (-35), 3) := by decide +kernel
theorem dX4_pickStairs_45 : decode cX4_pickStairs 45 = .ok (.return_, 1) := by decide +kernel
theorem dX4_tops_0 : decode cX4_tops 0 = .ok (.iconst 0, 1) := by decide +kernel
theorem dX4_tops_1 : decode cX4_tops 1 = .ok (.istore_n 3, 1) := by decide +kernel
theorem dX4_tops_2 : decode cX4_tops 2 = .ok (.iload_n 3, 1) := by decide +kernel
theorem dX4_tops_3 : decode cX4_tops 3 = .ok (.aload_n 0, 1) := by decide +kernel
theorem dX4_tops_4 : decode cX4_tops 4 = .ok (.getfield 15, 3) := by decide +kernel
theorem dX4_tops_7 : decode cX4_tops 7 = .ok (.if_icmp .ge 25, 3) := by decide +kernel
theorem dX4_tops_10 : decode cX4_tops 10 = .ok (.aload_n 1, 1) := by decide +kernel
theorem dX4_tops_11 : decode cX4_tops 11 = .ok (.iload_n 2, 1) := by decide +kernel
theorem dX4_tops_12 : decode cX4_tops 12 = .ok (.aload_n 0, 1) := by decide +kernel
theorem dX4_tops_13 : decode cX4_tops 13 = .ok (.getfield 9, 3) := by decide +kernel
theorem dX4_tops_16 : decode cX4_tops 16 = .ok (.iload_n 3, 1) := by decide +kernel
theorem dX4_tops_17 : decode cX4_tops 17 = .ok (.iaload, 1) := by decide +kernel
theorem dX4_tops_18 : decode cX4_tops 18 = .ok (.invokevirtual 48, 3) := by decide +kernel
theorem dX4_tops_21 : decode cX4_tops 21 = .ok (.ifCond .eq 5, 3) := by decide +kernel
theorem dX4_tops_24 : decode cX4_tops 24 = .ok (.iconst 1, 1) := by decide +kernel
theorem dX4_tops_25 : decode cX4_tops 25 = .ok (.ireturn, 1) := by decide +kernel
theorem dX4_tops_26 : decode cX4_tops 26 = .ok (.iinc 3 1, 3) := by decide +kernel
theorem dX4_tops_29 : decode cX4_tops 29 = .ok (.goto (-27), 3) := by decide +kernel
theorem dX4_tops_32 : decode cX4_tops 32 = .ok (.iconst 0, 1) := by decide +kernel
theorem dX4_tops_33 : decode cX4_tops 33 = .ok (.ireturn, 1) := by decide +kernel
theorem dX4_sortByPlace_0 : decode cX4_sortByPlace 0 = .ok (.aload_n 0, 1) := by decide +kernel
theorem dX4_sortByPlace_1 : decode cX4_sortByPlace 1 = .ok (.aload_n 1, 1) := by decide +kernel
theorem dX4_sortByPlace_2 : decode cX4_sortByPlace 2 = .ok (.iconst 0, 1) := by decide +kernel
theorem dX4_sortByPlace_3 : decode cX4_sortByPlace 3 = .ok (.invokevirtual 51, 3) := by decide +kernel
theorem dX4_sortByPlace_6 : decode cX4_sortByPlace 6 = .ok (.return_, 1) := by decide +kernel
theorem dX4_sortByHeight_0 : decode cX4_sortByHeight 0 = .ok (.aload_n 0, 1) := by decide +kernel
theorem dX4_sortByHeight_1 : decode cX4_sortByHeight 1 = .ok (.aload_n 1, 1) := by decide +kernel
theorem dX4_sortByHeight_2 : decode cX4_sortByHeight 2 = .ok (.iconst 1, 1) := by decide +kernel
theorem dX4_sortByHeight_3 : decode cX4_sortByHeight 3 = .ok (.invokevirtual 51, 3) := by decide +kernel
theorem dX4_sortByHeight_6 : decode cX4_sortByHeight 6 = .ok (.return_, 1) := by decide +kernel
theorem dX4_sort_0 : decode cX4_sort 0 = .ok (.iconst 1, 1) := by decide +kernel
theorem dX4_sort_1 : decode cX4_sort 1 = .ok (.istore_n 3, 1) := by decide +kernel
theorem dX4_sort_2 : decode cX4_sort 2 = .ok (.iload_n 3, 1) := by decide +kernel
theorem dX4_sort_3 : decode cX4_sort 3 = .ok (.aload_n 0, 1) := by decide +kernel
theorem dX4_sort_4 : decode cX4_sort 4 = .ok (.getfield 15, 3) := by decide +kernel
theorem dX4_sort_7 : decode cX4_sort 7 = .ok (.if_icmp .ge 75, 3) := by decide +kernel
theorem dX4_sort_10 : decode cX4_sort 10 = .ok (.aload_n 0, 1) := by decide +kernel
theorem dX4_sort_11 : decode cX4_sort 11 = .ok (.getfield 9, 3) := by decide +kernel
theorem dX4_sort_14 : decode cX4_sort 14 = .ok (.iload_n 3, 1) := by decide +kernel
theorem dX4_sort_15 : decode cX4_sort 15 = .ok (.iaload, 1) := by decide +kernel
theorem dX4_sort_16 : decode cX4_sort 16 = .ok (.istore 4, 2) := by decide +kernel
theorem dX4_sort_18 : decode cX4_sort 18 = .ok (.iload_n 3, 1) := by decide +kernel
theorem dX4_sort_19 : decode cX4_sort 19 = .ok (.istore 5, 2) := by decide +kernel
theorem dX4_sort_21 : decode cX4_sort 21 = .ok (.iload 5, 2) := by decide +kernel
theorem dX4_sort_23 : decode cX4_sort 23 = .ok (.ifCond .le 44, 3) := by decide +kernel
theorem dX4_sort_26 : decode cX4_sort 26 = .ok (.aload_n 1, 1) := by decide +kernel
theorem dX4_sort_27 : decode cX4_sort 27 = .ok (.iload 4, 2) := by decide +kernel
theorem dX4_sort_29 : decode cX4_sort 29 = .ok (.aload_n 0, 1) := by decide +kernel
theorem dX4_sort_30 : decode cX4_sort 30 = .ok (.getfield 9, 3) := by decide +kernel
theorem dX4_sort_33 : decode cX4_sort 33 = .ok (.iload 5, 2) := by decide +kernel
theorem dX4_sort_35 : decode cX4_sort 35 = .ok (.iconst 1, 1) := by decide +kernel
theorem dX4_sort_36 : decode cX4_sort 36 = .ok (.isub, 1) := by decide +kernel
theorem dX4_sort_37 : decode cX4_sort 37 = .ok (.iaload, 1) := by decide +kernel
theorem dX4_sort_38 : decode cX4_sort 38 = .ok (.iload_n 2, 1) := by decide +kernel
theorem dX4_sort_39 : decode cX4_sort 39 = .ok (.invokestatic 55, 3) := by decide +kernel
theorem dX4_sort_42 : decode cX4_sort 42 = .ok (.ifCond .eq 25, 3) := by decide +kernel
theorem dX4_sort_45 : decode cX4_sort 45 = .ok (.aload_n 0, 1) := by decide +kernel
theorem dX4_sort_46 : decode cX4_sort 46 = .ok (.getfield 9, 3) := by decide +kernel
theorem dX4_sort_49 : decode cX4_sort 49 = .ok (.iload 5, 2) := by decide +kernel
theorem dX4_sort_51 : decode cX4_sort 51 = .ok (.aload_n 0, 1) := by decide +kernel
theorem dX4_sort_52 : decode cX4_sort 52 = .ok (.getfield 9, 3) := by decide +kernel
theorem dX4_sort_55 : decode cX4_sort 55 = .ok (.iload 5, 2) := by decide +kernel
theorem dX4_sort_57 : decode cX4_sort 57 = .ok (.iconst 1, 1) := by decide +kernel
theorem dX4_sort_58 : decode cX4_sort 58 = .ok (.isub, 1) := by decide +kernel
theorem dX4_sort_59 : decode cX4_sort 59 = .ok (.iaload, 1) := by decide +kernel
theorem dX4_sort_60 : decode cX4_sort 60 = .ok (.iastore, 1) := by decide +kernel
theorem dX4_sort_61 : decode cX4_sort 61 = .ok (.iinc 5 (-1), 3) := by decide +kernel
theorem dX4_sort_64 : decode cX4_sort 64 = .ok (.goto (-43), 3) := by decide +kernel
theorem dX4_sort_67 : decode cX4_sort 67 = .ok (.aload_n 0, 1) := by decide +kernel
theorem dX4_sort_68 : decode cX4_sort 68 = .ok (.getfield 9, 3) := by decide +kernel
theorem dX4_sort_71 : decode cX4_sort 71 = .ok (.iload 5, 2) := by decide +kernel
theorem dX4_sort_73 : decode cX4_sort 73 = .ok (.iload 4, 2) := by decide +kernel
theorem dX4_sort_75 : decode cX4_sort 75 = .ok (.iastore, 1) := by decide +kernel
theorem dX4_sort_76 : decode cX4_sort 76 = .ok (.iinc 3 1, 3) := by decide +kernel
theorem dX4_sort_79 : decode cX4_sort 79 = .ok (.goto (-77), 3) := by decide +kernel
theorem dX4_sort_82 : decode cX4_sort 82 = .ok (.return_, 1) := by decide +kernel
theorem dX4_isBefore_0 : decode cX4_isBefore 0 = .ok (.iload_n 3, 1) := by decide +kernel
theorem dX4_isBefore_1 : decode cX4_isBefore 1 = .ok (.ifCond .eq 26, 3) := by decide +kernel
theorem dX4_isBefore_4 : decode cX4_isBefore 4 = .ok (.aload_n 0, 1) := by decide +kernel
theorem dX4_isBefore_5 : decode cX4_isBefore 5 = .ok (.getfield 35, 3) := by decide +kernel
theorem dX4_isBefore_8 : decode cX4_isBefore 8 = .ok (.iload_n 1, 1) := by decide +kernel
theorem dX4_isBefore_9 : decode cX4_isBefore 9 = .ok (.iaload, 1) := by decide +kernel
theorem dX4_isBefore_10 : decode cX4_isBefore 10 = .ok (.aload_n 0, 1) := by decide +kernel
theorem dX4_isBefore_11 : decode cX4_isBefore 11 = .ok (.getfield 35, 3) := by decide +kernel
theorem dX4_isBefore_14 : decode cX4_isBefore 14 = .ok (.iload_n 2, 1) := by decide +kernel
theorem dX4_isBefore_15 : decode cX4_isBefore 15 = .ok (.iaload, 1) := by decide +kernel
theorem dX4_isBefore_16 : decode cX4_isBefore 16 = .ok (.if_icmp .ge 7, 3) := by decide +kernel
theorem dX4_isBefore_19 : decode cX4_isBefore 19 = .ok (.iconst 1, 1) := by decide +kernel
theorem dX4_isBefore_20 : decode cX4_isBefore 20 = .ok (.goto 13, 3) := by decide +kernel
theorem dX4_isBefore_23 : decode cX4_isBefore 23 = .ok (.iconst 0, 1) := by decide +kernel
theorem dX4_isBefore_24 : decode cX4_isBefore 24 = .ok (.goto 9, 3) := by decide +kernel
theorem dX4_isBefore_27 : decode cX4_isBefore 27 = .ok (.aload_n 0, 1) := by decide +kernel
theorem dX4_isBefore_28 : decode cX4_isBefore 28 = .ok (.iload_n 1, 1) := by decide +kernel
theorem dX4_isBefore_29 : decode cX4_isBefore 29 = .ok (.iload_n 2, 1) := by decide +kernel
theorem dX4_isBefore_30 : decode cX4_isBefore 30 = .ok (.invokevirtual 59, 3) := by decide +kernel
theorem dX4_isBefore_33 : decode cX4_isBefore 33 = .ok (.ireturn, 1) := by decide +kernel
theorem dX4_turnToNumbers_0 : decode cX4_turnToNumbers 0 = .ok (.iconst 0, 1) := by decide +kernel
theorem dX4_turnToNumbers_1 : decode cX4_turnToNumbers 1 = .ok (.istore_n 2, 1) := by decide +kernel
theorem dX4_turnToNumbers_2 : decode cX4_turnToNumbers 2 = .ok (.iload_n 2, 1) := by decide +kernel
theorem dX4_turnToNumbers_3 : decode cX4_turnToNumbers 3 = .ok (.aload_n 0, 1) := by decide +kernel
theorem dX4_turnToNumbers_4 : decode cX4_turnToNumbers 4 = .ok (.getfield 15, 3) := by decide +kernel
theorem dX4_turnToNumbers_7 : decode cX4_turnToNumbers 7 = .ok (.if_icmp .ge 26, 3) := by decide +kernel
theorem dX4_turnToNumbers_10 : decode cX4_turnToNumbers 10 = .ok (.aload_n 0, 1) := by decide +kernel
theorem dX4_turnToNumbers_11 : decode cX4_turnToNumbers 11 = .ok (.getfield 9, 3) := by decide +kernel
theorem dX4_turnToNumbers_14 : decode cX4_turnToNumbers 14 = .ok (.iload_n 2, 1) := by decide +kernel
theorem dX4_turnToNumbers_15 : decode cX4_turnToNumbers 15 = .ok (.aload_n 1, 1) := by decide +kernel
theorem dX4_turnToNumbers_16 : decode cX4_turnToNumbers 16 = .ok (.getfield 62, 3) := by decide +kernel
theorem dX4_turnToNumbers_19 : decode cX4_turnToNumbers 19 = .ok (.aload_n 0, 1) := by decide +kernel
theorem dX4_turnToNumbers_20 : decode cX4_turnToNumbers 20 = .ok (.getfield 9, 3) := by decide +kernel
theorem dX4_turnToNumbers_23 : decode cX4_turnToNumbers 23 = .ok (.iload_n 2, 1) := by decide +kernel
theorem dX4_turnToNumbers_24 : decode cX4_turnToNumbers 24 = .ok (.iaload, 1) := by decide +kernel
theorem dX4_turnToNumbers_25 : decode cX4_turnToNumbers 25 = .ok (.iaload, 1) := by decide +kernel
theorem dX4_turnToNumbers_26 : decode cX4_turnToNumbers 26 = .ok (.iastore, 1) := by decide +kernel
theorem dX4_turnToNumbers_27 : decode cX4_turnToNumbers 27 = .ok (.iinc 2 1, 3) := by decide +kernel
theorem dX4_turnToNumbers_30 : decode cX4_turnToNumbers 30 = .ok (.goto (-28), 3) := by decide +kernel
theorem dX4_turnToNumbers_33 : decode cX4_turnToNumbers 33 = .ok (.return_, 1) := by decide +kernel
theorem dX4_numberOf_0 : decode cX4_numberOf 0 = .ok (.iload_n 2, 1) := by decide +kernel
theorem dX4_numberOf_1 : decode cX4_numberOf 1 = .ok (.ifCond .lt 25, 3) := by decide +kernel
theorem dX4_numberOf_4 : decode cX4_numberOf 4 = .ok (.iload_n 2, 1) := by decide +kernel
theorem dX4_numberOf_5 : decode cX4_numberOf 5 = .ok (.aload_n 0, 1) := by decide +kernel
theorem dX4_numberOf_6 : decode cX4_numberOf 6 = .ok (.getfield 15, 3) := by decide +kernel
theorem dX4_numberOf_9 : decode cX4_numberOf 9 = .ok (.if_icmp .ge 17, 3) := by decide +kernel
theorem dX4_numberOf_12 : decode cX4_numberOf 12 = .ok (.aload_n 1, 1) := by decide +kernel
theorem dX4_numberOf_13 : decode cX4_numberOf 13 = .ok (.getfield 62, 3) := by decide +kernel
theorem dX4_numberOf_16 : decode cX4_numberOf 16 = .ok (.aload_n 0, 1) := by decide +kernel
theorem dX4_numberOf_17 : decode cX4_numberOf 17 = .ok (.getfield 9, 3) := by decide +kernel
theorem dX4_numberOf_20 : decode cX4_numberOf 20 = .ok (.iload_n 2, 1) := by decide +kernel
theorem dX4_numberOf_21 : decode cX4_numberOf 21 = .ok (.iaload, 1) := by decide +kernel
theorem dX4_numberOf_22 : decode cX4_numberOf 22 = .ok (.iaload, 1) := by decide +kernel
theorem dX4_numberOf_23 : decode cX4_numberOf 23 = .ok (.goto 5, 3) := by decide +kernel
theorem dX4_numberOf_26 : decode cX4_numberOf 26 = .ok (.ldc 65, 2) := by decide +kernel
theorem dX4_numberOf_28 : decode cX4_numberOf 28 = .ok (.ireturn, 1) := by decide +kernel
theorem dX4_worthOfAll_0 : decode cX4_worthOfAll 0 = .ok (.iconst 0, 1) := by decide +kernel
theorem dX4_worthOfAll_1 : decode cX4_worthOfAll 1 = .ok (.istore_n 2, 1) := by decide +kernel
theorem dX4_worthOfAll_2 : decode cX4_worthOfAll 2 = .ok (.iconst 0, 1) := by decide +kernel
theorem dX4_worthOfAll_3 : decode cX4_worthOfAll 3 = .ok (.istore_n 3, 1) := by decide +kernel
theorem dX4_worthOfAll_4 : decode cX4_worthOfAll 4 = .ok (.iload_n 3, 1) := by decide +kernel
theorem dX4_worthOfAll_5 : decode cX4_worthOfAll 5 = .ok (.aload_n 0, 1) := by decide +kernel
theorem dX4_worthOfAll_6 : decode cX4_worthOfAll 6 = .ok (.getfield 15, 3) := by decide +kernel
theorem dX4_worthOfAll_9 : decode cX4_worthOfAll 9 = .ok (.if_icmp .ge 22, 3) := by decide +kernel
theorem dX4_worthOfAll_12 : decode cX4_worthOfAll 12 = .ok (.iload_n 2, 1) := by decide +kernel
theorem dX4_worthOfAll_13 : decode cX4_worthOfAll 13 = .ok (.aload_n 1, 1) := by decide +kernel
theorem dX4_worthOfAll_14 : decode cX4_worthOfAll 14 = .ok (.aload_n 0, 1) := by decide +kernel
theorem dX4_worthOfAll_15 : decode cX4_worthOfAll 15 = .ok (.getfield 9, 3) := by decide +kernel
theorem dX4_worthOfAll_18 : decode cX4_worthOfAll 18 = .ok (.iload_n 3, 1) := by decide +kernel
theorem dX4_worthOfAll_19 : decode cX4_worthOfAll 19 = .ok (.iaload, 1) := by decide +kernel
theorem dX4_worthOfAll_20 : decode cX4_worthOfAll 20 = .ok (.invokevirtual 66, 3) := by decide +kernel
theorem dX4_worthOfAll_23 : decode cX4_worthOfAll 23 = .ok (.iadd, 1) := by decide +kernel
theorem dX4_worthOfAll_24 : decode cX4_worthOfAll 24 = .ok (.istore_n 2, 1) := by decide +kernel
theorem dX4_worthOfAll_25 : decode cX4_worthOfAll 25 = .ok (.iinc 3 1, 3) := by decide +kernel
theorem dX4_worthOfAll_28 : decode cX4_worthOfAll 28 = .ok (.goto (-24), 3) := by decide +kernel
theorem dX4_worthOfAll_31 : decode cX4_worthOfAll 31 = .ok (.iload_n 2, 1) := by decide +kernel
theorem dX4_worthOfAll_32 : decode cX4_worthOfAll 32 = .ok (.ireturn, 1) := by decide +kernel
theorem dX4_within_0 : decode cX4_within 0 = .ok (.iconst 0, 1) := by decide +kernel
theorem dX4_within_1 : decode cX4_within 1 = .ok (.istore 5, 2) := by decide +kernel
theorem dX4_within_3 : decode cX4_within 3 = .ok (.iconst 0, 1) := by decide +kernel
theorem dX4_within_4 : decode cX4_within 4 = .ok (.istore 6, 2) := by decide +kernel
theorem dX4_within_6 : decode cX4_within 6 = .ok (.iload 6, 2) := by decide +kernel
theorem dX4_within_8 : decode cX4_within 8 = .ok (.aload_n 0, 1) := by decide +kernel
theorem dX4_within_9 : decode cX4_within 9 = .ok (.getfield 15, 3) := by decide +kernel
theorem dX4_within_12 : decode cX4_within 12 = .ok (.if_icmp .ge 30, 3) := by decide +kernel
theorem dX4_within_15 : decode cX4_within 15 = .ok (.aload_n 1, 1) := by decide +kernel
theorem dX4_within_16 : decode cX4_within 16 = .ok (.aload_n 0, 1) := by decide +kernel
theorem dX4_within_17 : decode cX4_within 17 = .ok (.getfield 9, 3) := by decide +kernel
theorem dX4_within_20 : decode cX4_within 20 = .ok (.iload 6, 2) := by decide +kernel
end
section
theorem dX4_within_22 : decode cX4_within 22 = .ok (.iaload, 1) := by decide +kernel
theorem dX4_within_23 : decode cX4_within 23 = .ok (.iload_n 2, 1) := by decide +kernel
theorem dX4_within_24 : decode cX4_within 24 = .ok (.iload_n 3, 1) := by decide +kernel
theorem dX4_within_25 : decode cX4_within 25 = .ok (.invokevirtual 70, 3) := by decide +kernel
theorem dX4_within_28 : decode cX4_within 28 = .ok (.iload 4, 2) := by decide +kernel
theorem dX4_within_30 : decode cX4_within 30 = .ok (.if_icmp .gt 6, 3) := by decide +kernel
theorem dX4_within_33 : decode cX4_within 33 = .ok (.iinc 5 1, 3) := by decide +kernel
theorem dX4_within_36 : decode cX4_within 36 = .ok (.iinc 6 1, 3) := by decide +kernel
theorem dX4_within_39 : decode cX4_within 39 = .ok (.goto (-33), 3) := by decide +kernel
theorem dX4_within_42 : decode cX4_within 42 = .ok (.iload 5, 2) := by decide +kernel
theorem dX4_within_44 : decode cX4_within 44 = .ok (.ireturn, 1) := by decide +kernel
theorem dX4_inSquare_0 : decode cX4_inSquare 0 = .ok (.iconst 0, 1) := by decide +kernel
theorem dX4_inSquare_1 : decode cX4_inSquare 1 = .ok (.istore 5, 2) := by decide +kernel
theorem dX4_inSquare_3 : decode cX4_inSquare 3 = .ok (.iconst 0, 1) := by decide +kernel
theorem dX4_inSquare_4 : decode cX4_inSquare 4 = .ok (.istore 6, 2) := by decide +kernel
theorem dX4_inSquare_6 : decode cX4_inSquare 6 = .ok (.iload 6, 2) := by decide +kernel
theorem dX4_inSquare_8 : decode cX4_inSquare 8 = .ok (.aload_n 0, 1) := by decide +kernel
theorem dX4_inSquare_9 : decode cX4_inSquare 9 = .ok (.getfield 15, 3) := by decide +kernel
theorem dX4_inSquare_12 : decode cX4_inSquare 12 = .ok (.if_icmp .ge 70, 3) := by decide +kernel
theorem dX4_inSquare_15 : decode cX4_inSquare 15 = .ok (.aload_n 1, 1) := by decide +kernel
theorem dX4_inSquare_16 : decode cX4_inSquare 16 = .ok (.getfield 32, 3) := by decide +kernel
theorem dX4_inSquare_19 : decode cX4_inSquare 19 = .ok (.aload_n 0, 1) := by decide +kernel
theorem dX4_inSquare_20 : decode cX4_inSquare 20 = .ok (.getfield 9, 3) := by decide +kernel
theorem dX4_inSquare_23 : decode cX4_inSquare 23 = .ok (.iload 6, 2) := by decide +kernel
theorem dX4_inSquare_25 : decode cX4_inSquare 25 = .ok (.iaload, 1) := by decide +kernel
theorem dX4_inSquare_26 : decode cX4_inSquare 26 = .ok (.iaload, 1) := by decide +kernel
theorem dX4_inSquare_27 : decode cX4_inSquare 27 = .ok (.istore 7, 2) := by decide +kernel
theorem dX4_inSquare_29 : decode cX4_inSquare 29 = .ok (.aload_n 1, 1) := by decide +kernel
theorem dX4_inSquare_30 : decode cX4_inSquare 30 = .ok (.getfield 35, 3) := by decide +kernel
theorem dX4_inSquare_33 : decode cX4_inSquare 33 = .ok (.aload_n 0, 1) := by decide +kernel
theorem dX4_inSquare_34 : decode cX4_inSquare 34 = .ok (.getfield 9, 3) := by decide +kernel
theorem dX4_inSquare_37 : decode cX4_inSquare 37 = .ok (.iload 6, 2) := by decide +kernel
theorem dX4_inSquare_39 : decode cX4_inSquare 39 = .ok (.iaload, 1) := by decide +kernel
theorem dX4_inSquare_40 : decode cX4_inSquare 40 = .ok (.iaload, 1) := by decide +kernel
theorem dX4_inSquare_41 : decode cX4_inSquare 41 = .ok (.istore 8, 2) := by decide +kernel
theorem dX4_inSquare_43 : decode cX4_inSquare 43 = .ok (.iload 7, 2) := by decide +kernel
theorem dX4_inSquare_45 : decode cX4_inSquare 45 = .ok (.iload_n 2, 1) := by decide +kernel
theorem dX4_inSquare_46 : decode cX4_inSquare 46 = .ok (.if_icmp .lt 30, 3) := by decide +kernel
theorem dX4_inSquare_49 : decode cX4_inSquare 49 = .ok (.iload 7, 2) := by decide +kernel
theorem dX4_inSquare_51 : decode cX4_inSquare 51 = .ok (.iload_n 2, 1) := by decide +kernel
theorem dX4_inSquare_52 : decode cX4_inSquare 52 = .ok (.iload 4, 2) := by decide +kernel
theorem dX4_inSquare_54 : decode cX4_inSquare 54 = .ok (.iadd, 1) := by decide +kernel
theorem dX4_inSquare_55 : decode cX4_inSquare 55 = .ok (.if_icmp .gt 21, 3) := by decide +kernel
theorem dX4_inSquare_58 : decode cX4_inSquare 58 = .ok (.iload 8, 2) := by decide +kernel
theorem dX4_inSquare_60 : decode cX4_inSquare 60 = .ok (.iload_n 3, 1) := by decide +kernel
theorem dX4_inSquare_61 : decode cX4_inSquare 61 = .ok (.if_icmp .lt 15, 3) := by decide +kernel
theorem dX4_inSquare_64 : decode cX4_inSquare 64 = .ok (.iload 8, 2) := by decide +kernel
theorem dX4_inSquare_66 : decode cX4_inSquare 66 = .ok (.iload_n 3, 1) := by decide +kernel
theorem dX4_inSquare_67 : decode cX4_inSquare 67 = .ok (.iload 4, 2) := by decide +kernel
theorem dX4_inSquare_69 : decode cX4_inSquare 69 = .ok (.iadd, 1) := by decide +kernel
theorem dX4_inSquare_70 : decode cX4_inSquare 70 = .ok (.if_icmp .gt 6, 3) := by decide +kernel
theorem dX4_inSquare_73 : decode cX4_inSquare 73 = .ok (.iinc 5 1, 3) := by decide +kernel
theorem dX4_inSquare_76 : decode cX4_inSquare 76 = .ok (.iinc 6 1, 3) := by decide +kernel
theorem dX4_inSquare_79 : decode cX4_inSquare 79 = .ok (.goto (-73), 3) := by decide +kernel
theorem dX4_inSquare_82 : decode cX4_inSquare 82 = .ok (.iload 5, 2) := by decide +kernel
theorem dX4_inSquare_84 : decode cX4_inSquare 84 = .ok (.ireturn, 1) := by decide +kernel
theorem dX4_fullestFrom_0 : decode cX4_fullestFrom 0 = .ok (.iconst (-1), 1) := by decide +kernel
theorem dX4_fullestFrom_1 : decode cX4_fullestFrom 1 = .ok (.istore 4, 2) := by decide +kernel
theorem dX4_fullestFrom_3 : decode cX4_fullestFrom 3 = .ok (.iconst 0, 1) := by decide +kernel
theorem dX4_fullestFrom_4 : decode cX4_fullestFrom 4 = .ok (.istore 5, 2) := by decide +kernel
theorem dX4_fullestFrom_6 : decode cX4_fullestFrom 6 = .ok (.iconst 0, 1) := by decide +kernel
theorem dX4_fullestFrom_7 : decode cX4_fullestFrom 7 = .ok (.istore 6, 2) := by decide +kernel
theorem dX4_fullestFrom_9 : decode cX4_fullestFrom 9 = .ok (.iconst 0, 1) := by decide +kernel
theorem dX4_fullestFrom_10 : decode cX4_fullestFrom 10 = .ok (.istore 7, 2) := by decide +kernel
theorem dX4_fullestFrom_12 : decode cX4_fullestFrom 12 = .ok (.iconst 0, 1) := by decide +kernel
theorem dX4_fullestFrom_13 : decode cX4_fullestFrom 13 = .ok (.istore 8, 2) := by decide +kernel
theorem dX4_fullestFrom_15 : decode cX4_fullestFrom 15 = .ok (.iconst 0, 1) := by decide +kernel
theorem dX4_fullestFrom_16 : decode cX4_fullestFrom 16 = .ok (.istore 9, 2) := by decide +kernel
theorem dX4_fullestFrom_18 : decode cX4_fullestFrom 18 = .ok (.iload 9, 2) := by decide +kernel
theorem dX4_fullestFrom_20 : decode cX4_fullestFrom 20 = .ok (.aload_n 0, 1) := by decide +kernel
theorem dX4_fullestFrom_21 : decode cX4_fullestFrom 21 = .ok (.getfield 15, 3) := by decide +kernel
theorem dX4_fullestFrom_24 : decode cX4_fullestFrom 24 = .ok (.if_icmp .ge 132, 3) := by decide +kernel
theorem dX4_fullestFrom_27 : decode cX4_fullestFrom 27 = .ok (.aload_n 1, 1) := by decide +kernel
theorem dX4_fullestFrom_28 : decode cX4_fullestFrom 28 = .ok (.getfield 35, 3) := by decide +kernel
theorem dX4_fullestFrom_31 : decode cX4_fullestFrom 31 = .ok (.aload_n 0, 1) := by decide +kernel
theorem dX4_fullestFrom_32 : decode cX4_fullestFrom 32 = .ok (.getfield 9, 3) := by decide +kernel
theorem dX4_fullestFrom_35 : decode cX4_fullestFrom 35 = .ok (.iload 9, 2) := by decide +kernel
theorem dX4_fullestFrom_37 : decode cX4_fullestFrom 37 = .ok (.iaload, 1) := by decide +kernel
theorem dX4_fullestFrom_38 : decode cX4_fullestFrom 38 = .ok (.iaload, 1) := by decide +kernel
theorem dX4_fullestFrom_39 : decode cX4_fullestFrom 39 = .ok (.istore 10, 2) := by decide +kernel
theorem dX4_fullestFrom_41 : decode cX4_fullestFrom 41 = .ok (.iload 7, 2) := by decide +kernel
theorem dX4_fullestFrom_43 : decode cX4_fullestFrom 43 = .ok (.aload_n 0, 1) := by decide +kernel
theorem dX4_fullestFrom_44 : decode cX4_fullestFrom 44 = .ok (.getfield 15, 3) := by decide +kernel
theorem dX4_fullestFrom_47 : decode cX4_fullestFrom 47 = .ok (.if_icmp .ge 42, 3) := by decide +kernel
theorem dX4_fullestFrom_50 : decode cX4_fullestFrom 50 = .ok (.aload_n 1, 1) := by decide +kernel
theorem dX4_fullestFrom_51 : decode cX4_fullestFrom 51 = .ok (.getfield 35, 3) := by decide +kernel
theorem dX4_fullestFrom_54 : decode cX4_fullestFrom 54 = .ok (.aload_n 0, 1) := by decide +kernel
theorem dX4_fullestFrom_55 : decode cX4_fullestFrom 55 = .ok (.getfield 9, 3) := by decide +kernel
theorem dX4_fullestFrom_58 : decode cX4_fullestFrom 58 = .ok (.iload 7, 2) := by decide +kernel
theorem dX4_fullestFrom_60 : decode cX4_fullestFrom 60 = .ok (.iaload, 1) := by decide +kernel
theorem dX4_fullestFrom_61 : decode cX4_fullestFrom 61 = .ok (.iaload, 1) := by decide +kernel
theorem dX4_fullestFrom_62 : decode cX4_fullestFrom 62 = .ok (.iload 10, 2) := by decide +kernel
theorem dX4_fullestFrom_64 : decode cX4_fullestFrom 64 = .ok (.iload_n 3, 1) := by decide +kernel
theorem dX4_fullestFrom_65 : decode cX4_fullestFrom 65 = .ok (.iadd, 1) := by decide +kernel
theorem dX4_fullestFrom_66 : decode cX4_fullestFrom 66 = .ok (.if_icmp .gt 23, 3) := by decide +kernel
theorem dX4_fullestFrom_69 : decode cX4_fullestFrom 69 = .ok (.iload 6, 2) := by decide +kernel
theorem dX4_fullestFrom_71 : decode cX4_fullestFrom 71 = .ok (.aload_n 0, 1) := by decide +kernel
theorem dX4_fullestFrom_72 : decode cX4_fullestFrom 72 = .ok (.aload_n 1, 1) := by decide +kernel
theorem dX4_fullestFrom_73 : decode cX4_fullestFrom 73 = .ok (.iload 7, 2) := by decide +kernel
theorem dX4_fullestFrom_75 : decode cX4_fullestFrom 75 = .ok (.iload_n 2, 1) := by decide +kernel
theorem dX4_fullestFrom_76 : decode cX4_fullestFrom 76 = .ok (.iload_n 3, 1) := by decide +kernel
theorem dX4_fullestFrom_77 : decode cX4_fullestFrom 77 = .ok (.invokevirtual 74, 3) := by decide +kernel
theorem dX4_fullestFrom_80 : decode cX4_fullestFrom 80 = .ok (.iadd, 1) := by decide +kernel
theorem dX4_fullestFrom_81 : decode cX4_fullestFrom 81 = .ok (.istore 6, 2) := by decide +kernel
theorem dX4_fullestFrom_83 : decode cX4_fullestFrom 83 = .ok (.iinc 7 1, 3) := by decide +kernel
theorem dX4_fullestFrom_86 : decode cX4_fullestFrom 86 = .ok (.goto (-45), 3) := by decide +kernel
theorem dX4_fullestFrom_89 : decode cX4_fullestFrom 89 = .ok (.iload 8, 2) := by decide +kernel
theorem dX4_fullestFrom_91 : decode cX4_fullestFrom 91 = .ok (.aload_n 0, 1) := by decide +kernel
theorem dX4_fullestFrom_92 : decode cX4_fullestFrom 92 = .ok (.getfield 15, 3) := by decide +kernel
theorem dX4_fullestFrom_95 : decode cX4_fullestFrom 95 = .ok (.if_icmp .ge 40, 3) := by decide +kernel
theorem dX4_fullestFrom_98 : decode cX4_fullestFrom 98 = .ok (.aload_n 1, 1) := by decide +kernel
theorem dX4_fullestFrom_99 : decode cX4_fullestFrom 99 = .ok (.getfield 35, 3) := by decide +kernel
theorem dX4_fullestFrom_102 : decode cX4_fullestFrom 102 = .ok (.aload_n 0, 1) := by decide +kernel
theorem dX4_fullestFrom_103 : decode cX4_fullestFrom 103 = .ok (.getfield 9, 3) := by decide +kernel
theorem dX4_fullestFrom_106 : decode cX4_fullestFrom 106 = .ok (.iload 8, 2) := by decide +kernel
theorem dX4_fullestFrom_108 : decode cX4_fullestFrom 108 = .ok (.iaload, 1) := by decide +kernel
theorem dX4_fullestFrom_109 : decode cX4_fullestFrom 109 = .ok (.iaload, 1) := by decide +kernel
theorem dX4_fullestFrom_110 : decode cX4_fullestFrom 110 = .ok (.iload 10, 2) := by decide +kernel
theorem dX4_fullestFrom_112 : decode cX4_fullestFrom 112 = .ok (.if_icmp .ge 23, 3) := by decide +kernel
theorem dX4_fullestFrom_115 : decode cX4_fullestFrom 115 = .ok (.iload 6, 2) := by decide +kernel
theorem dX4_fullestFrom_117 : decode cX4_fullestFrom 117 = .ok (.aload_n 0, 1) := by decide +kernel
theorem dX4_fullestFrom_118 : decode cX4_fullestFrom 118 = .ok (.aload_n 1, 1) := by decide +kernel
theorem dX4_fullestFrom_119 : decode cX4_fullestFrom 119 = .ok (.iload 8, 2) := by decide +kernel
theorem dX4_fullestFrom_121 : decode cX4_fullestFrom 121 = .ok (.iload_n 2, 1) := by decide +kernel
theorem dX4_fullestFrom_122 : decode cX4_fullestFrom 122 = .ok (.iload_n 3, 1) := by decide +kernel
theorem dX4_fullestFrom_123 : decode cX4_fullestFrom 123 = .ok (.invokevirtual 74, 3) := by decide +kernel
theorem dX4_fullestFrom_126 : decode cX4_fullestFrom 126 = .ok (.isub, 1) := by decide +kernel
theorem dX4_fullestFrom_127 : decode cX4_fullestFrom 127 = .ok (.istore 6, 2) := by decide +kernel
theorem dX4_fullestFrom_129 : decode cX4_fullestFrom 129 = .ok (.iinc 8 1, 3) := by decide +kernel
theorem dX4_fullestFrom_132 : decode cX4_fullestFrom 132 = .ok (.goto (-43), 3) := by decide +kernel
theorem dX4_fullestFrom_135 : decode cX4_fullestFrom 135 = .ok (.iload 6, 2) := by decide +kernel
theorem dX4_fullestFrom_137 : decode cX4_fullestFrom 137 = .ok (.iload 4, 2) := by decide +kernel
theorem dX4_fullestFrom_139 : decode cX4_fullestFrom 139 = .ok (.if_icmp .le 11, 3) := by decide +kernel
theorem dX4_fullestFrom_142 : decode cX4_fullestFrom 142 = .ok (.iload 6, 2) := by decide +kernel
theorem dX4_fullestFrom_144 : decode cX4_fullestFrom 144 = .ok (.istore 4, 2) := by decide +kernel
theorem dX4_fullestFrom_146 : decode cX4_fullestFrom 146 = .ok (.iload 10, 2) := by decide +kernel
theorem dX4_fullestFrom_148 : decode cX4_fullestFrom 148 = .ok (.istore 5, 2) := by decide +kernel
theorem dX4_fullestFrom_150 : decode cX4_fullestFrom 150 = .ok (.iinc 9 1, 3) := by decide +kernel
theorem dX4_fullestFrom_153 : decode cX4_fullestFrom 153 = .ok (.goto (-135), 3) := by decide +kernel
theorem dX4_fullestFrom_156 : decode cX4_fullestFrom 156 = .ok (.iload 5, 2) := by decide +kernel
theorem dX4_fullestFrom_158 : decode cX4_fullestFrom 158 = .ok (.ireturn, 1) := by decide +kernel
theorem dX4_inColumn_0 : decode cX4_inColumn 0 = .ok (.aload_n 1, 1) := by decide +kernel
theorem dX4_inColumn_1 : decode cX4_inColumn 1 = .ok (.getfield 32, 3) := by decide +kernel
theorem dX4_inColumn_4 : decode cX4_inColumn 4 = .ok (.aload_n 0, 1) := by decide +kernel
theorem dX4_inColumn_5 : decode cX4_inColumn 5 = .ok (.getfield 9, 3) := by decide +kernel
theorem dX4_inColumn_8 : decode cX4_inColumn 8 = .ok (.iload_n 2, 1) := by decide +kernel
theorem dX4_inColumn_9 : decode cX4_inColumn 9 = .ok (.iaload, 1) := by decide +kernel
theorem dX4_inColumn_10 : decode cX4_inColumn 10 = .ok (.iaload, 1) := by decide +kernel
theorem dX4_inColumn_11 : decode cX4_inColumn 11 = .ok (.istore 5, 2) := by decide +kernel
theorem dX4_inColumn_13 : decode cX4_inColumn 13 = .ok (.iload 5, 2) := by decide +kernel
theorem dX4_inColumn_15 : decode cX4_inColumn 15 = .ok (.iload_n 3, 1) := by decide +kernel
theorem dX4_inColumn_16 : decode cX4_inColumn 16 = .ok (.if_icmp .lt 16, 3) := by decide +kernel
theorem dX4_inColumn_19 : decode cX4_inColumn 19 = .ok (.iload 5, 2) := by decide +kernel
theorem dX4_inColumn_21 : decode cX4_inColumn 21 = .ok (.iload_n 3, 1) := by decide +kernel
theorem dX4_inColumn_22 : decode cX4_inColumn 22 = .ok (.iload 4, 2) := by decide +kernel
theorem dX4_inColumn_24 : decode cX4_inColumn 24 = .ok (.iadd, 1) := by decide +kernel
theorem dX4_inColumn_25 : decode cX4_inColumn 25 = .ok (.if_icmp .gt 7, 3) := by decide +kernel
theorem dX4_inColumn_28 : decode cX4_inColumn 28 = .ok (.iconst 1, 1) := by decide +kernel
theorem dX4_inColumn_29 : decode cX4_inColumn 29 = .ok (.goto 4, 3) := by decide +kernel
theorem dX4_inColumn_32 : decode cX4_inColumn 32 = .ok (.iconst 0, 1) := by decide +kernel
theorem dX4_inColumn_33 : decode cX4_inColumn 33 = .ok (.ireturn, 1) := by decide +kernel
theorem dX5_init_0 : decode cX5_init 0 = .ok (.aload_n 0, 1) := by decide +kernel
theorem dX5_init_1 : decode cX5_init 1 = .ok (.invokespecial 3, 3) := by decide +kernel
theorem dX5_init_4 : decode cX5_init 4 = .ok (.aload_n 0, 1) := by decide +kernel
theorem dX5_init_5 : decode cX5_init 5 = .ok (.bipush 120, 2) := by decide +kernel
theorem dX5_init_7 : decode cX5_init 7 = .ok (.newarray .int, 2) := by decide +kernel
theorem dX5_init_9 : decode cX5_init 9 = .ok (.putfield 9, 3) := by decide +kernel
theorem dX5_init_12 : decode cX5_init 12 = .ok (.aload_n 0, 1) := by decide +kernel
theorem dX5_init_13 : decode cX5_init 13 = .ok (.new 15, 3) := by decide +kernel
theorem dX5_init_16 : decode cX5_init 16 = .ok (.dup, 1) := by decide +kernel
theorem dX5_init_17 : decode cX5_init 17 = .ok (.invokespecial 17, 3) := by decide +kernel
theorem dX5_init_20 : decode cX5_init 20 = .ok (.putfield 18, 3) := by decide +kernel
theorem dX5_init_23 : decode cX5_init 23 = .ok (.return_, 1) := by decide +kernel
theorem dX5_append_0 : decode cX5_append 0 = .ok (.aload_n 0, 1) := by decide +kernel
theorem dX5_append_1 : decode cX5_append 1 = .ok (.getfield 22, 3) := by decide +kernel
theorem dX5_append_4 : decode cX5_append 4 = .ok (.bipush 120, 2) := by decide +kernel
theorem dX5_append_6 : decode cX5_append 6 = .ok (.if_icmp .ge 23, 3) := by decide +kernel
theorem dX5_append_9 : decode cX5_append 9 = .ok (.aload_n 0, 1) := by decide +kernel
theorem dX5_append_10 : decode cX5_append 10 = .ok (.getfield 9, 3) := by decide +kernel
theorem dX5_append_13 : decode cX5_append 13 = .ok (.aload_n 0, 1) := by decide +kernel
theorem dX5_append_14 : decode cX5_append 14 = .ok (.getfield 22, 3) := by decide +kernel
theorem dX5_append_17 : decode cX5_append 17 = .ok (.iload_n 1, 1) := by decide +kernel
theorem dX5_append_18 : decode cX5_append 18 = .ok (.iastore, 1) := by decide +kernel
theorem dX5_append_19 : decode cX5_append 19 = .ok (.aload_n 0, 1) := by decide +kernel
theorem dX5_append_20 : decode cX5_append 20 = .ok (.dup, 1) := by decide +kernel
theorem dX5_append_21 : decode cX5_append 21 = .ok (.getfield 22, 3) := by decide +kernel
theorem dX5_append_24 : decode cX5_append 24 = .ok (.iconst 1, 1) := by decide +kernel
theorem dX5_append_25 : decode cX5_append 25 = .ok (.iadd, 1) := by decide +kernel
theorem dX5_append_26 : decode cX5_append 26 = .ok (.putfield 22, 3) := by decide +kernel
theorem dX5_append_29 : decode cX5_append 29 = .ok (.return_, 1) := by decide +kernel
theorem dX5_read_0 : decode cX5_read 0 = .ok (.aload_n 0, 1) := by decide +kernel
theorem dX5_read_1 : decode cX5_read 1 = .ok (.iconst 0, 1) := by decide +kernel
theorem dX5_read_2 : decode cX5_read 2 = .ok (.putfield 26, 3) := by decide +kernel
theorem dX5_read_5 : decode cX5_read 5 = .ok (.aload_n 0, 1) := by decide +kernel
theorem dX5_read_6 : decode cX5_read 6 = .ok (.iconst (-1), 1) := by decide +kernel
theorem dX5_read_7 : decode cX5_read 7 = .ok (.putfield 29, 3) := by decide +kernel
theorem dX5_read_10 : decode cX5_read 10 = .ok (.aload_n 0, 1) := by decide +kernel
theorem dX5_read_11 : decode cX5_read 11 = .ok (.getfield 18, 3) := by decide +kernel
theorem dX5_read_14 : decode cX5_read 14 = .ok (.invokevirtual 32, 3) := by decide +kernel
theorem dX5_read_17 : decode cX5_read 17 = .ok (.aload_n 0, 1) := by decide +kernel
theorem dX5_read_18 : decode cX5_read 18 = .ok (.iconst 0, 1) := by decide +kernel
theorem dX5_read_19 : decode cX5_read 19 = .ok (.invokevirtual 35, 3) := by decide +kernel
theorem dX5_read_22 : decode cX5_read 22 = .ok (.aload_n 0, 1) := by decide +kernel
theorem dX5_read_23 : decode cX5_read 23 = .ok (.bipush 59, 2) := by decide +kernel
theorem dX5_read_25 : decode cX5_read 25 = .ok (.invokevirtual 39, 3) := by decide +kernel
theorem dX5_read_28 : decode cX5_read 28 = .ok (.aload_n 0, 1) := by decide +kernel
theorem dX5_read_29 : decode cX5_read 29 = .ok (.invokevirtual 42, 3) := by decide +kernel
theorem dX5_read_32 : decode cX5_read 32 = .ok (.iconst (-1), 1) := by decide +kernel
theorem dX5_read_33 : decode cX5_read 33 = .ok (.if_icmp .eq 11, 3) := by decide +kernel
theorem dX5_read_36 : decode cX5_read 36 = .ok (.aload_n 0, 1) := by decide +kernel
theorem dX5_read_37 : decode cX5_read 37 = .ok (.aload_n 0, 1) := by decide +kernel
theorem dX5_read_38 : decode cX5_read 38 = .ok (.getfield 26, 3) := by decide +kernel
theorem dX5_read_41 : decode cX5_read 41 = .ok (.invokevirtual 46, 3) := by decide +kernel
theorem dX5_read_44 : decode cX5_read 44 = .ok (.aload_n 0, 1) := by decide +kernel
theorem dX5_read_45 : decode cX5_read 45 = .ok (.getfield 29, 3) := by decide +kernel
theorem dX5_read_48 : decode cX5_read 48 = .ok (.ireturn, 1) := by decide +kernel
theorem dX5_readArea_0 : decode cX5_readArea 0 = .ok (.aload_n 0, 1) := by decide +kernel
theorem dX5_readArea_1 : decode cX5_readArea 1 = .ok (.iload_n 1, 1) := by decide +kernel
theorem dX5_readArea_2 : decode cX5_readArea 2 = .ok (.invokevirtual 49, 3) := by decide +kernel
theorem dX5_readArea_5 : decode cX5_readArea 5 = .ok (.iconst 0, 1) := by decide +kernel
theorem dX5_readArea_6 : decode cX5_readArea 6 = .ok (.istore_n 2, 1) := by decide +kernel
theorem dX5_readArea_7 : decode cX5_readArea 7 = .ok (.iload_n 2, 1) := by decide +kernel
theorem dX5_readArea_8 : decode cX5_readArea 8 = .ok (.bipush 120, 2) := by decide +kernel
theorem dX5_readArea_10 : decode cX5_readArea 10 = .ok (.if_icmp .ge 67, 3) := by decide +kernel
theorem dX5_readArea_13 : decode cX5_readArea 13 = .ok (.aload_n 0, 1) := by decide +kernel
theorem dX5_readArea_14 : decode cX5_readArea 14 = .ok (.invokevirtual 42, 3) := by decide +kernel
theorem dX5_readArea_17 : decode cX5_readArea 17 = .ok (.bipush 43, 2) := by decide +kernel
theorem dX5_readArea_19 : decode cX5_readArea 19 = .ok (.if_icmp .eq 12, 3) := by decide +kernel
theorem dX5_readArea_22 : decode cX5_readArea 22 = .ok (.aload_n 0, 1) := by decide +kernel
theorem dX5_readArea_23 : decode cX5_readArea 23 = .ok (.invokevirtual 42, 3) := by decide +kernel
theorem dX5_readArea_26 : decode cX5_readArea 26 = .ok (.bipush 45, 2) := by decide +kernel
theorem dX5_readArea_28 : decode cX5_readArea 28 = .ok (.if_icmp .ne 49, 3) := by decide +kernel
theorem dX5_readArea_31 : decode cX5_readArea 31 = .ok (.aload_n 0, 1) := by decide +kernel
theorem dX5_readArea_32 : decode cX5_readArea 32 = .ok (.invokevirtual 42, 3) := by decide +kernel
theorem dX5_readArea_35 : decode cX5_readArea 35 = .ok (.bipush 43, 2) := by decide +kernel
theorem dX5_readArea_37 : decode cX5_readArea 37 = .ok (.if_icmp .ne 8, 3) := by decide +kernel
theorem dX5_readArea_40 : decode cX5_readArea 40 = .ok (.bipush (-3), 2) := by decide +kernel
theorem dX5_readArea_42 : decode cX5_readArea 42 = .ok (.goto 5, 3) := by decide +kernel
theorem dX5_readArea_45 : decode cX5_readArea 45 = .ok (.bipush (-4), 2) := by decide +kernel
theorem dX5_readArea_47 : decode cX5_readArea 47 = .ok (.istore_n 3, 1) := by decide +kernel
theorem dX5_readArea_48 : decode cX5_readArea 48 = .ok (.aload_n 0, 1) := by decide +kernel
theorem dX5_readArea_49 : decode cX5_readArea 49 = .ok (.dup, 1) := by decide +kernel
theorem dX5_readArea_50 : decode cX5_readArea 50 = .ok (.getfield 26, 3) := by decide +kernel
theorem dX5_readArea_53 : decode cX5_readArea 53 = .ok (.iconst 1, 1) := by decide +kernel
theorem dX5_readArea_54 : decode cX5_readArea 54 = .ok (.iadd, 1) := by decide +kernel
theorem dX5_readArea_55 : decode cX5_readArea 55 = .ok (.putfield 26, 3) := by decide +kernel
theorem dX5_readArea_58 : decode cX5_readArea 58 = .ok (.aload_n 0, 1) := by decide +kernel
theorem dX5_readArea_59 : decode cX5_readArea 59 = .ok (.iload_n 1, 1) := by decide +kernel
theorem dX5_readArea_60 : decode cX5_readArea 60 = .ok (.invokevirtual 49, 3) := by decide +kernel
theorem dX5_readArea_63 : decode cX5_readArea 63 = .ok (.aload_n 0, 1) := by decide +kernel
theorem dX5_readArea_64 : decode cX5_readArea 64 = .ok (.getfield 18, 3) := by decide +kernel
theorem dX5_readArea_67 : decode cX5_readArea 67 = .ok (.iload_n 3, 1) := by decide +kernel
theorem dX5_readArea_68 : decode cX5_readArea 68 = .ok (.invokevirtual 52, 3) := by decide +kernel
theorem dX5_readArea_71 : decode cX5_readArea 71 = .ok (.iinc 2 1, 3) := by decide +kernel
theorem dX5_readArea_74 : decode cX5_readArea 74 = .ok (.goto (-67), 3) := by decide +kernel
theorem dX5_readArea_77 : decode cX5_readArea 77 = .ok (.return_, 1) := by decide +kernel
theorem dX5_readPart_0 : decode cX5_readPart 0 = .ok (.aload_n 0, 1) := by decide +kernel
theorem dX5_readPart_1 : decode cX5_readPart 1 = .ok (.iload_n 1, 1) := by decide +kernel
theorem dX5_readPart_2 : decode cX5_readPart 2 = .ok (.invokevirtual 55, 3) := by decide +kernel
theorem dX5_readPart_5 : decode cX5_readPart 5 = .ok (.iconst 0, 1) := by decide +kernel
theorem dX5_readPart_6 : decode cX5_readPart 6 = .ok (.istore_n 2, 1) := by decide +kernel
theorem dX5_readPart_7 : decode cX5_readPart 7 = .ok (.iload_n 2, 1) := by decide +kernel
theorem dX5_readPart_8 : decode cX5_readPart 8 = .ok (.bipush 120, 2) := by decide +kernel
theorem dX5_readPart_10 : decode cX5_readPart 10 = .ok (.if_icmp .ge 42, 3) := by decide +kernel
theorem dX5_readPart_13 : decode cX5_readPart 13 = .ok (.aload_n 0, 1) := by decide +kernel
theorem dX5_readPart_14 : decode cX5_readPart 14 = .ok (.invokevirtual 42, 3) := by decide +kernel
theorem dX5_readPart_17 : decode cX5_readPart 17 = .ok (.bipush 38, 2) := by decide +kernel
theorem dX5_readPart_19 : decode cX5_readPart 19 = .ok (.if_icmp .ne 33, 3) := by decide +kernel
theorem dX5_readPart_22 : decode cX5_readPart 22 = .ok (.aload_n 0, 1) := by decide +kernel
theorem dX5_readPart_23 : decode cX5_readPart 23 = .ok (.dup, 1) := by decide +kernel
theorem dX5_readPart_24 : decode cX5_readPart 24 = .ok (.getfield 26, 3) := by decide +kernel
theorem dX5_readPart_27 : decode cX5_readPart 27 = .ok (.iconst 1, 1) := by decide +kernel
theorem dX5_readPart_28 : decode cX5_readPart 28 = .ok (.iadd, 1) := by decide +kernel
theorem dX5_readPart_29 : decode cX5_readPart 29 = .ok (.putfield 26, 3) := by decide +kernel
theorem dX5_readPart_32 : decode cX5_readPart 32 = .ok (.aload_n 0, 1) := by decide +kernel
theorem dX5_readPart_33 : decode cX5_readPart 33 = .ok (.iload_n 1, 1) := by decide +kernel
theorem dX5_readPart_34 : decode cX5_readPart 34 = .ok (.invokevirtual 55, 3) := by decide +kernel
theorem dX5_readPart_37 : decode cX5_readPart 37 = .ok (.aload_n 0, 1) := by decide +kernel
theorem dX5_readPart_38 : decode cX5_readPart 38 = .ok (.getfield 18, 3) := by decide +kernel
theorem dX5_readPart_41 : decode cX5_readPart 41 = .ok (.bipush (-2), 2) := by decide +kernel
theorem dX5_readPart_43 : decode cX5_readPart 43 = .ok (.invokevirtual 52, 3) := by decide +kernel
theorem dX5_readPart_46 : decode cX5_readPart 46 = .ok (.iinc 2 1, 3) := by decide +kernel
theorem dX5_readPart_49 : decode cX5_readPart 49 = .ok (.goto (-42), 3) := by decide +kernel
theorem dX5_readPart_52 : decode cX5_readPart 52 = .ok (.return_, 1) := by decide +kernel
theorem dX5_readSpot_0 : decode cX5_readSpot 0 = .ok (.aload_n 0, 1) := by decide +kernel
theorem dX5_readSpot_1 : decode cX5_readSpot 1 = .ok (.invokevirtual 42, 3) := by decide +kernel
theorem dX5_readSpot_4 : decode cX5_readSpot 4 = .ok (.istore_n 2, 1) := by decide +kernel
theorem dX5_readSpot_5 : decode cX5_readSpot 5 = .ok (.iload_n 2, 1) := by decide +kernel
theorem dX5_readSpot_6 : decode cX5_readSpot 6 = .ok (.bipush 91, 2) := by decide +kernel
theorem dX5_readSpot_8 : decode cX5_readSpot 8 = .ok (.if_icmp .ne 10, 3) := by decide +kernel
theorem dX5_readSpot_11 : decode cX5_readSpot 11 = .ok (.aload_n 0, 1) := by decide +kernel
theorem dX5_readSpot_12 : decode cX5_readSpot 12 = .ok (.invokevirtual 58, 3) := by decide +kernel
theorem dX5_readSpot_15 : decode cX5_readSpot 15 = .ok (.goto 89, 3) := by decide +kernel
theorem dX5_readSpot_18 : decode cX5_readSpot 18 = .ok (.iload_n 2, 1) := by decide +kernel
theorem dX5_readSpot_19 : decode cX5_readSpot 19 = .ok (.bipush 40, 2) := by decide +kernel
theorem dX5_readSpot_21 : decode cX5_readSpot 21 = .ok (.if_icmp .ne 35, 3) := by decide +kernel
theorem dX5_readSpot_24 : decode cX5_readSpot 24 = .ok (.iload_n 1, 1) := by decide +kernel
theorem dX5_readSpot_25 : decode cX5_readSpot 25 = .ok (.bipush 12, 2) := by decide +kernel
theorem dX5_readSpot_27 : decode cX5_readSpot 27 = .ok (.if_icmp .ge 29, 3) := by decide +kernel
theorem dX5_readSpot_30 : decode cX5_readSpot 30 = .ok (.aload_n 0, 1) := by decide +kernel
theorem dX5_readSpot_31 : decode cX5_readSpot 31 = .ok (.dup, 1) := by decide +kernel
theorem dX5_readSpot_32 : decode cX5_readSpot 32 = .ok (.getfield 26, 3) := by decide +kernel
theorem dX5_readSpot_35 : decode cX5_readSpot 35 = .ok (.iconst 1, 1) := by decide +kernel
theorem dX5_readSpot_36 : decode cX5_readSpot 36 = .ok (.iadd, 1) := by decide +kernel
theorem dX5_readSpot_37 : decode cX5_readSpot 37 = .ok (.putfield 26, 3) := by decide +kernel
theorem dX5_readSpot_40 : decode cX5_readSpot 40 = .ok (.aload_n 0, 1) := by decide +kernel
theorem dX5_readSpot_41 : decode cX5_readSpot 41 = .ok (.iload_n 1, 1) := by decide +kernel
theorem dX5_readSpot_42 : decode cX5_readSpot 42 = .ok (.iconst 1, 1) := by decide +kernel
theorem dX5_readSpot_43 : decode cX5_readSpot 43 = .ok (.iadd, 1) := by decide +kernel
theorem dX5_readSpot_44 : decode cX5_readSpot 44 = .ok (.invokevirtual 35, 3) := by decide +kernel
theorem dX5_readSpot_47 : decode cX5_readSpot 47 = .ok (.aload_n 0, 1) := by decide +kernel
theorem dX5_readSpot_48 : decode cX5_readSpot 48 = .ok (.bipush 41, 2) := by decide +kernel
theorem dX5_readSpot_50 : decode cX5_readSpot 50 = .ok (.invokevirtual 39, 3) := by decide +kernel
theorem dX5_readSpot_53 : decode cX5_readSpot 53 = .ok (.goto 51, 3) := by decide +kernel
theorem dX5_readSpot_56 : decode cX5_readSpot 56 = .ok (.iload_n 2, 1) := by decide +kernel
theorem dX5_readSpot_57 : decode cX5_readSpot 57 = .ok (.bipush 33, 2) := by decide +kernel
theorem dX5_readSpot_59 : decode cX5_readSpot 59 = .ok (.if_icmp .ne 37, 3) := by decide +kernel
theorem dX5_readSpot_62 : decode cX5_readSpot 62 = .ok (.iload_n 1, 1) := by decide +kernel
theorem dX5_readSpot_63 : decode cX5_readSpot 63 = .ok (.bipush 12, 2) := by decide +kernel
theorem dX5_readSpot_65 : decode cX5_readSpot 65 = .ok (.if_icmp .ge 31, 3) := by decide +kernel
theorem dX5_readSpot_68 : decode cX5_readSpot 68 = .ok (.aload_n 0, 1) := by decide +kernel
theorem dX5_readSpot_69 : decode cX5_readSpot 69 = .ok (.dup, 1) := by decide +kernel
theorem dX5_readSpot_70 : decode cX5_readSpot 70 = .ok (.getfield 26, 3) := by decide +kernel
theorem dX5_readSpot_73 : decode cX5_readSpot 73 = .ok (.iconst 1, 1) := by decide +kernel
theorem dX5_readSpot_74 : decode cX5_readSpot 74 = .ok (.iadd, 1) := by decide +kernel
theorem dX5_readSpot_75 : decode cX5_readSpot 75 = .ok (.putfield 26, 3) := by decide +kernel
theorem dX5_readSpot_78 : decode cX5_readSpot 78 = .ok (.aload_n 0, 1) := by decide +kernel
theorem dX5_readSpot_79 : decode cX5_readSpot 79 = .ok (.iload_n 1, 1) := by decide +kernel
theorem dX5_readSpot_80 : decode cX5_readSpot 80 = .ok (.iconst 1, 1) := by decide +kernel
theorem dX5_readSpot_81 : decode cX5_readSpot 81 = .ok (.iadd, 1) := by decide +kernel
theorem dX5_readSpot_82 : decode cX5_readSpot 82 = .ok (.invokevirtual 55, 3) := by decide +kernel
theorem dX5_readSpot_85 : decode cX5_readSpot 85 = .ok (.aload_n 0, 1) := by decide +kernel
theorem dX5_readSpot_86 : decode cX5_readSpot 86 = .ok (.getfield 18, 3) := by decide +kernel
theorem dX5_readSpot_89 : decode cX5_readSpot 89 = .ok (.iconst (-1), 1) := by decide +kernel
theorem dX5_readSpot_90 : decode cX5_readSpot 90 = .ok (.invokevirtual 52, 3) := by decide +kernel
theorem dX5_readSpot_93 : decode cX5_readSpot 93 = .ok (.goto 11, 3) := by decide +kernel
theorem dX5_readSpot_96 : decode cX5_readSpot 96 = .ok (.aload_n 0, 1) := by decide +kernel
theorem dX5_readSpot_97 : decode cX5_readSpot 97 = .ok (.aload_n 0, 1) := by decide +kernel
theorem dX5_readSpot_98 : decode cX5_readSpot 98 = .ok (.getfield 26, 3) := by decide +kernel
theorem dX5_readSpot_101 : decode cX5_readSpot 101 = .ok (.invokevirtual 46, 3) := by decide +kernel
theorem dX5_readSpot_104 : decode cX5_readSpot 104 = .ok (.return_, 1) := by decide +kernel
theorem dX5_readRectangle_0 : decode cX5_readRectangle 0 = .ok (.aload_n 0, 1) := by decide +kernel
theorem dX5_readRectangle_1 : decode cX5_readRectangle 1 = .ok (.bipush 91, 2) := by decide +kernel
theorem dX5_readRectangle_3 : decode cX5_readRectangle 3 = .ok (.invokevirtual 39, 3) := by decide +kernel
theorem dX5_readRectangle_6 : decode cX5_readRectangle 6 = .ok (.aload_n 0, 1) := by decide +kernel
theorem dX5_readRectangle_7 : decode cX5_readRectangle 7 = .ok (.sipush (-500), 3) := by decide +kernel
theorem dX5_readRectangle_10 : decode cX5_readRectangle 10 = .ok (.invokevirtual 61, 3) := by decide +kernel
theorem dX5_readRectangle_13 : decode cX5_readRectangle 13 = .ok (.istore_n 1, 1) := by decide +kernel
theorem dX5_readRectangle_14 : decode cX5_readRectangle 14 = .ok (.aload_n 0, 1) := by decide +kernel
theorem dX5_readRectangle_15 : decode cX5_readRectangle 15 = .ok (.bipush 44, 2) := by decide +kernel
theorem dX5_readRectangle_17 : decode cX5_readRectangle 17 = .ok (.invokevirtual 39, 3) := by decide +kernel
theorem dX5_readRectangle_20 : decode cX5_readRectangle 20 = .ok (.aload_n 0, 1) := by decide +kernel
theorem dX5_readRectangle_21 : decode cX5_readRectangle 21 = .ok (.iload_n 1, 1) := by decide +kernel
theorem dX5_readRectangle_22 : decode cX5_readRectangle 22 = .ok (.invokevirtual 61, 3) := by decide +kernel
theorem dX5_readRectangle_25 : decode cX5_readRectangle 25 = .ok (.istore_n 2, 1) := by decide +kernel
theorem dX5_readRectangle_26 : decode cX5_readRectangle 26 = .ok (.aload_n 0, 1) := by decide +kernel
theorem dX5_readRectangle_27 : decode cX5_readRectangle 27 = .ok (.bipush 44, 2) := by decide +kernel
theorem dX5_readRectangle_29 : decode cX5_readRectangle 29 = .ok (.invokevirtual 39, 3) := by decide +kernel
theorem dX5_readRectangle_32 : decode cX5_readRectangle 32 = .ok (.aload_n 0, 1) := by decide +kernel
theorem dX5_readRectangle_33 : decode cX5_readRectangle 33 = .ok (.sipush (-500), 3) := by decide +kernel
theorem dX5_readRectangle_36 : decode cX5_readRectangle 36 = .ok (.invokevirtual 61, 3) := by decide +kernel
theorem dX5_readRectangle_39 : decode cX5_readRectangle 39 = .ok (.istore_n 3, 1) := by decide +kernel
theorem dX5_readRectangle_40 : decode cX5_readRectangle 40 = .ok (.aload_n 0, 1) := by decide +kernel
theorem dX5_readRectangle_41 : decode cX5_readRectangle 41 = .ok (.bipush 44, 2) := by decide +kernel
theorem dX5_readRectangle_43 : decode cX5_readRectangle 43 = .ok (.invokevirtual 39, 3) := by decide +kernel
theorem dX5_readRectangle_46 : decode cX5_readRectangle 46 = .ok (.aload_n 0, 1) := by decide +kernel
theorem dX5_readRectangle_47 : decode cX5_readRectangle 47 = .ok (.iload_n 3, 1) := by decide +kernel
theorem dX5_readRectangle_48 : decode cX5_readRectangle 48 = .ok (.invokevirtual 61, 3) := by decide +kernel
theorem dX5_readRectangle_51 : decode cX5_readRectangle 51 = .ok (.istore 4, 2) := by decide +kernel
theorem dX5_readRectangle_53 : decode cX5_readRectangle 53 = .ok (.aload_n 0, 1) := by decide +kernel
theorem dX5_readRectangle_54 : decode cX5_readRectangle 54 = .ok (.bipush 93, 2) := by decide +kernel
theorem dX5_readRectangle_56 : decode cX5_readRectangle 56 = .ok (.invokevirtual 39, 3) := by decide +kernel
theorem dX5_readRectangle_59 : decode cX5_readRectangle 59 = .ok (.aload_n 0, 1) := by decide +kernel
theorem dX5_readRectangle_60 : decode cX5_readRectangle 60 = .ok (.getfield 29, 3) := by decide +kernel
theorem dX5_readRectangle_63 : decode cX5_readRectangle 63 = .ok (.ifCond .ge 15, 3) := by decide +kernel
theorem dX5_readRectangle_66 : decode cX5_readRectangle 66 = .ok (.aload_n 0, 1) := by decide +kernel
theorem dX5_readRectangle_67 : decode cX5_readRectangle 67 = .ok (.getfield 18, 3) := by decide +kernel
theorem dX5_readRectangle_70 : decode cX5_readRectangle 70 = .ok (.iload_n 1, 1) := by decide +kernel
theorem dX5_readRectangle_71 : decode cX5_readRectangle 71 = .ok (.iload_n 2, 1) := by decide +kernel
theorem dX5_readRectangle_72 : decode cX5_readRectangle 72 = .ok (.iload_n 3, 1) := by decide +kernel
theorem dX5_readRectangle_73 : decode cX5_readRectangle 73 = .ok (.iload 4, 2) := by decide +kernel
theorem dX5_readRectangle_75 : decode cX5_readRectangle 75 = .ok (.invokevirtual 65, 3) := by decide +kernel
theorem dX5_readRectangle_78 : decode cX5_readRectangle 78 = .ok (.return_, 1) := by decide +kernel
theorem dX5_readNumber_0 : decode cX5_readNumber 0 = .ok (.aload_n 0, 1) := by decide +kernel
theorem dX5_readNumber_1 : decode cX5_readNumber 1 = .ok (.invokevirtual 42, 3) := by decide +kernel
theorem dX5_readNumber_4 : decode cX5_readNumber 4 = .ok (.bipush 45, 2) := by decide +kernel
theorem dX5_readNumber_6 : decode cX5_readNumber 6 = .ok (.if_icmp .ne 7, 3) := by decide +kernel
theorem dX5_readNumber_9 : decode cX5_readNumber 9 = .ok (.iconst 1, 1) := by decide +kernel
theorem dX5_readNumber_10 : decode cX5_readNumber 10 = .ok (.goto 4, 3) := by decide +kernel
theorem dX5_readNumber_13 : decode cX5_readNumber 13 = .ok (.iconst 0, 1) := by decide +kernel
theorem dX5_readNumber_14 : decode cX5_readNumber 14 = .ok (.istore_n 2, 1) := by decide +kernel
theorem dX5_readNumber_15 : decode cX5_readNumber 15 = .ok (.aload_n 0, 1) := by decide +kernel
theorem dX5_readNumber_16 : decode cX5_readNumber 16 = .ok (.getfield 26, 3) := by decide +kernel
theorem dX5_readNumber_19 : decode cX5_readNumber 19 = .ok (.istore_n 3, 1) := by decide +kernel
theorem dX5_readNumber_20 : decode cX5_readNumber 20 = .ok (.iload_n 2, 1) := by decide +kernel
theorem dX5_readNumber_21 : decode cX5_readNumber 21 = .ok (.ifCond .eq 13, 3) := by decide +kernel
theorem dX5_readNumber_24 : decode cX5_readNumber 24 = .ok (.aload_n 0, 1) := by decide +kernel
theorem dX5_readNumber_25 : decode cX5_readNumber 25 = .ok (.dup, 1) := by decide +kernel
theorem dX5_readNumber_26 : decode cX5_readNumber 26 = .ok (.getfield 26, 3) := by decide +kernel
theorem dX5_readNumber_29 : decode cX5_readNumber 29 = .ok (.iconst 1, 1) := by decide +kernel
theorem dX5_readNumber_30 : decode cX5_readNumber 30 = .ok (.iadd, 1) := by decide +kernel
theorem dX5_readNumber_31 : decode cX5_readNumber 31 = .ok (.putfield 26, 3) := by decide +kernel
theorem dX5_readNumber_34 : decode cX5_readNumber 34 = .ok (.iconst 0, 1) := by decide +kernel
theorem dX5_readNumber_35 : decode cX5_readNumber 35 = .ok (.istore 4, 2) := by decide +kernel
theorem dX5_readNumber_37 : decode cX5_readNumber 37 = .ok (.iconst 0, 1) := by decide +kernel
theorem dX5_readNumber_38 : decode cX5_readNumber 38 = .ok (.istore 5, 2) := by decide +kernel
theorem dX5_readNumber_40 : decode cX5_readNumber 40 = .ok (.aload_n 0, 1) := by decide +kernel
theorem dX5_readNumber_41 : decode cX5_readNumber 41 = .ok (.getfield 26, 3) := by decide +kernel
theorem dX5_readNumber_44 : decode cX5_readNumber 44 = .ok (.aload_n 0, 1) := by decide +kernel
theorem dX5_readNumber_45 : decode cX5_readNumber 45 = .ok (.getfield 22, 3) := by decide +kernel
theorem dX5_readNumber_48 : decode cX5_readNumber 48 = .ok (.if_icmp .ge 60, 3) := by decide +kernel
theorem dX5_readNumber_51 : decode cX5_readNumber 51 = .ok (.aload_n 0, 1) := by decide +kernel
theorem dX5_readNumber_52 : decode cX5_readNumber 52 = .ok (.getfield 9, 3) := by decide +kernel
theorem dX5_readNumber_55 : decode cX5_readNumber 55 = .ok (.aload_n 0, 1) := by decide +kernel
theorem dX5_readNumber_56 : decode cX5_readNumber 56 = .ok (.getfield 26, 3) := by decide +kernel
theorem dX5_readNumber_59 : decode cX5_readNumber 59 = .ok (.iaload, 1) := by decide +kernel
theorem dX5_readNumber_60 : decode cX5_readNumber 60 = .ok (.invokestatic 69, 3) := by decide +kernel
theorem dX5_readNumber_63 : decode cX5_readNumber 63 = .ok (.ifCond .eq 45, 3) := by decide +kernel
theorem dX5_readNumber_66 : decode cX5_readNumber 66 = .ok (.iload 5, 2) := by decide +kernel
theorem dX5_readNumber_68 : decode cX5_readNumber 68 = .ok (.iconst 3, 1) := by decide +kernel
theorem dX5_readNumber_69 : decode cX5_readNumber 69 = .ok (.if_icmp .ge 23, 3) := by decide +kernel
theorem dX5_readNumber_72 : decode cX5_readNumber 72 = .ok (.bipush 10, 2) := by decide +kernel
theorem dX5_readNumber_74 : decode cX5_readNumber 74 = .ok (.iload 4, 2) := by decide +kernel
theorem dX5_readNumber_76 : decode cX5_readNumber 76 = .ok (.imul, 1) := by decide +kernel
theorem dX5_readNumber_77 : decode cX5_readNumber 77 = .ok (.aload_n 0, 1) := by decide +kernel
theorem dX5_readNumber_78 : decode cX5_readNumber 78 = .ok (.getfield 9, 3) := by decide +kernel
theorem dX5_readNumber_81 : decode cX5_readNumber 81 = .ok (.aload_n 0, 1) := by decide +kernel
theorem dX5_readNumber_82 : decode cX5_readNumber 82 = .ok (.getfield 26, 3) := by decide +kernel
theorem dX5_readNumber_85 : decode cX5_readNumber 85 = .ok (.iaload, 1) := by decide +kernel
theorem dX5_readNumber_86 : decode cX5_readNumber 86 = .ok (.iadd, 1) := by decide +kernel
theorem dX5_readNumber_87 : decode cX5_readNumber 87 = .ok (.bipush 48, 2) := by decide +kernel
theorem dX5_readNumber_89 : decode cX5_readNumber 89 = .ok (.isub, 1) := by decide +kernel
theorem dX5_readNumber_90 : decode cX5_readNumber 90 = .ok (.istore 4, 2) := by decide +kernel
theorem dX5_readNumber_92 : decode cX5_readNumber 92 = .ok (.iinc 5 1, 3) := by decide +kernel
theorem dX5_readNumber_95 : decode cX5_readNumber 95 = .ok (.aload_n 0, 1) := by decide +kernel
theorem dX5_readNumber_96 : decode cX5_readNumber 96 = .ok (.dup, 1) := by decide +kernel
theorem dX5_readNumber_97 : decode cX5_readNumber 97 = .ok (.getfield 26, 3) := by decide +kernel
theorem dX5_readNumber_100 : decode cX5_readNumber 100 = .ok (.iconst 1, 1) := by decide +kernel
theorem dX5_readNumber_101 : decode cX5_readNumber 101 = .ok (.iadd, 1) := by decide +kernel
theorem dX5_readNumber_102 : decode cX5_readNumber 102 = .ok (.putfield 26, 3) := by decide +kernel
theorem dX5_readNumber_105 : decode cX5_readNumber 105 = .ok (.goto (-65), 3) := by decide +kernel
theorem dX5_readNumber_108 : decode cX5_readNumber 108 = .ok (.iload 5, 2) := by decide +kernel
theorem dX5_readNumber_110 : decode cX5_readNumber 110 = .ok (.ifCond .ne 13, 3) := by decide +kernel
theorem dX5_readNumber_113 : decode cX5_readNumber 113 = .ok (.aload_n 0, 1) := by decide +kernel
theorem dX5_readNumber_114 : decode cX5_readNumber 114 = .ok (.aload_n 0, 1) := by decide +kernel
theorem dX5_readNumber_115 : decode cX5_readNumber 115 = .ok (.getfield 26, 3) := by decide +kernel
theorem dX5_readNumber_118 : decode cX5_readNumber 118 = .ok (.invokevirtual 46, 3) := by decide +kernel
theorem dX5_readNumber_121 : decode cX5_readNumber 121 = .ok (.iload_n 1, 1) := by decide +kernel
theorem dX5_readNumber_122 : decode cX5_readNumber 122 = .ok (.ireturn, 1) := by decide +kernel
theorem dX5_readNumber_123 : decode cX5_readNumber 123 = .ok (.iload_n 2, 1) := by decide +kernel
theorem dX5_readNumber_124 : decode cX5_readNumber 124 = .ok (.ifCond .eq 9, 3) := by decide +kernel
theorem dX5_readNumber_127 : decode cX5_readNumber 127 = .ok (.iload 4, 2) := by decide +kernel
theorem dX5_readNumber_129 : decode cX5_readNumber 129 = .ok (.ineg, 1) := by decide +kernel
theorem dX5_readNumber_130 : decode cX5_readNumber 130 = .ok (.goto 5, 3) := by decide +kernel
theorem dX5_readNumber_133 : decode cX5_readNumber 133 = .ok (.iload 4, 2) := by decide +kernel
theorem dX5_readNumber_135 : decode cX5_readNumber 135 = .ok (.istore 6, 2) := by decide +kernel
theorem dX5_readNumber_137 : decode cX5_readNumber 137 = .ok (.iload 5, 2) := by decide +kernel
theorem dX5_readNumber_139 : decode cX5_readNumber 139 = .ok (.iconst 3, 1) := by decide +kernel
theorem dX5_readNumber_140 : decode cX5_readNumber 140 = .ok (.if_icmp .gt 17, 3) := by decide +kernel
theorem dX5_readNumber_143 : decode cX5_readNumber 143 = .ok (.iload 6, 2) := by decide +kernel
theorem dX5_readNumber_145 : decode cX5_readNumber 145 = .ok (.iload_n 1, 1) := by decide +kernel
theorem dX5_readNumber_146 : decode cX5_readNumber 146 = .ok (.if_icmp .lt 11, 3) := by decide +kernel
theorem dX5_readNumber_149 : decode cX5_readNumber 149 = .ok (.iload 6, 2) := by decide +kernel
theorem dX5_readNumber_151 : decode cX5_readNumber 151 = .ok (.sipush 500, 3) := by decide +kernel
theorem dX5_readNumber_154 : decode cX5_readNumber 154 = .ok (.if_icmp .le 10, 3) := by decide +kernel
theorem dX5_readNumber_157 : decode cX5_readNumber 157 = .ok (.aload_n 0, 1) := by decide +kernel
theorem dX5_readNumber_158 : decode cX5_readNumber 158 = .ok (.iload_n 3, 1) := by decide +kernel
theorem dX5_readNumber_159 : decode cX5_readNumber 159 = .ok (.invokevirtual 46, 3) := by decide +kernel
theorem dX5_readNumber_162 : decode cX5_readNumber 162 = .ok (.iload_n 1, 1) := by decide +kernel
theorem dX5_readNumber_163 : decode cX5_readNumber 163 = .ok (.ireturn, 1) := by decide +kernel
theorem dX5_readNumber_164 : decode cX5_readNumber 164 = .ok (.iload 6, 2) := by decide +kernel
theorem dX5_readNumber_166 : decode cX5_readNumber 166 = .ok (.ireturn, 1) := by decide +kernel
theorem dX5_isFigure_0 : decode cX5_isFigure 0 = .ok (.iload_n 0, 1) := by decide +kernel
theorem dX5_isFigure_1 : decode cX5_isFigure 1 = .ok (.bipush 48, 2) := by decide +kernel
theorem dX5_isFigure_3 : decode cX5_isFigure 3 = .ok (.if_icmp .lt 13, 3) := by decide +kernel
theorem dX5_isFigure_6 : decode cX5_isFigure 6 = .ok (.iload_n 0, 1) := by decide +kernel
theorem dX5_isFigure_7 : decode cX5_isFigure 7 = .ok (.bipush 57, 2) := by decide +kernel
theorem dX5_isFigure_9 : decode cX5_isFigure 9 = .ok (.if_icmp .gt 7, 3) := by decide +kernel
theorem dX5_isFigure_12 : decode cX5_isFigure 12 = .ok (.iconst 1, 1) := by decide +kernel
theorem dX5_isFigure_13 : decode cX5_isFigure 13 = .ok (.goto 4, 3) := by decide +kernel
theorem dX5_isFigure_16 : decode cX5_isFigure 16 = .ok (.iconst 0, 1) := by decide +kernel
theorem dX5_isFigure_17 : decode cX5_isFigure 17 = .ok (.ireturn, 1) := by decide +kernel
theorem dX5_nextSign_0 : decode cX5_nextSign 0 = .ok (.aload_n 0, 1) := by decide +kernel
theorem dX5_nextSign_1 : decode cX5_nextSign 1 = .ok (.getfield 29, 3) := by decide +kernel
theorem dX5_nextSign_4 : decode cX5_nextSign 4 = .ok (.ifCond .lt 5, 3) := by decide +kernel
theorem dX5_nextSign_7 : decode cX5_nextSign 7 = .ok (.iconst (-1), 1) := by decide +kernel
theorem dX5_nextSign_8 : decode cX5_nextSign 8 = .ok (.ireturn, 1) := by decide +kernel
theorem dX5_nextSign_9 : decode cX5_nextSign 9 = .ok (.aload_n 0, 1) := by decide +kernel
theorem dX5_nextSign_10 : decode cX5_nextSign 10 = .ok (.getfield 26, 3) := by decide +kernel
theorem dX5_nextSign_13 : decode cX5_nextSign 13 = .ok (.aload_n 0, 1) := by decide +kernel
theorem dX5_nextSign_14 : decode cX5_nextSign 14 = .ok (.getfield 22, 3) := by decide +kernel
theorem dX5_nextSign_17 : decode cX5_nextSign 17 = .ok (.if_icmp .ge 30, 3) := by decide +kernel
theorem dX5_nextSign_20 : decode cX5_nextSign 20 = .ok (.aload_n 0, 1) := by decide +kernel
theorem dX5_nextSign_21 : decode cX5_nextSign 21 = .ok (.getfield 9, 3) := by decide +kernel
theorem dX5_nextSign_24 : decode cX5_nextSign 24 = .ok (.aload_n 0, 1) := by decide +kernel
theorem dX5_nextSign_25 : decode cX5_nextSign 25 = .ok (.getfield 26, 3) := by decide +kernel
theorem dX5_nextSign_28 : decode cX5_nextSign 28 = .ok (.iaload, 1) := by decide +kernel
theorem dX5_nextSign_29 : decode cX5_nextSign 29 = .ok (.bipush 32, 2) := by decide +kernel
theorem dX5_nextSign_31 : decode cX5_nextSign 31 = .ok (.if_icmp .ne 16, 3) := by decide +kernel
theorem dX5_nextSign_34 : decode cX5_nextSign 34 = .ok (.aload_n 0, 1) := by decide +kernel
theorem dX5_nextSign_35 : decode cX5_nextSign 35 = .ok (.dup, 1) := by decide +kernel
theorem dX5_nextSign_36 : decode cX5_nextSign 36 = .ok (.getfield 26, 3) := by decide +kernel
theorem dX5_nextSign_39 : decode cX5_nextSign 39 = .ok (.iconst 1, 1) := by decide +kernel
theorem dX5_nextSign_40 : decode cX5_nextSign 40 = .ok (.iadd, 1) := by decide +kernel
theorem dX5_nextSign_41 : decode cX5_nextSign 41 = .ok (.putfield 26, 3) := by decide +kernel
theorem dX5_nextSign_44 : decode cX5_nextSign 44 = .ok (.goto (-35), 3) := by decide +kernel
theorem dX5_nextSign_47 : decode cX5_nextSign 47 = .ok (.aload_n 0, 1) := by decide +kernel
theorem dX5_nextSign_48 : decode cX5_nextSign 48 = .ok (.getfield 26, 3) := by decide +kernel
theorem dX5_nextSign_51 : decode cX5_nextSign 51 = .ok (.aload_n 0, 1) := by decide +kernel
theorem dX5_nextSign_52 : decode cX5_nextSign 52 = .ok (.getfield 22, 3) := by decide +kernel
theorem dX5_nextSign_55 : decode cX5_nextSign 55 = .ok (.if_icmp .ge 15, 3) := by decide +kernel
theorem dX5_nextSign_58 : decode cX5_nextSign 58 = .ok (.aload_n 0, 1) := by decide +kernel
theorem dX5_nextSign_59 : decode cX5_nextSign 59 = .ok (.getfield 9, 3) := by decide +kernel
theorem dX5_nextSign_62 : decode cX5_nextSign 62 = .ok (.aload_n 0, 1) := by decide +kernel
theorem dX5_nextSign_63 : decode cX5_nextSign 63 = .ok (.getfield 26, 3) := by decide +kernel
theorem dX5_nextSign_66 : decode cX5_nextSign 66 = .ok (.iaload, 1) := by decide +kernel
theorem dX5_nextSign_67 : decode cX5_nextSign 67 = .ok (.goto 4, 3) := by decide +kernel
theorem dX5_nextSign_70 : decode cX5_nextSign 70 = .ok (.iconst (-1), 1) := by decide +kernel
theorem dX5_nextSign_71 : decode cX5_nextSign 71 = .ok (.ireturn, 1) := by decide +kernel
theorem dX5_expect_0 : decode cX5_expect 0 = .ok (.aload_n 0, 1) := by decide +kernel
theorem dX5_expect_1 : decode cX5_expect 1 = .ok (.invokevirtual 42, 3) := by decide +kernel
theorem dX5_expect_4 : decode cX5_expect 4 = .ok (.iload_n 1, 1) := by decide +kernel
theorem dX5_expect_5 : decode cX5_expect 5 = .ok (.if_icmp .ne 16, 3) := by decide +kernel
theorem dX5_expect_8 : decode cX5_expect 8 = .ok (.aload_n 0, 1) := by decide +kernel
theorem dX5_expect_9 : decode cX5_expect 9 = .ok (.dup, 1) := by decide +kernel
theorem dX5_expect_10 : decode cX5_expect 10 = .ok (.getfield 26, 3) := by decide +kernel
theorem dX5_expect_13 : decode cX5_expect 13 = .ok (.iconst 1, 1) := by decide +kernel
theorem dX5_expect_14 : decode cX5_expect 14 = .ok (.iadd, 1) := by decide +kernel
theorem dX5_expect_15 : decode cX5_expect 15 = .ok (.putfield 26, 3) := by decide +kernel
theorem dX5_expect_18 : decode cX5_expect 18 = .ok (.goto 11, 3) := by decide +kernel
theorem dX5_expect_21 : decode cX5_expect 21 = .ok (.aload_n 0, 1) := by decide +kernel
theorem dX5_expect_22 : decode cX5_expect 22 = .ok (.aload_n 0, 1) := by decide +kernel
theorem dX5_expect_23 : decode cX5_expect 23 = .ok (.getfield 26, 3) := by decide +kernel
theorem dX5_expect_26 : decode cX5_expect 26 = .ok (.invokevirtual 46, 3) := by decide +kernel
theorem dX5_expect_29 : decode cX5_expect 29 = .ok (.return_, 1) := by decide +kernel
theorem dX5_fail_0 : decode cX5_fail 0 = .ok (.aload_n 0, 1) := by decide +kernel
theorem dX5_fail_1 : decode cX5_fail 1 = .ok (.getfield 29, 3) := by decide +kernel
theorem dX5_fail_4 : decode cX5_fail 4 = .ok (.ifCond .ge 8, 3) := by decide +kernel
theorem dX5_fail_7 : decode cX5_fail 7 = .ok (.aload_n 0, 1) := by decide +kernel
theorem dX5_fail_8 : decode cX5_fail 8 = .ok (.iload_n 1, 1) := by decide +kernel
theorem dX5_fail_9 : decode cX5_fail 9 = .ok (.putfield 29, 3) := by decide +kernel
theorem dX5_fail_12 : decode cX5_fail 12 = .ok (.return_, 1) := by decide +kernel
theorem dX6_init_0 : decode cX6_init 0 = .ok (.aload_n 0, 1) := by decide +kernel
theorem dX6_init_1 : decode cX6_init 1 = .ok (.invokespecial 3, 3) := by decide +kernel
theorem dX6_init_4 : decode cX6_init 4 = .ok (.aload_n 0, 1) := by decide +kernel
theorem dX6_init_5 : decode cX6_init 5 = .ok (.bipush 120, 2) := by decide +kernel
theorem dX6_init_7 : decode cX6_init 7 = .ok (.newarray .int, 2) := by decide +kernel
theorem dX6_init_9 : decode cX6_init 9 = .ok (.putfield 9, 3) := by decide +kernel
theorem dX6_init_12 : decode cX6_init 12 = .ok (.aload_n 0, 1) := by decide +kernel
theorem dX6_init_13 : decode cX6_init 13 = .ok (.bipush 48, 2) := by decide +kernel
theorem dX6_init_15 : decode cX6_init 15 = .ok (.newarray .int, 2) := by decide +kernel
theorem dX6_init_17 : decode cX6_init 17 = .ok (.putfield 15, 3) := by decide +kernel
theorem dX6_init_20 : decode cX6_init 20 = .ok (.return_, 1) := by decide +kernel
theorem dX6_empty_0 : decode cX6_empty 0 = .ok (.aload_n 0, 1) := by decide +kernel
theorem dX6_empty_1 : decode cX6_empty 1 = .ok (.iconst 0, 1) := by decide +kernel
theorem dX6_empty_2 : decode cX6_empty 2 = .ok (.putfield 18, 3) := by decide +kernel
theorem dX6_empty_5 : decode cX6_empty 5 = .ok (.aload_n 0, 1) := by decide +kernel
theorem dX6_empty_6 : decode cX6_empty 6 = .ok (.iconst 0, 1) := by decide +kernel
theorem dX6_empty_7 : decode cX6_empty 7 = .ok (.putfield 22, 3) := by decide +kernel
theorem dX6_empty_10 : decode cX6_empty 10 = .ok (.return_, 1) := by decide +kernel
theorem dX6_becomeRectangle_0 : decode cX6_becomeRectangle 0 = .ok (.aload_n 0, 1) := by decide +kernel
theorem dX6_becomeRectangle_1 : decode cX6_becomeRectangle 1 = .ok (.invokevirtual 25, 3) := by decide +kernel
theorem dX6_becomeRectangle_4 : decode cX6_becomeRectangle 4 = .ok (.aload_n 0, 1) := by decide +kernel
theorem dX6_becomeRectangle_5 : decode cX6_becomeRectangle 5 = .ok (.iload_n 1, 1) := by decide +kernel
theorem dX6_becomeRectangle_6 : decode cX6_becomeRectangle 6 = .ok (.iload_n 2, 1) := by decide +kernel
theorem dX6_becomeRectangle_7 : decode cX6_becomeRectangle 7 = .ok (.iload_n 3, 1) := by decide +kernel
theorem dX6_becomeRectangle_8 : decode cX6_becomeRectangle 8 = .ok (.iload 4, 2) := by decide +kernel
theorem dX6_becomeRectangle_10 : decode cX6_becomeRectangle 10 = .ok (.invokevirtual 28, 3) := by decide +kernel
theorem dX6_becomeRectangle_13 : decode cX6_becomeRectangle 13 = .ok (.return_, 1) := by decide +kernel
theorem dX6_addRectangle_0 : decode cX6_addRectangle 0 = .ok (.aload_n 0, 1) := by decide +kernel
theorem dX6_addRectangle_1 : decode cX6_addRectangle 1 = .ok (.getfield 22, 3) := by decide +kernel
theorem dX6_addRectangle_4 : decode cX6_addRectangle 4 = .ok (.bipush 12, 2) := by decide +kernel
theorem dX6_addRectangle_6 : decode cX6_addRectangle 6 = .ok (.if_icmp .lt 4, 3) := by decide +kernel
theorem dX6_addRectangle_9 : decode cX6_addRectangle 9 = .ok (.return_, 1) := by decide +kernel
theorem dX6_addRectangle_10 : decode cX6_addRectangle 10 = .ok (.iconst 4, 1) := by decide +kernel
theorem dX6_addRectangle_11 : decode cX6_addRectangle 11 = .ok (.aload_n 0, 1) := by decide +kernel
theorem dX6_addRectangle_12 : decode cX6_addRectangle 12 = .ok (.getfield 22, 3) := by decide +kernel
theorem dX6_addRectangle_15 : decode cX6_addRectangle 15 = .ok (.imul, 1) := by decide +kernel
theorem dX6_addRectangle_16 : decode cX6_addRectangle 16 = .ok (.istore 5, 2) := by decide +kernel
theorem dX6_addRectangle_18 : decode cX6_addRectangle 18 = .ok (.aload_n 0, 1) := by decide +kernel
theorem dX6_addRectangle_19 : decode cX6_addRectangle 19 = .ok (.getfield 15, 3) := by decide +kernel
theorem dX6_addRectangle_22 : decode cX6_addRectangle 22 = .ok (.iload 5, 2) := by decide +kernel
theorem dX6_addRectangle_24 : decode cX6_addRectangle 24 = .ok (.iload_n 1, 1) := by decide +kernel
theorem dX6_addRectangle_25 : decode cX6_addRectangle 25 = .ok (.iastore, 1) := by decide +kernel
theorem dX6_addRectangle_26 : decode cX6_addRectangle 26 = .ok (.aload_n 0, 1) := by decide +kernel
theorem dX6_addRectangle_27 : decode cX6_addRectangle 27 = .ok (.getfield 15, 3) := by decide +kernel
theorem dX6_addRectangle_30 : decode cX6_addRectangle 30 = .ok (.iload 5, 2) := by decide +kernel
theorem dX6_addRectangle_32 : decode cX6_addRectangle 32 = .ok (.iconst 1, 1) := by decide +kernel
theorem dX6_addRectangle_33 : decode cX6_addRectangle 33 = .ok (.iadd, 1) := by decide +kernel
theorem dX6_addRectangle_34 : decode cX6_addRectangle 34 = .ok (.iload_n 2, 1) := by decide +kernel
theorem dX6_addRectangle_35 : decode cX6_addRectangle 35 = .ok (.iastore, 1) := by decide +kernel
theorem dX6_addRectangle_36 : decode cX6_addRectangle 36 = .ok (.aload_n 0, 1) := by decide +kernel
theorem dX6_addRectangle_37 : decode cX6_addRectangle 37 = .ok (.getfield 15, 3) := by decide +kernel
theorem dX6_addRectangle_40 : decode cX6_addRectangle 40 = .ok (.iload 5, 2) := by decide +kernel
theorem dX6_addRectangle_42 : decode cX6_addRectangle 42 = .ok (.iconst 2, 1) := by decide +kernel
theorem dX6_addRectangle_43 : decode cX6_addRectangle 43 = .ok (.iadd, 1) := by decide +kernel
theorem dX6_addRectangle_44 : decode cX6_addRectangle 44 = .ok (.iload_n 3, 1) := by decide +kernel
theorem dX6_addRectangle_45 : decode cX6_addRectangle 45 = .ok (.iastore, 1) := by decide +kernel
theorem dX6_addRectangle_46 : decode cX6_addRectangle 46 = .ok (.aload_n 0, 1) := by decide +kernel
theorem dX6_addRectangle_47 : decode cX6_addRectangle 47 = .ok (.getfield 15, 3) := by decide +kernel
theorem dX6_addRectangle_50 : decode cX6_addRectangle 50 = .ok (.iload 5, 2) := by decide +kernel
theorem dX6_addRectangle_52 : decode cX6_addRectangle 52 = .ok (.iconst 3, 1) := by decide +kernel
theorem dX6_addRectangle_53 : decode cX6_addRectangle 53 = .ok (.iadd, 1) := by decide +kernel
theorem dX6_addRectangle_54 : decode cX6_addRectangle 54 = .ok (.iload 4, 2) := by decide +kernel
theorem dX6_addRectangle_56 : decode cX6_addRectangle 56 = .ok (.iastore, 1) := by decide +kernel
theorem dX6_addRectangle_57 : decode cX6_addRectangle 57 = .ok (.aload_n 0, 1) := by decide +kernel
theorem dX6_addRectangle_58 : decode cX6_addRectangle 58 = .ok (.aload_n 0, 1) := by decide +kernel
theorem dX6_addRectangle_59 : decode cX6_addRectangle 59 = .ok (.getfield 22, 3) := by decide +kernel
theorem dX6_addRectangle_62 : decode cX6_addRectangle 62 = .ok (.invokevirtual 32, 3) := by decide +kernel
theorem dX6_addRectangle_65 : decode cX6_addRectangle 65 = .ok (.aload_n 0, 1) := by decide +kernel
theorem dX6_addRectangle_66 : decode cX6_addRectangle 66 = .ok (.dup, 1) := by decide +kernel
theorem dX6_addRectangle_67 : decode cX6_addRectangle 67 = .ok (.getfield 22, 3) := by decide +kernel
theorem dX6_addRectangle_70 : decode cX6_addRectangle 70 = .ok (.iconst 1, 1) := by decide +kernel
theorem dX6_addRectangle_71 : decode cX6_addRectangle 71 = .ok (.iadd, 1) := by decide +kernel
theorem dX6_addRectangle_72 : decode cX6_addRectangle 72 = .ok (.putfield 22, 3) := by decide +kernel
theorem dX6_addRectangle_75 : decode cX6_addRectangle 75 = .ok (.return_, 1) := by decide +kernel
theorem dX6_addStep_0 : decode cX6_addStep 0 = .ok (.aload_n 0, 1) := by decide +kernel
theorem dX6_addStep_1 : decode cX6_addStep 1 = .ok (.getfield 18, 3) := by decide +kernel
theorem dX6_addStep_4 : decode cX6_addStep 4 = .ok (.bipush 120, 2) := by decide +kernel
theorem dX6_addStep_6 : decode cX6_addStep 6 = .ok (.if_icmp .ge 23, 3) := by decide +kernel
theorem dX6_addStep_9 : decode cX6_addStep 9 = .ok (.aload_n 0, 1) := by decide +kernel
theorem dX6_addStep_10 : decode cX6_addStep 10 = .ok (.getfield 9, 3) := by decide +kernel
theorem dX6_addStep_13 : decode cX6_addStep 13 = .ok (.aload_n 0, 1) := by decide +kernel
theorem dX6_addStep_14 : decode cX6_addStep 14 = .ok (.getfield 18, 3) := by decide +kernel
theorem dX6_addStep_17 : decode cX6_addStep 17 = .ok (.iload_n 1, 1) := by decide +kernel
theorem dX6_addStep_18 : decode cX6_addStep 18 = .ok (.iastore, 1) := by decide +kernel
theorem dX6_addStep_19 : decode cX6_addStep 19 = .ok (.aload_n 0, 1) := by decide +kernel
theorem dX6_addStep_20 : decode cX6_addStep 20 = .ok (.dup, 1) := by decide +kernel
theorem dX6_addStep_21 : decode cX6_addStep 21 = .ok (.getfield 18, 3) := by decide +kernel
theorem dX6_addStep_24 : decode cX6_addStep 24 = .ok (.iconst 1, 1) := by decide +kernel
theorem dX6_addStep_25 : decode cX6_addStep 25 = .ok (.iadd, 1) := by decide +kernel
theorem dX6_addStep_26 : decode cX6_addStep 26 = .ok (.putfield 18, 3) := by decide +kernel
theorem dX6_addStep_29 : decode cX6_addStep 29 = .ok (.return_, 1) := by decide +kernel
theorem dX6_holds_0 : decode cX6_holds 0 = .ok (.iconst 0, 1) := by decide +kernel
theorem dX6_holds_1 : decode cX6_holds 1 = .ok (.istore_n 3, 1) := by decide +kernel
theorem dX6_holds_2 : decode cX6_holds 2 = .ok (.iconst 0, 1) := by decide +kernel
theorem dX6_holds_3 : decode cX6_holds 3 = .ok (.istore 4, 2) := by decide +kernel
theorem dX6_holds_5 : decode cX6_holds 5 = .ok (.iload 4, 2) := by decide +kernel
theorem dX6_holds_7 : decode cX6_holds 7 = .ok (.aload_n 0, 1) := by decide +kernel
theorem dX6_holds_8 : decode cX6_holds 8 = .ok (.getfield 18, 3) := by decide +kernel
theorem dX6_holds_11 : decode cX6_holds 11 = .ok (.if_icmp .ge 67, 3) := by decide +kernel
theorem dX6_holds_14 : decode cX6_holds 14 = .ok (.aload_n 0, 1) := by decide +kernel
theorem dX6_holds_15 : decode cX6_holds 15 = .ok (.getfield 9, 3) := by decide +kernel
theorem dX6_holds_18 : decode cX6_holds 18 = .ok (.iload 4, 2) := by decide +kernel
theorem dX6_holds_20 : decode cX6_holds 20 = .ok (.iaload, 1) := by decide +kernel
theorem dX6_holds_21 : decode cX6_holds 21 = .ok (.istore 5, 2) := by decide +kernel
theorem dX6_holds_23 : decode cX6_holds 23 = .ok (.iload 5, 2) := by decide +kernel
theorem dX6_holds_25 : decode cX6_holds 25 = .ok (.ifCond .lt 27, 3) := by decide +kernel
theorem dX6_holds_28 : decode cX6_holds 28 = .ok (.iload_n 3, 1) := by decide +kernel
theorem dX6_holds_29 : decode cX6_holds 29 = .ok (.iconst 1, 1) := by decide +kernel
theorem dX6_holds_30 : decode cX6_holds 30 = .ok (.ishl, 1) := by decide +kernel
theorem dX6_holds_31 : decode cX6_holds 31 = .ok (.aload_n 0, 1) := by decide +kernel
theorem dX6_holds_32 : decode cX6_holds 32 = .ok (.iload 5, 2) := by decide +kernel
theorem dX6_holds_34 : decode cX6_holds 34 = .ok (.iload_n 1, 1) := by decide +kernel
theorem dX6_holds_35 : decode cX6_holds 35 = .ok (.iload_n 2, 1) := by decide +kernel
theorem dX6_holds_36 : decode cX6_holds 36 = .ok (.invokevirtual 36, 3) := by decide +kernel
theorem dX6_holds_39 : decode cX6_holds 39 = .ok (.ifCond .eq 7, 3) := by decide +kernel
theorem dX6_holds_42 : decode cX6_holds 42 = .ok (.iconst 1, 1) := by decide +kernel
theorem dX6_holds_43 : decode cX6_holds 43 = .ok (.goto 4, 3) := by decide +kernel
theorem dX6_holds_46 : decode cX6_holds 46 = .ok (.iconst 0, 1) := by decide +kernel
theorem dX6_holds_47 : decode cX6_holds 47 = .ok (.ior, 1) := by decide +kernel
theorem dX6_holds_48 : decode cX6_holds 48 = .ok (.istore_n 3, 1) := by decide +kernel
theorem dX6_holds_49 : decode cX6_holds 49 = .ok (.goto 23, 3) := by decide +kernel
theorem dX6_holds_52 : decode cX6_holds 52 = .ok (.iload 5, 2) := by decide +kernel
theorem dX6_holds_54 : decode cX6_holds 54 = .ok (.iconst (-1), 1) := by decide +kernel
theorem dX6_holds_55 : decode cX6_holds 55 = .ok (.if_icmp .ne 10, 3) := by decide +kernel
theorem dX6_holds_58 : decode cX6_holds 58 = .ok (.iload_n 3, 1) := by decide +kernel
theorem dX6_holds_59 : decode cX6_holds 59 = .ok (.iconst 1, 1) := by decide +kernel
theorem dX6_holds_60 : decode cX6_holds 60 = .ok (.ixor, 1) := by decide +kernel
theorem dX6_holds_61 : decode cX6_holds 61 = .ok (.istore_n 3, 1) := by decide +kernel
theorem dX6_holds_62 : decode cX6_holds 62 = .ok (.goto 10, 3) := by decide +kernel
theorem dX6_holds_65 : decode cX6_holds 65 = .ok (.iload_n 3, 1) := by decide +kernel
theorem dX6_holds_66 : decode cX6_holds 66 = .ok (.iload 5, 2) := by decide +kernel
theorem dX6_holds_68 : decode cX6_holds 68 = .ok (.invokestatic 40, 3) := by decide +kernel
theorem dX6_holds_71 : decode cX6_holds 71 = .ok (.istore_n 3, 1) := by decide +kernel
theorem dX6_holds_72 : decode cX6_holds 72 = .ok (.iinc 4 1, 3) := by decide +kernel
theorem dX6_holds_75 : decode cX6_holds 75 = .ok (.goto (-70), 3) := by decide +kernel
theorem dX6_holds_78 : decode cX6_holds 78 = .ok (.iload_n 3, 1) := by decide +kernel
theorem dX6_holds_79 : decode cX6_holds 79 = .ok (.iconst 1, 1) := by decide +kernel
theorem dX6_holds_80 : decode cX6_holds 80 = .ok (.iand, 1) := by decide +kernel
theorem dX6_holds_81 : decode cX6_holds 81 = .ok (.iconst 1, 1) := by decide +kernel
theorem dX6_holds_82 : decode cX6_holds 82 = .ok (.if_icmp .ne 7, 3) := by decide +kernel
theorem dX6_holds_85 : decode cX6_holds 85 = .ok (.iconst 1, 1) := by decide +kernel
theorem dX6_holds_86 : decode cX6_holds 86 = .ok (.goto 4, 3) := by decide +kernel
theorem dX6_holds_89 : decode cX6_holds 89 = .ok (.iconst 0, 1) := by decide +kernel
theorem dX6_holds_90 : decode cX6_holds 90 = .ok (.ireturn, 1) := by decide +kernel
theorem dX6_join_0 : decode cX6_join 0 = .ok (.iload_n 0, 1) := by decide +kernel
theorem dX6_join_1 : decode cX6_join 1 = .ok (.iconst 1, 1) := by decide +kernel
theorem dX6_join_2 : decode cX6_join 2 = .ok (.iand, 1) := by decide +kernel
theorem dX6_join_3 : decode cX6_join 3 = .ok (.istore_n 2, 1) := by decide +kernel
theorem dX6_join_4 : decode cX6_join 4 = .ok (.iload_n 0, 1) := by decide +kernel
theorem dX6_join_5 : decode cX6_join 5 = .ok (.iconst 1, 1) := by decide +kernel
theorem dX6_join_6 : decode cX6_join 6 = .ok (.ishr, 1) := by decide +kernel
theorem dX6_join_7 : decode cX6_join 7 = .ok (.istore_n 3, 1) := by decide +kernel
theorem dX6_join_8 : decode cX6_join 8 = .ok (.iload_n 1, 1) := by decide +kernel
theorem dX6_join_9 : decode cX6_join 9 = .ok (.bipush (-2), 2) := by decide +kernel
theorem dX6_join_11 : decode cX6_join 11 = .ok (.if_icmp .ne 10, 3) := by decide +kernel
theorem dX6_join_14 : decode cX6_join 14 = .ok (.iload_n 3, 1) := by decide +kernel
theorem dX6_join_15 : decode cX6_join 15 = .ok (.iload_n 2, 1) := by decide +kernel
theorem dX6_join_16 : decode cX6_join 16 = .ok (.bipush (-2), 2) := by decide +kernel
theorem dX6_join_18 : decode cX6_join 18 = .ok (.ior, 1) := by decide +kernel
theorem dX6_join_19 : decode cX6_join 19 = .ok (.iand, 1) := by decide +kernel
theorem dX6_join_20 : decode cX6_join 20 = .ok (.ireturn, 1) := by decide +kernel
theorem dX6_join_21 : decode cX6_join 21 = .ok (.iload_n 1, 1) := by decide +kernel
theorem dX6_join_22 : decode cX6_join 22 = .ok (.bipush (-3), 2) := by decide +kernel
theorem dX6_join_24 : decode cX6_join 24 = .ok (.if_icmp .ne 7, 3) := by decide +kernel
theorem dX6_join_27 : decode cX6_join 27 = .ok (.iload_n 3, 1) := by decide +kernel
theorem dX6_join_28 : decode cX6_join 28 = .ok (.iload_n 2, 1) := by decide +kernel
theorem dX6_join_29 : decode cX6_join 29 = .ok (.ior, 1) := by decide +kernel
theorem dX6_join_30 : decode cX6_join 30 = .ok (.ireturn, 1) := by decide +kernel
theorem dX6_join_31 : decode cX6_join 31 = .ok (.iload_n 3, 1) := by decide +kernel
theorem dX6_join_32 : decode cX6_join 32 = .ok (.iload_n 2, 1) := by decide +kernel
theorem dX6_join_33 : decode cX6_join 33 = .ok (.iconst (-1), 1) := by decide +kernel
theorem dX6_join_34 : decode cX6_join 34 = .ok (.ixor, 1) := by decide +kernel
theorem dX6_join_35 : decode cX6_join 35 = .ok (.iand, 1) := by decide +kernel
theorem dX6_join_36 : decode cX6_join 36 = .ok (.ireturn, 1) := by decide +kernel
theorem dX6_inRectangle_0 : decode cX6_inRectangle 0 = .ok (.iload_n 1, 1) := by decide +kernel
theorem dX6_inRectangle_1 : decode cX6_inRectangle 1 = .ok (.aload_n 0, 1) := by decide +kernel
theorem dX6_inRectangle_2 : decode cX6_inRectangle 2 = .ok (.getfield 22, 3) := by decide +kernel
theorem dX6_inRectangle_5 : decode cX6_inRectangle 5 = .ok (.if_icmp .lt 5, 3) := by decide +kernel
theorem dX6_inRectangle_8 : decode cX6_inRectangle 8 = .ok (.iconst 0, 1) := by decide +kernel
theorem dX6_inRectangle_9 : decode cX6_inRectangle 9 = .ok (.ireturn, 1) := by decide +kernel
theorem dX6_inRectangle_10 : decode cX6_inRectangle 10 = .ok (.iconst 4, 1) := by decide +kernel
theorem dX6_inRectangle_11 : decode cX6_inRectangle 11 = .ok (.iload_n 1, 1) := by decide +kernel
theorem dX6_inRectangle_12 : decode cX6_inRectangle 12 = .ok (.imul, 1) := by decide +kernel
theorem dX6_inRectangle_13 : decode cX6_inRectangle 13 = .ok (.istore 4, 2) := by decide +kernel
theorem dX6_inRectangle_15 : decode cX6_inRectangle 15 = .ok (.iload_n 2, 1) := by decide +kernel
theorem dX6_inRectangle_16 : decode cX6_inRectangle 16 = .ok (.aload_n 0, 1) := by decide +kernel
theorem dX6_inRectangle_17 : decode cX6_inRectangle 17 = .ok (.getfield 15, 3) := by decide +kernel
theorem dX6_inRectangle_20 : decode cX6_inRectangle 20 = .ok (.iload 4, 2) := by decide +kernel
theorem dX6_inRectangle_22 : decode cX6_inRectangle 22 = .ok (.iaload, 1) := by decide +kernel
theorem dX6_inRectangle_23 : decode cX6_inRectangle 23 = .ok (.if_icmp .lt 46, 3) := by decide +kernel
theorem dX6_inRectangle_26 : decode cX6_inRectangle 26 = .ok (.iload_n 2, 1) := by decide +kernel
theorem dX6_inRectangle_27 : decode cX6_inRectangle 27 = .ok (.aload_n 0, 1) := by decide +kernel
theorem dX6_inRectangle_28 : decode cX6_inRectangle 28 = .ok (.getfield 15, 3) := by decide +kernel
theorem dX6_inRectangle_31 : decode cX6_inRectangle 31 = .ok (.iload 4, 2) := by decide +kernel
theorem dX6_inRectangle_33 : decode cX6_inRectangle 33 = .ok (.iconst 1, 1) := by decide +kernel
theorem dX6_inRectangle_34 : decode cX6_inRectangle 34 = .ok (.iadd, 1) := by decide +kernel
theorem dX6_inRectangle_35 : decode cX6_inRectangle 35 = .ok (.iaload, 1) := by decide +kernel
theorem dX6_inRectangle_36 : decode cX6_inRectangle 36 = .ok (.if_icmp .gt 33, 3) := by decide +kernel
theorem dX6_inRectangle_39 : decode cX6_inRectangle 39 = .ok (.iload_n 3, 1) := by decide +kernel
theorem dX6_inRectangle_40 : decode cX6_inRectangle 40 = .ok (.aload_n 0, 1) := by decide +kernel
theorem dX6_inRectangle_41 : decode cX6_inRectangle 41 = .ok (.getfield 15, 3) := by decide +kernel
theorem dX6_inRectangle_44 : decode cX6_inRectangle 44 = .ok (.iload 4, 2) := by decide +kernel
theorem dX6_inRectangle_46 : decode cX6_inRectangle 46 = .ok (.iconst 2, 1) := by decide +kernel
theorem dX6_inRectangle_47 : decode cX6_inRectangle 47 = .ok (.iadd, 1) := by decide +kernel
theorem dX6_inRectangle_48 : decode cX6_inRectangle 48 = .ok (.iaload, 1) := by decide +kernel
theorem dX6_inRectangle_49 : decode cX6_inRectangle 49 = .ok (.if_icmp .lt 20, 3) := by decide +kernel
theorem dX6_inRectangle_52 : decode cX6_inRectangle 52 = .ok (.iload_n 3, 1) := by decide +kernel
theorem dX6_inRectangle_53 : decode cX6_inRectangle 53 = .ok (.aload_n 0, 1) := by decide +kernel
theorem dX6_inRectangle_54 : decode cX6_inRectangle 54 = .ok (.getfield 15, 3) := by decide +kernel
theorem dX6_inRectangle_57 : decode cX6_inRectangle 57 = .ok (.iload 4, 2) := by decide +kernel
theorem dX6_inRectangle_59 : decode cX6_inRectangle 59 = .ok (.iconst 3, 1) := by decide +kernel
theorem dX6_inRectangle_60 : decode cX6_inRectangle 60 = .ok (.iadd, 1) := by decide +kernel
theorem dX6_inRectangle_61 : decode cX6_inRectangle 61 = .ok (.iaload, 1) := by decide +kernel
theorem dX6_inRectangle_62 : decode cX6_inRectangle 62 = .ok (.if_icmp .gt 7, 3) := by decide +kernel
theorem dX6_inRectangle_65 : decode cX6_inRectangle 65 = .ok (.iconst 1, 1) := by decide +kernel
theorem dX6_inRectangle_66 : decode cX6_inRectangle 66 = .ok (.goto 4, 3) := by decide +kernel
theorem dX6_inRectangle_69 : decode cX6_inRectangle 69 = .ok (.iconst 0, 1) := by decide +kernel
theorem dX6_inRectangle_70 : decode cX6_inRectangle 70 = .ok (.ireturn, 1) := by decide +kernel
theorem dX6_copyFrom_0 : decode cX6_copyFrom 0 = .ok (.aload_n 1, 1) := by decide +kernel
theorem dX6_copyFrom_1 : decode cX6_copyFrom 1 = .ok (.getfield 9, 3) := by decide +kernel
theorem dX6_copyFrom_4 : decode cX6_copyFrom 4 = .ok (.iconst 0, 1) := by decide +kernel
theorem dX6_copyFrom_5 : decode cX6_copyFrom 5 = .ok (.aload_n 0, 1) := by decide +kernel
theorem dX6_copyFrom_6 : decode cX6_copyFrom 6 = .ok (.getfield 9, 3) := by decide +kernel
theorem dX6_copyFrom_9 : decode cX6_copyFrom 9 = .ok (.iconst 0, 1) := by decide +kernel
theorem dX6_copyFrom_10 : decode cX6_copyFrom 10 = .ok (.aload_n 1, 1) := by decide +kernel
theorem dX6_copyFrom_11 : decode cX6_copyFrom 11 = .ok (.getfield 18, 3) := by decide +kernel
theorem dX6_copyFrom_14 : decode cX6_copyFrom 14 = .ok (.invokestatic 44, 3) := by decide +kernel
theorem dX6_copyFrom_17 : decode cX6_copyFrom 17 = .ok (.aload_n 1, 1) := by decide +kernel
theorem dX6_copyFrom_18 : decode cX6_copyFrom 18 = .ok (.getfield 15, 3) := by decide +kernel
theorem dX6_copyFrom_21 : decode cX6_copyFrom 21 = .ok (.iconst 0, 1) := by decide +kernel
theorem dX6_copyFrom_22 : decode cX6_copyFrom 22 = .ok (.aload_n 0, 1) := by decide +kernel
theorem dX6_copyFrom_23 : decode cX6_copyFrom 23 = .ok (.getfield 15, 3) := by decide +kernel
theorem dX6_copyFrom_26 : decode cX6_copyFrom 26 = .ok (.iconst 0, 1) := by decide +kernel
theorem dX6_copyFrom_27 : decode cX6_copyFrom 27 = .ok (.iconst 4, 1) := by decide +kernel
theorem dX6_copyFrom_28 : decode cX6_copyFrom 28 = .ok (.aload_n 1, 1) := by decide +kernel
theorem dX6_copyFrom_29 : decode cX6_copyFrom 29 = .ok (.getfield 22, 3) := by decide +kernel
theorem dX6_copyFrom_32 : decode cX6_copyFrom 32 = .ok (.imul, 1) := by decide +kernel
theorem dX6_copyFrom_33 : decode cX6_copyFrom 33 = .ok (.invokestatic 44, 3) := by decide +kernel
theorem dX6_copyFrom_36 : decode cX6_copyFrom 36 = .ok (.aload_n 0, 1) := by decide +kernel
theorem dX6_copyFrom_37 : decode cX6_copyFrom 37 = .ok (.aload_n 1, 1) := by decide +kernel
theorem dX6_copyFrom_38 : decode cX6_copyFrom 38 = .ok (.getfield 18, 3) := by decide +kernel
theorem dX6_copyFrom_41 : decode cX6_copyFrom 41 = .ok (.putfield 18, 3) := by decide +kernel
theorem dX6_copyFrom_44 : decode cX6_copyFrom 44 = .ok (.aload_n 0, 1) := by decide +kernel
theorem dX6_copyFrom_45 : decode cX6_copyFrom 45 = .ok (.aload_n 1, 1) := by decide +kernel
theorem dX6_copyFrom_46 : decode cX6_copyFrom 46 = .ok (.getfield 22, 3) := by decide +kernel
theorem dX6_copyFrom_49 : decode cX6_copyFrom 49 = .ok (.putfield 22, 3) := by decide +kernel
theorem dX6_copyFrom_52 : decode cX6_copyFrom 52 = .ok (.return_, 1) := by decide +kernel
theorem dX7_init_0 : decode cX7_init 0 = .ok (.aload_n 0, 1) := by decide +kernel
theorem dX7_init_1 : decode cX7_init 1 = .ok (.invokespecial 1, 3) := by decide +kernel
theorem dX7_init_4 : decode cX7_init 4 = .ok (.aload_n 0, 1) := by decide +kernel
theorem dX7_init_5 : decode cX7_init 5 = .ok (.new 7, 3) := by decide +kernel
theorem dX7_init_8 : decode cX7_init 8 = .ok (.dup, 1) := by decide +kernel
theorem dX7_init_9 : decode cX7_init 9 = .ok (.invokespecial 9, 3) := by decide +kernel
theorem dX7_init_12 : decode cX7_init 12 = .ok (.putfield 10, 3) := by decide +kernel
theorem dX7_init_15 : decode cX7_init 15 = .ok (.aload_n 0, 1) := by decide +kernel
theorem dX7_init_16 : decode cX7_init 16 = .ok (.new 16, 3) := by decide +kernel
theorem dX7_init_19 : decode cX7_init 19 = .ok (.dup, 1) := by decide +kernel
theorem dX7_init_20 : decode cX7_init 20 = .ok (.invokespecial 18, 3) := by decide +kernel
theorem dX7_init_23 : decode cX7_init 23 = .ok (.putfield 19, 3) := by decide +kernel
theorem dX7_init_26 : decode cX7_init 26 = .ok (.aload_n 0, 1) := by decide +kernel
theorem dX7_init_27 : decode cX7_init 27 = .ok (.new 23, 3) := by decide +kernel
theorem dX7_init_30 : decode cX7_init 30 = .ok (.dup, 1) := by decide +kernel
theorem dX7_init_31 : decode cX7_init 31 = .ok (.invokespecial 25, 3) := by decide +kernel
theorem dX7_init_34 : decode cX7_init 34 = .ok (.putfield 26, 3) := by decide +kernel
theorem dX7_init_37 : decode cX7_init 37 = .ok (.aload_n 0, 1) := by decide +kernel
theorem dX7_init_38 : decode cX7_init 38 = .ok (.new 23, 3) := by decide +kernel
theorem dX7_init_41 : decode cX7_init 41 = .ok (.dup, 1) := by decide +kernel
theorem dX7_init_42 : decode cX7_init 42 = .ok (.invokespecial 25, 3) := by decide +kernel
theorem dX7_init_45 : decode cX7_init 45 = .ok (.putfield 30, 3) := by decide +kernel
theorem dX7_init_48 : decode cX7_init 48 = .ok (.aload_n 0, 1) := by decide +kernel
theorem dX7_init_49 : decode cX7_init 49 = .ok (.new 33, 3) := by decide +kernel
theorem dX7_init_52 : decode cX7_init 52 = .ok (.dup, 1) := by decide +kernel
theorem dX7_init_53 : decode cX7_init 53 = .ok (.invokespecial 35, 3) := by decide +kernel
theorem dX7_init_56 : decode cX7_init 56 = .ok (.putfield 36, 3) := by decide +kernel
theorem dX7_init_59 : decode cX7_init 59 = .ok (.aload_n 0, 1) := by decide +kernel
theorem dX7_init_60 : decode cX7_init 60 = .ok (.new 33, 3) := by decide +kernel
theorem dX7_init_63 : decode cX7_init 63 = .ok (.dup, 1) := by decide +kernel
theorem dX7_init_64 : decode cX7_init 64 = .ok (.invokespecial 35, 3) := by decide +kernel
theorem dX7_init_67 : decode cX7_init 67 = .ok (.putfield 40, 3) := by decide +kernel
theorem dX7_init_70 : decode cX7_init 70 = .ok (.aload_n 0, 1) := by decide +kernel
theorem dX7_init_71 : decode cX7_init 71 = .ok (.new 43, 3) := by decide +kernel
theorem dX7_init_74 : decode cX7_init 74 = .ok (.dup, 1) := by decide +kernel
theorem dX7_init_75 : decode cX7_init 75 = .ok (.invokespecial 45, 3) := by decide +kernel
theorem dX7_init_78 : decode cX7_init 78 = .ok (.putfield 46, 3) := by decide +kernel
theorem dX7_init_81 : decode cX7_init 81 = .ok (.aload_n 0, 1) := by decide +kernel
theorem dX7_init_82 : decode cX7_init 82 = .ok (.new 50, 3) := by decide +kernel
theorem dX7_init_85 : decode cX7_init 85 = .ok (.dup, 1) := by decide +kernel
theorem dX7_init_86 : decode cX7_init 86 = .ok (.invokespecial 52, 3) := by decide +kernel
theorem dX7_init_89 : decode cX7_init 89 = .ok (.putfield 53, 3) := by decide +kernel
theorem dX7_init_92 : decode cX7_init 92 = .ok (.aload_n 0, 1) := by decide +kernel
theorem dX7_init_93 : decode cX7_init 93 = .ok (.iconst 2, 1) := by decide +kernel
theorem dX7_init_94 : decode cX7_init 94 = .ok (.anewarray 57, 3) := by decide +kernel
theorem dX7_init_97 : decode cX7_init 97 = .ok (.putfield 59, 3) := by decide +kernel
theorem dX7_init_100 : decode cX7_init 100 = .ok (.iconst 0, 1) := by decide +kernel
theorem dX7_init_101 : decode cX7_init 101 = .ok (.istore_n 1, 1) := by decide +kernel
theorem dX7_init_102 : decode cX7_init 102 = .ok (.iload_n 1, 1) := by decide +kernel
theorem dX7_init_103 : decode cX7_init 103 = .ok (.iconst 2, 1) := by decide +kernel
theorem dX7_init_104 : decode cX7_init 104 = .ok (.if_icmp .ge 22, 3) := by decide +kernel
theorem dX7_init_107 : decode cX7_init 107 = .ok (.aload_n 0, 1) := by decide +kernel
theorem dX7_init_108 : decode cX7_init 108 = .ok (.getfield 59, 3) := by decide +kernel
theorem dX7_init_111 : decode cX7_init 111 = .ok (.iload_n 1, 1) := by decide +kernel
theorem dX7_init_112 : decode cX7_init 112 = .ok (.new 57, 3) := by decide +kernel
theorem dX7_init_115 : decode cX7_init 115 = .ok (.dup, 1) := by decide +kernel
theorem dX7_init_116 : decode cX7_init 116 = .ok (.invokespecial 63, 3) := by decide +kernel
theorem dX7_init_119 : decode cX7_init 119 = .ok (.aastore, 1) := by decide +kernel
theorem dX7_init_120 : decode cX7_init 120 = .ok (.iinc 1 1, 3) := by decide +kernel
theorem dX7_init_123 : decode cX7_init 123 = .ok (.goto (-21), 3) := by decide +kernel
theorem dX7_init_126 : decode cX7_init 126 = .ok (.return_, 1) := by decide +kernel
theorem dX7_put_0 : decode cX7_put 0 = .ok (.iload_n 1, 1) := by decide +kernel
theorem dX7_put_1 : decode cX7_put 1 = .ok (.iload_n 2, 1) := by decide +kernel
theorem dX7_put_2 : decode cX7_put 2 = .ok (.invokestatic 64, 3) := by decide +kernel
theorem dX7_put_5 : decode cX7_put 5 = .ok (.ifCond .eq 14, 3) := by decide +kernel
theorem dX7_put_8 : decode cX7_put 8 = .ok (.iload_n 3, 1) := by decide +kernel
theorem dX7_put_9 : decode cX7_put 9 = .ok (.iconst 1, 1) := by decide +kernel
theorem dX7_put_10 : decode cX7_put 10 = .ok (.if_icmp .lt 9, 3) := by decide +kernel
theorem dX7_put_13 : decode cX7_put 13 = .ok (.iload_n 3, 1) := by decide +kernel
theorem dX7_put_14 : decode cX7_put 14 = .ok (.bipush 100, 2) := by decide +kernel
theorem dX7_put_16 : decode cX7_put 16 = .ok (.if_icmp .le 10, 3) := by decide +kernel
theorem dX7_put_19 : decode cX7_put 19 = .ok (.aload_n 0, 1) := by decide +kernel
theorem dX7_put_20 : decode cX7_put 20 = .ok (.ldc 68, 2) := by decide +kernel
theorem dX7_put_22 : decode cX7_put 22 = .ok (.invokevirtual 69, 3) := by decide +kernel
theorem dX7_put_25 : decode cX7_put 25 = .ok (.ireturn, 1) := by decide +kernel
theorem dX7_put_26 : decode cX7_put 26 = .ok (.aload_n 0, 1) := by decide +kernel
theorem dX7_put_27 : decode cX7_put 27 = .ok (.getfield 10, 3) := by decide +kernel
theorem dX7_put_30 : decode cX7_put 30 = .ok (.invokevirtual 73, 3) := by decide +kernel
theorem dX7_put_33 : decode cX7_put 33 = .ok (.bipush 60, 2) := by decide +kernel
theorem dX7_put_35 : decode cX7_put 35 = .ok (.if_icmp .ge 14, 3) := by decide +kernel
theorem dX7_put_38 : decode cX7_put 38 = .ok (.aload_n 0, 1) := by decide +kernel
theorem dX7_put_39 : decode cX7_put 39 = .ok (.getfield 10, 3) := by decide +kernel
theorem dX7_put_42 : decode cX7_put 42 = .ok (.iconst 1, 1) := by decide +kernel
theorem dX7_put_43 : decode cX7_put 43 = .ok (.invokevirtual 77, 3) := by decide +kernel
theorem dX7_put_46 : decode cX7_put 46 = .ok (.ifCond .ne 10, 3) := by decide +kernel
theorem dX7_put_49 : decode cX7_put 49 = .ok (.aload_n 0, 1) := by decide +kernel
theorem dX7_put_50 : decode cX7_put 50 = .ok (.ldc 81, 2) := by decide +kernel
theorem dX7_put_52 : decode cX7_put 52 = .ok (.invokevirtual 69, 3) := by decide +kernel
theorem dX7_put_55 : decode cX7_put 55 = .ok (.ireturn, 1) := by decide +kernel
theorem dX7_put_56 : decode cX7_put 56 = .ok (.aload_n 0, 1) := by decide +kernel
theorem dX7_put_57 : decode cX7_put 57 = .ok (.getfield 19, 3) := by decide +kernel
theorem dX7_put_60 : decode cX7_put 60 = .ok (.aload_n 0, 1) := by decide +kernel
theorem dX7_put_61 : decode cX7_put 61 = .ok (.getfield 10, 3) := by decide +kernel
theorem dX7_put_64 : decode cX7_put 64 = .ok (.invokevirtual 82, 3) := by decide +kernel
theorem dX7_put_67 : decode cX7_put 67 = .ok (.aload_n 0, 1) := by decide +kernel
theorem dX7_put_68 : decode cX7_put 68 = .ok (.getfield 10, 3) := by decide +kernel
theorem dX7_put_71 : decode cX7_put 71 = .ok (.iload_n 1, 1) := by decide +kernel
theorem dX7_put_72 : decode cX7_put 72 = .ok (.iload_n 2, 1) := by decide +kernel
theorem dX7_put_73 : decode cX7_put 73 = .ok (.iload_n 3, 1) := by decide +kernel
theorem dX7_put_74 : decode cX7_put 74 = .ok (.invokevirtual 86, 3) := by decide +kernel
theorem dX7_put_77 : decode cX7_put 77 = .ok (.ireturn, 1) := by decide +kernel
theorem dX7_take_0 : decode cX7_take 0 = .ok (.aload_n 0, 1) := by decide +kernel
theorem dX7_take_1 : decode cX7_take 1 = .ok (.getfield 10, 3) := by decide +kernel
theorem dX7_take_4 : decode cX7_take 4 = .ok (.iload_n 1, 1) := by decide +kernel
theorem dX7_take_5 : decode cX7_take 5 = .ok (.invokevirtual 90, 3) := by decide +kernel
theorem dX7_take_8 : decode cX7_take 8 = .ok (.istore_n 2, 1) := by decide +kernel
theorem dX7_take_9 : decode cX7_take 9 = .ok (.iload_n 2, 1) := by decide +kernel
theorem dX7_take_10 : decode cX7_take 10 = .ok (.ifCond .ge 10, 3) := by decide +kernel
theorem dX7_take_13 : decode cX7_take 13 = .ok (.aload_n 0, 1) := by decide +kernel
theorem dX7_take_14 : decode cX7_take 14 = .ok (.ldc 68, 2) := by decide +kernel
theorem dX7_take_16 : decode cX7_take 16 = .ok (.invokevirtual 69, 3) := by decide +kernel
theorem dX7_take_19 : decode cX7_take 19 = .ok (.ireturn, 1) := by decide +kernel
theorem dX7_take_20 : decode cX7_take 20 = .ok (.aload_n 0, 1) := by decide +kernel
theorem dX7_take_21 : decode cX7_take 21 = .ok (.getfield 19, 3) := by decide +kernel
theorem dX7_take_24 : decode cX7_take 24 = .ok (.aload_n 0, 1) := by decide +kernel
theorem dX7_take_25 : decode cX7_take 25 = .ok (.getfield 10, 3) := by decide +kernel
theorem dX7_take_28 : decode cX7_take 28 = .ok (.invokevirtual 82, 3) := by decide +kernel
theorem dX7_take_31 : decode cX7_take 31 = .ok (.aload_n 0, 1) := by decide +kernel
theorem dX7_take_32 : decode cX7_take 32 = .ok (.getfield 10, 3) := by decide +kernel
theorem dX7_take_35 : decode cX7_take 35 = .ok (.iload_n 2, 1) := by decide +kernel
theorem dX7_take_36 : decode cX7_take 36 = .ok (.invokevirtual 93, 3) := by decide +kernel
theorem dX7_take_39 : decode cX7_take 39 = .ok (.ireturn, 1) := by decide +kernel
theorem dX7_move_0 : decode cX7_move 0 = .ok (.aload_n 0, 1) := by decide +kernel
theorem dX7_move_1 : decode cX7_move 1 = .ok (.getfield 10, 3) := by decide +kernel
theorem dX7_move_4 : decode cX7_move 4 = .ok (.iload_n 1, 1) := by decide +kernel
theorem dX7_move_5 : decode cX7_move 5 = .ok (.invokevirtual 90, 3) := by decide +kernel
theorem dX7_move_8 : decode cX7_move 8 = .ok (.istore 4, 2) := by decide +kernel
theorem dX7_move_10 : decode cX7_move 10 = .ok (.iload 4, 2) := by decide +kernel
theorem dX7_move_12 : decode cX7_move 12 = .ok (.ifCond .lt 11, 3) := by decide +kernel
theorem dX7_move_15 : decode cX7_move 15 = .ok (.iload_n 2, 1) := by decide +kernel
theorem dX7_move_16 : decode cX7_move 16 = .ok (.iload_n 3, 1) := by decide +kernel
theorem dX7_move_17 : decode cX7_move 17 = .ok (.invokestatic 64, 3) := by decide +kernel
theorem dX7_move_20 : decode cX7_move 20 = .ok (.ifCond .ne 10, 3) := by decide +kernel
theorem dX7_move_23 : decode cX7_move 23 = .ok (.aload_n 0, 1) := by decide +kernel
theorem dX7_move_24 : decode cX7_move 24 = .ok (.ldc 68, 2) := by decide +kernel
theorem dX7_move_26 : decode cX7_move 26 = .ok (.invokevirtual 69, 3) := by decide +kernel
theorem dX7_move_29 : decode cX7_move 29 = .ok (.ireturn, 1) := by decide +kernel
theorem dX7_move_30 : decode cX7_move 30 = .ok (.aload_n 0, 1) := by decide +kernel
theorem dX7_move_31 : decode cX7_move 31 = .ok (.getfield 10, 3) := by decide +kernel
theorem dX7_move_34 : decode cX7_move 34 = .ok (.iconst 1, 1) := by decide +kernel
theorem dX7_move_35 : decode cX7_move 35 = .ok (.invokevirtual 77, 3) := by decide +kernel
theorem dX7_move_38 : decode cX7_move 38 = .ok (.ifCond .ne 10, 3) := by decide +kernel
theorem dX7_move_41 : decode cX7_move 41 = .ok (.aload_n 0, 1) := by decide +kernel
theorem dX7_move_42 : decode cX7_move 42 = .ok (.ldc 81, 2) := by decide +kernel
theorem dX7_move_44 : decode cX7_move 44 = .ok (.invokevirtual 69, 3) := by decide +kernel
theorem dX7_move_47 : decode cX7_move 47 = .ok (.ireturn, 1) := by decide +kernel
theorem dX7_move_48 : decode cX7_move 48 = .ok (.aload_n 0, 1) := by decide +kernel
theorem dX7_move_49 : decode cX7_move 49 = .ok (.getfield 19, 3) := by decide +kernel
theorem dX7_move_52 : decode cX7_move 52 = .ok (.aload_n 0, 1) := by decide +kernel
theorem dX7_move_53 : decode cX7_move 53 = .ok (.getfield 10, 3) := by decide +kernel
theorem dX7_move_56 : decode cX7_move 56 = .ok (.invokevirtual 82, 3) := by decide +kernel
theorem dX7_move_59 : decode cX7_move 59 = .ok (.aload_n 0, 1) := by decide +kernel
theorem dX7_move_60 : decode cX7_move 60 = .ok (.getfield 10, 3) := by decide +kernel
theorem dX7_move_63 : decode cX7_move 63 = .ok (.iload 4, 2) := by decide +kernel
theorem dX7_move_65 : decode cX7_move 65 = .ok (.invokevirtual 93, 3) := by decide +kernel
theorem dX7_move_68 : decode cX7_move 68 = .ok (.istore 5, 2) := by decide +kernel
theorem dX7_move_70 : decode cX7_move 70 = .ok (.aload_n 0, 1) := by decide +kernel
theorem dX7_move_71 : decode cX7_move 71 = .ok (.getfield 10, 3) := by decide +kernel
theorem dX7_move_74 : decode cX7_move 74 = .ok (.iload_n 2, 1) := by decide +kernel
theorem dX7_move_75 : decode cX7_move 75 = .ok (.iload_n 3, 1) := by decide +kernel
theorem dX7_move_76 : decode cX7_move 76 = .ok (.iload 5, 2) := by decide +kernel
theorem dX7_move_78 : decode cX7_move 78 = .ok (.invokevirtual 86, 3) := by decide +kernel
theorem dX7_move_81 : decode cX7_move 81 = .ok (.ireturn, 1) := by decide +kernel
theorem dX7_scatter_0 : decode cX7_scatter 0 = .ok (.iload_n 1, 1) := by decide +kernel
theorem dX7_scatter_1 : decode cX7_scatter 1 = .ok (.ifCond .lt 20, 3) := by decide +kernel
theorem dX7_scatter_4 : decode cX7_scatter 4 = .ok (.iload_n 1, 1) := by decide +kernel
theorem dX7_scatter_5 : decode cX7_scatter 5 = .ok (.ldc 96, 2) := by decide +kernel
theorem dX7_scatter_7 : decode cX7_scatter 7 = .ok (.if_icmp .gt 14, 3) := by decide +kernel
theorem dX7_scatter_10 : decode cX7_scatter 10 = .ok (.iload_n 2, 1) := by decide +kernel
theorem dX7_scatter_11 : decode cX7_scatter 11 = .ok (.iconst 1, 1) := by decide +kernel
theorem dX7_scatter_12 : decode cX7_scatter 12 = .ok (.if_icmp .lt 9, 3) := by decide +kernel
theorem dX7_scatter_15 : decode cX7_scatter 15 = .ok (.iload_n 2, 1) := by decide +kernel
theorem dX7_scatter_16 : decode cX7_scatter 16 = .ok (.bipush 30, 2) := by decide +kernel
theorem dX7_scatter_18 : decode cX7_scatter 18 = .ok (.if_icmp .le 10, 3) := by decide +kernel
theorem dX7_scatter_21 : decode cX7_scatter 21 = .ok (.aload_n 0, 1) := by decide +kernel
theorem dX7_scatter_22 : decode cX7_scatter 22 = .ok (.ldc 68, 2) := by decide +kernel
theorem dX7_scatter_24 : decode cX7_scatter 24 = .ok (.invokevirtual 69, 3) := by decide +kernel
theorem dX7_scatter_27 : decode cX7_scatter 27 = .ok (.ireturn, 1) := by decide +kernel
theorem dX7_scatter_28 : decode cX7_scatter 28 = .ok (.aload_n 0, 1) := by decide +kernel
theorem dX7_scatter_29 : decode cX7_scatter 29 = .ok (.getfield 10, 3) := by decide +kernel
theorem dX7_scatter_32 : decode cX7_scatter 32 = .ok (.invokevirtual 73, 3) := by decide +kernel
theorem dX7_scatter_35 : decode cX7_scatter 35 = .ok (.iload_n 2, 1) := by decide +kernel
theorem dX7_scatter_36 : decode cX7_scatter 36 = .ok (.iadd, 1) := by decide +kernel
theorem dX7_scatter_37 : decode cX7_scatter 37 = .ok (.bipush 60, 2) := by decide +kernel
theorem dX7_scatter_39 : decode cX7_scatter 39 = .ok (.if_icmp .gt 14, 3) := by decide +kernel
theorem dX7_scatter_42 : decode cX7_scatter 42 = .ok (.aload_n 0, 1) := by decide +kernel
theorem dX7_scatter_43 : decode cX7_scatter 43 = .ok (.getfield 10, 3) := by decide +kernel
theorem dX7_scatter_46 : decode cX7_scatter 46 = .ok (.iload_n 2, 1) := by decide +kernel
theorem dX7_scatter_47 : decode cX7_scatter 47 = .ok (.invokevirtual 77, 3) := by decide +kernel
theorem dX7_scatter_50 : decode cX7_scatter 50 = .ok (.ifCond .ne 10, 3) := by decide +kernel
theorem dX7_scatter_53 : decode cX7_scatter 53 = .ok (.aload_n 0, 1) := by decide +kernel
theorem dX7_scatter_54 : decode cX7_scatter 54 = .ok (.ldc 81, 2) := by decide +kernel
theorem dX7_scatter_56 : decode cX7_scatter 56 = .ok (.invokevirtual 69, 3) := by decide +kernel
theorem dX7_scatter_59 : decode cX7_scatter 59 = .ok (.ireturn, 1) := by decide +kernel
theorem dX7_scatter_60 : decode cX7_scatter 60 = .ok (.aload_n 0, 1) := by decide +kernel
theorem dX7_scatter_61 : decode cX7_scatter 61 = .ok (.getfield 19, 3) := by decide +kernel
theorem dX7_scatter_64 : decode cX7_scatter 64 = .ok (.aload_n 0, 1) := by decide +kernel
theorem dX7_scatter_65 : decode cX7_scatter 65 = .ok (.getfield 10, 3) := by decide +kernel
theorem dX7_scatter_68 : decode cX7_scatter 68 = .ok (.invokevirtual 82, 3) := by decide +kernel
theorem dX7_scatter_71 : decode cX7_scatter 71 = .ok (.iload_n 1, 1) := by decide +kernel
theorem dX7_scatter_72 : decode cX7_scatter 72 = .ok (.i2l, 1) := by decide +kernel
theorem dX7_scatter_73 : decode cX7_scatter 73 = .ok (.lstore_n 3, 1) := by decide +kernel
theorem dX7_scatter_74 : decode cX7_scatter 74 = .ok (.iconst 0, 1) := by decide +kernel
theorem dX7_scatter_75 : decode cX7_scatter 75 = .ok (.istore 5, 2) := by decide +kernel
theorem dX7_scatter_77 : decode cX7_scatter 77 = .ok (.iload 5, 2) := by decide +kernel
theorem dX7_scatter_79 : decode cX7_scatter 79 = .ok (.iload_n 2, 1) := by decide +kernel
theorem dX7_scatter_80 : decode cX7_scatter 80 = .ok (.if_icmp .ge 70, 3) := by decide +kernel
theorem dX7_scatter_83 : decode cX7_scatter 83 = .ok (.lload_n 3, 1) := by decide +kernel
theorem dX7_scatter_84 : decode cX7_scatter 84 = .ok (.invokestatic 97, 3) := by decide +kernel
theorem dX7_scatter_87 : decode cX7_scatter 87 = .ok (.lstore_n 3, 1) := by decide +kernel
theorem dX7_scatter_88 : decode cX7_scatter 88 = .ok (.lload_n 3, 1) := by decide +kernel
theorem dX7_scatter_89 : decode cX7_scatter 89 = .ok (.sipush 1001, 3) := by decide +kernel
theorem dX7_scatter_92 : decode cX7_scatter 92 = .ok (.invokestatic 101, 3) := by decide +kernel
theorem dX7_scatter_95 : decode cX7_scatter 95 = .ok (.sipush 500, 3) := by decide +kernel
theorem dX7_scatter_98 : decode cX7_scatter 98 = .ok (.isub, 1) := by decide +kernel
theorem dX7_scatter_99 : decode cX7_scatter 99 = .ok (.istore 6, 2) := by decide +kernel
theorem dX7_scatter_101 : decode cX7_scatter 101 = .ok (.lload_n 3, 1) := by decide +kernel
theorem dX7_scatter_102 : decode cX7_scatter 102 = .ok (.invokestatic 97, 3) := by decide +kernel
theorem dX7_scatter_105 : decode cX7_scatter 105 = .ok (.lstore_n 3, 1) := by decide +kernel
theorem dX7_scatter_106 : decode cX7_scatter 106 = .ok (.lload_n 3, 1) := by decide +kernel
theorem dX7_scatter_107 : decode cX7_scatter 107 = .ok (.sipush 1001, 3) := by decide +kernel
theorem dX7_scatter_110 : decode cX7_scatter 110 = .ok (.invokestatic 101, 3) := by decide +kernel
theorem dX7_scatter_113 : decode cX7_scatter 113 = .ok (.sipush 500, 3) := by decide +kernel
theorem dX7_scatter_116 : decode cX7_scatter 116 = .ok (.isub, 1) := by decide +kernel
theorem dX7_scatter_117 : decode cX7_scatter 117 = .ok (.istore 7, 2) := by decide +kernel
theorem dX7_scatter_119 : decode cX7_scatter 119 = .ok (.lload_n 3, 1) := by decide +kernel
theorem dX7_scatter_120 : decode cX7_scatter 120 = .ok (.invokestatic 97, 3) := by decide +kernel
theorem dX7_scatter_123 : decode cX7_scatter 123 = .ok (.lstore_n 3, 1) := by decide +kernel
theorem dX7_scatter_124 : decode cX7_scatter 124 = .ok (.aload_n 0, 1) := by decide +kernel
theorem dX7_scatter_125 : decode cX7_scatter 125 = .ok (.getfield 10, 3) := by decide +kernel
theorem dX7_scatter_128 : decode cX7_scatter 128 = .ok (.iload 6, 2) := by decide +kernel
theorem dX7_scatter_130 : decode cX7_scatter 130 = .ok (.iload 7, 2) := by decide +kernel
theorem dX7_scatter_132 : decode cX7_scatter 132 = .ok (.iconst 1, 1) := by decide +kernel
theorem dX7_scatter_133 : decode cX7_scatter 133 = .ok (.lload_n 3, 1) := by decide +kernel
theorem dX7_scatter_134 : decode cX7_scatter 134 = .ok (.bipush 100, 2) := by decide +kernel
theorem dX7_scatter_136 : decode cX7_scatter 136 = .ok (.invokestatic 101, 3) := by decide +kernel
theorem dX7_scatter_139 : decode cX7_scatter 139 = .ok (.iadd, 1) := by decide +kernel
theorem dX7_scatter_140 : decode cX7_scatter 140 = .ok (.invokevirtual 86, 3) := by decide +kernel
theorem dX7_scatter_143 : decode cX7_scatter 143 = .ok (.pop, 1) := by decide +kernel
theorem dX7_scatter_144 : decode cX7_scatter 144 = .ok (.iinc 5 1, 3) := by decide +kernel
theorem dX7_scatter_147 : decode cX7_scatter 147 = .ok (.goto (-70), 3) := by decide +kernel
theorem dX7_scatter_150 : decode cX7_scatter 150 = .ok (.aload_n 0, 1) := by decide +kernel
theorem dX7_scatter_151 : decode cX7_scatter 151 = .ok (.getfield 10, 3) := by decide +kernel
theorem dX7_scatter_154 : decode cX7_scatter 154 = .ok (.invokevirtual 73, 3) := by decide +kernel
theorem dX7_scatter_157 : decode cX7_scatter 157 = .ok (.ireturn, 1) := by decide +kernel
theorem dX7_sweep_0 : decode cX7_sweep 0 = .ok (.iload_n 1, 1) := by decide +kernel
theorem dX7_sweep_1 : decode cX7_sweep 1 = .ok (.iload_n 2, 1) := by decide +kernel
theorem dX7_sweep_2 : decode cX7_sweep 2 = .ok (.iload_n 3, 1) := by decide +kernel
theorem dX7_sweep_3 : decode cX7_sweep 3 = .ok (.iload 4, 2) := by decide +kernel
theorem dX7_sweep_5 : decode cX7_sweep 5 = .ok (.invokestatic 105, 3) := by decide +kernel
theorem dX7_sweep_8 : decode cX7_sweep 8 = .ok (.ifCond .ne 10, 3) := by decide +kernel
theorem dX7_sweep_11 : decode cX7_sweep 11 = .ok (.aload_n 0, 1) := by decide +kernel
theorem dX7_sweep_12 : decode cX7_sweep 12 = .ok (.ldc 68, 2) := by decide +kernel
theorem dX7_sweep_14 : decode cX7_sweep 14 = .ok (.invokevirtual 69, 3) := by decide +kernel
theorem dX7_sweep_17 : decode cX7_sweep 17 = .ok (.ireturn, 1) := by decide +kernel
theorem dX7_sweep_18 : decode cX7_sweep 18 = .ok (.aload_n 0, 1) := by decide +kernel
theorem dX7_sweep_19 : decode cX7_sweep 19 = .ok (.iload_n 1, 1) := by decide +kernel
theorem dX7_sweep_20 : decode cX7_sweep 20 = .ok (.iload_n 2, 1) := by decide +kernel
theorem dX7_sweep_21 : decode cX7_sweep 21 = .ok (.iload_n 3, 1) := by decide +kernel
theorem dX7_sweep_22 : decode cX7_sweep 22 = .ok (.iload 4, 2) := by decide +kernel
theorem dX7_sweep_24 : decode cX7_sweep 24 = .ok (.invokevirtual 109, 3) := by decide +kernel
theorem dX7_sweep_27 : decode cX7_sweep 27 = .ok (.aload_n 0, 1) := by decide +kernel
theorem dX7_sweep_28 : decode cX7_sweep 28 = .ok (.invokevirtual 113, 3) := by decide +kernel
theorem dX7_sweep_31 : decode cX7_sweep 31 = .ok (.ireturn, 1) := by decide +kernel
theorem dX7_counter_0 : decode cX7_counter 0 = .ok (.iload_n 1, 1) := by decide +kernel
theorem dX7_counter_1 : decode cX7_counter 1 = .ok (.ifCond .lt 8, 3) := by decide +kernel
theorem dX7_counter_4 : decode cX7_counter 4 = .ok (.iload_n 1, 1) := by decide +kernel
theorem dX7_counter_5 : decode cX7_counter 5 = .ok (.iconst 5, 1) := by decide +kernel
theorem dX7_counter_6 : decode cX7_counter 6 = .ok (.if_icmp .le 10, 3) := by decide +kernel
theorem dX7_counter_9 : decode cX7_counter 9 = .ok (.aload_n 0, 1) := by decide +kernel
theorem dX7_counter_10 : decode cX7_counter 10 = .ok (.ldc 68, 2) := by decide +kernel
theorem dX7_counter_12 : decode cX7_counter 12 = .ok (.invokevirtual 69, 3) := by decide +kernel
theorem dX7_counter_15 : decode cX7_counter 15 = .ok (.ireturn, 1) := by decide +kernel
theorem dX7_counter_16 : decode cX7_counter 16 = .ok (.aload_n 0, 1) := by decide +kernel
theorem dX7_counter_17 : decode cX7_counter 17 = .ok (.getfield 19, 3) := by decide +kernel
theorem dX7_counter_20 : decode cX7_counter 20 = .ok (.aload_n 0, 1) := by decide +kernel
theorem dX7_counter_21 : decode cX7_counter 21 = .ok (.getfield 10, 3) := by decide +kernel
theorem dX7_counter_24 : decode cX7_counter 24 = .ok (.invokevirtual 82, 3) := by decide +kernel
theorem dX7_counter_27 : decode cX7_counter 27 = .ok (.aload_n 0, 1) := by decide +kernel
theorem dX7_counter_28 : decode cX7_counter 28 = .ok (.getfield 10, 3) := by decide +kernel
theorem dX7_counter_31 : decode cX7_counter 31 = .ok (.getfield 116, 3) := by decide +kernel
theorem dX7_counter_34 : decode cX7_counter 34 = .ok (.istore_n 2, 1) := by decide +kernel
theorem dX7_counter_35 : decode cX7_counter 35 = .ok (.aload_n 0, 1) := by decide +kernel
theorem dX7_counter_36 : decode cX7_counter 36 = .ok (.getfield 10, 3) := by decide +kernel
theorem dX7_counter_39 : decode cX7_counter 39 = .ok (.iload_n 1, 1) := by decide +kernel
theorem dX7_counter_40 : decode cX7_counter 40 = .ok (.putfield 116, 3) := by decide +kernel
theorem dX7_counter_43 : decode cX7_counter 43 = .ok (.iload_n 2, 1) := by decide +kernel
theorem dX7_counter_44 : decode cX7_counter 44 = .ok (.ireturn, 1) := by decide +kernel
theorem dX7_undo_0 : decode cX7_undo 0 = .ok (.aload_n 0, 1) := by decide +kernel
theorem dX7_undo_1 : decode cX7_undo 1 = .ok (.getfield 19, 3) := by decide +kernel
theorem dX7_undo_4 : decode cX7_undo 4 = .ok (.getfield 120, 3) := by decide +kernel
theorem dX7_undo_7 : decode cX7_undo 7 = .ok (.ifCond .ne 10, 3) := by decide +kernel
theorem dX7_undo_10 : decode cX7_undo 10 = .ok (.aload_n 0, 1) := by decide +kernel
theorem dX7_undo_11 : decode cX7_undo 11 = .ok (.ldc 123, 2) := by decide +kernel
theorem dX7_undo_13 : decode cX7_undo 13 = .ok (.invokevirtual 69, 3) := by decide +kernel
theorem dX7_undo_16 : decode cX7_undo 16 = .ok (.ireturn, 1) := by decide +kernel
theorem dX7_undo_17 : decode cX7_undo 17 = .ok (.aload_n 0, 1) := by decide +kernel
theorem dX7_undo_18 : decode cX7_undo 18 = .ok (.getfield 19, 3) := by decide +kernel
theorem dX7_undo_21 : decode cX7_undo 21 = .ok (.aload_n 0, 1) := by decide +kernel
theorem dX7_undo_22 : decode cX7_undo 22 = .ok (.getfield 10, 3) := by decide +kernel
theorem dX7_undo_25 : decode cX7_undo 25 = .ok (.invokevirtual 124, 3) := by decide +kernel
theorem dX7_undo_28 : decode cX7_undo 28 = .ok (.aload_n 0, 1) := by decide +kernel
theorem dX7_undo_29 : decode cX7_undo 29 = .ok (.getfield 19, 3) := by decide +kernel
theorem dX7_undo_32 : decode cX7_undo 32 = .ok (.getfield 120, 3) := by decide +kernel
theorem dX7_undo_35 : decode cX7_undo 35 = .ok (.ireturn, 1) := by decide +kernel
theorem dX7_of_0 : decode cX7_of 0 = .ok (.aload_n 0, 1) := by decide +kernel
theorem dX7_of_1 : decode cX7_of 1 = .ok (.getfield 10, 3) := by decide +kernel
theorem dX7_of_4 : decode cX7_of 4 = .ok (.iload_n 1, 1) := by decide +kernel
theorem dX7_of_5 : decode cX7_of 5 = .ok (.invokevirtual 90, 3) := by decide +kernel
theorem dX7_of_8 : decode cX7_of 8 = .ok (.istore_n 3, 1) := by decide +kernel
theorem dX7_of_9 : decode cX7_of 9 = .ok (.iload_n 3, 1) := by decide +kernel
end
section
theorem dX7_of_10 : decode cX7_of 10 = .ok (.ifCond .lt 12, 3) := by decide +kernel
theorem dX7_of_13 : decode cX7_of 13 = .ok (.iload_n 2, 1) := by decide +kernel
theorem dX7_of_14 : decode cX7_of 14 = .ok (.ifCond .lt 8, 3) := by decide +kernel
theorem dX7_of_17 : decode cX7_of 17 = .ok (.iload_n 2, 1) := by decide +kernel
theorem dX7_of_18 : decode cX7_of 18 = .ok (.iconst 3, 1) := by decide +kernel
theorem dX7_of_19 : decode cX7_of 19 = .ok (.if_icmp .le 10, 3) := by decide +kernel
theorem dX7_of_22 : decode cX7_of 22 = .ok (.aload_n 0, 1) := by decide +kernel
theorem dX7_of_23 : decode cX7_of 23 = .ok (.ldc 68, 2) := by decide +kernel
theorem dX7_of_25 : decode cX7_of 25 = .ok (.invokevirtual 69, 3) := by decide +kernel
theorem dX7_of_28 : decode cX7_of 28 = .ok (.ireturn, 1) := by decide +kernel
theorem dX7_of_29 : decode cX7_of 29 = .ok (.iload_n 2, 1) := by decide +kernel
theorem dX7_of_30 : decode cX7_of 30 = .ok (.tableswitch 56 0 2 #[26, 36, 46], 26) := by decide +kernel
theorem dX7_of_56 : decode cX7_of 56 = .ok (.aload_n 0, 1) := by decide +kernel
theorem dX7_of_57 : decode cX7_of 57 = .ok (.getfield 10, 3) := by decide +kernel
theorem dX7_of_60 : decode cX7_of 60 = .ok (.getfield 127, 3) := by decide +kernel
theorem dX7_of_63 : decode cX7_of 63 = .ok (.iload_n 3, 1) := by decide +kernel
theorem dX7_of_64 : decode cX7_of 64 = .ok (.iaload, 1) := by decide +kernel
theorem dX7_of_65 : decode cX7_of 65 = .ok (.ireturn, 1) := by decide +kernel
theorem dX7_of_66 : decode cX7_of 66 = .ok (.aload_n 0, 1) := by decide +kernel
theorem dX7_of_67 : decode cX7_of 67 = .ok (.getfield 10, 3) := by decide +kernel
theorem dX7_of_70 : decode cX7_of 70 = .ok (.getfield 131, 3) := by decide +kernel
theorem dX7_of_73 : decode cX7_of 73 = .ok (.iload_n 3, 1) := by decide +kernel
theorem dX7_of_74 : decode cX7_of 74 = .ok (.iaload, 1) := by decide +kernel
theorem dX7_of_75 : decode cX7_of 75 = .ok (.ireturn, 1) := by decide +kernel
theorem dX7_of_76 : decode cX7_of 76 = .ok (.aload_n 0, 1) := by decide +kernel
theorem dX7_of_77 : decode cX7_of 77 = .ok (.getfield 10, 3) := by decide +kernel
theorem dX7_of_80 : decode cX7_of 80 = .ok (.getfield 134, 3) := by decide +kernel
theorem dX7_of_83 : decode cX7_of 83 = .ok (.iload_n 3, 1) := by decide +kernel
theorem dX7_of_84 : decode cX7_of 84 = .ok (.iaload, 1) := by decide +kernel
theorem dX7_of_85 : decode cX7_of 85 = .ok (.ireturn, 1) := by decide +kernel
theorem dX7_of_86 : decode cX7_of 86 = .ok (.aload_n 0, 1) := by decide +kernel
theorem dX7_of_87 : decode cX7_of 87 = .ok (.getfield 10, 3) := by decide +kernel
theorem dX7_of_90 : decode cX7_of 90 = .ok (.iload_n 3, 1) := by decide +kernel
theorem dX7_of_91 : decode cX7_of 91 = .ok (.invokevirtual 137, 3) := by decide +kernel
theorem dX7_of_94 : decode cX7_of 94 = .ok (.ireturn, 1) := by decide +kernel
theorem dX7_nth_0 : decode cX7_nth 0 = .ok (.iload_n 1, 1) := by decide +kernel
theorem dX7_nth_1 : decode cX7_nth 1 = .ok (.ifCond .ge 10, 3) := by decide +kernel
theorem dX7_nth_4 : decode cX7_nth 4 = .ok (.aload_n 0, 1) := by decide +kernel
theorem dX7_nth_5 : decode cX7_nth 5 = .ok (.ldc 68, 2) := by decide +kernel
theorem dX7_nth_7 : decode cX7_nth 7 = .ok (.invokevirtual 69, 3) := by decide +kernel
theorem dX7_nth_10 : decode cX7_nth 10 = .ok (.ireturn, 1) := by decide +kernel
theorem dX7_nth_11 : decode cX7_nth 11 = .ok (.aload_n 0, 1) := by decide +kernel
theorem dX7_nth_12 : decode cX7_nth 12 = .ok (.getfield 26, 3) := by decide +kernel
theorem dX7_nth_15 : decode cX7_nth 15 = .ok (.aload_n 0, 1) := by decide +kernel
theorem dX7_nth_16 : decode cX7_nth 16 = .ok (.getfield 10, 3) := by decide +kernel
theorem dX7_nth_19 : decode cX7_nth 19 = .ok (.invokevirtual 140, 3) := by decide +kernel
theorem dX7_nth_22 : decode cX7_nth 22 = .ok (.aload_n 0, 1) := by decide +kernel
theorem dX7_nth_23 : decode cX7_nth 23 = .ok (.getfield 26, 3) := by decide +kernel
theorem dX7_nth_26 : decode cX7_nth 26 = .ok (.aload_n 0, 1) := by decide +kernel
theorem dX7_nth_27 : decode cX7_nth 27 = .ok (.getfield 10, 3) := by decide +kernel
theorem dX7_nth_30 : decode cX7_nth 30 = .ok (.iload_n 1, 1) := by decide +kernel
theorem dX7_nth_31 : decode cX7_nth 31 = .ok (.invokevirtual 143, 3) := by decide +kernel
theorem dX7_nth_34 : decode cX7_nth 34 = .ok (.ireturn, 1) := by decide +kernel
theorem dX7_count_0 : decode cX7_count 0 = .ok (.iload_n 1, 1) := by decide +kernel
theorem dX7_count_1 : decode cX7_count 1 = .ok (.iload_n 2, 1) := by decide +kernel
theorem dX7_count_2 : decode cX7_count 2 = .ok (.iload_n 3, 1) := by decide +kernel
theorem dX7_count_3 : decode cX7_count 3 = .ok (.iload 4, 2) := by decide +kernel
theorem dX7_count_5 : decode cX7_count 5 = .ok (.invokestatic 105, 3) := by decide +kernel
theorem dX7_count_8 : decode cX7_count 8 = .ok (.ifCond .ne 10, 3) := by decide +kernel
theorem dX7_count_11 : decode cX7_count 11 = .ok (.aload_n 0, 1) := by decide +kernel
theorem dX7_count_12 : decode cX7_count 12 = .ok (.ldc 68, 2) := by decide +kernel
theorem dX7_count_14 : decode cX7_count 14 = .ok (.invokevirtual 69, 3) := by decide +kernel
theorem dX7_count_17 : decode cX7_count 17 = .ok (.ireturn, 1) := by decide +kernel
theorem dX7_count_18 : decode cX7_count 18 = .ok (.aload_n 0, 1) := by decide +kernel
theorem dX7_count_19 : decode cX7_count 19 = .ok (.dup, 1) := by decide +kernel
theorem dX7_count_20 : decode cX7_count 20 = .ok (.getfield 147, 3) := by decide +kernel
theorem dX7_count_23 : decode cX7_count 23 = .ok (.aload_n 0, 1) := by decide +kernel
theorem dX7_count_24 : decode cX7_count 24 = .ok (.getfield 10, 3) := by decide +kernel
theorem dX7_count_27 : decode cX7_count 27 = .ok (.invokevirtual 150, 3) := by decide +kernel
theorem dX7_count_30 : decode cX7_count 30 = .ok (.iadd, 1) := by decide +kernel
theorem dX7_count_31 : decode cX7_count 31 = .ok (.putfield 147, 3) := by decide +kernel
theorem dX7_count_34 : decode cX7_count 34 = .ok (.aload_n 0, 1) := by decide +kernel
theorem dX7_count_35 : decode cX7_count 35 = .ok (.iload_n 1, 1) := by decide +kernel
theorem dX7_count_36 : decode cX7_count 36 = .ok (.iload_n 2, 1) := by decide +kernel
theorem dX7_count_37 : decode cX7_count 37 = .ok (.iload_n 3, 1) := by decide +kernel
theorem dX7_count_38 : decode cX7_count 38 = .ok (.iload 4, 2) := by decide +kernel
theorem dX7_count_40 : decode cX7_count 40 = .ok (.invokevirtual 109, 3) := by decide +kernel
theorem dX7_count_43 : decode cX7_count 43 = .ok (.aload_n 0, 1) := by decide +kernel
theorem dX7_count_44 : decode cX7_count 44 = .ok (.getfield 26, 3) := by decide +kernel
theorem dX7_count_47 : decode cX7_count 47 = .ok (.aload_n 0, 1) := by decide +kernel
theorem dX7_count_48 : decode cX7_count 48 = .ok (.getfield 10, 3) := by decide +kernel
theorem dX7_count_51 : decode cX7_count 51 = .ok (.invokevirtual 153, 3) := by decide +kernel
theorem dX7_count_54 : decode cX7_count 54 = .ok (.ireturn, 1) := by decide +kernel
theorem dX7_many_0 : decode cX7_many 0 = .ok (.iload_n 1, 1) := by decide +kernel
theorem dX7_many_1 : decode cX7_many 1 = .ok (.iload_n 2, 1) := by decide +kernel
theorem dX7_many_2 : decode cX7_many 2 = .ok (.iload_n 3, 1) := by decide +kernel
theorem dX7_many_3 : decode cX7_many 3 = .ok (.iload 4, 2) := by decide +kernel
theorem dX7_many_5 : decode cX7_many 5 = .ok (.invokestatic 105, 3) := by decide +kernel
theorem dX7_many_8 : decode cX7_many 8 = .ok (.ifCond .ne 10, 3) := by decide +kernel
theorem dX7_many_11 : decode cX7_many 11 = .ok (.aload_n 0, 1) := by decide +kernel
theorem dX7_many_12 : decode cX7_many 12 = .ok (.ldc 68, 2) := by decide +kernel
theorem dX7_many_14 : decode cX7_many 14 = .ok (.invokevirtual 69, 3) := by decide +kernel
theorem dX7_many_17 : decode cX7_many 17 = .ok (.ireturn, 1) := by decide +kernel
theorem dX7_many_18 : decode cX7_many 18 = .ok (.aload_n 0, 1) := by decide +kernel
theorem dX7_many_19 : decode cX7_many 19 = .ok (.iload_n 1, 1) := by decide +kernel
theorem dX7_many_20 : decode cX7_many 20 = .ok (.iload_n 2, 1) := by decide +kernel
theorem dX7_many_21 : decode cX7_many 21 = .ok (.iload_n 3, 1) := by decide +kernel
theorem dX7_many_22 : decode cX7_many 22 = .ok (.iload 4, 2) := by decide +kernel
theorem dX7_many_24 : decode cX7_many 24 = .ok (.invokevirtual 109, 3) := by decide +kernel
theorem dX7_many_27 : decode cX7_many 27 = .ok (.aload_n 0, 1) := by decide +kernel
theorem dX7_many_28 : decode cX7_many 28 = .ok (.getfield 26, 3) := by decide +kernel
theorem dX7_many_31 : decode cX7_many 31 = .ok (.getfield 157, 3) := by decide +kernel
theorem dX7_many_34 : decode cX7_many 34 = .ok (.ireturn, 1) := by decide +kernel
theorem dX7_kth_0 : decode cX7_kth 0 = .ok (.iload_n 1, 1) := by decide +kernel
theorem dX7_kth_1 : decode cX7_kth 1 = .ok (.iload_n 2, 1) := by decide +kernel
theorem dX7_kth_2 : decode cX7_kth 2 = .ok (.iload_n 3, 1) := by decide +kernel
theorem dX7_kth_3 : decode cX7_kth 3 = .ok (.iload 4, 2) := by decide +kernel
theorem dX7_kth_5 : decode cX7_kth 5 = .ok (.invokestatic 105, 3) := by decide +kernel
theorem dX7_kth_8 : decode cX7_kth 8 = .ok (.ifCond .eq 8, 3) := by decide +kernel
theorem dX7_kth_11 : decode cX7_kth 11 = .ok (.iload 5, 2) := by decide +kernel
theorem dX7_kth_13 : decode cX7_kth 13 = .ok (.ifCond .ge 10, 3) := by decide +kernel
theorem dX7_kth_16 : decode cX7_kth 16 = .ok (.aload_n 0, 1) := by decide +kernel
theorem dX7_kth_17 : decode cX7_kth 17 = .ok (.ldc 68, 2) := by decide +kernel
theorem dX7_kth_19 : decode cX7_kth 19 = .ok (.invokevirtual 69, 3) := by decide +kernel
theorem dX7_kth_22 : decode cX7_kth 22 = .ok (.ireturn, 1) := by decide +kernel
theorem dX7_kth_23 : decode cX7_kth 23 = .ok (.aload_n 0, 1) := by decide +kernel
theorem dX7_kth_24 : decode cX7_kth 24 = .ok (.iload_n 1, 1) := by decide +kernel
theorem dX7_kth_25 : decode cX7_kth 25 = .ok (.iload_n 2, 1) := by decide +kernel
theorem dX7_kth_26 : decode cX7_kth 26 = .ok (.iload_n 3, 1) := by decide +kernel
theorem dX7_kth_27 : decode cX7_kth 27 = .ok (.iload 4, 2) := by decide +kernel
theorem dX7_kth_29 : decode cX7_kth 29 = .ok (.invokevirtual 109, 3) := by decide +kernel
theorem dX7_kth_32 : decode cX7_kth 32 = .ok (.aload_n 0, 1) := by decide +kernel
theorem dX7_kth_33 : decode cX7_kth 33 = .ok (.getfield 26, 3) := by decide +kernel
theorem dX7_kth_36 : decode cX7_kth 36 = .ok (.aload_n 0, 1) := by decide +kernel
theorem dX7_kth_37 : decode cX7_kth 37 = .ok (.getfield 10, 3) := by decide +kernel
theorem dX7_kth_40 : decode cX7_kth 40 = .ok (.invokevirtual 160, 3) := by decide +kernel
theorem dX7_kth_43 : decode cX7_kth 43 = .ok (.aload_n 0, 1) := by decide +kernel
theorem dX7_kth_44 : decode cX7_kth 44 = .ok (.getfield 26, 3) := by decide +kernel
theorem dX7_kth_47 : decode cX7_kth 47 = .ok (.aload_n 0, 1) := by decide +kernel
theorem dX7_kth_48 : decode cX7_kth 48 = .ok (.getfield 10, 3) := by decide +kernel
theorem dX7_kth_51 : decode cX7_kth 51 = .ok (.iload 5, 2) := by decide +kernel
theorem dX7_kth_53 : decode cX7_kth 53 = .ok (.invokevirtual 143, 3) := by decide +kernel
theorem dX7_kth_56 : decode cX7_kth 56 = .ok (.ireturn, 1) := by decide +kernel
theorem dX7_half_0 : decode cX7_half 0 = .ok (.iload_n 1, 1) := by decide +kernel
theorem dX7_half_1 : decode cX7_half 1 = .ok (.iload_n 2, 1) := by decide +kernel
theorem dX7_half_2 : decode cX7_half 2 = .ok (.iload_n 3, 1) := by decide +kernel
theorem dX7_half_3 : decode cX7_half 3 = .ok (.iload 4, 2) := by decide +kernel
theorem dX7_half_5 : decode cX7_half 5 = .ok (.invokestatic 105, 3) := by decide +kernel
theorem dX7_half_8 : decode cX7_half 8 = .ok (.ifCond .ne 10, 3) := by decide +kernel
theorem dX7_half_11 : decode cX7_half 11 = .ok (.aload_n 0, 1) := by decide +kernel
theorem dX7_half_12 : decode cX7_half 12 = .ok (.ldc 68, 2) := by decide +kernel
theorem dX7_half_14 : decode cX7_half 14 = .ok (.invokevirtual 69, 3) := by decide +kernel
theorem dX7_half_17 : decode cX7_half 17 = .ok (.ireturn, 1) := by decide +kernel
theorem dX7_half_18 : decode cX7_half 18 = .ok (.aload_n 0, 1) := by decide +kernel
theorem dX7_half_19 : decode cX7_half 19 = .ok (.iload_n 1, 1) := by decide +kernel
theorem dX7_half_20 : decode cX7_half 20 = .ok (.iload_n 2, 1) := by decide +kernel
theorem dX7_half_21 : decode cX7_half 21 = .ok (.iload_n 3, 1) := by decide +kernel
theorem dX7_half_22 : decode cX7_half 22 = .ok (.iload 4, 2) := by decide +kernel
theorem dX7_half_24 : decode cX7_half 24 = .ok (.invokevirtual 109, 3) := by decide +kernel
theorem dX7_half_27 : decode cX7_half 27 = .ok (.aload_n 0, 1) := by decide +kernel
theorem dX7_half_28 : decode cX7_half 28 = .ok (.getfield 26, 3) := by decide +kernel
theorem dX7_half_31 : decode cX7_half 31 = .ok (.getfield 157, 3) := by decide +kernel
theorem dX7_half_34 : decode cX7_half 34 = .ok (.ifCond .ne 6, 3) := by decide +kernel
theorem dX7_half_37 : decode cX7_half 37 = .ok (.ldc 163, 2) := by decide +kernel
theorem dX7_half_39 : decode cX7_half 39 = .ok (.ireturn, 1) := by decide +kernel
theorem dX7_half_40 : decode cX7_half 40 = .ok (.aload_n 0, 1) := by decide +kernel
theorem dX7_half_41 : decode cX7_half 41 = .ok (.getfield 26, 3) := by decide +kernel
theorem dX7_half_44 : decode cX7_half 44 = .ok (.aload_n 0, 1) := by decide +kernel
theorem dX7_half_45 : decode cX7_half 45 = .ok (.getfield 10, 3) := by decide +kernel
theorem dX7_half_48 : decode cX7_half 48 = .ok (.invokevirtual 160, 3) := by decide +kernel
theorem dX7_half_51 : decode cX7_half 51 = .ok (.aload_n 0, 1) := by decide +kernel
theorem dX7_half_52 : decode cX7_half 52 = .ok (.getfield 26, 3) := by decide +kernel
theorem dX7_half_55 : decode cX7_half 55 = .ok (.getfield 157, 3) := by decide +kernel
theorem dX7_half_58 : decode cX7_half 58 = .ok (.iconst 1, 1) := by decide +kernel
theorem dX7_half_59 : decode cX7_half 59 = .ok (.iadd, 1) := by decide +kernel
theorem dX7_half_60 : decode cX7_half 60 = .ok (.iconst 2, 1) := by decide +kernel
theorem dX7_half_61 : decode cX7_half 61 = .ok (.idiv, 1) := by decide +kernel
theorem dX7_half_62 : decode cX7_half 62 = .ok (.istore 5, 2) := by decide +kernel
theorem dX7_half_64 : decode cX7_half 64 = .ok (.aload_n 0, 1) := by decide +kernel
theorem dX7_half_65 : decode cX7_half 65 = .ok (.getfield 10, 3) := by decide +kernel
theorem dX7_half_68 : decode cX7_half 68 = .ok (.getfield 127, 3) := by decide +kernel
theorem dX7_half_71 : decode cX7_half 71 = .ok (.aload_n 0, 1) := by decide +kernel
theorem dX7_half_72 : decode cX7_half 72 = .ok (.getfield 26, 3) := by decide +kernel
theorem dX7_half_75 : decode cX7_half 75 = .ok (.getfield 164, 3) := by decide +kernel
theorem dX7_half_78 : decode cX7_half 78 = .ok (.iload 5, 2) := by decide +kernel
theorem dX7_half_80 : decode cX7_half 80 = .ok (.iconst 1, 1) := by decide +kernel
theorem dX7_half_81 : decode cX7_half 81 = .ok (.isub, 1) := by decide +kernel
theorem dX7_half_82 : decode cX7_half 82 = .ok (.iaload, 1) := by decide +kernel
theorem dX7_half_83 : decode cX7_half 83 = .ok (.iaload, 1) := by decide +kernel
theorem dX7_half_84 : decode cX7_half 84 = .ok (.ireturn, 1) := by decide +kernel
theorem dX7_below_0 : decode cX7_below 0 = .ok (.iload_n 1, 1) := by decide +kernel
theorem dX7_below_1 : decode cX7_below 1 = .ok (.iload_n 2, 1) := by decide +kernel
theorem dX7_below_2 : decode cX7_below 2 = .ok (.invokestatic 64, 3) := by decide +kernel
theorem dX7_below_5 : decode cX7_below 5 = .ok (.ifCond .ne 10, 3) := by decide +kernel
theorem dX7_below_8 : decode cX7_below 8 = .ok (.aload_n 0, 1) := by decide +kernel
theorem dX7_below_9 : decode cX7_below 9 = .ok (.ldc 68, 2) := by decide +kernel
theorem dX7_below_11 : decode cX7_below 11 = .ok (.invokevirtual 69, 3) := by decide +kernel
theorem dX7_below_14 : decode cX7_below 14 = .ok (.ireturn, 1) := by decide +kernel
theorem dX7_below_15 : decode cX7_below 15 = .ok (.aload_n 0, 1) := by decide +kernel
theorem dX7_below_16 : decode cX7_below 16 = .ok (.sipush (-500), 3) := by decide +kernel
theorem dX7_below_19 : decode cX7_below 19 = .ok (.iload_n 1, 1) := by decide +kernel
theorem dX7_below_20 : decode cX7_below 20 = .ok (.sipush (-500), 3) := by decide +kernel
theorem dX7_below_23 : decode cX7_below 23 = .ok (.iload_n 2, 1) := by decide +kernel
theorem dX7_below_24 : decode cX7_below 24 = .ok (.invokevirtual 109, 3) := by decide +kernel
theorem dX7_below_27 : decode cX7_below 27 = .ok (.aload_n 0, 1) := by decide +kernel
theorem dX7_below_28 : decode cX7_below 28 = .ok (.getfield 26, 3) := by decide +kernel
theorem dX7_below_31 : decode cX7_below 31 = .ok (.getfield 157, 3) := by decide +kernel
theorem dX7_below_34 : decode cX7_below 34 = .ok (.ireturn, 1) := by decide +kernel
theorem dX7_ring_0 : decode cX7_ring 0 = .ok (.iload_n 1, 1) := by decide +kernel
theorem dX7_ring_1 : decode cX7_ring 1 = .ok (.iload_n 2, 1) := by decide +kernel
theorem dX7_ring_2 : decode cX7_ring 2 = .ok (.invokestatic 64, 3) := by decide +kernel
theorem dX7_ring_5 : decode cX7_ring 5 = .ok (.ifCond .eq 14, 3) := by decide +kernel
theorem dX7_ring_8 : decode cX7_ring 8 = .ok (.iload_n 3, 1) := by decide +kernel
theorem dX7_ring_9 : decode cX7_ring 9 = .ok (.iconst 1, 1) := by decide +kernel
theorem dX7_ring_10 : decode cX7_ring 10 = .ok (.if_icmp .lt 9, 3) := by decide +kernel
theorem dX7_ring_13 : decode cX7_ring 13 = .ok (.iload_n 3, 1) := by decide +kernel
theorem dX7_ring_14 : decode cX7_ring 14 = .ok (.bipush 60, 2) := by decide +kernel
theorem dX7_ring_16 : decode cX7_ring 16 = .ok (.if_icmp .le 10, 3) := by decide +kernel
theorem dX7_ring_19 : decode cX7_ring 19 = .ok (.aload_n 0, 1) := by decide +kernel
theorem dX7_ring_20 : decode cX7_ring 20 = .ok (.ldc 68, 2) := by decide +kernel
theorem dX7_ring_22 : decode cX7_ring 22 = .ok (.invokevirtual 69, 3) := by decide +kernel
theorem dX7_ring_25 : decode cX7_ring 25 = .ok (.ireturn, 1) := by decide +kernel
theorem dX7_ring_26 : decode cX7_ring 26 = .ok (.aload_n 0, 1) := by decide +kernel
theorem dX7_ring_27 : decode cX7_ring 27 = .ok (.getfield 26, 3) := by decide +kernel
theorem dX7_ring_30 : decode cX7_ring 30 = .ok (.aload_n 0, 1) := by decide +kernel
theorem dX7_ring_31 : decode cX7_ring 31 = .ok (.getfield 10, 3) := by decide +kernel
theorem dX7_ring_34 : decode cX7_ring 34 = .ok (.invokevirtual 140, 3) := by decide +kernel
theorem dX7_ring_37 : decode cX7_ring 37 = .ok (.ldc 163, 2) := by decide +kernel
theorem dX7_ring_39 : decode cX7_ring 39 = .ok (.istore 4, 2) := by decide +kernel
theorem dX7_ring_41 : decode cX7_ring 41 = .ok (.iconst 0, 1) := by decide +kernel
theorem dX7_ring_42 : decode cX7_ring 42 = .ok (.istore 5, 2) := by decide +kernel
theorem dX7_ring_44 : decode cX7_ring 44 = .ok (.iload 5, 2) := by decide +kernel
theorem dX7_ring_46 : decode cX7_ring 46 = .ok (.aload_n 0, 1) := by decide +kernel
theorem dX7_ring_47 : decode cX7_ring 47 = .ok (.getfield 26, 3) := by decide +kernel
theorem dX7_ring_50 : decode cX7_ring 50 = .ok (.getfield 157, 3) := by decide +kernel
theorem dX7_ring_53 : decode cX7_ring 53 = .ok (.if_icmp .ge 67, 3) := by decide +kernel
theorem dX7_ring_56 : decode cX7_ring 56 = .ok (.aload_n 0, 1) := by decide +kernel
theorem dX7_ring_57 : decode cX7_ring 57 = .ok (.getfield 10, 3) := by decide +kernel
theorem dX7_ring_60 : decode cX7_ring 60 = .ok (.aload_n 0, 1) := by decide +kernel
theorem dX7_ring_61 : decode cX7_ring 61 = .ok (.getfield 26, 3) := by decide +kernel
theorem dX7_ring_64 : decode cX7_ring 64 = .ok (.getfield 164, 3) := by decide +kernel
theorem dX7_ring_67 : decode cX7_ring 67 = .ok (.iload 5, 2) := by decide +kernel
theorem dX7_ring_69 : decode cX7_ring 69 = .ok (.iaload, 1) := by decide +kernel
theorem dX7_ring_70 : decode cX7_ring 70 = .ok (.iload_n 1, 1) := by decide +kernel
theorem dX7_ring_71 : decode cX7_ring 71 = .ok (.iload_n 2, 1) := by decide +kernel
theorem dX7_ring_72 : decode cX7_ring 72 = .ok (.invokevirtual 167, 3) := by decide +kernel
theorem dX7_ring_75 : decode cX7_ring 75 = .ok (.istore 6, 2) := by decide +kernel
theorem dX7_ring_77 : decode cX7_ring 77 = .ok (.iload 4, 2) := by decide +kernel
theorem dX7_ring_79 : decode cX7_ring 79 = .ok (.ldc 163, 2) := by decide +kernel
theorem dX7_ring_81 : decode cX7_ring 81 = .ok (.if_icmp .eq 10, 3) := by decide +kernel
theorem dX7_ring_84 : decode cX7_ring 84 = .ok (.iload 6, 2) := by decide +kernel
theorem dX7_ring_86 : decode cX7_ring 86 = .ok (.iload 4, 2) := by decide +kernel
theorem dX7_ring_88 : decode cX7_ring 88 = .ok (.if_icmp .ge 26, 3) := by decide +kernel
theorem dX7_ring_91 : decode cX7_ring 91 = .ok (.aload_n 0, 1) := by decide +kernel
theorem dX7_ring_92 : decode cX7_ring 92 = .ok (.getfield 26, 3) := by decide +kernel
theorem dX7_ring_95 : decode cX7_ring 95 = .ok (.aload_n 0, 1) := by decide +kernel
theorem dX7_ring_96 : decode cX7_ring 96 = .ok (.getfield 10, 3) := by decide +kernel
theorem dX7_ring_99 : decode cX7_ring 99 = .ok (.iload_n 1, 1) := by decide +kernel
theorem dX7_ring_100 : decode cX7_ring 100 = .ok (.iload_n 2, 1) := by decide +kernel
theorem dX7_ring_101 : decode cX7_ring 101 = .ok (.iload 6, 2) := by decide +kernel
theorem dX7_ring_103 : decode cX7_ring 103 = .ok (.invokevirtual 170, 3) := by decide +kernel
theorem dX7_ring_106 : decode cX7_ring 106 = .ok (.iload_n 3, 1) := by decide +kernel
theorem dX7_ring_107 : decode cX7_ring 107 = .ok (.if_icmp .lt 7, 3) := by decide +kernel
theorem dX7_ring_110 : decode cX7_ring 110 = .ok (.iload 6, 2) := by decide +kernel
theorem dX7_ring_112 : decode cX7_ring 112 = .ok (.istore 4, 2) := by decide +kernel
theorem dX7_ring_114 : decode cX7_ring 114 = .ok (.iinc 5 1, 3) := by decide +kernel
theorem dX7_ring_117 : decode cX7_ring 117 = .ok (.goto (-73), 3) := by decide +kernel
theorem dX7_ring_120 : decode cX7_ring 120 = .ok (.iload 4, 2) := by decide +kernel
theorem dX7_ring_122 : decode cX7_ring 122 = .ok (.ireturn, 1) := by decide +kernel
theorem dX7_near_0 : decode cX7_near 0 = .ok (.iload_n 1, 1) := by decide +kernel
theorem dX7_near_1 : decode cX7_near 1 = .ok (.iload_n 2, 1) := by decide +kernel
theorem dX7_near_2 : decode cX7_near 2 = .ok (.invokestatic 64, 3) := by decide +kernel
theorem dX7_near_5 : decode cX7_near 5 = .ok (.ifCond .ne 10, 3) := by decide +kernel
theorem dX7_near_8 : decode cX7_near 8 = .ok (.aload_n 0, 1) := by decide +kernel
theorem dX7_near_9 : decode cX7_near 9 = .ok (.ldc 68, 2) := by decide +kernel
theorem dX7_near_11 : decode cX7_near 11 = .ok (.invokevirtual 69, 3) := by decide +kernel
theorem dX7_near_14 : decode cX7_near 14 = .ok (.ireturn, 1) := by decide +kernel
theorem dX7_near_15 : decode cX7_near 15 = .ok (.aload_n 0, 1) := by decide +kernel
theorem dX7_near_16 : decode cX7_near 16 = .ok (.getfield 26, 3) := by decide +kernel
theorem dX7_near_19 : decode cX7_near 19 = .ok (.aload_n 0, 1) := by decide +kernel
theorem dX7_near_20 : decode cX7_near 20 = .ok (.getfield 10, 3) := by decide +kernel
theorem dX7_near_23 : decode cX7_near 23 = .ok (.invokevirtual 140, 3) := by decide +kernel
theorem dX7_near_26 : decode cX7_near 26 = .ok (.ldc 163, 2) := by decide +kernel
theorem dX7_near_28 : decode cX7_near 28 = .ok (.istore_n 3, 1) := by decide +kernel
theorem dX7_near_29 : decode cX7_near 29 = .ok (.sipush 1001, 3) := by decide +kernel
theorem dX7_near_32 : decode cX7_near 32 = .ok (.istore 4, 2) := by decide +kernel
theorem dX7_near_34 : decode cX7_near 34 = .ok (.iconst 0, 1) := by decide +kernel
theorem dX7_near_35 : decode cX7_near 35 = .ok (.istore 5, 2) := by decide +kernel
theorem dX7_near_37 : decode cX7_near 37 = .ok (.iload 5, 2) := by decide +kernel
theorem dX7_near_39 : decode cX7_near 39 = .ok (.aload_n 0, 1) := by decide +kernel
theorem dX7_near_40 : decode cX7_near 40 = .ok (.getfield 26, 3) := by decide +kernel
theorem dX7_near_43 : decode cX7_near 43 = .ok (.getfield 157, 3) := by decide +kernel
theorem dX7_near_46 : decode cX7_near 46 = .ok (.if_icmp .ge 60, 3) := by decide +kernel
theorem dX7_near_49 : decode cX7_near 49 = .ok (.aload_n 0, 1) := by decide +kernel
theorem dX7_near_50 : decode cX7_near 50 = .ok (.getfield 10, 3) := by decide +kernel
theorem dX7_near_53 : decode cX7_near 53 = .ok (.aload_n 0, 1) := by decide +kernel
theorem dX7_near_54 : decode cX7_near 54 = .ok (.getfield 26, 3) := by decide +kernel
theorem dX7_near_57 : decode cX7_near 57 = .ok (.getfield 164, 3) := by decide +kernel
theorem dX7_near_60 : decode cX7_near 60 = .ok (.iload 5, 2) := by decide +kernel
theorem dX7_near_62 : decode cX7_near 62 = .ok (.iaload, 1) := by decide +kernel
theorem dX7_near_63 : decode cX7_near 63 = .ok (.iload_n 1, 1) := by decide +kernel
theorem dX7_near_64 : decode cX7_near 64 = .ok (.iload_n 2, 1) := by decide +kernel
theorem dX7_near_65 : decode cX7_near 65 = .ok (.invokevirtual 167, 3) := by decide +kernel
theorem dX7_near_68 : decode cX7_near 68 = .ok (.istore 6, 2) := by decide +kernel
theorem dX7_near_70 : decode cX7_near 70 = .ok (.iload 6, 2) := by decide +kernel
theorem dX7_near_72 : decode cX7_near 72 = .ok (.iload 4, 2) := by decide +kernel
theorem dX7_near_74 : decode cX7_near 74 = .ok (.if_icmp .ge 26, 3) := by decide +kernel
theorem dX7_near_77 : decode cX7_near 77 = .ok (.iload 6, 2) := by decide +kernel
theorem dX7_near_79 : decode cX7_near 79 = .ok (.istore 4, 2) := by decide +kernel
theorem dX7_near_81 : decode cX7_near 81 = .ok (.aload_n 0, 1) := by decide +kernel
theorem dX7_near_82 : decode cX7_near 82 = .ok (.getfield 10, 3) := by decide +kernel
theorem dX7_near_85 : decode cX7_near 85 = .ok (.getfield 174, 3) := by decide +kernel
theorem dX7_near_88 : decode cX7_near 88 = .ok (.aload_n 0, 1) := by decide +kernel
theorem dX7_near_89 : decode cX7_near 89 = .ok (.getfield 26, 3) := by decide +kernel
theorem dX7_near_92 : decode cX7_near 92 = .ok (.getfield 164, 3) := by decide +kernel
theorem dX7_near_95 : decode cX7_near 95 = .ok (.iload 5, 2) := by decide +kernel
theorem dX7_near_97 : decode cX7_near 97 = .ok (.iaload, 1) := by decide +kernel
theorem dX7_near_98 : decode cX7_near 98 = .ok (.iaload, 1) := by decide +kernel
theorem dX7_near_99 : decode cX7_near 99 = .ok (.istore_n 3, 1) := by decide +kernel
theorem dX7_near_100 : decode cX7_near 100 = .ok (.iinc 5 1, 3) := by decide +kernel
theorem dX7_near_103 : decode cX7_near 103 = .ok (.goto (-66), 3) := by decide +kernel
theorem dX7_near_106 : decode cX7_near 106 = .ok (.iload_n 3, 1) := by decide +kernel
theorem dX7_near_107 : decode cX7_near 107 = .ok (.ireturn, 1) := by decide +kernel
theorem dX7_strip_0 : decode cX7_strip 0 = .ok (.iload_n 1, 1) := by decide +kernel
theorem dX7_strip_1 : decode cX7_strip 1 = .ok (.ifCond .lt 8, 3) := by decide +kernel
theorem dX7_strip_4 : decode cX7_strip 4 = .ok (.iload_n 1, 1) := by decide +kernel
theorem dX7_strip_5 : decode cX7_strip 5 = .ok (.iconst 1, 1) := by decide +kernel
theorem dX7_strip_6 : decode cX7_strip 6 = .ok (.if_icmp .le 10, 3) := by decide +kernel
theorem dX7_strip_9 : decode cX7_strip 9 = .ok (.aload_n 0, 1) := by decide +kernel
theorem dX7_strip_10 : decode cX7_strip 10 = .ok (.ldc 68, 2) := by decide +kernel
theorem dX7_strip_12 : decode cX7_strip 12 = .ok (.invokevirtual 69, 3) := by decide +kernel
theorem dX7_strip_15 : decode cX7_strip 15 = .ok (.ireturn, 1) := by decide +kernel
theorem dX7_strip_16 : decode cX7_strip 16 = .ok (.aload_n 0, 1) := by decide +kernel
theorem dX7_strip_17 : decode cX7_strip 17 = .ok (.getfield 26, 3) := by decide +kernel
theorem dX7_strip_20 : decode cX7_strip 20 = .ok (.aload_n 0, 1) := by decide +kernel
theorem dX7_strip_21 : decode cX7_strip 21 = .ok (.getfield 10, 3) := by decide +kernel
theorem dX7_strip_24 : decode cX7_strip 24 = .ok (.invokevirtual 140, 3) := by decide +kernel
theorem dX7_strip_27 : decode cX7_strip 27 = .ok (.aload_n 0, 1) := by decide +kernel
theorem dX7_strip_28 : decode cX7_strip 28 = .ok (.getfield 26, 3) := by decide +kernel
theorem dX7_strip_31 : decode cX7_strip 31 = .ok (.aload_n 0, 1) := by decide +kernel
theorem dX7_strip_32 : decode cX7_strip 32 = .ok (.getfield 10, 3) := by decide +kernel
theorem dX7_strip_35 : decode cX7_strip 35 = .ok (.invokevirtual 160, 3) := by decide +kernel
theorem dX7_strip_38 : decode cX7_strip 38 = .ok (.iconst 0, 1) := by decide +kernel
theorem dX7_strip_39 : decode cX7_strip 39 = .ok (.istore_n 2, 1) := by decide +kernel
theorem dX7_strip_40 : decode cX7_strip 40 = .ok (.iconst 0, 1) := by decide +kernel
theorem dX7_strip_41 : decode cX7_strip 41 = .ok (.istore_n 3, 1) := by decide +kernel
theorem dX7_strip_42 : decode cX7_strip 42 = .ok (.iconst 1, 1) := by decide +kernel
theorem dX7_strip_43 : decode cX7_strip 43 = .ok (.istore 4, 2) := by decide +kernel
theorem dX7_strip_45 : decode cX7_strip 45 = .ok (.iload 4, 2) := by decide +kernel
theorem dX7_strip_47 : decode cX7_strip 47 = .ok (.aload_n 0, 1) := by decide +kernel
theorem dX7_strip_48 : decode cX7_strip 48 = .ok (.getfield 26, 3) := by decide +kernel
theorem dX7_strip_51 : decode cX7_strip 51 = .ok (.getfield 157, 3) := by decide +kernel
theorem dX7_strip_54 : decode cX7_strip 54 = .ok (.if_icmp .ge 66, 3) := by decide +kernel
theorem dX7_strip_57 : decode cX7_strip 57 = .ok (.aload_n 0, 1) := by decide +kernel
theorem dX7_strip_58 : decode cX7_strip 58 = .ok (.getfield 10, 3) := by decide +kernel
theorem dX7_strip_61 : decode cX7_strip 61 = .ok (.getfield 127, 3) := by decide +kernel
theorem dX7_strip_64 : decode cX7_strip 64 = .ok (.aload_n 0, 1) := by decide +kernel
theorem dX7_strip_65 : decode cX7_strip 65 = .ok (.getfield 26, 3) := by decide +kernel
theorem dX7_strip_68 : decode cX7_strip 68 = .ok (.getfield 164, 3) := by decide +kernel
theorem dX7_strip_71 : decode cX7_strip 71 = .ok (.iload 4, 2) := by decide +kernel
theorem dX7_strip_73 : decode cX7_strip 73 = .ok (.iconst 1, 1) := by decide +kernel
theorem dX7_strip_74 : decode cX7_strip 74 = .ok (.isub, 1) := by decide +kernel
theorem dX7_strip_75 : decode cX7_strip 75 = .ok (.iaload, 1) := by decide +kernel
theorem dX7_strip_76 : decode cX7_strip 76 = .ok (.iaload, 1) := by decide +kernel
theorem dX7_strip_77 : decode cX7_strip 77 = .ok (.istore 5, 2) := by decide +kernel
theorem dX7_strip_79 : decode cX7_strip 79 = .ok (.aload_n 0, 1) := by decide +kernel
theorem dX7_strip_80 : decode cX7_strip 80 = .ok (.getfield 10, 3) := by decide +kernel
theorem dX7_strip_83 : decode cX7_strip 83 = .ok (.getfield 127, 3) := by decide +kernel
theorem dX7_strip_86 : decode cX7_strip 86 = .ok (.aload_n 0, 1) := by decide +kernel
theorem dX7_strip_87 : decode cX7_strip 87 = .ok (.getfield 26, 3) := by decide +kernel
theorem dX7_strip_90 : decode cX7_strip 90 = .ok (.getfield 164, 3) := by decide +kernel
theorem dX7_strip_93 : decode cX7_strip 93 = .ok (.iload 4, 2) := by decide +kernel
theorem dX7_strip_95 : decode cX7_strip 95 = .ok (.iaload, 1) := by decide +kernel
theorem dX7_strip_96 : decode cX7_strip 96 = .ok (.iaload, 1) := by decide +kernel
theorem dX7_strip_97 : decode cX7_strip 97 = .ok (.iload 5, 2) := by decide +kernel
theorem dX7_strip_99 : decode cX7_strip 99 = .ok (.isub, 1) := by decide +kernel
theorem dX7_strip_100 : decode cX7_strip 100 = .ok (.istore 6, 2) := by decide +kernel
theorem dX7_strip_102 : decode cX7_strip 102 = .ok (.iload 6, 2) := by decide +kernel
theorem dX7_strip_104 : decode cX7_strip 104 = .ok (.iload_n 2, 1) := by decide +kernel
theorem dX7_strip_105 : decode cX7_strip 105 = .ok (.if_icmp .le 9, 3) := by decide +kernel
theorem dX7_strip_108 : decode cX7_strip 108 = .ok (.iload 6, 2) := by decide +kernel
theorem dX7_strip_110 : decode cX7_strip 110 = .ok (.istore_n 2, 1) := by decide +kernel
theorem dX7_strip_111 : decode cX7_strip 111 = .ok (.iload 5, 2) := by decide +kernel
theorem dX7_strip_113 : decode cX7_strip 113 = .ok (.istore_n 3, 1) := by decide +kernel
theorem dX7_strip_114 : decode cX7_strip 114 = .ok (.iinc 4 1, 3) := by decide +kernel
theorem dX7_strip_117 : decode cX7_strip 117 = .ok (.goto (-72), 3) := by decide +kernel
theorem dX7_strip_120 : decode cX7_strip 120 = .ok (.iload_n 2, 1) := by decide +kernel
theorem dX7_strip_121 : decode cX7_strip 121 = .ok (.ifCond .ne 6, 3) := by decide +kernel
theorem dX7_strip_124 : decode cX7_strip 124 = .ok (.ldc 163, 2) := by decide +kernel
theorem dX7_strip_126 : decode cX7_strip 126 = .ok (.ireturn, 1) := by decide +kernel
theorem dX7_strip_127 : decode cX7_strip 127 = .ok (.iload_n 1, 1) := by decide +kernel
theorem dX7_strip_128 : decode cX7_strip 128 = .ok (.ifCond .ne 7, 3) := by decide +kernel
theorem dX7_strip_131 : decode cX7_strip 131 = .ok (.iload_n 2, 1) := by decide +kernel
theorem dX7_strip_132 : decode cX7_strip 132 = .ok (.goto 4, 3) := by decide +kernel
theorem dX7_strip_135 : decode cX7_strip 135 = .ok (.iload_n 3, 1) := by decide +kernel
theorem dX7_strip_136 : decode cX7_strip 136 = .ok (.ireturn, 1) := by decide +kernel
theorem dX7_square_0 : decode cX7_square 0 = .ok (.iload_n 1, 1) := by decide +kernel
theorem dX7_square_1 : decode cX7_square 1 = .ok (.ifCond .lt 19, 3) := by decide +kernel
theorem dX7_square_4 : decode cX7_square 4 = .ok (.iload_n 1, 1) := by decide +kernel
theorem dX7_square_5 : decode cX7_square 5 = .ok (.sipush 300, 3) := by decide +kernel
theorem dX7_square_8 : decode cX7_square 8 = .ok (.if_icmp .gt 12, 3) := by decide +kernel
theorem dX7_square_11 : decode cX7_square 11 = .ok (.iload_n 2, 1) := by decide +kernel
theorem dX7_square_12 : decode cX7_square 12 = .ok (.ifCond .lt 8, 3) := by decide +kernel
theorem dX7_square_15 : decode cX7_square 15 = .ok (.iload_n 2, 1) := by decide +kernel
theorem dX7_square_16 : decode cX7_square 16 = .ok (.iconst 2, 1) := by decide +kernel
theorem dX7_square_17 : decode cX7_square 17 = .ok (.if_icmp .le 10, 3) := by decide +kernel
theorem dX7_square_20 : decode cX7_square 20 = .ok (.aload_n 0, 1) := by decide +kernel
theorem dX7_square_21 : decode cX7_square 21 = .ok (.ldc 68, 2) := by decide +kernel
theorem dX7_square_23 : decode cX7_square 23 = .ok (.invokevirtual 69, 3) := by decide +kernel
theorem dX7_square_26 : decode cX7_square 26 = .ok (.ireturn, 1) := by decide +kernel
theorem dX7_square_27 : decode cX7_square 27 = .ok (.aload_n 0, 1) := by decide +kernel
theorem dX7_square_28 : decode cX7_square 28 = .ok (.getfield 26, 3) := by decide +kernel
theorem dX7_square_31 : decode cX7_square 31 = .ok (.aload_n 0, 1) := by decide +kernel
theorem dX7_square_32 : decode cX7_square 32 = .ok (.getfield 10, 3) := by decide +kernel
theorem dX7_square_35 : decode cX7_square 35 = .ok (.invokevirtual 140, 3) := by decide +kernel
theorem dX7_square_38 : decode cX7_square 38 = .ok (.aload_n 0, 1) := by decide +kernel
theorem dX7_square_39 : decode cX7_square 39 = .ok (.getfield 26, 3) := by decide +kernel
theorem dX7_square_42 : decode cX7_square 42 = .ok (.aload_n 0, 1) := by decide +kernel
theorem dX7_square_43 : decode cX7_square 43 = .ok (.getfield 10, 3) := by decide +kernel
theorem dX7_square_46 : decode cX7_square 46 = .ok (.invokevirtual 160, 3) := by decide +kernel
theorem dX7_square_49 : decode cX7_square 49 = .ok (.aload_n 0, 1) := by decide +kernel
theorem dX7_square_50 : decode cX7_square 50 = .ok (.getfield 30, 3) := by decide +kernel
theorem dX7_square_53 : decode cX7_square 53 = .ok (.aload_n 0, 1) := by decide +kernel
theorem dX7_square_54 : decode cX7_square 54 = .ok (.getfield 10, 3) := by decide +kernel
theorem dX7_square_57 : decode cX7_square 57 = .ok (.invokevirtual 140, 3) := by decide +kernel
theorem dX7_square_60 : decode cX7_square 60 = .ok (.aload_n 0, 1) := by decide +kernel
theorem dX7_square_61 : decode cX7_square 61 = .ok (.getfield 30, 3) := by decide +kernel
theorem dX7_square_64 : decode cX7_square 64 = .ok (.aload_n 0, 1) := by decide +kernel
theorem dX7_square_65 : decode cX7_square 65 = .ok (.getfield 10, 3) := by decide +kernel
theorem dX7_square_68 : decode cX7_square 68 = .ok (.invokevirtual 177, 3) := by decide +kernel
theorem dX7_square_71 : decode cX7_square 71 = .ok (.iconst 0, 1) := by decide +kernel
theorem dX7_square_72 : decode cX7_square 72 = .ok (.istore_n 3, 1) := by decide +kernel
theorem dX7_square_73 : decode cX7_square 73 = .ok (.iconst 0, 1) := by decide +kernel
theorem dX7_square_74 : decode cX7_square 74 = .ok (.istore 4, 2) := by decide +kernel
theorem dX7_square_76 : decode cX7_square 76 = .ok (.iconst 0, 1) := by decide +kernel
theorem dX7_square_77 : decode cX7_square 77 = .ok (.istore 5, 2) := by decide +kernel
theorem dX7_square_79 : decode cX7_square 79 = .ok (.iconst 0, 1) := by decide +kernel
theorem dX7_square_80 : decode cX7_square 80 = .ok (.istore 6, 2) := by decide +kernel
theorem dX7_square_82 : decode cX7_square 82 = .ok (.iload 6, 2) := by decide +kernel
theorem dX7_square_84 : decode cX7_square 84 = .ok (.aload_n 0, 1) := by decide +kernel
theorem dX7_square_85 : decode cX7_square 85 = .ok (.getfield 26, 3) := by decide +kernel
theorem dX7_square_88 : decode cX7_square 88 = .ok (.getfield 157, 3) := by decide +kernel
theorem dX7_square_91 : decode cX7_square 91 = .ok (.if_icmp .ge 80, 3) := by decide +kernel
theorem dX7_square_94 : decode cX7_square 94 = .ok (.aload_n 0, 1) := by decide +kernel
theorem dX7_square_95 : decode cX7_square 95 = .ok (.getfield 10, 3) := by decide +kernel
theorem dX7_square_98 : decode cX7_square 98 = .ok (.getfield 127, 3) := by decide +kernel
theorem dX7_square_101 : decode cX7_square 101 = .ok (.aload_n 0, 1) := by decide +kernel
theorem dX7_square_102 : decode cX7_square 102 = .ok (.getfield 26, 3) := by decide +kernel
theorem dX7_square_105 : decode cX7_square 105 = .ok (.getfield 164, 3) := by decide +kernel
theorem dX7_square_108 : decode cX7_square 108 = .ok (.iload 6, 2) := by decide +kernel
theorem dX7_square_110 : decode cX7_square 110 = .ok (.iaload, 1) := by decide +kernel
theorem dX7_square_111 : decode cX7_square 111 = .ok (.iaload, 1) := by decide +kernel
theorem dX7_square_112 : decode cX7_square 112 = .ok (.istore 7, 2) := by decide +kernel
theorem dX7_square_114 : decode cX7_square 114 = .ok (.aload_n 0, 1) := by decide +kernel
theorem dX7_square_115 : decode cX7_square 115 = .ok (.getfield 30, 3) := by decide +kernel
theorem dX7_square_118 : decode cX7_square 118 = .ok (.aload_n 0, 1) := by decide +kernel
theorem dX7_square_119 : decode cX7_square 119 = .ok (.getfield 10, 3) := by decide +kernel
theorem dX7_square_122 : decode cX7_square 122 = .ok (.iload 7, 2) := by decide +kernel
theorem dX7_square_124 : decode cX7_square 124 = .ok (.iload_n 1, 1) := by decide +kernel
theorem dX7_square_125 : decode cX7_square 125 = .ok (.invokevirtual 180, 3) := by decide +kernel
theorem dX7_square_128 : decode cX7_square 128 = .ok (.istore 8, 2) := by decide +kernel
theorem dX7_square_130 : decode cX7_square 130 = .ok (.aload_n 0, 1) := by decide +kernel
theorem dX7_square_131 : decode cX7_square 131 = .ok (.getfield 30, 3) := by decide +kernel
theorem dX7_square_134 : decode cX7_square 134 = .ok (.aload_n 0, 1) := by decide +kernel
theorem dX7_square_135 : decode cX7_square 135 = .ok (.getfield 10, 3) := by decide +kernel
theorem dX7_square_138 : decode cX7_square 138 = .ok (.iload 7, 2) := by decide +kernel
theorem dX7_square_140 : decode cX7_square 140 = .ok (.iload 8, 2) := by decide +kernel
theorem dX7_square_142 : decode cX7_square 142 = .ok (.iload_n 1, 1) := by decide +kernel
theorem dX7_square_143 : decode cX7_square 143 = .ok (.invokevirtual 184, 3) := by decide +kernel
theorem dX7_square_146 : decode cX7_square 146 = .ok (.istore 9, 2) := by decide +kernel
theorem dX7_square_148 : decode cX7_square 148 = .ok (.iload 9, 2) := by decide +kernel
theorem dX7_square_150 : decode cX7_square 150 = .ok (.iload_n 3, 1) := by decide +kernel
theorem dX7_square_151 : decode cX7_square 151 = .ok (.if_icmp .le 14, 3) := by decide +kernel
theorem dX7_square_154 : decode cX7_square 154 = .ok (.iload 9, 2) := by decide +kernel
theorem dX7_square_156 : decode cX7_square 156 = .ok (.istore_n 3, 1) := by decide +kernel
theorem dX7_square_157 : decode cX7_square 157 = .ok (.iload 7, 2) := by decide +kernel
theorem dX7_square_159 : decode cX7_square 159 = .ok (.istore 4, 2) := by decide +kernel
theorem dX7_square_161 : decode cX7_square 161 = .ok (.iload 8, 2) := by decide +kernel
theorem dX7_square_163 : decode cX7_square 163 = .ok (.istore 5, 2) := by decide +kernel
theorem dX7_square_165 : decode cX7_square 165 = .ok (.iinc 6 1, 3) := by decide +kernel
theorem dX7_square_168 : decode cX7_square 168 = .ok (.goto (-86), 3) := by decide +kernel
theorem dX7_square_171 : decode cX7_square 171 = .ok (.iload_n 3, 1) := by decide +kernel
theorem dX7_square_172 : decode cX7_square 172 = .ok (.ifCond .ne 6, 3) := by decide +kernel
theorem dX7_square_175 : decode cX7_square 175 = .ok (.ldc 163, 2) := by decide +kernel
theorem dX7_square_177 : decode cX7_square 177 = .ok (.ireturn, 1) := by decide +kernel
theorem dX7_square_178 : decode cX7_square 178 = .ok (.iload_n 2, 1) := by decide +kernel
theorem dX7_square_179 : decode cX7_square 179 = .ok (.ifCond .ne 7, 3) := by decide +kernel
theorem dX7_square_182 : decode cX7_square 182 = .ok (.iload_n 3, 1) := by decide +kernel
theorem dX7_square_183 : decode cX7_square 183 = .ok (.goto 15, 3) := by decide +kernel
theorem dX7_square_186 : decode cX7_square 186 = .ok (.iload_n 2, 1) := by decide +kernel
theorem dX7_square_187 : decode cX7_square 187 = .ok (.iconst 1, 1) := by decide +kernel
theorem dX7_square_188 : decode cX7_square 188 = .ok (.if_icmp .ne 8, 3) := by decide +kernel
theorem dX7_square_191 : decode cX7_square 191 = .ok (.iload 4, 2) := by decide +kernel
theorem dX7_square_193 : decode cX7_square 193 = .ok (.goto 5, 3) := by decide +kernel
theorem dX7_square_196 : decode cX7_square 196 = .ok (.iload 5, 2) := by decide +kernel
theorem dX7_square_198 : decode cX7_square 198 = .ok (.ireturn, 1) := by decide +kernel
theorem dX7_pairs_0 : decode cX7_pairs 0 = .ok (.aload_n 0, 1) := by decide +kernel
theorem dX7_pairs_1 : decode cX7_pairs 1 = .ok (.getfield 26, 3) := by decide +kernel
theorem dX7_pairs_4 : decode cX7_pairs 4 = .ok (.aload_n 0, 1) := by decide +kernel
theorem dX7_pairs_5 : decode cX7_pairs 5 = .ok (.getfield 10, 3) := by decide +kernel
theorem dX7_pairs_8 : decode cX7_pairs 8 = .ok (.invokevirtual 140, 3) := by decide +kernel
theorem dX7_pairs_11 : decode cX7_pairs 11 = .ok (.iconst 0, 1) := by decide +kernel
theorem dX7_pairs_12 : decode cX7_pairs 12 = .ok (.istore_n 1, 1) := by decide +kernel
theorem dX7_pairs_13 : decode cX7_pairs 13 = .ok (.iconst 0, 1) := by decide +kernel
theorem dX7_pairs_14 : decode cX7_pairs 14 = .ok (.istore_n 2, 1) := by decide +kernel
theorem dX7_pairs_15 : decode cX7_pairs 15 = .ok (.iload_n 2, 1) := by decide +kernel
theorem dX7_pairs_16 : decode cX7_pairs 16 = .ok (.aload_n 0, 1) := by decide +kernel
theorem dX7_pairs_17 : decode cX7_pairs 17 = .ok (.getfield 26, 3) := by decide +kernel
theorem dX7_pairs_20 : decode cX7_pairs 20 = .ok (.getfield 157, 3) := by decide +kernel
theorem dX7_pairs_23 : decode cX7_pairs 23 = .ok (.if_icmp .ge 59, 3) := by decide +kernel
theorem dX7_pairs_26 : decode cX7_pairs 26 = .ok (.iconst 0, 1) := by decide +kernel
theorem dX7_pairs_27 : decode cX7_pairs 27 = .ok (.istore_n 3, 1) := by decide +kernel
theorem dX7_pairs_28 : decode cX7_pairs 28 = .ok (.iload_n 3, 1) := by decide +kernel
theorem dX7_pairs_29 : decode cX7_pairs 29 = .ok (.aload_n 0, 1) := by decide +kernel
theorem dX7_pairs_30 : decode cX7_pairs 30 = .ok (.getfield 26, 3) := by decide +kernel
theorem dX7_pairs_33 : decode cX7_pairs 33 = .ok (.getfield 157, 3) := by decide +kernel
theorem dX7_pairs_36 : decode cX7_pairs 36 = .ok (.if_icmp .ge 40, 3) := by decide +kernel
theorem dX7_pairs_39 : decode cX7_pairs 39 = .ok (.aload_n 0, 1) := by decide +kernel
theorem dX7_pairs_40 : decode cX7_pairs 40 = .ok (.getfield 10, 3) := by decide +kernel
theorem dX7_pairs_43 : decode cX7_pairs 43 = .ok (.aload_n 0, 1) := by decide +kernel
theorem dX7_pairs_44 : decode cX7_pairs 44 = .ok (.getfield 26, 3) := by decide +kernel
theorem dX7_pairs_47 : decode cX7_pairs 47 = .ok (.getfield 164, 3) := by decide +kernel
theorem dX7_pairs_50 : decode cX7_pairs 50 = .ok (.iload_n 2, 1) := by decide +kernel
theorem dX7_pairs_51 : decode cX7_pairs 51 = .ok (.iaload, 1) := by decide +kernel
theorem dX7_pairs_52 : decode cX7_pairs 52 = .ok (.aload_n 0, 1) := by decide +kernel
theorem dX7_pairs_53 : decode cX7_pairs 53 = .ok (.getfield 26, 3) := by decide +kernel
theorem dX7_pairs_56 : decode cX7_pairs 56 = .ok (.getfield 164, 3) := by decide +kernel
theorem dX7_pairs_59 : decode cX7_pairs 59 = .ok (.iload_n 3, 1) := by decide +kernel
theorem dX7_pairs_60 : decode cX7_pairs 60 = .ok (.iaload, 1) := by decide +kernel
theorem dX7_pairs_61 : decode cX7_pairs 61 = .ok (.invokevirtual 187, 3) := by decide +kernel
theorem dX7_pairs_64 : decode cX7_pairs 64 = .ok (.ifCond .eq 6, 3) := by decide +kernel
theorem dX7_pairs_67 : decode cX7_pairs 67 = .ok (.iinc 1 1, 3) := by decide +kernel
theorem dX7_pairs_70 : decode cX7_pairs 70 = .ok (.iinc 3 1, 3) := by decide +kernel
theorem dX7_pairs_73 : decode cX7_pairs 73 = .ok (.goto (-45), 3) := by decide +kernel
theorem dX7_pairs_76 : decode cX7_pairs 76 = .ok (.iinc 2 1, 3) := by decide +kernel
theorem dX7_pairs_79 : decode cX7_pairs 79 = .ok (.goto (-64), 3) := by decide +kernel
theorem dX7_pairs_82 : decode cX7_pairs 82 = .ok (.iload_n 1, 1) := by decide +kernel
theorem dX7_pairs_83 : decode cX7_pairs 83 = .ok (.ireturn, 1) := by decide +kernel
theorem dX7_stair_0 : decode cX7_stair 0 = .ok (.iload_n 1, 1) := by decide +kernel
theorem dX7_stair_1 : decode cX7_stair 1 = .ok (.iconst (-1), 1) := by decide +kernel
theorem dX7_stair_2 : decode cX7_stair 2 = .ok (.if_icmp .ge 10, 3) := by decide +kernel
theorem dX7_stair_5 : decode cX7_stair 5 = .ok (.aload_n 0, 1) := by decide +kernel
theorem dX7_stair_6 : decode cX7_stair 6 = .ok (.ldc 68, 2) := by decide +kernel
theorem dX7_stair_8 : decode cX7_stair 8 = .ok (.invokevirtual 69, 3) := by decide +kernel
theorem dX7_stair_11 : decode cX7_stair 11 = .ok (.ireturn, 1) := by decide +kernel
theorem dX7_stair_12 : decode cX7_stair 12 = .ok (.aload_n 0, 1) := by decide +kernel
theorem dX7_stair_13 : decode cX7_stair 13 = .ok (.getfield 26, 3) := by decide +kernel
theorem dX7_stair_16 : decode cX7_stair 16 = .ok (.aload_n 0, 1) := by decide +kernel
theorem dX7_stair_17 : decode cX7_stair 17 = .ok (.getfield 10, 3) := by decide +kernel
theorem dX7_stair_20 : decode cX7_stair 20 = .ok (.invokevirtual 140, 3) := by decide +kernel
theorem dX7_stair_23 : decode cX7_stair 23 = .ok (.aload_n 0, 1) := by decide +kernel
theorem dX7_stair_24 : decode cX7_stair 24 = .ok (.getfield 30, 3) := by decide +kernel
theorem dX7_stair_27 : decode cX7_stair 27 = .ok (.aload_n 0, 1) := by decide +kernel
theorem dX7_stair_28 : decode cX7_stair 28 = .ok (.getfield 10, 3) := by decide +kernel
theorem dX7_stair_31 : decode cX7_stair 31 = .ok (.aload_n 0, 1) := by decide +kernel
theorem dX7_stair_32 : decode cX7_stair 32 = .ok (.getfield 26, 3) := by decide +kernel
theorem dX7_stair_35 : decode cX7_stair 35 = .ok (.invokevirtual 190, 3) := by decide +kernel
theorem dX7_stair_38 : decode cX7_stair 38 = .ok (.iload_n 1, 1) := by decide +kernel
theorem dX7_stair_39 : decode cX7_stair 39 = .ok (.iconst (-1), 1) := by decide +kernel
theorem dX7_stair_40 : decode cX7_stair 40 = .ok (.if_icmp .ne 11, 3) := by decide +kernel
theorem dX7_stair_43 : decode cX7_stair 43 = .ok (.aload_n 0, 1) := by decide +kernel
theorem dX7_stair_44 : decode cX7_stair 44 = .ok (.getfield 30, 3) := by decide +kernel
theorem dX7_stair_47 : decode cX7_stair 47 = .ok (.getfield 157, 3) := by decide +kernel
theorem dX7_stair_50 : decode cX7_stair 50 = .ok (.ireturn, 1) := by decide +kernel
theorem dX7_stair_51 : decode cX7_stair 51 = .ok (.aload_n 0, 1) := by decide +kernel
theorem dX7_stair_52 : decode cX7_stair 52 = .ok (.getfield 30, 3) := by decide +kernel
theorem dX7_stair_55 : decode cX7_stair 55 = .ok (.aload_n 0, 1) := by decide +kernel
theorem dX7_stair_56 : decode cX7_stair 56 = .ok (.getfield 10, 3) := by decide +kernel
theorem dX7_stair_59 : decode cX7_stair 59 = .ok (.invokevirtual 160, 3) := by decide +kernel
theorem dX7_stair_62 : decode cX7_stair 62 = .ok (.aload_n 0, 1) := by decide +kernel
theorem dX7_stair_63 : decode cX7_stair 63 = .ok (.getfield 30, 3) := by decide +kernel
theorem dX7_stair_66 : decode cX7_stair 66 = .ok (.aload_n 0, 1) := by decide +kernel
theorem dX7_stair_67 : decode cX7_stair 67 = .ok (.getfield 10, 3) := by decide +kernel
theorem dX7_stair_70 : decode cX7_stair 70 = .ok (.iload_n 1, 1) := by decide +kernel
theorem dX7_stair_71 : decode cX7_stair 71 = .ok (.invokevirtual 143, 3) := by decide +kernel
theorem dX7_stair_74 : decode cX7_stair 74 = .ok (.ireturn, 1) := by decide +kernel
theorem dX7_layers_0 : decode cX7_layers 0 = .ok (.iload_n 1, 1) := by decide +kernel
theorem dX7_layers_1 : decode cX7_layers 1 = .ok (.tableswitch 72 0 4 #[35, 43, 51, 59, 64], 35) := by decide +kernel
theorem dX7_layers_36 : decode cX7_layers 36 = .ok (.aload_n 0, 1) := by decide +kernel
theorem dX7_layers_37 : decode cX7_layers 37 = .ok (.getfield 10, 3) := by decide +kernel
theorem dX7_layers_40 : decode cX7_layers 40 = .ok (.getfield 194, 3) := by decide +kernel
theorem dX7_layers_43 : decode cX7_layers 43 = .ok (.ireturn, 1) := by decide +kernel
theorem dX7_layers_44 : decode cX7_layers 44 = .ok (.aload_n 0, 1) := by decide +kernel
theorem dX7_layers_45 : decode cX7_layers 45 = .ok (.getfield 10, 3) := by decide +kernel
theorem dX7_layers_48 : decode cX7_layers 48 = .ok (.getfield 197, 3) := by decide +kernel
theorem dX7_layers_51 : decode cX7_layers 51 = .ok (.ireturn, 1) := by decide +kernel
theorem dX7_layers_52 : decode cX7_layers 52 = .ok (.aload_n 0, 1) := by decide +kernel
theorem dX7_layers_53 : decode cX7_layers 53 = .ok (.getfield 10, 3) := by decide +kernel
theorem dX7_layers_56 : decode cX7_layers 56 = .ok (.getfield 200, 3) := by decide +kernel
theorem dX7_layers_59 : decode cX7_layers 59 = .ok (.ireturn, 1) := by decide +kernel
theorem dX7_layers_60 : decode cX7_layers 60 = .ok (.aload_n 0, 1) := by decide +kernel
theorem dX7_layers_61 : decode cX7_layers 61 = .ok (.getfield 147, 3) := by decide +kernel
theorem dX7_layers_64 : decode cX7_layers 64 = .ok (.ireturn, 1) := by decide +kernel
theorem dX7_layers_65 : decode cX7_layers 65 = .ok (.aload_n 0, 1) := by decide +kernel
theorem dX7_layers_66 : decode cX7_layers 66 = .ok (.getfield 10, 3) := by decide +kernel
theorem dX7_layers_69 : decode cX7_layers 69 = .ok (.getfield 203, 3) := by decide +kernel
theorem dX7_layers_72 : decode cX7_layers 72 = .ok (.ireturn, 1) := by decide +kernel
theorem dX7_layers_73 : decode cX7_layers 73 = .ok (.aload_n 0, 1) := by decide +kernel
theorem dX7_layers_74 : decode cX7_layers 74 = .ok (.ldc 68, 2) := by decide +kernel
theorem dX7_layers_76 : decode cX7_layers 76 = .ok (.invokevirtual 69, 3) := by decide +kernel
theorem dX7_layers_79 : decode cX7_layers 79 = .ok (.ireturn, 1) := by decide +kernel
theorem dX7_inLayer_0 : decode cX7_inLayer 0 = .ok (.iload_n 1, 1) := by decide +kernel
theorem dX7_inLayer_1 : decode cX7_inLayer 1 = .ok (.iconst 1, 1) := by decide +kernel
theorem dX7_inLayer_2 : decode cX7_inLayer 2 = .ok (.if_icmp .lt 21, 3) := by decide +kernel
theorem dX7_inLayer_5 : decode cX7_inLayer 5 = .ok (.iload_n 1, 1) := by decide +kernel
theorem dX7_inLayer_6 : decode cX7_inLayer 6 = .ok (.bipush 64, 2) := by decide +kernel
theorem dX7_inLayer_8 : decode cX7_inLayer 8 = .ok (.if_icmp .gt 15, 3) := by decide +kernel
theorem dX7_inLayer_11 : decode cX7_inLayer 11 = .ok (.iload_n 1, 1) := by decide +kernel
theorem dX7_inLayer_12 : decode cX7_inLayer 12 = .ok (.invokestatic 206, 3) := by decide +kernel
theorem dX7_inLayer_15 : decode cX7_inLayer 15 = .ok (.iconst 1, 1) := by decide +kernel
theorem dX7_inLayer_16 : decode cX7_inLayer 16 = .ok (.if_icmp .ne 7, 3) := by decide +kernel
theorem dX7_inLayer_19 : decode cX7_inLayer 19 = .ok (.iconst 1, 1) := by decide +kernel
theorem dX7_inLayer_20 : decode cX7_inLayer 20 = .ok (.goto 4, 3) := by decide +kernel
theorem dX7_inLayer_23 : decode cX7_inLayer 23 = .ok (.iconst 0, 1) := by decide +kernel
theorem dX7_inLayer_24 : decode cX7_inLayer 24 = .ok (.istore 7, 2) := by decide +kernel
theorem dX7_inLayer_26 : decode cX7_inLayer 26 = .ok (.iload 7, 2) := by decide +kernel
theorem dX7_inLayer_28 : decode cX7_inLayer 28 = .ok (.ifCond .eq 25, 3) := by decide +kernel
theorem dX7_inLayer_31 : decode cX7_inLayer 31 = .ok (.iload_n 2, 1) := by decide +kernel
theorem dX7_inLayer_32 : decode cX7_inLayer 32 = .ok (.ifCond .lt 21, 3) := by decide +kernel
theorem dX7_inLayer_35 : decode cX7_inLayer 35 = .ok (.iload_n 2, 1) := by decide +kernel
theorem dX7_inLayer_36 : decode cX7_inLayer 36 = .ok (.iconst 1, 1) := by decide +kernel
theorem dX7_inLayer_37 : decode cX7_inLayer 37 = .ok (.if_icmp .gt 16, 3) := by decide +kernel
theorem dX7_inLayer_40 : decode cX7_inLayer 40 = .ok (.iload_n 3, 1) := by decide +kernel
theorem dX7_inLayer_41 : decode cX7_inLayer 41 = .ok (.iload 4, 2) := by decide +kernel
theorem dX7_inLayer_43 : decode cX7_inLayer 43 = .ok (.iload 5, 2) := by decide +kernel
theorem dX7_inLayer_45 : decode cX7_inLayer 45 = .ok (.iload 6, 2) := by decide +kernel
theorem dX7_inLayer_47 : decode cX7_inLayer 47 = .ok (.invokestatic 105, 3) := by decide +kernel
theorem dX7_inLayer_50 : decode cX7_inLayer 50 = .ok (.ifCond .ne 10, 3) := by decide +kernel
theorem dX7_inLayer_53 : decode cX7_inLayer 53 = .ok (.aload_n 0, 1) := by decide +kernel
theorem dX7_inLayer_54 : decode cX7_inLayer 54 = .ok (.ldc 68, 2) := by decide +kernel
theorem dX7_inLayer_56 : decode cX7_inLayer 56 = .ok (.invokevirtual 69, 3) := by decide +kernel
theorem dX7_inLayer_59 : decode cX7_inLayer 59 = .ok (.ireturn, 1) := by decide +kernel
theorem dX7_inLayer_60 : decode cX7_inLayer 60 = .ok (.aload_n 0, 1) := by decide +kernel
theorem dX7_inLayer_61 : decode cX7_inLayer 61 = .ok (.getfield 36, 3) := by decide +kernel
theorem dX7_inLayer_64 : decode cX7_inLayer 64 = .ok (.iload_n 3, 1) := by decide +kernel
theorem dX7_inLayer_65 : decode cX7_inLayer 65 = .ok (.iload 4, 2) := by decide +kernel
theorem dX7_inLayer_67 : decode cX7_inLayer 67 = .ok (.iload 5, 2) := by decide +kernel
theorem dX7_inLayer_69 : decode cX7_inLayer 69 = .ok (.iload 6, 2) := by decide +kernel
theorem dX7_inLayer_71 : decode cX7_inLayer 71 = .ok (.invokevirtual 211, 3) := by decide +kernel
theorem dX7_inLayer_74 : decode cX7_inLayer 74 = .ok (.aload_n 0, 1) := by decide +kernel
theorem dX7_inLayer_75 : decode cX7_inLayer 75 = .ok (.getfield 10, 3) := by decide +kernel
theorem dX7_inLayer_78 : decode cX7_inLayer 78 = .ok (.iload_n 1, 1) := by decide +kernel
theorem dX7_inLayer_79 : decode cX7_inLayer 79 = .ok (.iload_n 2, 1) := by decide +kernel
theorem dX7_inLayer_80 : decode cX7_inLayer 80 = .ok (.iconst 1, 1) := by decide +kernel
theorem dX7_inLayer_81 : decode cX7_inLayer 81 = .ok (.if_icmp .ne 7, 3) := by decide +kernel
theorem dX7_inLayer_84 : decode cX7_inLayer 84 = .ok (.iconst 1, 1) := by decide +kernel
theorem dX7_inLayer_85 : decode cX7_inLayer 85 = .ok (.goto 4, 3) := by decide +kernel
theorem dX7_inLayer_88 : decode cX7_inLayer 88 = .ok (.iconst 0, 1) := by decide +kernel
theorem dX7_inLayer_89 : decode cX7_inLayer 89 = .ok (.aload_n 0, 1) := by decide +kernel
theorem dX7_inLayer_90 : decode cX7_inLayer 90 = .ok (.getfield 36, 3) := by decide +kernel
theorem dX7_inLayer_93 : decode cX7_inLayer 93 = .ok (.invokevirtual 214, 3) := by decide +kernel
theorem dX7_inLayer_96 : decode cX7_inLayer 96 = .ok (.ireturn, 1) := by decide +kernel
theorem dX7_type_0 : decode cX7_type 0 = .ok (.iload_n 1, 1) := by decide +kernel
theorem dX7_type_1 : decode cX7_type 1 = .ok (.ifCond .lt 9, 3) := by decide +kernel
theorem dX7_type_4 : decode cX7_type 4 = .ok (.iload_n 1, 1) := by decide +kernel
theorem dX7_type_5 : decode cX7_type 5 = .ok (.bipush 127, 2) := by decide +kernel
theorem dX7_type_7 : decode cX7_type 7 = .ok (.if_icmp .le 10, 3) := by decide +kernel
theorem dX7_type_10 : decode cX7_type 10 = .ok (.aload_n 0, 1) := by decide +kernel
theorem dX7_type_11 : decode cX7_type 11 = .ok (.ldc 68, 2) := by decide +kernel
theorem dX7_type_13 : decode cX7_type 13 = .ok (.invokevirtual 69, 3) := by decide +kernel
theorem dX7_type_16 : decode cX7_type 16 = .ok (.ireturn, 1) := by decide +kernel
theorem dX7_type_17 : decode cX7_type 17 = .ok (.aload_n 0, 1) := by decide +kernel
theorem dX7_type_18 : decode cX7_type 18 = .ok (.getfield 46, 3) := by decide +kernel
theorem dX7_type_21 : decode cX7_type 21 = .ok (.getfield 218, 3) := by decide +kernel
theorem dX7_type_24 : decode cX7_type 24 = .ok (.bipush 120, 2) := by decide +kernel
theorem dX7_type_26 : decode cX7_type 26 = .ok (.if_icmp .lt 10, 3) := by decide +kernel
theorem dX7_type_29 : decode cX7_type 29 = .ok (.aload_n 0, 1) := by decide +kernel
theorem dX7_type_30 : decode cX7_type 30 = .ok (.ldc 81, 2) := by decide +kernel
theorem dX7_type_32 : decode cX7_type 32 = .ok (.invokevirtual 69, 3) := by decide +kernel
theorem dX7_type_35 : decode cX7_type 35 = .ok (.ireturn, 1) := by decide +kernel
theorem dX7_type_36 : decode cX7_type 36 = .ok (.aload_n 0, 1) := by decide +kernel
theorem dX7_type_37 : decode cX7_type 37 = .ok (.getfield 46, 3) := by decide +kernel
theorem dX7_type_40 : decode cX7_type 40 = .ok (.iload_n 1, 1) := by decide +kernel
theorem dX7_type_41 : decode cX7_type 41 = .ok (.invokevirtual 221, 3) := by decide +kernel
theorem dX7_type_44 : decode cX7_type 44 = .ok (.aload_n 0, 1) := by decide +kernel
theorem dX7_type_45 : decode cX7_type 45 = .ok (.getfield 46, 3) := by decide +kernel
theorem dX7_type_48 : decode cX7_type 48 = .ok (.getfield 218, 3) := by decide +kernel
theorem dX7_type_51 : decode cX7_type 51 = .ok (.ireturn, 1) := by decide +kernel
theorem dX7_clear_0 : decode cX7_clear 0 = .ok (.aload_n 0, 1) := by decide +kernel
theorem dX7_clear_1 : decode cX7_clear 1 = .ok (.getfield 46, 3) := by decide +kernel
theorem dX7_clear_4 : decode cX7_clear 4 = .ok (.getfield 218, 3) := by decide +kernel
theorem dX7_clear_7 : decode cX7_clear 7 = .ok (.istore_n 1, 1) := by decide +kernel
theorem dX7_clear_8 : decode cX7_clear 8 = .ok (.aload_n 0, 1) := by decide +kernel
theorem dX7_clear_9 : decode cX7_clear 9 = .ok (.getfield 46, 3) := by decide +kernel
theorem dX7_clear_12 : decode cX7_clear 12 = .ok (.iconst 0, 1) := by decide +kernel
theorem dX7_clear_13 : decode cX7_clear 13 = .ok (.putfield 218, 3) := by decide +kernel
theorem dX7_clear_16 : decode cX7_clear 16 = .ok (.iload_n 1, 1) := by decide +kernel
theorem dX7_clear_17 : decode cX7_clear 17 = .ok (.ireturn, 1) := by decide +kernel
theorem dX7_area_0 : decode cX7_area 0 = .ok (.aload_n 0, 1) := by decide +kernel
theorem dX7_area_1 : decode cX7_area 1 = .ok (.getfield 46, 3) := by decide +kernel
theorem dX7_area_4 : decode cX7_area 4 = .ok (.invokevirtual 225, 3) := by decide +kernel
theorem dX7_area_7 : decode cX7_area 7 = .ok (.istore_n 1, 1) := by decide +kernel
theorem dX7_area_8 : decode cX7_area 8 = .ok (.iload_n 1, 1) := by decide +kernel
theorem dX7_area_9 : decode cX7_area 9 = .ok (.ifCond .lt 8, 3) := by decide +kernel
theorem dX7_area_12 : decode cX7_area 12 = .ok (.bipush (-10), 2) := by decide +kernel
theorem dX7_area_14 : decode cX7_area 14 = .ok (.iload_n 1, 1) := by decide +kernel
theorem dX7_area_15 : decode cX7_area 15 = .ok (.isub, 1) := by decide +kernel
theorem dX7_area_16 : decode cX7_area 16 = .ok (.ireturn, 1) := by decide +kernel
theorem dX7_area_17 : decode cX7_area 17 = .ok (.aload_n 0, 1) := by decide +kernel
theorem dX7_area_18 : decode cX7_area 18 = .ok (.getfield 40, 3) := by decide +kernel
theorem dX7_area_21 : decode cX7_area 21 = .ok (.aload_n 0, 1) := by decide +kernel
theorem dX7_area_22 : decode cX7_area 22 = .ok (.getfield 46, 3) := by decide +kernel
theorem dX7_area_25 : decode cX7_area 25 = .ok (.getfield 228, 3) := by decide +kernel
theorem dX7_area_28 : decode cX7_area 28 = .ok (.invokevirtual 231, 3) := by decide +kernel
theorem dX7_area_31 : decode cX7_area 31 = .ok (.aload_n 0, 1) := by decide +kernel
theorem dX7_area_32 : decode cX7_area 32 = .ok (.getfield 40, 3) := by decide +kernel
theorem dX7_area_35 : decode cX7_area 35 = .ok (.getfield 235, 3) := by decide +kernel
theorem dX7_area_38 : decode cX7_area 38 = .ok (.ireturn, 1) := by decide +kernel
theorem dX7_inside_0 : decode cX7_inside 0 = .ok (.aload_n 0, 1) := by decide +kernel
theorem dX7_inside_1 : decode cX7_inside 1 = .ok (.getfield 26, 3) := by decide +kernel
theorem dX7_inside_4 : decode cX7_inside 4 = .ok (.aload_n 0, 1) := by decide +kernel
theorem dX7_inside_5 : decode cX7_inside 5 = .ok (.getfield 10, 3) := by decide +kernel
theorem dX7_inside_8 : decode cX7_inside 8 = .ok (.aload_n 0, 1) := by decide +kernel
theorem dX7_inside_9 : decode cX7_inside 9 = .ok (.getfield 40, 3) := by decide +kernel
theorem dX7_inside_12 : decode cX7_inside 12 = .ok (.invokevirtual 238, 3) := by decide +kernel
theorem dX7_inside_15 : decode cX7_inside 15 = .ok (.aload_n 0, 1) := by decide +kernel
theorem dX7_inside_16 : decode cX7_inside 16 = .ok (.getfield 26, 3) := by decide +kernel
theorem dX7_inside_19 : decode cX7_inside 19 = .ok (.aload_n 0, 1) := by decide +kernel
theorem dX7_inside_20 : decode cX7_inside 20 = .ok (.getfield 10, 3) := by decide +kernel
theorem dX7_inside_23 : decode cX7_inside 23 = .ok (.invokevirtual 153, 3) := by decide +kernel
theorem dX7_inside_26 : decode cX7_inside 26 = .ok (.ireturn, 1) := by decide +kernel
theorem dX7_covers_0 : decode cX7_covers 0 = .ok (.iload_n 1, 1) := by decide +kernel
theorem dX7_covers_1 : decode cX7_covers 1 = .ok (.iload_n 2, 1) := by decide +kernel
theorem dX7_covers_2 : decode cX7_covers 2 = .ok (.invokestatic 64, 3) := by decide +kernel
theorem dX7_covers_5 : decode cX7_covers 5 = .ok (.ifCond .ne 10, 3) := by decide +kernel
theorem dX7_covers_8 : decode cX7_covers 8 = .ok (.aload_n 0, 1) := by decide +kernel
theorem dX7_covers_9 : decode cX7_covers 9 = .ok (.ldc 68, 2) := by decide +kernel
theorem dX7_covers_11 : decode cX7_covers 11 = .ok (.invokevirtual 69, 3) := by decide +kernel
theorem dX7_covers_14 : decode cX7_covers 14 = .ok (.ireturn, 1) := by decide +kernel
theorem dX7_covers_15 : decode cX7_covers 15 = .ok (.aload_n 0, 1) := by decide +kernel
theorem dX7_covers_16 : decode cX7_covers 16 = .ok (.getfield 40, 3) := by decide +kernel
theorem dX7_covers_19 : decode cX7_covers 19 = .ok (.iload_n 1, 1) := by decide +kernel
theorem dX7_covers_20 : decode cX7_covers 20 = .ok (.iload_n 2, 1) := by decide +kernel
theorem dX7_covers_21 : decode cX7_covers 21 = .ok (.invokevirtual 242, 3) := by decide +kernel
theorem dX7_covers_24 : decode cX7_covers 24 = .ok (.ifCond .eq 7, 3) := by decide +kernel
theorem dX7_covers_27 : decode cX7_covers 27 = .ok (.iconst 1, 1) := by decide +kernel
theorem dX7_covers_28 : decode cX7_covers 28 = .ok (.goto 4, 3) := by decide +kernel
theorem dX7_covers_31 : decode cX7_covers 31 = .ok (.iconst 0, 1) := by decide +kernel
theorem dX7_covers_32 : decode cX7_covers 32 = .ok (.ireturn, 1) := by decide +kernel
theorem dX7_found_0 : decode cX7_found 0 = .ok (.iload_n 1, 1) := by decide +kernel
theorem dX7_found_1 : decode cX7_found 1 = .ok (.ifCond .ge 10, 3) := by decide +kernel
theorem dX7_found_4 : decode cX7_found 4 = .ok (.aload_n 0, 1) := by decide +kernel
theorem dX7_found_5 : decode cX7_found 5 = .ok (.ldc 68, 2) := by decide +kernel
theorem dX7_found_7 : decode cX7_found 7 = .ok (.invokevirtual 69, 3) := by decide +kernel
theorem dX7_found_10 : decode cX7_found 10 = .ok (.ireturn, 1) := by decide +kernel
theorem dX7_found_11 : decode cX7_found 11 = .ok (.aload_n 0, 1) := by decide +kernel
theorem dX7_found_12 : decode cX7_found 12 = .ok (.getfield 26, 3) := by decide +kernel
theorem dX7_found_15 : decode cX7_found 15 = .ok (.aload_n 0, 1) := by decide +kernel
theorem dX7_found_16 : decode cX7_found 16 = .ok (.getfield 10, 3) := by decide +kernel
theorem dX7_found_19 : decode cX7_found 19 = .ok (.aload_n 0, 1) := by decide +kernel
theorem dX7_found_20 : decode cX7_found 20 = .ok (.getfield 40, 3) := by decide +kernel
theorem dX7_found_23 : decode cX7_found 23 = .ok (.invokevirtual 238, 3) := by decide +kernel
theorem dX7_found_26 : decode cX7_found 26 = .ok (.aload_n 0, 1) := by decide +kernel
theorem dX7_found_27 : decode cX7_found 27 = .ok (.getfield 26, 3) := by decide +kernel
theorem dX7_found_30 : decode cX7_found 30 = .ok (.aload_n 0, 1) := by decide +kernel
theorem dX7_found_31 : decode cX7_found 31 = .ok (.getfield 10, 3) := by decide +kernel
theorem dX7_found_34 : decode cX7_found 34 = .ok (.invokevirtual 160, 3) := by decide +kernel
theorem dX7_found_37 : decode cX7_found 37 = .ok (.aload_n 0, 1) := by decide +kernel
theorem dX7_found_38 : decode cX7_found 38 = .ok (.getfield 26, 3) := by decide +kernel
theorem dX7_found_41 : decode cX7_found 41 = .ok (.aload_n 0, 1) := by decide +kernel
theorem dX7_found_42 : decode cX7_found 42 = .ok (.getfield 10, 3) := by decide +kernel
theorem dX7_found_45 : decode cX7_found 45 = .ok (.iload_n 1, 1) := by decide +kernel
theorem dX7_found_46 : decode cX7_found 46 = .ok (.invokevirtual 143, 3) := by decide +kernel
theorem dX7_found_49 : decode cX7_found 49 = .ok (.ireturn, 1) := by decide +kernel
theorem dX7_mow_0 : decode cX7_mow 0 = .ok (.aload_n 0, 1) := by decide +kernel
theorem dX7_mow_1 : decode cX7_mow 1 = .ok (.getfield 26, 3) := by decide +kernel
theorem dX7_mow_4 : decode cX7_mow 4 = .ok (.aload_n 0, 1) := by decide +kernel
theorem dX7_mow_5 : decode cX7_mow 5 = .ok (.getfield 10, 3) := by decide +kernel
theorem dX7_mow_8 : decode cX7_mow 8 = .ok (.aload_n 0, 1) := by decide +kernel
theorem dX7_mow_9 : decode cX7_mow 9 = .ok (.getfield 40, 3) := by decide +kernel
theorem dX7_mow_12 : decode cX7_mow 12 = .ok (.invokevirtual 238, 3) := by decide +kernel
theorem dX7_mow_15 : decode cX7_mow 15 = .ok (.aload_n 0, 1) := by decide +kernel
theorem dX7_mow_16 : decode cX7_mow 16 = .ok (.invokevirtual 113, 3) := by decide +kernel
theorem dX7_mow_19 : decode cX7_mow 19 = .ok (.ireturn, 1) := by decide +kernel
theorem dX7_odds_0 : decode cX7_odds 0 = .ok (.iload_n 1, 1) := by decide +kernel
theorem dX7_odds_1 : decode cX7_odds 1 = .ok (.iload_n 2, 1) := by decide +kernel
theorem dX7_odds_2 : decode cX7_odds 2 = .ok (.iload_n 3, 1) := by decide +kernel
theorem dX7_odds_3 : decode cX7_odds 3 = .ok (.iload 4, 2) := by decide +kernel
theorem dX7_odds_5 : decode cX7_odds 5 = .ok (.invokestatic 105, 3) := by decide +kernel
theorem dX7_odds_8 : decode cX7_odds 8 = .ok (.ifCond .eq 27, 3) := by decide +kernel
theorem dX7_odds_11 : decode cX7_odds 11 = .ok (.iload 5, 2) := by decide +kernel
theorem dX7_odds_13 : decode cX7_odds 13 = .ok (.ifCond .lt 22, 3) := by decide +kernel
theorem dX7_odds_16 : decode cX7_odds 16 = .ok (.iload 5, 2) := by decide +kernel
theorem dX7_odds_18 : decode cX7_odds 18 = .ok (.bipush 15, 2) := by decide +kernel
theorem dX7_odds_20 : decode cX7_odds 20 = .ok (.if_icmp .gt 15, 3) := by decide +kernel
theorem dX7_odds_23 : decode cX7_odds 23 = .ok (.iload 6, 2) := by decide +kernel
theorem dX7_odds_25 : decode cX7_odds 25 = .ok (.ifCond .lt 10, 3) := by decide +kernel
theorem dX7_odds_28 : decode cX7_odds 28 = .ok (.iload 6, 2) := by decide +kernel
theorem dX7_odds_30 : decode cX7_odds 30 = .ok (.bipush 10, 2) := by decide +kernel
theorem dX7_odds_32 : decode cX7_odds 32 = .ok (.if_icmp .le 10, 3) := by decide +kernel
theorem dX7_odds_35 : decode cX7_odds 35 = .ok (.aload_n 0, 1) := by decide +kernel
theorem dX7_odds_36 : decode cX7_odds 36 = .ok (.ldc 68, 2) := by decide +kernel
theorem dX7_odds_38 : decode cX7_odds 38 = .ok (.invokevirtual 69, 3) := by decide +kernel
theorem dX7_odds_41 : decode cX7_odds 41 = .ok (.ireturn, 1) := by decide +kernel
theorem dX7_odds_42 : decode cX7_odds 42 = .ok (.aload_n 0, 1) := by decide +kernel
theorem dX7_odds_43 : decode cX7_odds 43 = .ok (.iload_n 1, 1) := by decide +kernel
theorem dX7_odds_44 : decode cX7_odds 44 = .ok (.iload_n 2, 1) := by decide +kernel
theorem dX7_odds_45 : decode cX7_odds 45 = .ok (.iload_n 3, 1) := by decide +kernel
theorem dX7_odds_46 : decode cX7_odds 46 = .ok (.iload 4, 2) := by decide +kernel
theorem dX7_odds_48 : decode cX7_odds 48 = .ok (.invokevirtual 109, 3) := by decide +kernel
theorem dX7_odds_51 : decode cX7_odds 51 = .ok (.aload_n 0, 1) := by decide +kernel
theorem dX7_odds_52 : decode cX7_odds 52 = .ok (.getfield 26, 3) := by decide +kernel
theorem dX7_odds_55 : decode cX7_odds 55 = .ok (.getfield 157, 3) := by decide +kernel
theorem dX7_odds_58 : decode cX7_odds 58 = .ok (.bipush 15, 2) := by decide +kernel
theorem dX7_odds_60 : decode cX7_odds 60 = .ok (.if_icmp .le 10, 3) := by decide +kernel
theorem dX7_odds_63 : decode cX7_odds 63 = .ok (.aload_n 0, 1) := by decide +kernel
theorem dX7_odds_64 : decode cX7_odds 64 = .ok (.ldc 123, 2) := by decide +kernel
theorem dX7_odds_66 : decode cX7_odds 66 = .ok (.invokevirtual 69, 3) := by decide +kernel
theorem dX7_odds_69 : decode cX7_odds 69 = .ok (.ireturn, 1) := by decide +kernel
theorem dX7_odds_70 : decode cX7_odds 70 = .ok (.aload_n 0, 1) := by decide +kernel
theorem dX7_odds_71 : decode cX7_odds 71 = .ok (.getfield 53, 3) := by decide +kernel
theorem dX7_odds_74 : decode cX7_odds 74 = .ok (.aload_n 0, 1) := by decide +kernel
theorem dX7_odds_75 : decode cX7_odds 75 = .ok (.getfield 26, 3) := by decide +kernel
theorem dX7_odds_78 : decode cX7_odds 78 = .ok (.getfield 157, 3) := by decide +kernel
theorem dX7_odds_81 : decode cX7_odds 81 = .ok (.iload 5, 2) := by decide +kernel
theorem dX7_odds_83 : decode cX7_odds 83 = .ok (.iload 6, 2) := by decide +kernel
theorem dX7_odds_85 : decode cX7_odds 85 = .ok (.invokevirtual 245, 3) := by decide +kernel
theorem dX7_odds_88 : decode cX7_odds 88 = .ok (.iconst 1, 1) := by decide +kernel
theorem dX7_odds_89 : decode cX7_odds 89 = .ok (.ireturn, 1) := by decide +kernel
theorem dX7_part_0 : decode cX7_part 0 = .ok (.iload_n 1, 1) := by decide +kernel
theorem dX7_part_1 : decode cX7_part 1 = .ok (.lookupswitch 43 #[(0, 27), (1, 35)], 27) := by decide +kernel
theorem dX7_part_28 : decode cX7_part 28 = .ok (.aload_n 0, 1) := by decide +kernel
theorem dX7_part_29 : decode cX7_part 29 = .ok (.getfield 53, 3) := by decide +kernel
theorem dX7_part_32 : decode cX7_part 32 = .ok (.getfield 249, 3) := by decide +kernel
theorem dX7_part_35 : decode cX7_part 35 = .ok (.lreturn, 1) := by decide +kernel
theorem dX7_part_36 : decode cX7_part 36 = .ok (.aload_n 0, 1) := by decide +kernel
theorem dX7_part_37 : decode cX7_part 37 = .ok (.getfield 53, 3) := by decide +kernel
theorem dX7_part_40 : decode cX7_part 40 = .ok (.getfield 253, 3) := by decide +kernel
theorem dX7_part_43 : decode cX7_part 43 = .ok (.lreturn, 1) := by decide +kernel
theorem dX7_part_44 : decode cX7_part 44 = .ok (.aload_n 0, 1) := by decide +kernel
theorem dX7_part_45 : decode cX7_part 45 = .ok (.ldc 68, 2) := by decide +kernel
theorem dX7_part_47 : decode cX7_part 47 = .ok (.invokevirtual 69, 3) := by decide +kernel
theorem dX7_part_50 : decode cX7_part 50 = .ok (.i2l, 1) := by decide +kernel
theorem dX7_part_51 : decode cX7_part 51 = .ok (.lreturn, 1) := by decide +kernel
theorem dX7_image_0 : decode cX7_image 0 = .ok (.iload_n 1, 1) := by decide +kernel
theorem dX7_image_1 : decode cX7_image 1 = .ok (.ifCond .lt 8, 3) := by decide +kernel
theorem dX7_image_4 : decode cX7_image 4 = .ok (.iload_n 1, 1) := by decide +kernel
theorem dX7_image_5 : decode cX7_image 5 = .ok (.iconst 2, 1) := by decide +kernel
theorem dX7_image_6 : decode cX7_image 6 = .ok (.if_icmp .lt 10, 3) := by decide +kernel
theorem dX7_image_9 : decode cX7_image 9 = .ok (.aload_n 0, 1) := by decide +kernel
theorem dX7_image_10 : decode cX7_image 10 = .ok (.ldc 68, 2) := by decide +kernel
theorem dX7_image_12 : decode cX7_image 12 = .ok (.invokevirtual 69, 3) := by decide +kernel
theorem dX7_image_15 : decode cX7_image 15 = .ok (.ireturn, 1) := by decide +kernel
theorem dX7_image_16 : decode cX7_image 16 = .ok (.aload_n 0, 1) := by decide +kernel
theorem dX7_image_17 : decode cX7_image 17 = .ok (.getfield 59, 3) := by decide +kernel
theorem dX7_image_20 : decode cX7_image 20 = .ok (.iload_n 1, 1) := by decide +kernel
theorem dX7_image_21 : decode cX7_image 21 = .ok (.aaload, 1) := by decide +kernel
theorem dX7_image_22 : decode cX7_image 22 = .ok (.aload_n 0, 1) := by decide +kernel
theorem dX7_image_23 : decode cX7_image 23 = .ok (.getfield 10, 3) := by decide +kernel
theorem dX7_image_26 : decode cX7_image 26 = .ok (.aload_n 0, 1) := by decide +kernel
theorem dX7_image_27 : decode cX7_image 27 = .ok (.getfield 40, 3) := by decide +kernel
theorem dX7_image_30 : decode cX7_image 30 = .ok (.invokevirtual 256, 3) := by decide +kernel
theorem dX7_image_33 : decode cX7_image 33 = .ok (.iconst 1, 1) := by decide +kernel
theorem dX7_image_34 : decode cX7_image 34 = .ok (.ireturn, 1) := by decide +kernel
theorem dX7_from_0 : decode cX7_from 0 = .ok (.iload_n 1, 1) := by decide +kernel
theorem dX7_from_1 : decode cX7_from 1 = .ok (.ifCond .lt 8, 3) := by decide +kernel
theorem dX7_from_4 : decode cX7_from 4 = .ok (.iload_n 1, 1) := by decide +kernel
theorem dX7_from_5 : decode cX7_from 5 = .ok (.iconst 2, 1) := by decide +kernel
theorem dX7_from_6 : decode cX7_from 6 = .ok (.if_icmp .lt 10, 3) := by decide +kernel
theorem dX7_from_9 : decode cX7_from 9 = .ok (.aload_n 0, 1) := by decide +kernel
theorem dX7_from_10 : decode cX7_from 10 = .ok (.ldc 68, 2) := by decide +kernel
theorem dX7_from_12 : decode cX7_from 12 = .ok (.invokevirtual 69, 3) := by decide +kernel
theorem dX7_from_15 : decode cX7_from 15 = .ok (.ireturn, 1) := by decide +kernel
theorem dX7_from_16 : decode cX7_from 16 = .ok (.aload_n 0, 1) := by decide +kernel
theorem dX7_from_17 : decode cX7_from 17 = .ok (.getfield 59, 3) := by decide +kernel
theorem dX7_from_20 : decode cX7_from 20 = .ok (.iload_n 1, 1) := by decide +kernel
theorem dX7_from_21 : decode cX7_from 21 = .ok (.aaload, 1) := by decide +kernel
theorem dX7_from_22 : decode cX7_from 22 = .ok (.getfield 258, 3) := by decide +kernel
theorem dX7_from_25 : decode cX7_from 25 = .ok (.ifCond .ne 10, 3) := by decide +kernel
theorem dX7_from_28 : decode cX7_from 28 = .ok (.aload_n 0, 1) := by decide +kernel
theorem dX7_from_29 : decode cX7_from 29 = .ok (.ldc 123, 2) := by decide +kernel
theorem dX7_from_31 : decode cX7_from 31 = .ok (.invokevirtual 69, 3) := by decide +kernel
theorem dX7_from_34 : decode cX7_from 34 = .ok (.ireturn, 1) := by decide +kernel
theorem dX7_from_35 : decode cX7_from 35 = .ok (.aload_n 0, 1) := by decide +kernel
theorem dX7_from_36 : decode cX7_from 36 = .ok (.getfield 59, 3) := by decide +kernel
theorem dX7_from_39 : decode cX7_from 39 = .ok (.iload_n 1, 1) := by decide +kernel
theorem dX7_from_40 : decode cX7_from 40 = .ok (.aaload, 1) := by decide +kernel
theorem dX7_from_41 : decode cX7_from 41 = .ok (.aload_n 0, 1) := by decide +kernel
theorem dX7_from_42 : decode cX7_from 42 = .ok (.getfield 10, 3) := by decide +kernel
theorem dX7_from_45 : decode cX7_from 45 = .ok (.aload_n 0, 1) := by decide +kernel
theorem dX7_from_46 : decode cX7_from 46 = .ok (.getfield 40, 3) := by decide +kernel
theorem dX7_from_49 : decode cX7_from 49 = .ok (.invokevirtual 262, 3) := by decide +kernel
theorem dX7_from_52 : decode cX7_from 52 = .ok (.aload_n 0, 1) := by decide +kernel
theorem dX7_from_53 : decode cX7_from 53 = .ok (.getfield 19, 3) := by decide +kernel
theorem dX7_from_56 : decode cX7_from 56 = .ok (.invokevirtual 264, 3) := by decide +kernel
theorem dX7_from_59 : decode cX7_from 59 = .ok (.iconst 1, 1) := by decide +kernel
theorem dX7_from_60 : decode cX7_from 60 = .ok (.ireturn, 1) := by decide +kernel
theorem dX7_status_0 : decode cX7_status 0 = .ok (.iload_n 1, 1) := by decide +kernel
theorem dX7_status_1 : decode cX7_status 1 = .ok (.tableswitch 42 0 2 #[27, 32, 37], 27) := by decide +kernel
theorem dX7_status_28 : decode cX7_status 28 = .ok (.aload_n 0, 1) := by decide +kernel
theorem dX7_status_29 : decode cX7_status 29 = .ok (.getfield 267, 3) := by decide +kernel
theorem dX7_status_32 : decode cX7_status 32 = .ok (.ireturn, 1) := by decide +kernel
theorem dX7_status_33 : decode cX7_status 33 = .ok (.aload_n 0, 1) := by decide +kernel
theorem dX7_status_34 : decode cX7_status 34 = .ok (.getfield 270, 3) := by decide +kernel
theorem dX7_status_37 : decode cX7_status 37 = .ok (.ireturn, 1) := by decide +kernel
theorem dX7_status_38 : decode cX7_status 38 = .ok (.aload_n 0, 1) := by decide +kernel
theorem dX7_status_39 : decode cX7_status 39 = .ok (.getfield 273, 3) := by decide +kernel
theorem dX7_status_42 : decode cX7_status 42 = .ok (.ireturn, 1) := by decide +kernel
theorem dX7_status_43 : decode cX7_status 43 = .ok (.aload_n 0, 1) := by decide +kernel
theorem dX7_status_44 : decode cX7_status 44 = .ok (.ldc 68, 2) := by decide +kernel
theorem dX7_status_46 : decode cX7_status 46 = .ok (.invokevirtual 69, 3) := by decide +kernel
theorem dX7_status_49 : decode cX7_status 49 = .ok (.pop, 1) := by decide +kernel
theorem dX7_status_50 : decode cX7_status 50 = .ok (.iconst (-1), 1) := by decide +kernel
theorem dX7_status_51 : decode cX7_status 51 = .ok (.ireturn, 1) := by decide +kernel
theorem dX7_size_0 : decode cX7_size 0 = .ok (.iload_n 1, 1) := by decide +kernel
theorem dX7_size_1 : decode cX7_size 1 = .ok (.tableswitch 111 0 7 #[47, 55, 63, 71, 79, 87, 95, 103], 47) := by decide +kernel
theorem dX7_size_48 : decode cX7_size 48 = .ok (.aload_n 0, 1) := by decide +kernel
theorem dX7_size_49 : decode cX7_size 49 = .ok (.getfield 10, 3) := by decide +kernel
theorem dX7_size_52 : decode cX7_size 52 = .ok (.invokevirtual 73, 3) := by decide +kernel
theorem dX7_size_55 : decode cX7_size 55 = .ok (.ireturn, 1) := by decide +kernel
theorem dX7_size_56 : decode cX7_size 56 = .ok (.aload_n 0, 1) := by decide +kernel
theorem dX7_size_57 : decode cX7_size 57 = .ok (.getfield 10, 3) := by decide +kernel
theorem dX7_size_60 : decode cX7_size 60 = .ok (.getfield 197, 3) := by decide +kernel
theorem dX7_size_63 : decode cX7_size 63 = .ok (.ireturn, 1) := by decide +kernel
theorem dX7_size_64 : decode cX7_size 64 = .ok (.aload_n 0, 1) := by decide +kernel
theorem dX7_size_65 : decode cX7_size 65 = .ok (.getfield 10, 3) := by decide +kernel
theorem dX7_size_68 : decode cX7_size 68 = .ok (.getfield 276, 3) := by decide +kernel
theorem dX7_size_71 : decode cX7_size 71 = .ok (.ireturn, 1) := by decide +kernel
theorem dX7_size_72 : decode cX7_size 72 = .ok (.aload_n 0, 1) := by decide +kernel
theorem dX7_size_73 : decode cX7_size 73 = .ok (.getfield 10, 3) := by decide +kernel
theorem dX7_size_76 : decode cX7_size 76 = .ok (.getfield 116, 3) := by decide +kernel
theorem dX7_size_79 : decode cX7_size 79 = .ok (.ireturn, 1) := by decide +kernel
theorem dX7_size_80 : decode cX7_size 80 = .ok (.aload_n 0, 1) := by decide +kernel
theorem dX7_size_81 : decode cX7_size 81 = .ok (.getfield 10, 3) := by decide +kernel
theorem dX7_size_84 : decode cX7_size 84 = .ok (.invokevirtual 279, 3) := by decide +kernel
theorem dX7_size_87 : decode cX7_size 87 = .ok (.ireturn, 1) := by decide +kernel
theorem dX7_size_88 : decode cX7_size 88 = .ok (.aload_n 0, 1) := by decide +kernel
theorem dX7_size_89 : decode cX7_size 89 = .ok (.getfield 19, 3) := by decide +kernel
theorem dX7_size_92 : decode cX7_size 92 = .ok (.getfield 120, 3) := by decide +kernel
theorem dX7_size_95 : decode cX7_size 95 = .ok (.ireturn, 1) := by decide +kernel
theorem dX7_size_96 : decode cX7_size 96 = .ok (.aload_n 0, 1) := by decide +kernel
theorem dX7_size_97 : decode cX7_size 97 = .ok (.getfield 46, 3) := by decide +kernel
theorem dX7_size_100 : decode cX7_size 100 = .ok (.getfield 218, 3) := by decide +kernel
theorem dX7_size_103 : decode cX7_size 103 = .ok (.ireturn, 1) := by decide +kernel
theorem dX7_size_104 : decode cX7_size 104 = .ok (.aload_n 0, 1) := by decide +kernel
theorem dX7_size_105 : decode cX7_size 105 = .ok (.getfield 40, 3) := by decide +kernel
theorem dX7_size_108 : decode cX7_size 108 = .ok (.getfield 235, 3) := by decide +kernel
theorem dX7_size_111 : decode cX7_size 111 = .ok (.ireturn, 1) := by decide +kernel
theorem dX7_size_112 : decode cX7_size 112 = .ok (.aload_n 0, 1) := by decide +kernel
theorem dX7_size_113 : decode cX7_size 113 = .ok (.ldc 68, 2) := by decide +kernel
theorem dX7_size_115 : decode cX7_size 115 = .ok (.invokevirtual 69, 3) := by decide +kernel
theorem dX7_size_118 : decode cX7_size 118 = .ok (.ireturn, 1) := by decide +kernel
theorem dX7_digest_0 : decode cX7_digest 0 = .ok (.ldc2_w 282, 3) := by decide +kernel
theorem dX7_digest_3 : decode cX7_digest 3 = .ok (.lstore_n 1, 1) := by decide +kernel
theorem dX7_digest_4 : decode cX7_digest 4 = .ok (.iconst 0, 1) := by decide +kernel
theorem dX7_digest_5 : decode cX7_digest 5 = .ok (.istore_n 3, 1) := by decide +kernel
theorem dX7_digest_6 : decode cX7_digest 6 = .ok (.iload_n 3, 1) := by decide +kernel
theorem dX7_digest_7 : decode cX7_digest 7 = .ok (.bipush 7, 2) := by decide +kernel
theorem dX7_digest_9 : decode cX7_digest 9 = .ok (.if_icmp .gt 22, 3) := by decide +kernel
theorem dX7_digest_12 : decode cX7_digest 12 = .ok (.ldc2_w 284, 3) := by decide +kernel
theorem dX7_digest_15 : decode cX7_digest 15 = .ok (.lload_n 1, 1) := by decide +kernel
theorem dX7_digest_16 : decode cX7_digest 16 = .ok (.lmul, 1) := by decide +kernel
theorem dX7_digest_17 : decode cX7_digest 17 = .ok (.aload_n 0, 1) := by decide +kernel
theorem dX7_digest_18 : decode cX7_digest 18 = .ok (.iload_n 3, 1) := by decide +kernel
theorem dX7_digest_19 : decode cX7_digest 19 = .ok (.invokevirtual 286, 3) := by decide +kernel
theorem dX7_digest_22 : decode cX7_digest 22 = .ok (.i2l, 1) := by decide +kernel
theorem dX7_digest_23 : decode cX7_digest 23 = .ok (.ladd, 1) := by decide +kernel
theorem dX7_digest_24 : decode cX7_digest 24 = .ok (.lstore_n 1, 1) := by decide +kernel
theorem dX7_digest_25 : decode cX7_digest 25 = .ok (.iinc 3 1, 3) := by decide +kernel
theorem dX7_digest_28 : decode cX7_digest 28 = .ok (.goto (-22), 3) := by decide +kernel
theorem dX7_digest_31 : decode cX7_digest 31 = .ok (.iconst 0, 1) := by decide +kernel
theorem dX7_digest_32 : decode cX7_digest 32 = .ok (.istore_n 3, 1) := by decide +kernel
theorem dX7_digest_33 : decode cX7_digest 33 = .ok (.iload_n 3, 1) := by decide +kernel
theorem dX7_digest_34 : decode cX7_digest 34 = .ok (.iconst 4, 1) := by decide +kernel
theorem dX7_digest_35 : decode cX7_digest 35 = .ok (.if_icmp .gt 22, 3) := by decide +kernel
theorem dX7_digest_38 : decode cX7_digest 38 = .ok (.ldc2_w 284, 3) := by decide +kernel
theorem dX7_digest_41 : decode cX7_digest 41 = .ok (.lload_n 1, 1) := by decide +kernel
theorem dX7_digest_42 : decode cX7_digest 42 = .ok (.lmul, 1) := by decide +kernel
theorem dX7_digest_43 : decode cX7_digest 43 = .ok (.aload_n 0, 1) := by decide +kernel
theorem dX7_digest_44 : decode cX7_digest 44 = .ok (.iload_n 3, 1) := by decide +kernel
theorem dX7_digest_45 : decode cX7_digest 45 = .ok (.invokevirtual 289, 3) := by decide +kernel
theorem dX7_digest_48 : decode cX7_digest 48 = .ok (.i2l, 1) := by decide +kernel
theorem dX7_digest_49 : decode cX7_digest 49 = .ok (.ladd, 1) := by decide +kernel
theorem dX7_digest_50 : decode cX7_digest 50 = .ok (.lstore_n 1, 1) := by decide +kernel
theorem dX7_digest_51 : decode cX7_digest 51 = .ok (.iinc 3 1, 3) := by decide +kernel
theorem dX7_digest_54 : decode cX7_digest 54 = .ok (.goto (-21), 3) := by decide +kernel
theorem dX7_digest_57 : decode cX7_digest 57 = .ok (.iconst 0, 1) := by decide +kernel
theorem dX7_digest_58 : decode cX7_digest 58 = .ok (.istore_n 3, 1) := by decide +kernel
theorem dX7_digest_59 : decode cX7_digest 59 = .ok (.iload_n 3, 1) := by decide +kernel
theorem dX7_digest_60 : decode cX7_digest 60 = .ok (.aload_n 0, 1) := by decide +kernel
theorem dX7_digest_61 : decode cX7_digest 61 = .ok (.getfield 10, 3) := by decide +kernel
theorem dX7_digest_64 : decode cX7_digest 64 = .ok (.getfield 194, 3) := by decide +kernel
theorem dX7_digest_67 : decode cX7_digest 67 = .ok (.if_icmp .ge 104, 3) := by decide +kernel
theorem dX7_digest_70 : decode cX7_digest 70 = .ok (.aload_n 0, 1) := by decide +kernel
theorem dX7_digest_71 : decode cX7_digest 71 = .ok (.getfield 10, 3) := by decide +kernel
theorem dX7_digest_74 : decode cX7_digest 74 = .ok (.iload_n 3, 1) := by decide +kernel
theorem dX7_digest_75 : decode cX7_digest 75 = .ok (.invokevirtual 292, 3) := by decide +kernel
theorem dX7_digest_78 : decode cX7_digest 78 = .ok (.ifCond .eq 87, 3) := by decide +kernel
theorem dX7_digest_81 : decode cX7_digest 81 = .ok (.ldc2_w 284, 3) := by decide +kernel
theorem dX7_digest_84 : decode cX7_digest 84 = .ok (.lload_n 1, 1) := by decide +kernel
theorem dX7_digest_85 : decode cX7_digest 85 = .ok (.lmul, 1) := by decide +kernel
theorem dX7_digest_86 : decode cX7_digest 86 = .ok (.aload_n 0, 1) := by decide +kernel
theorem dX7_digest_87 : decode cX7_digest 87 = .ok (.getfield 10, 3) := by decide +kernel
theorem dX7_digest_90 : decode cX7_digest 90 = .ok (.getfield 174, 3) := by decide +kernel
theorem dX7_digest_93 : decode cX7_digest 93 = .ok (.iload_n 3, 1) := by decide +kernel
theorem dX7_digest_94 : decode cX7_digest 94 = .ok (.iaload, 1) := by decide +kernel
theorem dX7_digest_95 : decode cX7_digest 95 = .ok (.i2l, 1) := by decide +kernel
theorem dX7_digest_96 : decode cX7_digest 96 = .ok (.ladd, 1) := by decide +kernel
theorem dX7_digest_97 : decode cX7_digest 97 = .ok (.lstore_n 1, 1) := by decide +kernel
theorem dX7_digest_98 : decode cX7_digest 98 = .ok (.ldc2_w 284, 3) := by decide +kernel
theorem dX7_digest_101 : decode cX7_digest 101 = .ok (.lload_n 1, 1) := by decide +kernel
theorem dX7_digest_102 : decode cX7_digest 102 = .ok (.lmul, 1) := by decide +kernel
theorem dX7_digest_103 : decode cX7_digest 103 = .ok (.aload_n 0, 1) := by decide +kernel
theorem dX7_digest_104 : decode cX7_digest 104 = .ok (.getfield 10, 3) := by decide +kernel
theorem dX7_digest_107 : decode cX7_digest 107 = .ok (.getfield 127, 3) := by decide +kernel
theorem dX7_digest_110 : decode cX7_digest 110 = .ok (.iload_n 3, 1) := by decide +kernel
theorem dX7_digest_111 : decode cX7_digest 111 = .ok (.iaload, 1) := by decide +kernel
theorem dX7_digest_112 : decode cX7_digest 112 = .ok (.i2l, 1) := by decide +kernel
theorem dX7_digest_113 : decode cX7_digest 113 = .ok (.ladd, 1) := by decide +kernel
theorem dX7_digest_114 : decode cX7_digest 114 = .ok (.lstore_n 1, 1) := by decide +kernel
theorem dX7_digest_115 : decode cX7_digest 115 = .ok (.ldc2_w 284, 3) := by decide +kernel
theorem dX7_digest_118 : decode cX7_digest 118 = .ok (.lload_n 1, 1) := by decide +kernel
theorem dX7_digest_119 : decode cX7_digest 119 = .ok (.lmul, 1) := by decide +kernel
theorem dX7_digest_120 : decode cX7_digest 120 = .ok (.aload_n 0, 1) := by decide +kernel
theorem dX7_digest_121 : decode cX7_digest 121 = .ok (.getfield 10, 3) := by decide +kernel
theorem dX7_digest_124 : decode cX7_digest 124 = .ok (.getfield 131, 3) := by decide +kernel
theorem dX7_digest_127 : decode cX7_digest 127 = .ok (.iload_n 3, 1) := by decide +kernel
theorem dX7_digest_128 : decode cX7_digest 128 = .ok (.iaload, 1) := by decide +kernel
theorem dX7_digest_129 : decode cX7_digest 129 = .ok (.i2l, 1) := by decide +kernel
theorem dX7_digest_130 : decode cX7_digest 130 = .ok (.ladd, 1) := by decide +kernel
theorem dX7_digest_131 : decode cX7_digest 131 = .ok (.lstore_n 1, 1) := by decide +kernel
theorem dX7_digest_132 : decode cX7_digest 132 = .ok (.ldc2_w 284, 3) := by decide +kernel
theorem dX7_digest_135 : decode cX7_digest 135 = .ok (.lload_n 1, 1) := by decide +kernel
theorem dX7_digest_136 : decode cX7_digest 136 = .ok (.lmul, 1) := by decide +kernel
theorem dX7_digest_137 : decode cX7_digest 137 = .ok (.aload_n 0, 1) := by decide +kernel
theorem dX7_digest_138 : decode cX7_digest 138 = .ok (.getfield 10, 3) := by decide +kernel
theorem dX7_digest_141 : decode cX7_digest 141 = .ok (.getfield 134, 3) := by decide +kernel
theorem dX7_digest_144 : decode cX7_digest 144 = .ok (.iload_n 3, 1) := by decide +kernel
theorem dX7_digest_145 : decode cX7_digest 145 = .ok (.iaload, 1) := by decide +kernel
theorem dX7_digest_146 : decode cX7_digest 146 = .ok (.i2l, 1) := by decide +kernel
theorem dX7_digest_147 : decode cX7_digest 147 = .ok (.ladd, 1) := by decide +kernel
theorem dX7_digest_148 : decode cX7_digest 148 = .ok (.lstore_n 1, 1) := by decide +kernel
theorem dX7_digest_149 : decode cX7_digest 149 = .ok (.ldc2_w 284, 3) := by decide +kernel
theorem dX7_digest_152 : decode cX7_digest 152 = .ok (.lload_n 1, 1) := by decide +kernel
theorem dX7_digest_153 : decode cX7_digest 153 = .ok (.lmul, 1) := by decide +kernel
theorem dX7_digest_154 : decode cX7_digest 154 = .ok (.aload_n 0, 1) := by decide +kernel
theorem dX7_digest_155 : decode cX7_digest 155 = .ok (.getfield 10, 3) := by decide +kernel
theorem dX7_digest_158 : decode cX7_digest 158 = .ok (.iload_n 3, 1) := by decide +kernel
theorem dX7_digest_159 : decode cX7_digest 159 = .ok (.invokevirtual 137, 3) := by decide +kernel
theorem dX7_digest_162 : decode cX7_digest 162 = .ok (.i2l, 1) := by decide +kernel
theorem dX7_digest_163 : decode cX7_digest 163 = .ok (.ladd, 1) := by decide +kernel
theorem dX7_digest_164 : decode cX7_digest 164 = .ok (.lstore_n 1, 1) := by decide +kernel
theorem dX7_digest_165 : decode cX7_digest 165 = .ok (.iinc 3 1, 3) := by decide +kernel
theorem dX7_digest_168 : decode cX7_digest 168 = .ok (.goto (-109), 3) := by decide +kernel
theorem dX7_digest_171 : decode cX7_digest 171 = .ok (.ldc2_w 284, 3) := by decide +kernel
theorem dX7_digest_174 : decode cX7_digest 174 = .ok (.lload_n 1, 1) := by decide +kernel
theorem dX7_digest_175 : decode cX7_digest 175 = .ok (.lmul, 1) := by decide +kernel
theorem dX7_digest_176 : decode cX7_digest 176 = .ok (.aload_n 0, 1) := by decide +kernel
theorem dX7_digest_177 : decode cX7_digest 177 = .ok (.getfield 53, 3) := by decide +kernel
theorem dX7_digest_180 : decode cX7_digest 180 = .ok (.getfield 249, 3) := by decide +kernel
theorem dX7_digest_183 : decode cX7_digest 183 = .ok (.ladd, 1) := by decide +kernel
theorem dX7_digest_184 : decode cX7_digest 184 = .ok (.lstore_n 1, 1) := by decide +kernel
theorem dX7_digest_185 : decode cX7_digest 185 = .ok (.ldc2_w 284, 3) := by decide +kernel
theorem dX7_digest_188 : decode cX7_digest 188 = .ok (.lload_n 1, 1) := by decide +kernel
theorem dX7_digest_189 : decode cX7_digest 189 = .ok (.lmul, 1) := by decide +kernel
theorem dX7_digest_190 : decode cX7_digest 190 = .ok (.aload_n 0, 1) := by decide +kernel
theorem dX7_digest_191 : decode cX7_digest 191 = .ok (.getfield 53, 3) := by decide +kernel
theorem dX7_digest_194 : decode cX7_digest 194 = .ok (.getfield 253, 3) := by decide +kernel
theorem dX7_digest_197 : decode cX7_digest 197 = .ok (.ladd, 1) := by decide +kernel
theorem dX7_digest_198 : decode cX7_digest 198 = .ok (.lreturn, 1) := by decide +kernel
theorem dX7_refuse_0 : decode cX7_refuse 0 = .ok (.iload_n 1, 1) := by decide +kernel
theorem dX7_refuse_1 : decode cX7_refuse 1 = .ok (.ldc 68, 2) := by decide +kernel
theorem dX7_refuse_3 : decode cX7_refuse 3 = .ok (.if_icmp .ne 16, 3) := by decide +kernel
theorem dX7_refuse_6 : decode cX7_refuse 6 = .ok (.aload_n 0, 1) := by decide +kernel
theorem dX7_refuse_7 : decode cX7_refuse 7 = .ok (.dup, 1) := by decide +kernel
theorem dX7_refuse_8 : decode cX7_refuse 8 = .ok (.getfield 267, 3) := by decide +kernel
theorem dX7_refuse_11 : decode cX7_refuse 11 = .ok (.iconst 1, 1) := by decide +kernel
theorem dX7_refuse_12 : decode cX7_refuse 12 = .ok (.iadd, 1) := by decide +kernel
theorem dX7_refuse_13 : decode cX7_refuse 13 = .ok (.putfield 267, 3) := by decide +kernel
theorem dX7_refuse_16 : decode cX7_refuse 16 = .ok (.goto 32, 3) := by decide +kernel
theorem dX7_refuse_19 : decode cX7_refuse 19 = .ok (.iload_n 1, 1) := by decide +kernel
theorem dX7_refuse_20 : decode cX7_refuse 20 = .ok (.ldc 123, 2) := by decide +kernel
theorem dX7_refuse_22 : decode cX7_refuse 22 = .ok (.if_icmp .ne 16, 3) := by decide +kernel
theorem dX7_refuse_25 : decode cX7_refuse 25 = .ok (.aload_n 0, 1) := by decide +kernel
theorem dX7_refuse_26 : decode cX7_refuse 26 = .ok (.dup, 1) := by decide +kernel
theorem dX7_refuse_27 : decode cX7_refuse 27 = .ok (.getfield 270, 3) := by decide +kernel
theorem dX7_refuse_30 : decode cX7_refuse 30 = .ok (.iconst 1, 1) := by decide +kernel
theorem dX7_refuse_31 : decode cX7_refuse 31 = .ok (.iadd, 1) := by decide +kernel
theorem dX7_refuse_32 : decode cX7_refuse 32 = .ok (.putfield 270, 3) := by decide +kernel
theorem dX7_refuse_35 : decode cX7_refuse 35 = .ok (.goto 13, 3) := by decide +kernel
theorem dX7_refuse_38 : decode cX7_refuse 38 = .ok (.aload_n 0, 1) := by decide +kernel
theorem dX7_refuse_39 : decode cX7_refuse 39 = .ok (.dup, 1) := by decide +kernel
theorem dX7_refuse_40 : decode cX7_refuse 40 = .ok (.getfield 273, 3) := by decide +kernel
theorem dX7_refuse_43 : decode cX7_refuse 43 = .ok (.iconst 1, 1) := by decide +kernel
theorem dX7_refuse_44 : decode cX7_refuse 44 = .ok (.iadd, 1) := by decide +kernel
theorem dX7_refuse_45 : decode cX7_refuse 45 = .ok (.putfield 273, 3) := by decide +kernel
theorem dX7_refuse_48 : decode cX7_refuse 48 = .ok (.iload_n 1, 1) := by decide +kernel
theorem dX7_refuse_49 : decode cX7_refuse 49 = .ok (.ireturn, 1) := by decide +kernel
theorem dX7_pickRectangle_0 : decode cX7_pickRectangle 0 = .ok (.aload_n 0, 1) := by decide +kernel
theorem dX7_pickRectangle_1 : decode cX7_pickRectangle 1 = .ok (.getfield 36, 3) := by decide +kernel
theorem dX7_pickRectangle_4 : decode cX7_pickRectangle 4 = .ok (.iload_n 1, 1) := by decide +kernel
theorem dX7_pickRectangle_5 : decode cX7_pickRectangle 5 = .ok (.iload_n 2, 1) := by decide +kernel
theorem dX7_pickRectangle_6 : decode cX7_pickRectangle 6 = .ok (.iload_n 3, 1) := by decide +kernel
theorem dX7_pickRectangle_7 : decode cX7_pickRectangle 7 = .ok (.iload 4, 2) := by decide +kernel
theorem dX7_pickRectangle_9 : decode cX7_pickRectangle 9 = .ok (.invokevirtual 211, 3) := by decide +kernel
theorem dX7_pickRectangle_12 : decode cX7_pickRectangle 12 = .ok (.aload_n 0, 1) := by decide +kernel
theorem dX7_pickRectangle_13 : decode cX7_pickRectangle 13 = .ok (.getfield 26, 3) := by decide +kernel
theorem dX7_pickRectangle_16 : decode cX7_pickRectangle 16 = .ok (.aload_n 0, 1) := by decide +kernel
theorem dX7_pickRectangle_17 : decode cX7_pickRectangle 17 = .ok (.getfield 10, 3) := by decide +kernel
theorem dX7_pickRectangle_20 : decode cX7_pickRectangle 20 = .ok (.aload_n 0, 1) := by decide +kernel
theorem dX7_pickRectangle_21 : decode cX7_pickRectangle 21 = .ok (.getfield 36, 3) := by decide +kernel
theorem dX7_pickRectangle_24 : decode cX7_pickRectangle 24 = .ok (.invokevirtual 238, 3) := by decide +kernel
theorem dX7_pickRectangle_27 : decode cX7_pickRectangle 27 = .ok (.return_, 1) := by decide +kernel
theorem dX7_takePicked_0 : decode cX7_takePicked 0 = .ok (.aload_n 0, 1) := by decide +kernel
theorem dX7_takePicked_1 : decode cX7_takePicked 1 = .ok (.getfield 26, 3) := by decide +kernel
theorem dX7_takePicked_4 : decode cX7_takePicked 4 = .ok (.getfield 157, 3) := by decide +kernel
theorem dX7_takePicked_7 : decode cX7_takePicked 7 = .ok (.istore_n 1, 1) := by decide +kernel
theorem dX7_takePicked_8 : decode cX7_takePicked 8 = .ok (.iload_n 1, 1) := by decide +kernel
theorem dX7_takePicked_9 : decode cX7_takePicked 9 = .ok (.ifCond .ne 5, 3) := by decide +kernel
theorem dX7_takePicked_12 : decode cX7_takePicked 12 = .ok (.iconst 0, 1) := by decide +kernel
end
section
theorem dX7_takePicked_13 : decode cX7_takePicked 13 = .ok (.ireturn, 1) := by decide +kernel
theorem dX7_takePicked_14 : decode cX7_takePicked 14 = .ok (.aload_n 0, 1) := by decide +kernel
theorem dX7_takePicked_15 : decode cX7_takePicked 15 = .ok (.getfield 19, 3) := by decide +kernel
theorem dX7_takePicked_18 : decode cX7_takePicked 18 = .ok (.aload_n 0, 1) := by decide +kernel
theorem dX7_takePicked_19 : decode cX7_takePicked 19 = .ok (.getfield 10, 3) := by decide +kernel
theorem dX7_takePicked_22 : decode cX7_takePicked 22 = .ok (.invokevirtual 82, 3) := by decide +kernel
theorem dX7_takePicked_25 : decode cX7_takePicked 25 = .ok (.aload_n 0, 1) := by decide +kernel
theorem dX7_takePicked_26 : decode cX7_takePicked 26 = .ok (.getfield 26, 3) := by decide +kernel
theorem dX7_takePicked_29 : decode cX7_takePicked 29 = .ok (.aload_n 0, 1) := by decide +kernel
theorem dX7_takePicked_30 : decode cX7_takePicked 30 = .ok (.getfield 10, 3) := by decide +kernel
theorem dX7_takePicked_33 : decode cX7_takePicked 33 = .ok (.invokevirtual 160, 3) := by decide +kernel
theorem dX7_takePicked_36 : decode cX7_takePicked 36 = .ok (.aload_n 0, 1) := by decide +kernel
theorem dX7_takePicked_37 : decode cX7_takePicked 37 = .ok (.getfield 26, 3) := by decide +kernel
theorem dX7_takePicked_40 : decode cX7_takePicked 40 = .ok (.aload_n 0, 1) := by decide +kernel
theorem dX7_takePicked_41 : decode cX7_takePicked 41 = .ok (.getfield 10, 3) := by decide +kernel
theorem dX7_takePicked_44 : decode cX7_takePicked 44 = .ok (.invokevirtual 295, 3) := by decide +kernel
theorem dX7_takePicked_47 : decode cX7_takePicked 47 = .ok (.iconst 0, 1) := by decide +kernel
theorem dX7_takePicked_48 : decode cX7_takePicked 48 = .ok (.istore_n 2, 1) := by decide +kernel
theorem dX7_takePicked_49 : decode cX7_takePicked 49 = .ok (.iload_n 2, 1) := by decide +kernel
theorem dX7_takePicked_50 : decode cX7_takePicked 50 = .ok (.iload_n 1, 1) := by decide +kernel
theorem dX7_takePicked_51 : decode cX7_takePicked 51 = .ok (.if_icmp .ge 33, 3) := by decide +kernel
theorem dX7_takePicked_54 : decode cX7_takePicked 54 = .ok (.aload_n 0, 1) := by decide +kernel
theorem dX7_takePicked_55 : decode cX7_takePicked 55 = .ok (.getfield 10, 3) := by decide +kernel
theorem dX7_takePicked_58 : decode cX7_takePicked 58 = .ok (.aload_n 0, 1) := by decide +kernel
theorem dX7_takePicked_59 : decode cX7_takePicked 59 = .ok (.getfield 10, 3) := by decide +kernel
theorem dX7_takePicked_62 : decode cX7_takePicked 62 = .ok (.aload_n 0, 1) := by decide +kernel
theorem dX7_takePicked_63 : decode cX7_takePicked 63 = .ok (.getfield 26, 3) := by decide +kernel
theorem dX7_takePicked_66 : decode cX7_takePicked 66 = .ok (.getfield 164, 3) := by decide +kernel
theorem dX7_takePicked_69 : decode cX7_takePicked 69 = .ok (.iload_n 2, 1) := by decide +kernel
theorem dX7_takePicked_70 : decode cX7_takePicked 70 = .ok (.iaload, 1) := by decide +kernel
theorem dX7_takePicked_71 : decode cX7_takePicked 71 = .ok (.invokevirtual 90, 3) := by decide +kernel
theorem dX7_takePicked_74 : decode cX7_takePicked 74 = .ok (.invokevirtual 93, 3) := by decide +kernel
theorem dX7_takePicked_77 : decode cX7_takePicked 77 = .ok (.pop, 1) := by decide +kernel
theorem dX7_takePicked_78 : decode cX7_takePicked 78 = .ok (.iinc 2 1, 3) := by decide +kernel
theorem dX7_takePicked_81 : decode cX7_takePicked 81 = .ok (.goto (-32), 3) := by decide +kernel
theorem dX7_takePicked_84 : decode cX7_takePicked 84 = .ok (.iload_n 1, 1) := by decide +kernel
theorem dX7_takePicked_85 : decode cX7_takePicked 85 = .ok (.ireturn, 1) := by decide +kernel
theorem dX7_isOnAxis_0 : decode cX7_isOnAxis 0 = .ok (.iload_n 0, 1) := by decide +kernel
theorem dX7_isOnAxis_1 : decode cX7_isOnAxis 1 = .ok (.sipush (-500), 3) := by decide +kernel
theorem dX7_isOnAxis_4 : decode cX7_isOnAxis 4 = .ok (.if_icmp .lt 14, 3) := by decide +kernel
theorem dX7_isOnAxis_7 : decode cX7_isOnAxis 7 = .ok (.iload_n 0, 1) := by decide +kernel
theorem dX7_isOnAxis_8 : decode cX7_isOnAxis 8 = .ok (.sipush 500, 3) := by decide +kernel
theorem dX7_isOnAxis_11 : decode cX7_isOnAxis 11 = .ok (.if_icmp .gt 7, 3) := by decide +kernel
theorem dX7_isOnAxis_14 : decode cX7_isOnAxis 14 = .ok (.iconst 1, 1) := by decide +kernel
theorem dX7_isOnAxis_15 : decode cX7_isOnAxis 15 = .ok (.goto 4, 3) := by decide +kernel
theorem dX7_isOnAxis_18 : decode cX7_isOnAxis 18 = .ok (.iconst 0, 1) := by decide +kernel
theorem dX7_isOnAxis_19 : decode cX7_isOnAxis 19 = .ok (.ireturn, 1) := by decide +kernel
theorem dX7_isPlace_0 : decode cX7_isPlace 0 = .ok (.iload_n 0, 1) := by decide +kernel
theorem dX7_isPlace_1 : decode cX7_isPlace 1 = .ok (.invokestatic 298, 3) := by decide +kernel
theorem dX7_isPlace_4 : decode cX7_isPlace 4 = .ok (.ifCond .eq 14, 3) := by decide +kernel
theorem dX7_isPlace_7 : decode cX7_isPlace 7 = .ok (.iload_n 1, 1) := by decide +kernel
theorem dX7_isPlace_8 : decode cX7_isPlace 8 = .ok (.invokestatic 298, 3) := by decide +kernel
theorem dX7_isPlace_11 : decode cX7_isPlace 11 = .ok (.ifCond .eq 7, 3) := by decide +kernel
theorem dX7_isPlace_14 : decode cX7_isPlace 14 = .ok (.iconst 1, 1) := by decide +kernel
theorem dX7_isPlace_15 : decode cX7_isPlace 15 = .ok (.goto 4, 3) := by decide +kernel
theorem dX7_isPlace_18 : decode cX7_isPlace 18 = .ok (.iconst 0, 1) := by decide +kernel
theorem dX7_isPlace_19 : decode cX7_isPlace 19 = .ok (.ireturn, 1) := by decide +kernel
theorem dX7_isRectangle_0 : decode cX7_isRectangle 0 = .ok (.iload_n 0, 1) := by decide +kernel
theorem dX7_isRectangle_1 : decode cX7_isRectangle 1 = .ok (.iload_n 1, 1) := by decide +kernel
theorem dX7_isRectangle_2 : decode cX7_isRectangle 2 = .ok (.invokestatic 64, 3) := by decide +kernel
theorem dX7_isRectangle_5 : decode cX7_isRectangle 5 = .ok (.ifCond .eq 25, 3) := by decide +kernel
theorem dX7_isRectangle_8 : decode cX7_isRectangle 8 = .ok (.iload_n 2, 1) := by decide +kernel
theorem dX7_isRectangle_9 : decode cX7_isRectangle 9 = .ok (.iload_n 3, 1) := by decide +kernel
theorem dX7_isRectangle_10 : decode cX7_isRectangle 10 = .ok (.invokestatic 64, 3) := by decide +kernel
theorem dX7_isRectangle_13 : decode cX7_isRectangle 13 = .ok (.ifCond .eq 17, 3) := by decide +kernel
theorem dX7_isRectangle_16 : decode cX7_isRectangle 16 = .ok (.iload_n 0, 1) := by decide +kernel
theorem dX7_isRectangle_17 : decode cX7_isRectangle 17 = .ok (.iload_n 1, 1) := by decide +kernel
theorem dX7_isRectangle_18 : decode cX7_isRectangle 18 = .ok (.if_icmp .gt 12, 3) := by decide +kernel
theorem dX7_isRectangle_21 : decode cX7_isRectangle 21 = .ok (.iload_n 2, 1) := by decide +kernel
theorem dX7_isRectangle_22 : decode cX7_isRectangle 22 = .ok (.iload_n 3, 1) := by decide +kernel
theorem dX7_isRectangle_23 : decode cX7_isRectangle 23 = .ok (.if_icmp .gt 7, 3) := by decide +kernel
theorem dX7_isRectangle_26 : decode cX7_isRectangle 26 = .ok (.iconst 1, 1) := by decide +kernel
theorem dX7_isRectangle_27 : decode cX7_isRectangle 27 = .ok (.goto 4, 3) := by decide +kernel
theorem dX7_isRectangle_30 : decode cX7_isRectangle 30 = .ok (.iconst 0, 1) := by decide +kernel
theorem dX7_isRectangle_31 : decode cX7_isRectangle 31 = .ok (.ireturn, 1) := by decide +kernel
theorem dX7_draw_0 : decode cX7_draw 0 = .ok (.lload_n 0, 1) := by decide +kernel
theorem dX7_draw_1 : decode cX7_draw 1 = .ok (.ldc2_w 301, 3) := by decide +kernel
theorem dX7_draw_4 : decode cX7_draw 4 = .ok (.lmul, 1) := by decide +kernel
theorem dX7_draw_5 : decode cX7_draw 5 = .ok (.ldc2_w 303, 3) := by decide +kernel
theorem dX7_draw_8 : decode cX7_draw 8 = .ok (.ladd, 1) := by decide +kernel
theorem dX7_draw_9 : decode cX7_draw 9 = .ok (.ldc2_w 305, 3) := by decide +kernel
theorem dX7_draw_12 : decode cX7_draw 12 = .ok (.lrem, 1) := by decide +kernel
theorem dX7_draw_13 : decode cX7_draw 13 = .ok (.lreturn, 1) := by decide +kernel
theorem dX7_leftOver_0 : decode cX7_leftOver 0 = .ok (.iload_n 2, 1) := by decide +kernel
theorem dX7_leftOver_1 : decode cX7_leftOver 1 = .ok (.iconst 1, 1) := by decide +kernel
theorem dX7_leftOver_2 : decode cX7_leftOver 2 = .ok (.if_icmp .ge 7, 3) := by decide +kernel
theorem dX7_leftOver_5 : decode cX7_leftOver 5 = .ok (.iconst 0, 1) := by decide +kernel
theorem dX7_leftOver_6 : decode cX7_leftOver 6 = .ok (.goto 12, 3) := by decide +kernel
theorem dX7_leftOver_9 : decode cX7_leftOver 9 = .ok (.lload_n 0, 1) := by decide +kernel
theorem dX7_leftOver_10 : decode cX7_leftOver 10 = .ok (.ldc2_w 307, 3) := by decide +kernel
theorem dX7_leftOver_13 : decode cX7_leftOver 13 = .ok (.ldiv, 1) := by decide +kernel
theorem dX7_leftOver_14 : decode cX7_leftOver 14 = .ok (.iload_n 2, 1) := by decide +kernel
theorem dX7_leftOver_15 : decode cX7_leftOver 15 = .ok (.i2l, 1) := by decide +kernel
theorem dX7_leftOver_16 : decode cX7_leftOver 16 = .ok (.lrem, 1) := by decide +kernel
theorem dX7_leftOver_17 : decode cX7_leftOver 17 = .ok (.l2i, 1) := by decide +kernel
theorem dX7_leftOver_18 : decode cX7_leftOver 18 = .ok (.ireturn, 1) := by decide +kernel
theorem dX8_init_0 : decode cX8_init 0 = .ok (.aload_n 0, 1) := by decide +kernel
theorem dX8_init_1 : decode cX8_init 1 = .ok (.invokespecial 1, 3) := by decide +kernel
theorem dX8_init_4 : decode cX8_init 4 = .ok (.aload_n 0, 1) := by decide +kernel
theorem dX8_init_5 : decode cX8_init 5 = .ok (.sipush 7458, 3) := by decide +kernel
theorem dX8_init_8 : decode cX8_init 8 = .ok (.newarray .int, 2) := by decide +kernel
theorem dX8_init_10 : decode cX8_init 10 = .ok (.putfield 7, 3) := by decide +kernel
theorem dX8_init_13 : decode cX8_init 13 = .ok (.aload_n 0, 1) := by decide +kernel
theorem dX8_init_14 : decode cX8_init 14 = .ok (.sipush 728, 3) := by decide +kernel
theorem dX8_init_17 : decode cX8_init 17 = .ok (.newarray .int, 2) := by decide +kernel
theorem dX8_init_19 : decode cX8_init 19 = .ok (.putfield 13, 3) := by decide +kernel
theorem dX8_init_22 : decode cX8_init 22 = .ok (.aload_n 0, 1) := by decide +kernel
theorem dX8_init_23 : decode cX8_init 23 = .ok (.iconst 2, 1) := by decide +kernel
theorem dX8_init_24 : decode cX8_init 24 = .ok (.newarray .boolean, 2) := by decide +kernel
theorem dX8_init_26 : decode cX8_init 26 = .ok (.putfield 16, 3) := by decide +kernel
theorem dX8_init_29 : decode cX8_init 29 = .ok (.aload_n 0, 1) := by decide +kernel
theorem dX8_init_30 : decode cX8_init 30 = .ok (.bipush 120, 2) := by decide +kernel
theorem dX8_init_32 : decode cX8_init 32 = .ok (.newarray .int, 2) := by decide +kernel
theorem dX8_init_34 : decode cX8_init 34 = .ok (.putfield 20, 3) := by decide +kernel
theorem dX8_init_37 : decode cX8_init 37 = .ok (.aload_n 0, 1) := by decide +kernel
theorem dX8_init_38 : decode cX8_init 38 = .ok (.lconst 0, 1) := by decide +kernel
theorem dX8_init_39 : decode cX8_init 39 = .ok (.putfield 23, 3) := by decide +kernel
theorem dX8_init_42 : decode cX8_init 42 = .ok (.aload_n 0, 1) := by decide +kernel
theorem dX8_init_43 : decode cX8_init 43 = .ok (.lconst 1, 1) := by decide +kernel
theorem dX8_init_44 : decode cX8_init 44 = .ok (.putfield 27, 3) := by decide +kernel
theorem dX8_init_47 : decode cX8_init 47 = .ok (.aload_n 0, 1) := by decide +kernel
theorem dX8_init_48 : decode cX8_init 48 = .ok (.iconst 3, 1) := by decide +kernel
theorem dX8_init_49 : decode cX8_init 49 = .ok (.newarray .int, 2) := by decide +kernel
theorem dX8_init_51 : decode cX8_init 51 = .ok (.putfield 30, 3) := by decide +kernel
theorem dX8_init_54 : decode cX8_init 54 = .ok (.aload_n 0, 1) := by decide +kernel
theorem dX8_init_55 : decode cX8_init 55 = .ok (.bipush 60, 2) := by decide +kernel
theorem dX8_init_57 : decode cX8_init 57 = .ok (.newarray .int, 2) := by decide +kernel
theorem dX8_init_59 : decode cX8_init 59 = .ok (.putfield 33, 3) := by decide +kernel
theorem dX8_init_62 : decode cX8_init 62 = .ok (.aload_n 0, 1) := by decide +kernel
theorem dX8_init_63 : decode cX8_init 63 = .ok (.sipush 128, 3) := by decide +kernel
theorem dX8_init_66 : decode cX8_init 66 = .ok (.newarray .int, 2) := by decide +kernel
theorem dX8_init_68 : decode cX8_init 68 = .ok (.putfield 36, 3) := by decide +kernel
theorem dX8_init_71 : decode cX8_init 71 = .ok (.aload_n 0, 1) := by decide +kernel
theorem dX8_init_72 : decode cX8_init 72 = .ok (.bipush 64, 2) := by decide +kernel
theorem dX8_init_74 : decode cX8_init 74 = .ok (.newarray .boolean, 2) := by decide +kernel
theorem dX8_init_76 : decode cX8_init 76 = .ok (.putfield 39, 3) := by decide +kernel
theorem dX8_init_79 : decode cX8_init 79 = .ok (.aload_n 0, 1) := by decide +kernel
theorem dX8_init_80 : decode cX8_init 80 = .ok (.getfield 7, 3) := by decide +kernel
theorem dX8_init_83 : decode cX8_init 83 = .ok (.iconst 2, 1) := by decide +kernel
theorem dX8_init_84 : decode cX8_init 84 = .ok (.iconst 0, 1) := by decide +kernel
theorem dX8_init_85 : decode cX8_init 85 = .ok (.iastore, 1) := by decide +kernel
theorem dX8_init_86 : decode cX8_init 86 = .ok (.return_, 1) := by decide +kernel
theorem dX8_in_0 : decode cX8_in 0 = .ok (.lload_n 0, 1) := by decide +kernel
theorem dX8_in_1 : decode cX8_in 1 = .ok (.lload_n 2, 1) := by decide +kernel
theorem dX8_in_2 : decode cX8_in 2 = .ok (.lcmp, 1) := by decide +kernel
theorem dX8_in_3 : decode cX8_in 3 = .ok (.ifCond .lt 14, 3) := by decide +kernel
theorem dX8_in_6 : decode cX8_in 6 = .ok (.lload_n 0, 1) := by decide +kernel
theorem dX8_in_7 : decode cX8_in 7 = .ok (.lload 4, 2) := by decide +kernel
theorem dX8_in_9 : decode cX8_in 9 = .ok (.lcmp, 1) := by decide +kernel
theorem dX8_in_10 : decode cX8_in 10 = .ok (.ifCond .gt 7, 3) := by decide +kernel
theorem dX8_in_13 : decode cX8_in 13 = .ok (.iconst 1, 1) := by decide +kernel
theorem dX8_in_14 : decode cX8_in 14 = .ok (.goto 4, 3) := by decide +kernel
theorem dX8_in_17 : decode cX8_in 17 = .ok (.iconst 0, 1) := by decide +kernel
theorem dX8_in_18 : decode cX8_in 18 = .ok (.ireturn, 1) := by decide +kernel
theorem dX8_bits_0 : decode cX8_bits 0 = .ok (.iconst 0, 1) := by decide +kernel
theorem dX8_bits_1 : decode cX8_bits 1 = .ok (.istore_n 1, 1) := by decide +kernel
theorem dX8_bits_2 : decode cX8_bits 2 = .ok (.iconst 0, 1) := by decide +kernel
theorem dX8_bits_3 : decode cX8_bits 3 = .ok (.istore_n 2, 1) := by decide +kernel
theorem dX8_bits_4 : decode cX8_bits 4 = .ok (.iload_n 2, 1) := by decide +kernel
theorem dX8_bits_5 : decode cX8_bits 5 = .ok (.bipush 8, 2) := by decide +kernel
theorem dX8_bits_7 : decode cX8_bits 7 = .ok (.if_icmp .ge 17, 3) := by decide +kernel
theorem dX8_bits_10 : decode cX8_bits 10 = .ok (.iload_n 1, 1) := by decide +kernel
theorem dX8_bits_11 : decode cX8_bits 11 = .ok (.iload_n 0, 1) := by decide +kernel
theorem dX8_bits_12 : decode cX8_bits 12 = .ok (.iload_n 2, 1) := by decide +kernel
theorem dX8_bits_13 : decode cX8_bits 13 = .ok (.ishr, 1) := by decide +kernel
theorem dX8_bits_14 : decode cX8_bits 14 = .ok (.iconst 1, 1) := by decide +kernel
theorem dX8_bits_15 : decode cX8_bits 15 = .ok (.iand, 1) := by decide +kernel
theorem dX8_bits_16 : decode cX8_bits 16 = .ok (.iadd, 1) := by decide +kernel
theorem dX8_bits_17 : decode cX8_bits 17 = .ok (.istore_n 1, 1) := by decide +kernel
theorem dX8_bits_18 : decode cX8_bits 18 = .ok (.iinc 2 1, 3) := by decide +kernel
theorem dX8_bits_21 : decode cX8_bits 21 = .ok (.goto (-17), 3) := by decide +kernel
theorem dX8_bits_24 : decode cX8_bits 24 = .ok (.iload_n 1, 1) := by decide +kernel
theorem dX8_bits_25 : decode cX8_bits 25 = .ok (.ireturn, 1) := by decide +kernel
theorem dX8_bad_0 : decode cX8_bad 0 = .ok (.aload_n 0, 1) := by decide +kernel
theorem dX8_bad_1 : decode cX8_bad 1 = .ok (.getfield 30, 3) := by decide +kernel
theorem dX8_bad_4 : decode cX8_bad 4 = .ok (.iconst 0, 1) := by decide +kernel
theorem dX8_bad_5 : decode cX8_bad 5 = .ok (.dup2, 1) := by decide +kernel
theorem dX8_bad_6 : decode cX8_bad 6 = .ok (.iaload, 1) := by decide +kernel
theorem dX8_bad_7 : decode cX8_bad 7 = .ok (.iconst 1, 1) := by decide +kernel
theorem dX8_bad_8 : decode cX8_bad 8 = .ok (.iadd, 1) := by decide +kernel
theorem dX8_bad_9 : decode cX8_bad 9 = .ok (.iastore, 1) := by decide +kernel
theorem dX8_bad_10 : decode cX8_bad 10 = .ok (.ldc 42, 2) := by decide +kernel
theorem dX8_bad_12 : decode cX8_bad 12 = .ok (.ireturn, 1) := by decide +kernel
theorem dX8_no_0 : decode cX8_no 0 = .ok (.aload_n 0, 1) := by decide +kernel
theorem dX8_no_1 : decode cX8_no 1 = .ok (.getfield 30, 3) := by decide +kernel
theorem dX8_no_4 : decode cX8_no 4 = .ok (.iconst 1, 1) := by decide +kernel
theorem dX8_no_5 : decode cX8_no 5 = .ok (.dup2, 1) := by decide +kernel
theorem dX8_no_6 : decode cX8_no 6 = .ok (.iaload, 1) := by decide +kernel
theorem dX8_no_7 : decode cX8_no 7 = .ok (.iconst 1, 1) := by decide +kernel
theorem dX8_no_8 : decode cX8_no 8 = .ok (.iadd, 1) := by decide +kernel
theorem dX8_no_9 : decode cX8_no 9 = .ok (.iastore, 1) := by decide +kernel
theorem dX8_no_10 : decode cX8_no 10 = .ok (.ldc 43, 2) := by decide +kernel
theorem dX8_no_12 : decode cX8_no 12 = .ok (.ireturn, 1) := by decide +kernel
theorem dX8_full_0 : decode cX8_full 0 = .ok (.aload_n 0, 1) := by decide +kernel
theorem dX8_full_1 : decode cX8_full 1 = .ok (.getfield 30, 3) := by decide +kernel
theorem dX8_full_4 : decode cX8_full 4 = .ok (.iconst 2, 1) := by decide +kernel
theorem dX8_full_5 : decode cX8_full 5 = .ok (.dup2, 1) := by decide +kernel
theorem dX8_full_6 : decode cX8_full 6 = .ok (.iaload, 1) := by decide +kernel
theorem dX8_full_7 : decode cX8_full 7 = .ok (.iconst 1, 1) := by decide +kernel
theorem dX8_full_8 : decode cX8_full 8 = .ok (.iadd, 1) := by decide +kernel
theorem dX8_full_9 : decode cX8_full 9 = .ok (.iastore, 1) := by decide +kernel
theorem dX8_full_10 : decode cX8_full 10 = .ok (.ldc 44, 2) := by decide +kernel
theorem dX8_full_12 : decode cX8_full 12 = .ok (.ireturn, 1) := by decide +kernel
theorem dX8_copy_0 : decode cX8_copy 0 = .ok (.iconst 0, 1) := by decide +kernel
theorem dX8_copy_1 : decode cX8_copy 1 = .ok (.istore_n 3, 1) := by decide +kernel
theorem dX8_copy_2 : decode cX8_copy 2 = .ok (.iload_n 3, 1) := by decide +kernel
theorem dX8_copy_3 : decode cX8_copy 3 = .ok (.sipush 678, 3) := by decide +kernel
theorem dX8_copy_6 : decode cX8_copy 6 = .ok (.if_icmp .ge 25, 3) := by decide +kernel
theorem dX8_copy_9 : decode cX8_copy 9 = .ok (.aload_n 0, 1) := by decide +kernel
theorem dX8_copy_10 : decode cX8_copy 10 = .ok (.getfield 7, 3) := by decide +kernel
theorem dX8_copy_13 : decode cX8_copy 13 = .ok (.iload_n 2, 1) := by decide +kernel
theorem dX8_copy_14 : decode cX8_copy 14 = .ok (.iload_n 3, 1) := by decide +kernel
theorem dX8_copy_15 : decode cX8_copy 15 = .ok (.iadd, 1) := by decide +kernel
theorem dX8_copy_16 : decode cX8_copy 16 = .ok (.aload_n 0, 1) := by decide +kernel
theorem dX8_copy_17 : decode cX8_copy 17 = .ok (.getfield 7, 3) := by decide +kernel
theorem dX8_copy_20 : decode cX8_copy 20 = .ok (.iload_n 1, 1) := by decide +kernel
theorem dX8_copy_21 : decode cX8_copy 21 = .ok (.iload_n 3, 1) := by decide +kernel
theorem dX8_copy_22 : decode cX8_copy 22 = .ok (.iadd, 1) := by decide +kernel
theorem dX8_copy_23 : decode cX8_copy 23 = .ok (.iaload, 1) := by decide +kernel
theorem dX8_copy_24 : decode cX8_copy 24 = .ok (.iastore, 1) := by decide +kernel
theorem dX8_copy_25 : decode cX8_copy 25 = .ok (.iinc 3 1, 3) := by decide +kernel
theorem dX8_copy_28 : decode cX8_copy 28 = .ok (.goto (-26), 3) := by decide +kernel
theorem dX8_copy_31 : decode cX8_copy 31 = .ok (.return_, 1) := by decide +kernel
theorem dX8_copyArea_0 : decode cX8_copyArea 0 = .ok (.iconst 0, 1) := by decide +kernel
theorem dX8_copyArea_1 : decode cX8_copyArea 1 = .ok (.istore_n 3, 1) := by decide +kernel
theorem dX8_copyArea_2 : decode cX8_copyArea 2 = .ok (.iload_n 3, 1) := by decide +kernel
theorem dX8_copyArea_3 : decode cX8_copyArea 3 = .ok (.sipush 182, 3) := by decide +kernel
theorem dX8_copyArea_6 : decode cX8_copyArea 6 = .ok (.if_icmp .ge 25, 3) := by decide +kernel
theorem dX8_copyArea_9 : decode cX8_copyArea 9 = .ok (.aload_n 0, 1) := by decide +kernel
theorem dX8_copyArea_10 : decode cX8_copyArea 10 = .ok (.getfield 13, 3) := by decide +kernel
theorem dX8_copyArea_13 : decode cX8_copyArea 13 = .ok (.iload_n 2, 1) := by decide +kernel
theorem dX8_copyArea_14 : decode cX8_copyArea 14 = .ok (.iload_n 3, 1) := by decide +kernel
theorem dX8_copyArea_15 : decode cX8_copyArea 15 = .ok (.iadd, 1) := by decide +kernel
theorem dX8_copyArea_16 : decode cX8_copyArea 16 = .ok (.aload_n 0, 1) := by decide +kernel
theorem dX8_copyArea_17 : decode cX8_copyArea 17 = .ok (.getfield 13, 3) := by decide +kernel
theorem dX8_copyArea_20 : decode cX8_copyArea 20 = .ok (.iload_n 1, 1) := by decide +kernel
theorem dX8_copyArea_21 : decode cX8_copyArea 21 = .ok (.iload_n 3, 1) := by decide +kernel
theorem dX8_copyArea_22 : decode cX8_copyArea 22 = .ok (.iadd, 1) := by decide +kernel
theorem dX8_copyArea_23 : decode cX8_copyArea 23 = .ok (.iaload, 1) := by decide +kernel
theorem dX8_copyArea_24 : decode cX8_copyArea 24 = .ok (.iastore, 1) := by decide +kernel
theorem dX8_copyArea_25 : decode cX8_copyArea 25 = .ok (.iinc 3 1, 3) := by decide +kernel
theorem dX8_copyArea_28 : decode cX8_copyArea 28 = .ok (.goto (-26), 3) := by decide +kernel
theorem dX8_copyArea_31 : decode cX8_copyArea 31 = .ok (.return_, 1) := by decide +kernel
theorem dX8_isPlace_0 : decode cX8_isPlace 0 = .ok (.iload_n 0, 1) := by decide +kernel
theorem dX8_isPlace_1 : decode cX8_isPlace 1 = .ok (.i2l, 1) := by decide +kernel
theorem dX8_isPlace_2 : decode cX8_isPlace 2 = .ok (.ldc2_w 45, 3) := by decide +kernel
theorem dX8_isPlace_5 : decode cX8_isPlace 5 = .ok (.ldc2_w 47, 3) := by decide +kernel
theorem dX8_isPlace_8 : decode cX8_isPlace 8 = .ok (.invokestatic 49, 3) := by decide +kernel
theorem dX8_isPlace_11 : decode cX8_isPlace 11 = .ok (.ireturn, 1) := by decide +kernel
theorem dX8_isRect_0 : decode cX8_isRect 0 = .ok (.iload_n 0, 1) := by decide +kernel
theorem dX8_isRect_1 : decode cX8_isRect 1 = .ok (.invokestatic 53, 3) := by decide +kernel
theorem dX8_isRect_4 : decode cX8_isRect 4 = .ok (.ifCond .eq 38, 3) := by decide +kernel
theorem dX8_isRect_7 : decode cX8_isRect 7 = .ok (.iload_n 1, 1) := by decide +kernel
theorem dX8_isRect_8 : decode cX8_isRect 8 = .ok (.invokestatic 53, 3) := by decide +kernel
theorem dX8_isRect_11 : decode cX8_isRect 11 = .ok (.ifCond .eq 31, 3) := by decide +kernel
theorem dX8_isRect_14 : decode cX8_isRect 14 = .ok (.iload_n 2, 1) := by decide +kernel
theorem dX8_isRect_15 : decode cX8_isRect 15 = .ok (.invokestatic 53, 3) := by decide +kernel
theorem dX8_isRect_18 : decode cX8_isRect 18 = .ok (.ifCond .eq 24, 3) := by decide +kernel
theorem dX8_isRect_21 : decode cX8_isRect 21 = .ok (.iload_n 3, 1) := by decide +kernel
theorem dX8_isRect_22 : decode cX8_isRect 22 = .ok (.invokestatic 53, 3) := by decide +kernel
theorem dX8_isRect_25 : decode cX8_isRect 25 = .ok (.ifCond .eq 17, 3) := by decide +kernel
theorem dX8_isRect_28 : decode cX8_isRect 28 = .ok (.iload_n 0, 1) := by decide +kernel
theorem dX8_isRect_29 : decode cX8_isRect 29 = .ok (.iload_n 1, 1) := by decide +kernel
theorem dX8_isRect_30 : decode cX8_isRect 30 = .ok (.if_icmp .gt 12, 3) := by decide +kernel
theorem dX8_isRect_33 : decode cX8_isRect 33 = .ok (.iload_n 2, 1) := by decide +kernel
theorem dX8_isRect_34 : decode cX8_isRect 34 = .ok (.iload_n 3, 1) := by decide +kernel
theorem dX8_isRect_35 : decode cX8_isRect 35 = .ok (.if_icmp .gt 7, 3) := by decide +kernel
theorem dX8_isRect_38 : decode cX8_isRect 38 = .ok (.iconst 1, 1) := by decide +kernel
theorem dX8_isRect_39 : decode cX8_isRect 39 = .ok (.goto 4, 3) := by decide +kernel
theorem dX8_isRect_42 : decode cX8_isRect 42 = .ok (.iconst 0, 1) := by decide +kernel
theorem dX8_isRect_43 : decode cX8_isRect 43 = .ok (.ireturn, 1) := by decide +kernel
theorem dX8_points_0 : decode cX8_points 0 = .ok (.aload_n 0, 1) := by decide +kernel
theorem dX8_points_1 : decode cX8_points 1 = .ok (.getfield 7, 3) := by decide +kernel
theorem dX8_points_4 : decode cX8_points 4 = .ok (.iconst 0, 1) := by decide +kernel
theorem dX8_points_5 : decode cX8_points 5 = .ok (.iaload, 1) := by decide +kernel
theorem dX8_points_6 : decode cX8_points 6 = .ok (.aload_n 0, 1) := by decide +kernel
theorem dX8_points_7 : decode cX8_points 7 = .ok (.getfield 7, 3) := by decide +kernel
theorem dX8_points_10 : decode cX8_points 10 = .ok (.iconst 1, 1) := by decide +kernel
theorem dX8_points_11 : decode cX8_points 11 = .ok (.iaload, 1) := by decide +kernel
theorem dX8_points_12 : decode cX8_points 12 = .ok (.isub, 1) := by decide +kernel
theorem dX8_points_13 : decode cX8_points 13 = .ok (.ireturn, 1) := by decide +kernel
theorem dX8_isThere_0 : decode cX8_isThere 0 = .ok (.aload_n 0, 1) := by decide +kernel
theorem dX8_isThere_1 : decode cX8_isThere 1 = .ok (.getfield 7, 3) := by decide +kernel
theorem dX8_isThere_4 : decode cX8_isThere 4 = .ok (.sipush 494, 3) := by decide +kernel
theorem dX8_isThere_7 : decode cX8_isThere 7 = .ok (.iload_n 1, 1) := by decide +kernel
theorem dX8_isThere_8 : decode cX8_isThere 8 = .ok (.iadd, 1) := by decide +kernel
theorem dX8_isThere_9 : decode cX8_isThere 9 = .ok (.iaload, 1) := by decide +kernel
theorem dX8_isThere_10 : decode cX8_isThere 10 = .ok (.ifCond .ne 7, 3) := by decide +kernel
theorem dX8_isThere_13 : decode cX8_isThere 13 = .ok (.iconst 1, 1) := by decide +kernel
theorem dX8_isThere_14 : decode cX8_isThere 14 = .ok (.goto 4, 3) := by decide +kernel
theorem dX8_isThere_17 : decode cX8_isThere 17 = .ok (.iconst 0, 1) := by decide +kernel
theorem dX8_isThere_18 : decode cX8_isThere 18 = .ok (.ireturn, 1) := by decide +kernel
theorem dX8_isIn_0 : decode cX8_isIn 0 = .ok (.aload_n 0, 1) := by decide +kernel
theorem dX8_isIn_1 : decode cX8_isIn 1 = .ok (.getfield 7, 3) := by decide +kernel
theorem dX8_isIn_4 : decode cX8_isIn 4 = .ok (.sipush 128, 3) := by decide +kernel
theorem dX8_isIn_7 : decode cX8_isIn 7 = .ok (.iload_n 1, 1) := by decide +kernel
theorem dX8_isIn_8 : decode cX8_isIn 8 = .ok (.iadd, 1) := by decide +kernel
theorem dX8_isIn_9 : decode cX8_isIn 9 = .ok (.iaload, 1) := by decide +kernel
theorem dX8_isIn_10 : decode cX8_isIn 10 = .ok (.i2l, 1) := by decide +kernel
theorem dX8_isIn_11 : decode cX8_isIn 11 = .ok (.iload_n 2, 1) := by decide +kernel
theorem dX8_isIn_12 : decode cX8_isIn 12 = .ok (.i2l, 1) := by decide +kernel
theorem dX8_isIn_13 : decode cX8_isIn 13 = .ok (.iload_n 3, 1) := by decide +kernel
theorem dX8_isIn_14 : decode cX8_isIn 14 = .ok (.i2l, 1) := by decide +kernel
theorem dX8_isIn_15 : decode cX8_isIn 15 = .ok (.invokestatic 49, 3) := by decide +kernel
theorem dX8_isIn_18 : decode cX8_isIn 18 = .ok (.ifCond .eq 30, 3) := by decide +kernel
theorem dX8_isIn_21 : decode cX8_isIn 21 = .ok (.aload_n 0, 1) := by decide +kernel
theorem dX8_isIn_22 : decode cX8_isIn 22 = .ok (.getfield 7, 3) := by decide +kernel
theorem dX8_isIn_25 : decode cX8_isIn 25 = .ok (.sipush 250, 3) := by decide +kernel
theorem dX8_isIn_28 : decode cX8_isIn 28 = .ok (.iload_n 1, 1) := by decide +kernel
theorem dX8_isIn_29 : decode cX8_isIn 29 = .ok (.iadd, 1) := by decide +kernel
theorem dX8_isIn_30 : decode cX8_isIn 30 = .ok (.iaload, 1) := by decide +kernel
theorem dX8_isIn_31 : decode cX8_isIn 31 = .ok (.i2l, 1) := by decide +kernel
theorem dX8_isIn_32 : decode cX8_isIn 32 = .ok (.iload 4, 2) := by decide +kernel
theorem dX8_isIn_34 : decode cX8_isIn 34 = .ok (.i2l, 1) := by decide +kernel
theorem dX8_isIn_35 : decode cX8_isIn 35 = .ok (.iload 5, 2) := by decide +kernel
theorem dX8_isIn_37 : decode cX8_isIn 37 = .ok (.i2l, 1) := by decide +kernel
theorem dX8_isIn_38 : decode cX8_isIn 38 = .ok (.invokestatic 49, 3) := by decide +kernel
theorem dX8_isIn_41 : decode cX8_isIn 41 = .ok (.ifCond .eq 7, 3) := by decide +kernel
theorem dX8_isIn_44 : decode cX8_isIn 44 = .ok (.iconst 1, 1) := by decide +kernel
theorem dX8_isIn_45 : decode cX8_isIn 45 = .ok (.goto 4, 3) := by decide +kernel
theorem dX8_isIn_48 : decode cX8_isIn 48 = .ok (.iconst 0, 1) := by decide +kernel
theorem dX8_isIn_49 : decode cX8_isIn 49 = .ok (.ireturn, 1) := by decide +kernel
theorem dX8_find_0 : decode cX8_find 0 = .ok (.iconst 0, 1) := by decide +kernel
theorem dX8_find_1 : decode cX8_find 1 = .ok (.istore_n 2, 1) := by decide +kernel
theorem dX8_find_2 : decode cX8_find 2 = .ok (.iload_n 2, 1) := by decide +kernel
theorem dX8_find_3 : decode cX8_find 3 = .ok (.aload_n 0, 1) := by decide +kernel
theorem dX8_find_4 : decode cX8_find 4 = .ok (.getfield 7, 3) := by decide +kernel
theorem dX8_find_7 : decode cX8_find 7 = .ok (.iconst 0, 1) := by decide +kernel
theorem dX8_find_8 : decode cX8_find 8 = .ok (.iaload, 1) := by decide +kernel
theorem dX8_find_9 : decode cX8_find 9 = .ok (.if_icmp .ge 32, 3) := by decide +kernel
theorem dX8_find_12 : decode cX8_find 12 = .ok (.aload_n 0, 1) := by decide +kernel
theorem dX8_find_13 : decode cX8_find 13 = .ok (.getfield 7, 3) := by decide +kernel
theorem dX8_find_16 : decode cX8_find 16 = .ok (.bipush 6, 2) := by decide +kernel
theorem dX8_find_18 : decode cX8_find 18 = .ok (.iload_n 2, 1) := by decide +kernel
theorem dX8_find_19 : decode cX8_find 19 = .ok (.iadd, 1) := by decide +kernel
theorem dX8_find_20 : decode cX8_find 20 = .ok (.iaload, 1) := by decide +kernel
theorem dX8_find_21 : decode cX8_find 21 = .ok (.iload_n 1, 1) := by decide +kernel
theorem dX8_find_22 : decode cX8_find 22 = .ok (.if_icmp .ne 13, 3) := by decide +kernel
theorem dX8_find_25 : decode cX8_find 25 = .ok (.aload_n 0, 1) := by decide +kernel
theorem dX8_find_26 : decode cX8_find 26 = .ok (.iload_n 2, 1) := by decide +kernel
theorem dX8_find_27 : decode cX8_find 27 = .ok (.invokevirtual 57, 3) := by decide +kernel
theorem dX8_find_30 : decode cX8_find 30 = .ok (.ifCond .eq 5, 3) := by decide +kernel
theorem dX8_find_33 : decode cX8_find 33 = .ok (.iload_n 2, 1) := by decide +kernel
theorem dX8_find_34 : decode cX8_find 34 = .ok (.ireturn, 1) := by decide +kernel
theorem dX8_find_35 : decode cX8_find 35 = .ok (.iinc 2 1, 3) := by decide +kernel
theorem dX8_find_38 : decode cX8_find 38 = .ok (.goto (-36), 3) := by decide +kernel
theorem dX8_find_41 : decode cX8_find 41 = .ok (.iconst (-1), 1) := by decide +kernel
theorem dX8_find_42 : decode cX8_find 42 = .ok (.ireturn, 1) := by decide +kernel
theorem dX8_counts_0 : decode cX8_counts 0 = .ok (.aload_n 0, 1) := by decide +kernel
theorem dX8_counts_1 : decode cX8_counts 1 = .ok (.getfield 7, 3) := by decide +kernel
theorem dX8_counts_4 : decode cX8_counts 4 = .ok (.sipush 372, 3) := by decide +kernel
theorem dX8_counts_7 : decode cX8_counts 7 = .ok (.iload_n 1, 1) := by decide +kernel
theorem dX8_counts_8 : decode cX8_counts 8 = .ok (.iadd, 1) := by decide +kernel
theorem dX8_counts_9 : decode cX8_counts 9 = .ok (.iaload, 1) := by decide +kernel
theorem dX8_counts_10 : decode cX8_counts 10 = .ok (.istore_n 2, 1) := by decide +kernel
theorem dX8_counts_11 : decode cX8_counts 11 = .ok (.aload_n 0, 1) := by decide +kernel
theorem dX8_counts_12 : decode cX8_counts 12 = .ok (.getfield 7, 3) := by decide +kernel
theorem dX8_counts_15 : decode cX8_counts 15 = .ok (.sipush 250, 3) := by decide +kernel
theorem dX8_counts_18 : decode cX8_counts 18 = .ok (.iload_n 1, 1) := by decide +kernel
theorem dX8_counts_19 : decode cX8_counts 19 = .ok (.iadd, 1) := by decide +kernel
theorem dX8_counts_20 : decode cX8_counts 20 = .ok (.iaload, 1) := by decide +kernel
theorem dX8_counts_21 : decode cX8_counts 21 = .ok (.ifCond .lt 7, 3) := by decide +kernel
theorem dX8_counts_24 : decode cX8_counts 24 = .ok (.iload_n 2, 1) := by decide +kernel
theorem dX8_counts_25 : decode cX8_counts 25 = .ok (.goto 4, 3) := by decide +kernel
theorem dX8_counts_28 : decode cX8_counts 28 = .ok (.iconst 0, 1) := by decide +kernel
theorem dX8_counts_29 : decode cX8_counts 29 = .ok (.istore_n 3, 1) := by decide +kernel
theorem dX8_counts_30 : decode cX8_counts 30 = .ok (.aload_n 0, 1) := by decide +kernel
theorem dX8_counts_31 : decode cX8_counts 31 = .ok (.getfield 7, 3) := by decide +kernel
theorem dX8_counts_34 : decode cX8_counts 34 = .ok (.iconst 3, 1) := by decide +kernel
theorem dX8_counts_35 : decode cX8_counts 35 = .ok (.iaload, 1) := by decide +kernel
theorem dX8_counts_36 : decode cX8_counts 36 = .ok (.tableswitch 91 1 5 #[36, 38, 70, 74, 76], 36) := by decide +kernel
theorem dX8_counts_72 : decode cX8_counts 72 = .ok (.iload_n 2, 1) := by decide +kernel
theorem dX8_counts_73 : decode cX8_counts 73 = .ok (.ireturn, 1) := by decide +kernel
theorem dX8_counts_74 : decode cX8_counts 74 = .ok (.aload_n 0, 1) := by decide +kernel
theorem dX8_counts_75 : decode cX8_counts 75 = .ok (.getfield 7, 3) := by decide +kernel
theorem dX8_counts_78 : decode cX8_counts 78 = .ok (.sipush 128, 3) := by decide +kernel
theorem dX8_counts_81 : decode cX8_counts 81 = .ok (.iload_n 1, 1) := by decide +kernel
theorem dX8_counts_82 : decode cX8_counts 82 = .ok (.iadd, 1) := by decide +kernel
theorem dX8_counts_83 : decode cX8_counts 83 = .ok (.iaload, 1) := by decide +kernel
theorem dX8_counts_84 : decode cX8_counts 84 = .ok (.aload_n 0, 1) := by decide +kernel
theorem dX8_counts_85 : decode cX8_counts 85 = .ok (.getfield 7, 3) := by decide +kernel
theorem dX8_counts_88 : decode cX8_counts 88 = .ok (.sipush 250, 3) := by decide +kernel
theorem dX8_counts_91 : decode cX8_counts 91 = .ok (.iload_n 1, 1) := by decide +kernel
theorem dX8_counts_92 : decode cX8_counts 92 = .ok (.iadd, 1) := by decide +kernel
theorem dX8_counts_93 : decode cX8_counts 93 = .ok (.iaload, 1) := by decide +kernel
theorem dX8_counts_94 : decode cX8_counts 94 = .ok (.iadd, 1) := by decide +kernel
theorem dX8_counts_95 : decode cX8_counts 95 = .ok (.iconst 2, 1) := by decide +kernel
theorem dX8_counts_96 : decode cX8_counts 96 = .ok (.irem, 1) := by decide +kernel
theorem dX8_counts_97 : decode cX8_counts 97 = .ok (.ifCond .ne 7, 3) := by decide +kernel
theorem dX8_counts_100 : decode cX8_counts 100 = .ok (.iconst 1, 1) := by decide +kernel
theorem dX8_counts_101 : decode cX8_counts 101 = .ok (.goto 4, 3) := by decide +kernel
theorem dX8_counts_104 : decode cX8_counts 104 = .ok (.iconst 0, 1) := by decide +kernel
theorem dX8_counts_105 : decode cX8_counts 105 = .ok (.ireturn, 1) := by decide +kernel
theorem dX8_counts_106 : decode cX8_counts 106 = .ok (.iconst 2, 1) := by decide +kernel
theorem dX8_counts_107 : decode cX8_counts 107 = .ok (.iload_n 2, 1) := by decide +kernel
theorem dX8_counts_108 : decode cX8_counts 108 = .ok (.imul, 1) := by decide +kernel
theorem dX8_counts_109 : decode cX8_counts 109 = .ok (.ireturn, 1) := by decide +kernel
theorem dX8_counts_110 : decode cX8_counts 110 = .ok (.iload_n 3, 1) := by decide +kernel
theorem dX8_counts_111 : decode cX8_counts 111 = .ok (.ireturn, 1) := by decide +kernel
theorem dX8_counts_112 : decode cX8_counts 112 = .ok (.iload_n 3, 1) := by decide +kernel
theorem dX8_counts_113 : decode cX8_counts 113 = .ok (.aload_n 0, 1) := by decide +kernel
theorem dX8_counts_114 : decode cX8_counts 114 = .ok (.getfield 7, 3) := by decide +kernel
theorem dX8_counts_117 : decode cX8_counts 117 = .ok (.bipush 6, 2) := by decide +kernel
theorem dX8_counts_119 : decode cX8_counts 119 = .ok (.iload_n 1, 1) := by decide +kernel
theorem dX8_counts_120 : decode cX8_counts 120 = .ok (.iadd, 1) := by decide +kernel
theorem dX8_counts_121 : decode cX8_counts 121 = .ok (.iaload, 1) := by decide +kernel
theorem dX8_counts_122 : decode cX8_counts 122 = .ok (.bipush 10, 2) := by decide +kernel
theorem dX8_counts_124 : decode cX8_counts 124 = .ok (.irem, 1) := by decide +kernel
theorem dX8_counts_125 : decode cX8_counts 125 = .ok (.iadd, 1) := by decide +kernel
theorem dX8_counts_126 : decode cX8_counts 126 = .ok (.ireturn, 1) := by decide +kernel
theorem dX8_counts_127 : decode cX8_counts 127 = .ok (.iconst 1, 1) := by decide +kernel
theorem dX8_counts_128 : decode cX8_counts 128 = .ok (.ireturn, 1) := by decide +kernel
theorem dX8_minds_0 : decode cX8_minds 0 = .ok (.aload_n 0, 1) := by decide +kernel
theorem dX8_minds_1 : decode cX8_minds 1 = .ok (.getfield 60, 3) := by decide +kernel
theorem dX8_minds_4 : decode cX8_minds 4 = .ok (.bipush 8, 2) := by decide +kernel
theorem dX8_minds_6 : decode cX8_minds 6 = .ok (.if_icmp .ne 52, 3) := by decide +kernel
theorem dX8_minds_9 : decode cX8_minds 9 = .ok (.iconst 0, 1) := by decide +kernel
theorem dX8_minds_10 : decode cX8_minds 10 = .ok (.istore_n 1, 1) := by decide +kernel
theorem dX8_minds_11 : decode cX8_minds 11 = .ok (.iload_n 1, 1) := by decide +kernel
theorem dX8_minds_12 : decode cX8_minds 12 = .ok (.sipush 4746, 3) := by decide +kernel
theorem dX8_minds_15 : decode cX8_minds 15 = .ok (.if_icmp .ge 33, 3) := by decide +kernel
theorem dX8_minds_18 : decode cX8_minds 18 = .ok (.aload_n 0, 1) := by decide +kernel
theorem dX8_minds_19 : decode cX8_minds 19 = .ok (.getfield 7, 3) := by decide +kernel
theorem dX8_minds_22 : decode cX8_minds 22 = .ok (.sipush 2034, 3) := by decide +kernel
theorem dX8_minds_25 : decode cX8_minds 25 = .ok (.iload_n 1, 1) := by decide +kernel
theorem dX8_minds_26 : decode cX8_minds 26 = .ok (.iadd, 1) := by decide +kernel
theorem dX8_minds_27 : decode cX8_minds 27 = .ok (.aload_n 0, 1) := by decide +kernel
theorem dX8_minds_28 : decode cX8_minds 28 = .ok (.getfield 7, 3) := by decide +kernel
theorem dX8_minds_31 : decode cX8_minds 31 = .ok (.sipush 2034, 3) := by decide +kernel
theorem dX8_minds_34 : decode cX8_minds 34 = .ok (.iload_n 1, 1) := by decide +kernel
theorem dX8_minds_35 : decode cX8_minds 35 = .ok (.iadd, 1) := by decide +kernel
theorem dX8_minds_36 : decode cX8_minds 36 = .ok (.sipush 678, 3) := by decide +kernel
theorem dX8_minds_39 : decode cX8_minds 39 = .ok (.iadd, 1) := by decide +kernel
theorem dX8_minds_40 : decode cX8_minds 40 = .ok (.iaload, 1) := by decide +kernel
theorem dX8_minds_41 : decode cX8_minds 41 = .ok (.iastore, 1) := by decide +kernel
theorem dX8_minds_42 : decode cX8_minds 42 = .ok (.iinc 1 1, 3) := by decide +kernel
theorem dX8_minds_45 : decode cX8_minds 45 = .ok (.goto (-34), 3) := by decide +kernel
theorem dX8_minds_48 : decode cX8_minds 48 = .ok (.aload_n 0, 1) := by decide +kernel
theorem dX8_minds_49 : decode cX8_minds 49 = .ok (.dup, 1) := by decide +kernel
theorem dX8_minds_50 : decode cX8_minds 50 = .ok (.getfield 60, 3) := by decide +kernel
theorem dX8_minds_53 : decode cX8_minds 53 = .ok (.iconst 1, 1) := by decide +kernel
theorem dX8_minds_54 : decode cX8_minds 54 = .ok (.isub, 1) := by decide +kernel
theorem dX8_minds_55 : decode cX8_minds 55 = .ok (.putfield 60, 3) := by decide +kernel
theorem dX8_minds_58 : decode cX8_minds 58 = .ok (.aload_n 0, 1) := by decide +kernel
theorem dX8_minds_59 : decode cX8_minds 59 = .ok (.iconst 0, 1) := by decide +kernel
theorem dX8_minds_60 : decode cX8_minds 60 = .ok (.sipush 2034, 3) := by decide +kernel
theorem dX8_minds_63 : decode cX8_minds 63 = .ok (.sipush 678, 3) := by decide +kernel
theorem dX8_minds_66 : decode cX8_minds 66 = .ok (.aload_n 0, 1) := by decide +kernel
theorem dX8_minds_67 : decode cX8_minds 67 = .ok (.getfield 60, 3) := by decide +kernel
theorem dX8_minds_70 : decode cX8_minds 70 = .ok (.imul, 1) := by decide +kernel
theorem dX8_minds_71 : decode cX8_minds 71 = .ok (.iadd, 1) := by decide +kernel
theorem dX8_minds_72 : decode cX8_minds 72 = .ok (.invokevirtual 64, 3) := by decide +kernel
theorem dX8_minds_75 : decode cX8_minds 75 = .ok (.aload_n 0, 1) := by decide +kernel
theorem dX8_minds_76 : decode cX8_minds 76 = .ok (.dup, 1) := by decide +kernel
theorem dX8_minds_77 : decode cX8_minds 77 = .ok (.getfield 60, 3) := by decide +kernel
theorem dX8_minds_80 : decode cX8_minds 80 = .ok (.iconst 1, 1) := by decide +kernel
theorem dX8_minds_81 : decode cX8_minds 81 = .ok (.iadd, 1) := by decide +kernel
theorem dX8_minds_82 : decode cX8_minds 82 = .ok (.putfield 60, 3) := by decide +kernel
theorem dX8_minds_85 : decode cX8_minds 85 = .ok (.return_, 1) := by decide +kernel
theorem dX8_carriedBy_0 : decode cX8_carriedBy 0 = .ok (.iconst 1, 1) := by decide +kernel
theorem dX8_carriedBy_1 : decode cX8_carriedBy 1 = .ok (.istore_n 1, 1) := by decide +kernel
theorem dX8_carriedBy_2 : decode cX8_carriedBy 2 = .ok (.iload_n 0, 1) := by decide +kernel
theorem dX8_carriedBy_3 : decode cX8_carriedBy 3 = .ok (.istore_n 2, 1) := by decide +kernel
theorem dX8_carriedBy_4 : decode cX8_carriedBy 4 = .ok (.iload_n 2, 1) := by decide +kernel
theorem dX8_carriedBy_5 : decode cX8_carriedBy 5 = .ok (.iconst 2, 1) := by decide +kernel
theorem dX8_carriedBy_6 : decode cX8_carriedBy 6 = .ok (.irem, 1) := by decide +kernel
theorem dX8_carriedBy_7 : decode cX8_carriedBy 7 = .ok (.iconst 1, 1) := by decide +kernel
theorem dX8_carriedBy_8 : decode cX8_carriedBy 8 = .ok (.if_icmp .ne 14, 3) := by decide +kernel
theorem dX8_carriedBy_11 : decode cX8_carriedBy 11 = .ok (.iload_n 1, 1) := by decide +kernel
theorem dX8_carriedBy_12 : decode cX8_carriedBy 12 = .ok (.iconst 2, 1) := by decide +kernel
theorem dX8_carriedBy_13 : decode cX8_carriedBy 13 = .ok (.imul, 1) := by decide +kernel
theorem dX8_carriedBy_14 : decode cX8_carriedBy 14 = .ok (.istore_n 1, 1) := by decide +kernel
theorem dX8_carriedBy_15 : decode cX8_carriedBy 15 = .ok (.iload_n 2, 1) := by decide +kernel
theorem dX8_carriedBy_16 : decode cX8_carriedBy 16 = .ok (.iconst 2, 1) := by decide +kernel
theorem dX8_carriedBy_17 : decode cX8_carriedBy 17 = .ok (.idiv, 1) := by decide +kernel
theorem dX8_carriedBy_18 : decode cX8_carriedBy 18 = .ok (.istore_n 2, 1) := by decide +kernel
theorem dX8_carriedBy_19 : decode cX8_carriedBy 19 = .ok (.goto (-15), 3) := by decide +kernel
theorem dX8_carriedBy_22 : decode cX8_carriedBy 22 = .ok (.iload_n 1, 1) := by decide +kernel
theorem dX8_carriedBy_23 : decode cX8_carriedBy 23 = .ok (.ireturn, 1) := by decide +kernel
theorem dX8_comes_0 : decode cX8_comes 0 = .ok (.aload_n 0, 1) := by decide +kernel
theorem dX8_comes_1 : decode cX8_comes 1 = .ok (.getfield 7, 3) := by decide +kernel
theorem dX8_comes_4 : decode cX8_comes 4 = .ok (.iconst 0, 1) := by decide +kernel
theorem dX8_comes_5 : decode cX8_comes 5 = .ok (.iaload, 1) := by decide +kernel
theorem dX8_comes_6 : decode cX8_comes 6 = .ok (.istore 4, 2) := by decide +kernel
theorem dX8_comes_8 : decode cX8_comes 8 = .ok (.aload_n 0, 1) := by decide +kernel
theorem dX8_comes_9 : decode cX8_comes 9 = .ok (.getfield 7, 3) := by decide +kernel
theorem dX8_comes_12 : decode cX8_comes 12 = .ok (.iconst 4, 1) := by decide +kernel
theorem dX8_comes_13 : decode cX8_comes 13 = .ok (.dup2, 1) := by decide +kernel
theorem dX8_comes_14 : decode cX8_comes 14 = .ok (.iaload, 1) := by decide +kernel
theorem dX8_comes_15 : decode cX8_comes 15 = .ok (.iload 4, 2) := by decide +kernel
theorem dX8_comes_17 : decode cX8_comes 17 = .ok (.invokestatic 68, 3) := by decide +kernel
theorem dX8_comes_20 : decode cX8_comes 20 = .ok (.iadd, 1) := by decide +kernel
theorem dX8_comes_21 : decode cX8_comes 21 = .ok (.iastore, 1) := by decide +kernel
theorem dX8_comes_22 : decode cX8_comes 22 = .ok (.aload_n 0, 1) := by decide +kernel
theorem dX8_comes_23 : decode cX8_comes 23 = .ok (.getfield 7, 3) := by decide +kernel
theorem dX8_comes_26 : decode cX8_comes 26 = .ok (.bipush 6, 2) := by decide +kernel
theorem dX8_comes_28 : decode cX8_comes 28 = .ok (.iload 4, 2) := by decide +kernel
theorem dX8_comes_30 : decode cX8_comes 30 = .ok (.iadd, 1) := by decide +kernel
theorem dX8_comes_31 : decode cX8_comes 31 = .ok (.aload_n 0, 1) := by decide +kernel
theorem dX8_comes_32 : decode cX8_comes 32 = .ok (.getfield 7, 3) := by decide +kernel
theorem dX8_comes_35 : decode cX8_comes 35 = .ok (.iconst 2, 1) := by decide +kernel
theorem dX8_comes_36 : decode cX8_comes 36 = .ok (.iaload, 1) := by decide +kernel
theorem dX8_comes_37 : decode cX8_comes 37 = .ok (.iastore, 1) := by decide +kernel
theorem dX8_comes_38 : decode cX8_comes 38 = .ok (.aload_n 0, 1) := by decide +kernel
theorem dX8_comes_39 : decode cX8_comes 39 = .ok (.getfield 7, 3) := by decide +kernel
theorem dX8_comes_42 : decode cX8_comes 42 = .ok (.sipush 128, 3) := by decide +kernel
theorem dX8_comes_45 : decode cX8_comes 45 = .ok (.iload 4, 2) := by decide +kernel
theorem dX8_comes_47 : decode cX8_comes 47 = .ok (.iadd, 1) := by decide +kernel
theorem dX8_comes_48 : decode cX8_comes 48 = .ok (.iload_n 1, 1) := by decide +kernel
theorem dX8_comes_49 : decode cX8_comes 49 = .ok (.iastore, 1) := by decide +kernel
theorem dX8_comes_50 : decode cX8_comes 50 = .ok (.aload_n 0, 1) := by decide +kernel
theorem dX8_comes_51 : decode cX8_comes 51 = .ok (.getfield 7, 3) := by decide +kernel
theorem dX8_comes_54 : decode cX8_comes 54 = .ok (.sipush 250, 3) := by decide +kernel
theorem dX8_comes_57 : decode cX8_comes 57 = .ok (.iload 4, 2) := by decide +kernel
theorem dX8_comes_59 : decode cX8_comes 59 = .ok (.iadd, 1) := by decide +kernel
theorem dX8_comes_60 : decode cX8_comes 60 = .ok (.iload_n 2, 1) := by decide +kernel
theorem dX8_comes_61 : decode cX8_comes 61 = .ok (.iastore, 1) := by decide +kernel
theorem dX8_comes_62 : decode cX8_comes 62 = .ok (.aload_n 0, 1) := by decide +kernel
theorem dX8_comes_63 : decode cX8_comes 63 = .ok (.getfield 7, 3) := by decide +kernel
theorem dX8_comes_66 : decode cX8_comes 66 = .ok (.sipush 372, 3) := by decide +kernel
theorem dX8_comes_69 : decode cX8_comes 69 = .ok (.iload 4, 2) := by decide +kernel
theorem dX8_comes_71 : decode cX8_comes 71 = .ok (.iadd, 1) := by decide +kernel
theorem dX8_comes_72 : decode cX8_comes 72 = .ok (.iload_n 3, 1) := by decide +kernel
theorem dX8_comes_73 : decode cX8_comes 73 = .ok (.iastore, 1) := by decide +kernel
theorem dX8_comes_74 : decode cX8_comes 74 = .ok (.aload_n 0, 1) := by decide +kernel
theorem dX8_comes_75 : decode cX8_comes 75 = .ok (.getfield 7, 3) := by decide +kernel
theorem dX8_comes_78 : decode cX8_comes 78 = .ok (.sipush 494, 3) := by decide +kernel
theorem dX8_comes_81 : decode cX8_comes 81 = .ok (.iload 4, 2) := by decide +kernel
theorem dX8_comes_83 : decode cX8_comes 83 = .ok (.iadd, 1) := by decide +kernel
theorem dX8_comes_84 : decode cX8_comes 84 = .ok (.iconst 0, 1) := by decide +kernel
theorem dX8_comes_85 : decode cX8_comes 85 = .ok (.iastore, 1) := by decide +kernel
theorem dX8_comes_86 : decode cX8_comes 86 = .ok (.aload_n 0, 1) := by decide +kernel
theorem dX8_comes_87 : decode cX8_comes 87 = .ok (.getfield 7, 3) := by decide +kernel
theorem dX8_comes_90 : decode cX8_comes 90 = .ok (.iconst 0, 1) := by decide +kernel
theorem dX8_comes_91 : decode cX8_comes 91 = .ok (.dup2, 1) := by decide +kernel
theorem dX8_comes_92 : decode cX8_comes 92 = .ok (.iaload, 1) := by decide +kernel
theorem dX8_comes_93 : decode cX8_comes 93 = .ok (.iconst 1, 1) := by decide +kernel
theorem dX8_comes_94 : decode cX8_comes 94 = .ok (.iadd, 1) := by decide +kernel
theorem dX8_comes_95 : decode cX8_comes 95 = .ok (.iastore, 1) := by decide +kernel
theorem dX8_comes_96 : decode cX8_comes 96 = .ok (.aload_n 0, 1) := by decide +kernel
theorem dX8_comes_97 : decode cX8_comes 97 = .ok (.getfield 7, 3) := by decide +kernel
theorem dX8_comes_100 : decode cX8_comes 100 = .ok (.iconst 2, 1) := by decide +kernel
theorem dX8_comes_101 : decode cX8_comes 101 = .ok (.dup2, 1) := by decide +kernel
theorem dX8_comes_102 : decode cX8_comes 102 = .ok (.iaload, 1) := by decide +kernel
theorem dX8_comes_103 : decode cX8_comes 103 = .ok (.iconst 1, 1) := by decide +kernel
theorem dX8_comes_104 : decode cX8_comes 104 = .ok (.iadd, 1) := by decide +kernel
theorem dX8_comes_105 : decode cX8_comes 105 = .ok (.iastore, 1) := by decide +kernel
theorem dX8_comes_106 : decode cX8_comes 106 = .ok (.return_, 1) := by decide +kernel
theorem dX8_laysAnew_0 : decode cX8_laysAnew 0 = .ok (.iconst 0, 1) := by decide +kernel
theorem dX8_laysAnew_1 : decode cX8_laysAnew 1 = .ok (.istore_n 1, 1) := by decide +kernel
theorem dX8_laysAnew_2 : decode cX8_laysAnew 2 = .ok (.iconst 0, 1) := by decide +kernel
theorem dX8_laysAnew_3 : decode cX8_laysAnew 3 = .ok (.istore_n 2, 1) := by decide +kernel
theorem dX8_laysAnew_4 : decode cX8_laysAnew 4 = .ok (.iload_n 2, 1) := by decide +kernel
theorem dX8_laysAnew_5 : decode cX8_laysAnew 5 = .ok (.aload_n 0, 1) := by decide +kernel
theorem dX8_laysAnew_6 : decode cX8_laysAnew 6 = .ok (.getfield 7, 3) := by decide +kernel
theorem dX8_laysAnew_9 : decode cX8_laysAnew 9 = .ok (.iconst 0, 1) := by decide +kernel
theorem dX8_laysAnew_10 : decode cX8_laysAnew 10 = .ok (.iaload, 1) := by decide +kernel
theorem dX8_laysAnew_11 : decode cX8_laysAnew 11 = .ok (.if_icmp .ge 98, 3) := by decide +kernel
theorem dX8_laysAnew_14 : decode cX8_laysAnew 14 = .ok (.aload_n 0, 1) := by decide +kernel
theorem dX8_laysAnew_15 : decode cX8_laysAnew 15 = .ok (.iload_n 2, 1) := by decide +kernel
theorem dX8_laysAnew_16 : decode cX8_laysAnew 16 = .ok (.invokevirtual 57, 3) := by decide +kernel
theorem dX8_laysAnew_19 : decode cX8_laysAnew 19 = .ok (.ifCond .eq 84, 3) := by decide +kernel
theorem dX8_laysAnew_22 : decode cX8_laysAnew 22 = .ok (.aload_n 0, 1) := by decide +kernel
theorem dX8_laysAnew_23 : decode cX8_laysAnew 23 = .ok (.getfield 7, 3) := by decide +kernel
theorem dX8_laysAnew_26 : decode cX8_laysAnew 26 = .ok (.bipush 6, 2) := by decide +kernel
theorem dX8_laysAnew_28 : decode cX8_laysAnew 28 = .ok (.iload_n 1, 1) := by decide +kernel
theorem dX8_laysAnew_29 : decode cX8_laysAnew 29 = .ok (.iadd, 1) := by decide +kernel
theorem dX8_laysAnew_30 : decode cX8_laysAnew 30 = .ok (.aload_n 0, 1) := by decide +kernel
theorem dX8_laysAnew_31 : decode cX8_laysAnew 31 = .ok (.getfield 7, 3) := by decide +kernel
theorem dX8_laysAnew_34 : decode cX8_laysAnew 34 = .ok (.bipush 6, 2) := by decide +kernel
theorem dX8_laysAnew_36 : decode cX8_laysAnew 36 = .ok (.iload_n 2, 1) := by decide +kernel
theorem dX8_laysAnew_37 : decode cX8_laysAnew 37 = .ok (.iadd, 1) := by decide +kernel
theorem dX8_laysAnew_38 : decode cX8_laysAnew 38 = .ok (.iaload, 1) := by decide +kernel
theorem dX8_laysAnew_39 : decode cX8_laysAnew 39 = .ok (.iastore, 1) := by decide +kernel
theorem dX8_laysAnew_40 : decode cX8_laysAnew 40 = .ok (.aload_n 0, 1) := by decide +kernel
theorem dX8_laysAnew_41 : decode cX8_laysAnew 41 = .ok (.getfield 7, 3) := by decide +kernel
theorem dX8_laysAnew_44 : decode cX8_laysAnew 44 = .ok (.sipush 128, 3) := by decide +kernel
theorem dX8_laysAnew_47 : decode cX8_laysAnew 47 = .ok (.iload_n 1, 1) := by decide +kernel
theorem dX8_laysAnew_48 : decode cX8_laysAnew 48 = .ok (.iadd, 1) := by decide +kernel
theorem dX8_laysAnew_49 : decode cX8_laysAnew 49 = .ok (.aload_n 0, 1) := by decide +kernel
theorem dX8_laysAnew_50 : decode cX8_laysAnew 50 = .ok (.getfield 7, 3) := by decide +kernel
theorem dX8_laysAnew_53 : decode cX8_laysAnew 53 = .ok (.sipush 128, 3) := by decide +kernel
theorem dX8_laysAnew_56 : decode cX8_laysAnew 56 = .ok (.iload_n 2, 1) := by decide +kernel
theorem dX8_laysAnew_57 : decode cX8_laysAnew 57 = .ok (.iadd, 1) := by decide +kernel
theorem dX8_laysAnew_58 : decode cX8_laysAnew 58 = .ok (.iaload, 1) := by decide +kernel
theorem dX8_laysAnew_59 : decode cX8_laysAnew 59 = .ok (.iastore, 1) := by decide +kernel
theorem dX8_laysAnew_60 : decode cX8_laysAnew 60 = .ok (.aload_n 0, 1) := by decide +kernel
theorem dX8_laysAnew_61 : decode cX8_laysAnew 61 = .ok (.getfield 7, 3) := by decide +kernel
theorem dX8_laysAnew_64 : decode cX8_laysAnew 64 = .ok (.sipush 250, 3) := by decide +kernel
theorem dX8_laysAnew_67 : decode cX8_laysAnew 67 = .ok (.iload_n 1, 1) := by decide +kernel
theorem dX8_laysAnew_68 : decode cX8_laysAnew 68 = .ok (.iadd, 1) := by decide +kernel
theorem dX8_laysAnew_69 : decode cX8_laysAnew 69 = .ok (.aload_n 0, 1) := by decide +kernel
theorem dX8_laysAnew_70 : decode cX8_laysAnew 70 = .ok (.getfield 7, 3) := by decide +kernel
theorem dX8_laysAnew_73 : decode cX8_laysAnew 73 = .ok (.sipush 250, 3) := by decide +kernel
theorem dX8_laysAnew_76 : decode cX8_laysAnew 76 = .ok (.iload_n 2, 1) := by decide +kernel
theorem dX8_laysAnew_77 : decode cX8_laysAnew 77 = .ok (.iadd, 1) := by decide +kernel
theorem dX8_laysAnew_78 : decode cX8_laysAnew 78 = .ok (.iaload, 1) := by decide +kernel
theorem dX8_laysAnew_79 : decode cX8_laysAnew 79 = .ok (.iastore, 1) := by decide +kernel
theorem dX8_laysAnew_80 : decode cX8_laysAnew 80 = .ok (.aload_n 0, 1) := by decide +kernel
theorem dX8_laysAnew_81 : decode cX8_laysAnew 81 = .ok (.getfield 7, 3) := by decide +kernel
theorem dX8_laysAnew_84 : decode cX8_laysAnew 84 = .ok (.sipush 372, 3) := by decide +kernel
theorem dX8_laysAnew_87 : decode cX8_laysAnew 87 = .ok (.iload_n 1, 1) := by decide +kernel
theorem dX8_laysAnew_88 : decode cX8_laysAnew 88 = .ok (.iadd, 1) := by decide +kernel
theorem dX8_laysAnew_89 : decode cX8_laysAnew 89 = .ok (.aload_n 0, 1) := by decide +kernel
theorem dX8_laysAnew_90 : decode cX8_laysAnew 90 = .ok (.getfield 7, 3) := by decide +kernel
theorem dX8_laysAnew_93 : decode cX8_laysAnew 93 = .ok (.sipush 372, 3) := by decide +kernel
theorem dX8_laysAnew_96 : decode cX8_laysAnew 96 = .ok (.iload_n 2, 1) := by decide +kernel
theorem dX8_laysAnew_97 : decode cX8_laysAnew 97 = .ok (.iadd, 1) := by decide +kernel
theorem dX8_laysAnew_98 : decode cX8_laysAnew 98 = .ok (.iaload, 1) := by decide +kernel
theorem dX8_laysAnew_99 : decode cX8_laysAnew 99 = .ok (.iastore, 1) := by decide +kernel
theorem dX8_laysAnew_100 : decode cX8_laysAnew 100 = .ok (.iinc 1 1, 3) := by decide +kernel
theorem dX8_laysAnew_103 : decode cX8_laysAnew 103 = .ok (.iinc 2 1, 3) := by decide +kernel
theorem dX8_laysAnew_106 : decode cX8_laysAnew 106 = .ok (.goto (-102), 3) := by decide +kernel
theorem dX8_laysAnew_109 : decode cX8_laysAnew 109 = .ok (.iconst 0, 1) := by decide +kernel
theorem dX8_laysAnew_110 : decode cX8_laysAnew 110 = .ok (.istore_n 2, 1) := by decide +kernel
theorem dX8_laysAnew_111 : decode cX8_laysAnew 111 = .ok (.iload_n 2, 1) := by decide +kernel
theorem dX8_laysAnew_112 : decode cX8_laysAnew 112 = .ok (.aload_n 0, 1) := by decide +kernel
theorem dX8_laysAnew_113 : decode cX8_laysAnew 113 = .ok (.getfield 7, 3) := by decide +kernel
theorem dX8_laysAnew_116 : decode cX8_laysAnew 116 = .ok (.iconst 0, 1) := by decide +kernel
theorem dX8_laysAnew_117 : decode cX8_laysAnew 117 = .ok (.iaload, 1) := by decide +kernel
theorem dX8_laysAnew_118 : decode cX8_laysAnew 118 = .ok (.if_icmp .ge 20, 3) := by decide +kernel
theorem dX8_laysAnew_121 : decode cX8_laysAnew 121 = .ok (.aload_n 0, 1) := by decide +kernel
theorem dX8_laysAnew_122 : decode cX8_laysAnew 122 = .ok (.getfield 7, 3) := by decide +kernel
theorem dX8_laysAnew_125 : decode cX8_laysAnew 125 = .ok (.sipush 494, 3) := by decide +kernel
theorem dX8_laysAnew_128 : decode cX8_laysAnew 128 = .ok (.iload_n 2, 1) := by decide +kernel
theorem dX8_laysAnew_129 : decode cX8_laysAnew 129 = .ok (.iadd, 1) := by decide +kernel
theorem dX8_laysAnew_130 : decode cX8_laysAnew 130 = .ok (.iconst 0, 1) := by decide +kernel
theorem dX8_laysAnew_131 : decode cX8_laysAnew 131 = .ok (.iastore, 1) := by decide +kernel
theorem dX8_laysAnew_132 : decode cX8_laysAnew 132 = .ok (.iinc 2 1, 3) := by decide +kernel
theorem dX8_laysAnew_135 : decode cX8_laysAnew 135 = .ok (.goto (-24), 3) := by decide +kernel
theorem dX8_laysAnew_138 : decode cX8_laysAnew 138 = .ok (.aload_n 0, 1) := by decide +kernel
theorem dX8_laysAnew_139 : decode cX8_laysAnew 139 = .ok (.getfield 7, 3) := by decide +kernel
theorem dX8_laysAnew_142 : decode cX8_laysAnew 142 = .ok (.iconst 0, 1) := by decide +kernel
theorem dX8_laysAnew_143 : decode cX8_laysAnew 143 = .ok (.iload_n 1, 1) := by decide +kernel
theorem dX8_laysAnew_144 : decode cX8_laysAnew 144 = .ok (.iastore, 1) := by decide +kernel
theorem dX8_laysAnew_145 : decode cX8_laysAnew 145 = .ok (.aload_n 0, 1) := by decide +kernel
theorem dX8_laysAnew_146 : decode cX8_laysAnew 146 = .ok (.getfield 7, 3) := by decide +kernel
theorem dX8_laysAnew_149 : decode cX8_laysAnew 149 = .ok (.iconst 1, 1) := by decide +kernel
theorem dX8_laysAnew_150 : decode cX8_laysAnew 150 = .ok (.iconst 0, 1) := by decide +kernel
theorem dX8_laysAnew_151 : decode cX8_laysAnew 151 = .ok (.iastore, 1) := by decide +kernel
theorem dX8_laysAnew_152 : decode cX8_laysAnew 152 = .ok (.aload_n 0, 1) := by decide +kernel
theorem dX8_laysAnew_153 : decode cX8_laysAnew 153 = .ok (.getfield 7, 3) := by decide +kernel
theorem dX8_laysAnew_156 : decode cX8_laysAnew 156 = .ok (.iconst 5, 1) := by decide +kernel
theorem dX8_laysAnew_157 : decode cX8_laysAnew 157 = .ok (.dup2, 1) := by decide +kernel
theorem dX8_laysAnew_158 : decode cX8_laysAnew 158 = .ok (.iaload, 1) := by decide +kernel
theorem dX8_laysAnew_159 : decode cX8_laysAnew 159 = .ok (.iconst 1, 1) := by decide +kernel
theorem dX8_laysAnew_160 : decode cX8_laysAnew 160 = .ok (.iadd, 1) := by decide +kernel
theorem dX8_laysAnew_161 : decode cX8_laysAnew 161 = .ok (.iastore, 1) := by decide +kernel
theorem dX8_laysAnew_162 : decode cX8_laysAnew 162 = .ok (.return_, 1) := by decide +kernel
theorem dX8_goes_0 : decode cX8_goes 0 = .ok (.aload_n 0, 1) := by decide +kernel
theorem dX8_goes_1 : decode cX8_goes 1 = .ok (.getfield 7, 3) := by decide +kernel
theorem dX8_goes_4 : decode cX8_goes 4 = .ok (.iconst 4, 1) := by decide +kernel
theorem dX8_goes_5 : decode cX8_goes 5 = .ok (.dup2, 1) := by decide +kernel
theorem dX8_goes_6 : decode cX8_goes 6 = .ok (.iaload, 1) := by decide +kernel
theorem dX8_goes_7 : decode cX8_goes 7 = .ok (.aload_n 0, 1) := by decide +kernel
theorem dX8_goes_8 : decode cX8_goes 8 = .ok (.getfield 7, 3) := by decide +kernel
theorem dX8_goes_11 : decode cX8_goes 11 = .ok (.iconst 1, 1) := by decide +kernel
theorem dX8_goes_12 : decode cX8_goes 12 = .ok (.iaload, 1) := by decide +kernel
theorem dX8_goes_13 : decode cX8_goes 13 = .ok (.invokestatic 68, 3) := by decide +kernel
theorem dX8_goes_16 : decode cX8_goes 16 = .ok (.iadd, 1) := by decide +kernel
theorem dX8_goes_17 : decode cX8_goes 17 = .ok (.iastore, 1) := by decide +kernel
theorem dX8_goes_18 : decode cX8_goes 18 = .ok (.aload_n 0, 1) := by decide +kernel
theorem dX8_goes_19 : decode cX8_goes 19 = .ok (.getfield 7, 3) := by decide +kernel
theorem dX8_goes_22 : decode cX8_goes 22 = .ok (.sipush 494, 3) := by decide +kernel
theorem dX8_goes_25 : decode cX8_goes 25 = .ok (.iload_n 1, 1) := by decide +kernel
theorem dX8_goes_26 : decode cX8_goes 26 = .ok (.iadd, 1) := by decide +kernel
theorem dX8_goes_27 : decode cX8_goes 27 = .ok (.iconst 1, 1) := by decide +kernel
theorem dX8_goes_28 : decode cX8_goes 28 = .ok (.iastore, 1) := by decide +kernel
theorem dX8_goes_29 : decode cX8_goes 29 = .ok (.aload_n 0, 1) := by decide +kernel
theorem dX8_goes_30 : decode cX8_goes 30 = .ok (.getfield 7, 3) := by decide +kernel
theorem dX8_goes_33 : decode cX8_goes 33 = .ok (.sipush 616, 3) := by decide +kernel
theorem dX8_goes_36 : decode cX8_goes 36 = .ok (.aload_n 0, 1) := by decide +kernel
theorem dX8_goes_37 : decode cX8_goes 37 = .ok (.getfield 7, 3) := by decide +kernel
theorem dX8_goes_40 : decode cX8_goes 40 = .ok (.iconst 1, 1) := by decide +kernel
theorem dX8_goes_41 : decode cX8_goes 41 = .ok (.iaload, 1) := by decide +kernel
theorem dX8_goes_42 : decode cX8_goes 42 = .ok (.iadd, 1) := by decide +kernel
theorem dX8_goes_43 : decode cX8_goes 43 = .ok (.iload_n 1, 1) := by decide +kernel
theorem dX8_goes_44 : decode cX8_goes 44 = .ok (.iastore, 1) := by decide +kernel
theorem dX8_goes_45 : decode cX8_goes 45 = .ok (.aload_n 0, 1) := by decide +kernel
theorem dX8_goes_46 : decode cX8_goes 46 = .ok (.getfield 7, 3) := by decide +kernel
theorem dX8_goes_49 : decode cX8_goes 49 = .ok (.iconst 1, 1) := by decide +kernel
theorem dX8_goes_50 : decode cX8_goes 50 = .ok (.dup2, 1) := by decide +kernel
theorem dX8_goes_51 : decode cX8_goes 51 = .ok (.iaload, 1) := by decide +kernel
theorem dX8_goes_52 : decode cX8_goes 52 = .ok (.iconst 1, 1) := by decide +kernel
theorem dX8_goes_53 : decode cX8_goes 53 = .ok (.iadd, 1) := by decide +kernel
theorem dX8_goes_54 : decode cX8_goes 54 = .ok (.iastore, 1) := by decide +kernel
theorem dX8_goes_55 : decode cX8_goes 55 = .ok (.aload_n 0, 1) := by decide +kernel
theorem dX8_goes_56 : decode cX8_goes 56 = .ok (.getfield 7, 3) := by decide +kernel
theorem dX8_goes_59 : decode cX8_goes 59 = .ok (.iconst 1, 1) := by decide +kernel
theorem dX8_goes_60 : decode cX8_goes 60 = .ok (.iaload, 1) := by decide +kernel
theorem dX8_goes_61 : decode cX8_goes 61 = .ok (.aload_n 0, 1) := by decide +kernel
theorem dX8_goes_62 : decode cX8_goes 62 = .ok (.invokevirtual 72, 3) := by decide +kernel
theorem dX8_goes_65 : decode cX8_goes 65 = .ok (.if_icmp .le 7, 3) := by decide +kernel
theorem dX8_goes_68 : decode cX8_goes 68 = .ok (.aload_n 0, 1) := by decide +kernel
theorem dX8_goes_69 : decode cX8_goes 69 = .ok (.invokevirtual 76, 3) := by decide +kernel
theorem dX8_goes_72 : decode cX8_goes 72 = .ok (.return_, 1) := by decide +kernel
theorem dX8_put_0 : decode cX8_put 0 = .ok (.iload_n 1, 1) := by decide +kernel
theorem dX8_put_1 : decode cX8_put 1 = .ok (.invokestatic 53, 3) := by decide +kernel
theorem dX8_put_4 : decode cX8_put 4 = .ok (.ifCond .eq 22, 3) := by decide +kernel
theorem dX8_put_7 : decode cX8_put 7 = .ok (.iload_n 2, 1) := by decide +kernel
theorem dX8_put_8 : decode cX8_put 8 = .ok (.invokestatic 53, 3) := by decide +kernel
theorem dX8_put_11 : decode cX8_put 11 = .ok (.ifCond .eq 15, 3) := by decide +kernel
theorem dX8_put_14 : decode cX8_put 14 = .ok (.iload_n 3, 1) := by decide +kernel
theorem dX8_put_15 : decode cX8_put 15 = .ok (.i2l, 1) := by decide +kernel
theorem dX8_put_16 : decode cX8_put 16 = .ok (.lconst 1, 1) := by decide +kernel
theorem dX8_put_17 : decode cX8_put 17 = .ok (.ldc2_w 79, 3) := by decide +kernel
theorem dX8_put_20 : decode cX8_put 20 = .ok (.invokestatic 49, 3) := by decide +kernel
theorem dX8_put_23 : decode cX8_put 23 = .ok (.ifCond .ne 8, 3) := by decide +kernel
theorem dX8_put_26 : decode cX8_put 26 = .ok (.aload_n 0, 1) := by decide +kernel
theorem dX8_put_27 : decode cX8_put 27 = .ok (.invokevirtual 81, 3) := by decide +kernel
theorem dX8_put_30 : decode cX8_put 30 = .ok (.ireturn, 1) := by decide +kernel
theorem dX8_put_31 : decode cX8_put 31 = .ok (.aload_n 0, 1) := by decide +kernel
theorem dX8_put_32 : decode cX8_put 32 = .ok (.invokevirtual 72, 3) := by decide +kernel
theorem dX8_put_35 : decode cX8_put 35 = .ok (.bipush 60, 2) := by decide +kernel
theorem dX8_put_37 : decode cX8_put 37 = .ok (.if_icmp .eq 15, 3) := by decide +kernel
theorem dX8_put_40 : decode cX8_put 40 = .ok (.aload_n 0, 1) := by decide +kernel
theorem dX8_put_41 : decode cX8_put 41 = .ok (.getfield 7, 3) := by decide +kernel
theorem dX8_put_44 : decode cX8_put 44 = .ok (.iconst 2, 1) := by decide +kernel
theorem dX8_put_45 : decode cX8_put 45 = .ok (.iaload, 1) := by decide +kernel
theorem dX8_put_46 : decode cX8_put 46 = .ok (.sipush 10000, 3) := by decide +kernel
theorem dX8_put_49 : decode cX8_put 49 = .ok (.if_icmp .ne 8, 3) := by decide +kernel
theorem dX8_put_52 : decode cX8_put 52 = .ok (.aload_n 0, 1) := by decide +kernel
theorem dX8_put_53 : decode cX8_put 53 = .ok (.invokevirtual 84, 3) := by decide +kernel
theorem dX8_put_56 : decode cX8_put 56 = .ok (.ireturn, 1) := by decide +kernel
theorem dX8_put_57 : decode cX8_put 57 = .ok (.aload_n 0, 1) := by decide +kernel
theorem dX8_put_58 : decode cX8_put 58 = .ok (.invokevirtual 87, 3) := by decide +kernel
theorem dX8_put_61 : decode cX8_put 61 = .ok (.aload_n 0, 1) := by decide +kernel
theorem dX8_put_62 : decode cX8_put 62 = .ok (.iload_n 1, 1) := by decide +kernel
theorem dX8_put_63 : decode cX8_put 63 = .ok (.iload_n 2, 1) := by decide +kernel
theorem dX8_put_64 : decode cX8_put 64 = .ok (.iload_n 3, 1) := by decide +kernel
theorem dX8_put_65 : decode cX8_put 65 = .ok (.invokevirtual 90, 3) := by decide +kernel
theorem dX8_put_68 : decode cX8_put 68 = .ok (.aload_n 0, 1) := by decide +kernel
theorem dX8_put_69 : decode cX8_put 69 = .ok (.getfield 7, 3) := by decide +kernel
theorem dX8_put_72 : decode cX8_put 72 = .ok (.iconst 2, 1) := by decide +kernel
theorem dX8_put_73 : decode cX8_put 73 = .ok (.iaload, 1) := by decide +kernel
theorem dX8_put_74 : decode cX8_put 74 = .ok (.iconst 1, 1) := by decide +kernel
theorem dX8_put_75 : decode cX8_put 75 = .ok (.isub, 1) := by decide +kernel
theorem dX8_put_76 : decode cX8_put 76 = .ok (.ireturn, 1) := by decide +kernel
theorem dX8_take_0 : decode cX8_take 0 = .ok (.aload_n 0, 1) := by decide +kernel
theorem dX8_take_1 : decode cX8_take 1 = .ok (.iload_n 1, 1) := by decide +kernel
theorem dX8_take_2 : decode cX8_take 2 = .ok (.invokevirtual 94, 3) := by decide +kernel
theorem dX8_take_5 : decode cX8_take 5 = .ok (.istore_n 2, 1) := by decide +kernel
theorem dX8_take_6 : decode cX8_take 6 = .ok (.iload_n 2, 1) := by decide +kernel
theorem dX8_take_7 : decode cX8_take 7 = .ok (.ifCond .ge 8, 3) := by decide +kernel
theorem dX8_take_10 : decode cX8_take 10 = .ok (.aload_n 0, 1) := by decide +kernel
theorem dX8_take_11 : decode cX8_take 11 = .ok (.invokevirtual 81, 3) := by decide +kernel
theorem dX8_take_14 : decode cX8_take 14 = .ok (.ireturn, 1) := by decide +kernel
theorem dX8_take_15 : decode cX8_take 15 = .ok (.aload_n 0, 1) := by decide +kernel
theorem dX8_take_16 : decode cX8_take 16 = .ok (.invokevirtual 87, 3) := by decide +kernel
theorem dX8_take_19 : decode cX8_take 19 = .ok (.aload_n 0, 1) := by decide +kernel
theorem dX8_take_20 : decode cX8_take 20 = .ok (.getfield 7, 3) := by decide +kernel
theorem dX8_take_23 : decode cX8_take 23 = .ok (.sipush 372, 3) := by decide +kernel
theorem dX8_take_26 : decode cX8_take 26 = .ok (.iload_n 2, 1) := by decide +kernel
theorem dX8_take_27 : decode cX8_take 27 = .ok (.iadd, 1) := by decide +kernel
theorem dX8_take_28 : decode cX8_take 28 = .ok (.iaload, 1) := by decide +kernel
theorem dX8_take_29 : decode cX8_take 29 = .ok (.istore_n 3, 1) := by decide +kernel
theorem dX8_take_30 : decode cX8_take 30 = .ok (.aload_n 0, 1) := by decide +kernel
theorem dX8_take_31 : decode cX8_take 31 = .ok (.iload_n 2, 1) := by decide +kernel
theorem dX8_take_32 : decode cX8_take 32 = .ok (.invokevirtual 97, 3) := by decide +kernel
theorem dX8_take_35 : decode cX8_take 35 = .ok (.iload_n 3, 1) := by decide +kernel
theorem dX8_take_36 : decode cX8_take 36 = .ok (.ireturn, 1) := by decide +kernel
theorem dX8_move_0 : decode cX8_move 0 = .ok (.aload_n 0, 1) := by decide +kernel
theorem dX8_move_1 : decode cX8_move 1 = .ok (.iload_n 1, 1) := by decide +kernel
theorem dX8_move_2 : decode cX8_move 2 = .ok (.invokevirtual 94, 3) := by decide +kernel
theorem dX8_move_5 : decode cX8_move 5 = .ok (.istore 4, 2) := by decide +kernel
theorem dX8_move_7 : decode cX8_move 7 = .ok (.iload 4, 2) := by decide +kernel
theorem dX8_move_9 : decode cX8_move 9 = .ok (.ifCond .lt 17, 3) := by decide +kernel
theorem dX8_move_12 : decode cX8_move 12 = .ok (.iload_n 2, 1) := by decide +kernel
theorem dX8_move_13 : decode cX8_move 13 = .ok (.invokestatic 53, 3) := by decide +kernel
theorem dX8_move_16 : decode cX8_move 16 = .ok (.ifCond .eq 10, 3) := by decide +kernel
theorem dX8_move_19 : decode cX8_move 19 = .ok (.iload_n 3, 1) := by decide +kernel
theorem dX8_move_20 : decode cX8_move 20 = .ok (.invokestatic 53, 3) := by decide +kernel
theorem dX8_move_23 : decode cX8_move 23 = .ok (.ifCond .ne 8, 3) := by decide +kernel
theorem dX8_move_26 : decode cX8_move 26 = .ok (.aload_n 0, 1) := by decide +kernel
theorem dX8_move_27 : decode cX8_move 27 = .ok (.invokevirtual 81, 3) := by decide +kernel
theorem dX8_move_30 : decode cX8_move 30 = .ok (.ireturn, 1) := by decide +kernel
theorem dX8_move_31 : decode cX8_move 31 = .ok (.aload_n 0, 1) := by decide +kernel
theorem dX8_move_32 : decode cX8_move 32 = .ok (.getfield 7, 3) := by decide +kernel
theorem dX8_move_35 : decode cX8_move 35 = .ok (.iconst 2, 1) := by decide +kernel
theorem dX8_move_36 : decode cX8_move 36 = .ok (.iaload, 1) := by decide +kernel
theorem dX8_move_37 : decode cX8_move 37 = .ok (.sipush 10000, 3) := by decide +kernel
theorem dX8_move_40 : decode cX8_move 40 = .ok (.if_icmp .ne 8, 3) := by decide +kernel
theorem dX8_move_43 : decode cX8_move 43 = .ok (.aload_n 0, 1) := by decide +kernel
theorem dX8_move_44 : decode cX8_move 44 = .ok (.invokevirtual 84, 3) := by decide +kernel
theorem dX8_move_47 : decode cX8_move 47 = .ok (.ireturn, 1) := by decide +kernel
theorem dX8_move_48 : decode cX8_move 48 = .ok (.aload_n 0, 1) := by decide +kernel
theorem dX8_move_49 : decode cX8_move 49 = .ok (.invokevirtual 87, 3) := by decide +kernel
theorem dX8_move_52 : decode cX8_move 52 = .ok (.aload_n 0, 1) := by decide +kernel
theorem dX8_move_53 : decode cX8_move 53 = .ok (.getfield 7, 3) := by decide +kernel
theorem dX8_move_56 : decode cX8_move 56 = .ok (.sipush 372, 3) := by decide +kernel
theorem dX8_move_59 : decode cX8_move 59 = .ok (.iload 4, 2) := by decide +kernel
theorem dX8_move_61 : decode cX8_move 61 = .ok (.iadd, 1) := by decide +kernel
theorem dX8_move_62 : decode cX8_move 62 = .ok (.iaload, 1) := by decide +kernel
theorem dX8_move_63 : decode cX8_move 63 = .ok (.istore 5, 2) := by decide +kernel
theorem dX8_move_65 : decode cX8_move 65 = .ok (.aload_n 0, 1) := by decide +kernel
theorem dX8_move_66 : decode cX8_move 66 = .ok (.iload 4, 2) := by decide +kernel
theorem dX8_move_68 : decode cX8_move 68 = .ok (.invokevirtual 97, 3) := by decide +kernel
theorem dX8_move_71 : decode cX8_move 71 = .ok (.aload_n 0, 1) := by decide +kernel
theorem dX8_move_72 : decode cX8_move 72 = .ok (.iload_n 2, 1) := by decide +kernel
theorem dX8_move_73 : decode cX8_move 73 = .ok (.iload_n 3, 1) := by decide +kernel
theorem dX8_move_74 : decode cX8_move 74 = .ok (.iload 5, 2) := by decide +kernel
theorem dX8_move_76 : decode cX8_move 76 = .ok (.invokevirtual 90, 3) := by decide +kernel
theorem dX8_move_79 : decode cX8_move 79 = .ok (.aload_n 0, 1) := by decide +kernel
theorem dX8_move_80 : decode cX8_move 80 = .ok (.getfield 7, 3) := by decide +kernel
theorem dX8_move_83 : decode cX8_move 83 = .ok (.iconst 2, 1) := by decide +kernel
theorem dX8_move_84 : decode cX8_move 84 = .ok (.iaload, 1) := by decide +kernel
theorem dX8_move_85 : decode cX8_move 85 = .ok (.iconst 1, 1) := by decide +kernel
theorem dX8_move_86 : decode cX8_move 86 = .ok (.isub, 1) := by decide +kernel
theorem dX8_move_87 : decode cX8_move 87 = .ok (.ireturn, 1) := by decide +kernel
theorem dX8_draws_0 : decode cX8_draws 0 = .ok (.aload_n 0, 1) := by decide +kernel
theorem dX8_draws_1 : decode cX8_draws 1 = .ok (.aload_n 0, 1) := by decide +kernel
theorem dX8_draws_2 : decode cX8_draws 2 = .ok (.getfield 101, 3) := by decide +kernel
theorem dX8_draws_5 : decode cX8_draws 5 = .ok (.ldc 104, 2) := by decide +kernel
theorem dX8_draws_7 : decode cX8_draws 7 = .ok (.imul, 1) := by decide +kernel
theorem dX8_draws_8 : decode cX8_draws 8 = .ok (.sipush 12345, 3) := by decide +kernel
theorem dX8_draws_11 : decode cX8_draws 11 = .ok (.iadd, 1) := by decide +kernel
theorem dX8_draws_12 : decode cX8_draws 12 = .ok (.ldc 105, 2) := by decide +kernel
theorem dX8_draws_14 : decode cX8_draws 14 = .ok (.iand, 1) := by decide +kernel
theorem dX8_draws_15 : decode cX8_draws 15 = .ok (.putfield 101, 3) := by decide +kernel
theorem dX8_draws_18 : decode cX8_draws 18 = .ok (.aload_n 0, 1) := by decide +kernel
theorem dX8_draws_19 : decode cX8_draws 19 = .ok (.getfield 101, 3) := by decide +kernel
theorem dX8_draws_22 : decode cX8_draws 22 = .ok (.bipush 16, 2) := by decide +kernel
theorem dX8_draws_24 : decode cX8_draws 24 = .ok (.ishr, 1) := by decide +kernel
theorem dX8_draws_25 : decode cX8_draws 25 = .ok (.iload_n 1, 1) := by decide +kernel
theorem dX8_draws_26 : decode cX8_draws 26 = .ok (.irem, 1) := by decide +kernel
theorem dX8_draws_27 : decode cX8_draws 27 = .ok (.ireturn, 1) := by decide +kernel
theorem dX8_scatter_0 : decode cX8_scatter 0 = .ok (.iload_n 1, 1) := by decide +kernel
theorem dX8_scatter_1 : decode cX8_scatter 1 = .ok (.i2l, 1) := by decide +kernel
theorem dX8_scatter_2 : decode cX8_scatter 2 = .ok (.lconst 0, 1) := by decide +kernel
theorem dX8_scatter_3 : decode cX8_scatter 3 = .ok (.ldc2_w 106, 3) := by decide +kernel
theorem dX8_scatter_6 : decode cX8_scatter 6 = .ok (.invokestatic 49, 3) := by decide +kernel
theorem dX8_scatter_9 : decode cX8_scatter 9 = .ok (.ifCond .eq 15, 3) := by decide +kernel
theorem dX8_scatter_12 : decode cX8_scatter 12 = .ok (.iload_n 2, 1) := by decide +kernel
theorem dX8_scatter_13 : decode cX8_scatter 13 = .ok (.i2l, 1) := by decide +kernel
theorem dX8_scatter_14 : decode cX8_scatter 14 = .ok (.lconst 1, 1) := by decide +kernel
theorem dX8_scatter_15 : decode cX8_scatter 15 = .ok (.ldc2_w 108, 3) := by decide +kernel
theorem dX8_scatter_18 : decode cX8_scatter 18 = .ok (.invokestatic 49, 3) := by decide +kernel
theorem dX8_scatter_21 : decode cX8_scatter 21 = .ok (.ifCond .ne 8, 3) := by decide +kernel
theorem dX8_scatter_24 : decode cX8_scatter 24 = .ok (.aload_n 0, 1) := by decide +kernel
theorem dX8_scatter_25 : decode cX8_scatter 25 = .ok (.invokevirtual 81, 3) := by decide +kernel
theorem dX8_scatter_28 : decode cX8_scatter 28 = .ok (.ireturn, 1) := by decide +kernel
theorem dX8_scatter_29 : decode cX8_scatter 29 = .ok (.aload_n 0, 1) := by decide +kernel
theorem dX8_scatter_30 : decode cX8_scatter 30 = .ok (.invokevirtual 72, 3) := by decide +kernel
theorem dX8_scatter_33 : decode cX8_scatter 33 = .ok (.iload_n 2, 1) := by decide +kernel
theorem dX8_scatter_34 : decode cX8_scatter 34 = .ok (.iadd, 1) := by decide +kernel
theorem dX8_scatter_35 : decode cX8_scatter 35 = .ok (.bipush 60, 2) := by decide +kernel
theorem dX8_scatter_37 : decode cX8_scatter 37 = .ok (.if_icmp .gt 17, 3) := by decide +kernel
theorem dX8_scatter_40 : decode cX8_scatter 40 = .ok (.aload_n 0, 1) := by decide +kernel
theorem dX8_scatter_41 : decode cX8_scatter 41 = .ok (.getfield 7, 3) := by decide +kernel
theorem dX8_scatter_44 : decode cX8_scatter 44 = .ok (.iconst 2, 1) := by decide +kernel
theorem dX8_scatter_45 : decode cX8_scatter 45 = .ok (.iaload, 1) := by decide +kernel
theorem dX8_scatter_46 : decode cX8_scatter 46 = .ok (.iload_n 2, 1) := by decide +kernel
theorem dX8_scatter_47 : decode cX8_scatter 47 = .ok (.iadd, 1) := by decide +kernel
theorem dX8_scatter_48 : decode cX8_scatter 48 = .ok (.sipush 10000, 3) := by decide +kernel
theorem dX8_scatter_51 : decode cX8_scatter 51 = .ok (.if_icmp .le 8, 3) := by decide +kernel
theorem dX8_scatter_54 : decode cX8_scatter 54 = .ok (.aload_n 0, 1) := by decide +kernel
theorem dX8_scatter_55 : decode cX8_scatter 55 = .ok (.invokevirtual 84, 3) := by decide +kernel
theorem dX8_scatter_58 : decode cX8_scatter 58 = .ok (.ireturn, 1) := by decide +kernel
theorem dX8_scatter_59 : decode cX8_scatter 59 = .ok (.aload_n 0, 1) := by decide +kernel
theorem dX8_scatter_60 : decode cX8_scatter 60 = .ok (.invokevirtual 87, 3) := by decide +kernel
theorem dX8_scatter_63 : decode cX8_scatter 63 = .ok (.aload_n 0, 1) := by decide +kernel
theorem dX8_scatter_64 : decode cX8_scatter 64 = .ok (.iload_n 1, 1) := by decide +kernel
theorem dX8_scatter_65 : decode cX8_scatter 65 = .ok (.putfield 101, 3) := by decide +kernel
theorem dX8_scatter_68 : decode cX8_scatter 68 = .ok (.iconst 0, 1) := by decide +kernel
theorem dX8_scatter_69 : decode cX8_scatter 69 = .ok (.istore_n 3, 1) := by decide +kernel
theorem dX8_scatter_70 : decode cX8_scatter 70 = .ok (.iload_n 3, 1) := by decide +kernel
theorem dX8_scatter_71 : decode cX8_scatter 71 = .ok (.iload_n 2, 1) := by decide +kernel
theorem dX8_scatter_72 : decode cX8_scatter 72 = .ok (.if_icmp .ge 51, 3) := by decide +kernel
theorem dX8_scatter_75 : decode cX8_scatter 75 = .ok (.aload_n 0, 1) := by decide +kernel
theorem dX8_scatter_76 : decode cX8_scatter 76 = .ok (.sipush 1001, 3) := by decide +kernel
theorem dX8_scatter_79 : decode cX8_scatter 79 = .ok (.invokevirtual 110, 3) := by decide +kernel
theorem dX8_scatter_82 : decode cX8_scatter 82 = .ok (.sipush 500, 3) := by decide +kernel
theorem dX8_scatter_85 : decode cX8_scatter 85 = .ok (.isub, 1) := by decide +kernel
theorem dX8_scatter_86 : decode cX8_scatter 86 = .ok (.istore 4, 2) := by decide +kernel
theorem dX8_scatter_88 : decode cX8_scatter 88 = .ok (.aload_n 0, 1) := by decide +kernel
theorem dX8_scatter_89 : decode cX8_scatter 89 = .ok (.sipush 1001, 3) := by decide +kernel
theorem dX8_scatter_92 : decode cX8_scatter 92 = .ok (.invokevirtual 110, 3) := by decide +kernel
theorem dX8_scatter_95 : decode cX8_scatter 95 = .ok (.sipush 500, 3) := by decide +kernel
theorem dX8_scatter_98 : decode cX8_scatter 98 = .ok (.isub, 1) := by decide +kernel
theorem dX8_scatter_99 : decode cX8_scatter 99 = .ok (.istore 5, 2) := by decide +kernel
theorem dX8_scatter_101 : decode cX8_scatter 101 = .ok (.aload_n 0, 1) := by decide +kernel
theorem dX8_scatter_102 : decode cX8_scatter 102 = .ok (.iload 4, 2) := by decide +kernel
theorem dX8_scatter_104 : decode cX8_scatter 104 = .ok (.iload 5, 2) := by decide +kernel
theorem dX8_scatter_106 : decode cX8_scatter 106 = .ok (.iconst 1, 1) := by decide +kernel
theorem dX8_scatter_107 : decode cX8_scatter 107 = .ok (.aload_n 0, 1) := by decide +kernel
theorem dX8_scatter_108 : decode cX8_scatter 108 = .ok (.bipush 100, 2) := by decide +kernel
theorem dX8_scatter_110 : decode cX8_scatter 110 = .ok (.invokevirtual 110, 3) := by decide +kernel
theorem dX8_scatter_113 : decode cX8_scatter 113 = .ok (.iadd, 1) := by decide +kernel
theorem dX8_scatter_114 : decode cX8_scatter 114 = .ok (.invokevirtual 90, 3) := by decide +kernel
theorem dX8_scatter_117 : decode cX8_scatter 117 = .ok (.iinc 3 1, 3) := by decide +kernel
theorem dX8_scatter_120 : decode cX8_scatter 120 = .ok (.goto (-50), 3) := by decide +kernel
theorem dX8_scatter_123 : decode cX8_scatter 123 = .ok (.aload_n 0, 1) := by decide +kernel
theorem dX8_scatter_124 : decode cX8_scatter 124 = .ok (.invokevirtual 72, 3) := by decide +kernel
theorem dX8_scatter_127 : decode cX8_scatter 127 = .ok (.ireturn, 1) := by decide +kernel
theorem dX8_isAhead_0 : decode cX8_isAhead 0 = .ok (.aload_n 0, 1) := by decide +kernel
theorem dX8_isAhead_1 : decode cX8_isAhead 1 = .ok (.getfield 7, 3) := by decide +kernel
theorem dX8_isAhead_4 : decode cX8_isAhead 4 = .ok (.sipush 128, 3) := by decide +kernel
theorem dX8_isAhead_7 : decode cX8_isAhead 7 = .ok (.iload_n 1, 1) := by decide +kernel
theorem dX8_isAhead_8 : decode cX8_isAhead 8 = .ok (.iadd, 1) := by decide +kernel
theorem dX8_isAhead_9 : decode cX8_isAhead 9 = .ok (.iaload, 1) := by decide +kernel
theorem dX8_isAhead_10 : decode cX8_isAhead 10 = .ok (.aload_n 0, 1) := by decide +kernel
theorem dX8_isAhead_11 : decode cX8_isAhead 11 = .ok (.getfield 7, 3) := by decide +kernel
theorem dX8_isAhead_14 : decode cX8_isAhead 14 = .ok (.sipush 128, 3) := by decide +kernel
theorem dX8_isAhead_17 : decode cX8_isAhead 17 = .ok (.iload_n 2, 1) := by decide +kernel
theorem dX8_isAhead_18 : decode cX8_isAhead 18 = .ok (.iadd, 1) := by decide +kernel
theorem dX8_isAhead_19 : decode cX8_isAhead 19 = .ok (.iaload, 1) := by decide +kernel
theorem dX8_isAhead_20 : decode cX8_isAhead 20 = .ok (.if_icmp .eq 27, 3) := by decide +kernel
theorem dX8_isAhead_23 : decode cX8_isAhead 23 = .ok (.aload_n 0, 1) := by decide +kernel
theorem dX8_isAhead_24 : decode cX8_isAhead 24 = .ok (.getfield 7, 3) := by decide +kernel
theorem dX8_isAhead_27 : decode cX8_isAhead 27 = .ok (.sipush 128, 3) := by decide +kernel
theorem dX8_isAhead_30 : decode cX8_isAhead 30 = .ok (.iload_n 1, 1) := by decide +kernel
theorem dX8_isAhead_31 : decode cX8_isAhead 31 = .ok (.iadd, 1) := by decide +kernel
theorem dX8_isAhead_32 : decode cX8_isAhead 32 = .ok (.iaload, 1) := by decide +kernel
theorem dX8_isAhead_33 : decode cX8_isAhead 33 = .ok (.aload_n 0, 1) := by decide +kernel
theorem dX8_isAhead_34 : decode cX8_isAhead 34 = .ok (.getfield 7, 3) := by decide +kernel
theorem dX8_isAhead_37 : decode cX8_isAhead 37 = .ok (.sipush 128, 3) := by decide +kernel
theorem dX8_isAhead_40 : decode cX8_isAhead 40 = .ok (.iload_n 2, 1) := by decide +kernel
theorem dX8_isAhead_41 : decode cX8_isAhead 41 = .ok (.iadd, 1) := by decide +kernel
theorem dX8_isAhead_42 : decode cX8_isAhead 42 = .ok (.iaload, 1) := by decide +kernel
theorem dX8_isAhead_43 : decode cX8_isAhead 43 = .ok (.isub, 1) := by decide +kernel
theorem dX8_isAhead_44 : decode cX8_isAhead 44 = .ok (.goto 69, 3) := by decide +kernel
theorem dX8_isAhead_47 : decode cX8_isAhead 47 = .ok (.aload_n 0, 1) := by decide +kernel
theorem dX8_isAhead_48 : decode cX8_isAhead 48 = .ok (.getfield 7, 3) := by decide +kernel
theorem dX8_isAhead_51 : decode cX8_isAhead 51 = .ok (.sipush 250, 3) := by decide +kernel
theorem dX8_isAhead_54 : decode cX8_isAhead 54 = .ok (.iload_n 1, 1) := by decide +kernel
theorem dX8_isAhead_55 : decode cX8_isAhead 55 = .ok (.iadd, 1) := by decide +kernel
theorem dX8_isAhead_56 : decode cX8_isAhead 56 = .ok (.iaload, 1) := by decide +kernel
theorem dX8_isAhead_57 : decode cX8_isAhead 57 = .ok (.aload_n 0, 1) := by decide +kernel
theorem dX8_isAhead_58 : decode cX8_isAhead 58 = .ok (.getfield 7, 3) := by decide +kernel
theorem dX8_isAhead_61 : decode cX8_isAhead 61 = .ok (.sipush 250, 3) := by decide +kernel
theorem dX8_isAhead_64 : decode cX8_isAhead 64 = .ok (.iload_n 2, 1) := by decide +kernel
theorem dX8_isAhead_65 : decode cX8_isAhead 65 = .ok (.iadd, 1) := by decide +kernel
theorem dX8_isAhead_66 : decode cX8_isAhead 66 = .ok (.iaload, 1) := by decide +kernel
theorem dX8_isAhead_67 : decode cX8_isAhead 67 = .ok (.if_icmp .eq 27, 3) := by decide +kernel
theorem dX8_isAhead_70 : decode cX8_isAhead 70 = .ok (.aload_n 0, 1) := by decide +kernel
theorem dX8_isAhead_71 : decode cX8_isAhead 71 = .ok (.getfield 7, 3) := by decide +kernel
theorem dX8_isAhead_74 : decode cX8_isAhead 74 = .ok (.sipush 250, 3) := by decide +kernel
theorem dX8_isAhead_77 : decode cX8_isAhead 77 = .ok (.iload_n 1, 1) := by decide +kernel
theorem dX8_isAhead_78 : decode cX8_isAhead 78 = .ok (.iadd, 1) := by decide +kernel
theorem dX8_isAhead_79 : decode cX8_isAhead 79 = .ok (.iaload, 1) := by decide +kernel
theorem dX8_isAhead_80 : decode cX8_isAhead 80 = .ok (.aload_n 0, 1) := by decide +kernel
theorem dX8_isAhead_81 : decode cX8_isAhead 81 = .ok (.getfield 7, 3) := by decide +kernel
theorem dX8_isAhead_84 : decode cX8_isAhead 84 = .ok (.sipush 250, 3) := by decide +kernel
theorem dX8_isAhead_87 : decode cX8_isAhead 87 = .ok (.iload_n 2, 1) := by decide +kernel
theorem dX8_isAhead_88 : decode cX8_isAhead 88 = .ok (.iadd, 1) := by decide +kernel
theorem dX8_isAhead_89 : decode cX8_isAhead 89 = .ok (.iaload, 1) := by decide +kernel
theorem dX8_isAhead_90 : decode cX8_isAhead 90 = .ok (.isub, 1) := by decide +kernel
theorem dX8_isAhead_91 : decode cX8_isAhead 91 = .ok (.goto 22, 3) := by decide +kernel
theorem dX8_isAhead_94 : decode cX8_isAhead 94 = .ok (.aload_n 0, 1) := by decide +kernel
theorem dX8_isAhead_95 : decode cX8_isAhead 95 = .ok (.getfield 7, 3) := by decide +kernel
theorem dX8_isAhead_98 : decode cX8_isAhead 98 = .ok (.bipush 6, 2) := by decide +kernel
theorem dX8_isAhead_100 : decode cX8_isAhead 100 = .ok (.iload_n 1, 1) := by decide +kernel
theorem dX8_isAhead_101 : decode cX8_isAhead 101 = .ok (.iadd, 1) := by decide +kernel
theorem dX8_isAhead_102 : decode cX8_isAhead 102 = .ok (.iaload, 1) := by decide +kernel
theorem dX8_isAhead_103 : decode cX8_isAhead 103 = .ok (.aload_n 0, 1) := by decide +kernel
theorem dX8_isAhead_104 : decode cX8_isAhead 104 = .ok (.getfield 7, 3) := by decide +kernel
theorem dX8_isAhead_107 : decode cX8_isAhead 107 = .ok (.bipush 6, 2) := by decide +kernel
theorem dX8_isAhead_109 : decode cX8_isAhead 109 = .ok (.iload_n 2, 1) := by decide +kernel
theorem dX8_isAhead_110 : decode cX8_isAhead 110 = .ok (.iadd, 1) := by decide +kernel
theorem dX8_isAhead_111 : decode cX8_isAhead 111 = .ok (.iaload, 1) := by decide +kernel
theorem dX8_isAhead_112 : decode cX8_isAhead 112 = .ok (.isub, 1) := by decide +kernel
theorem dX8_isAhead_113 : decode cX8_isAhead 113 = .ok (.istore_n 3, 1) := by decide +kernel
theorem dX8_isAhead_114 : decode cX8_isAhead 114 = .ok (.iload_n 3, 1) := by decide +kernel
theorem dX8_isAhead_115 : decode cX8_isAhead 115 = .ok (.ifCond .ge 7, 3) := by decide +kernel
theorem dX8_isAhead_118 : decode cX8_isAhead 118 = .ok (.iconst 1, 1) := by decide +kernel
theorem dX8_isAhead_119 : decode cX8_isAhead 119 = .ok (.goto 4, 3) := by decide +kernel
theorem dX8_isAhead_122 : decode cX8_isAhead 122 = .ok (.iconst 0, 1) := by decide +kernel
theorem dX8_isAhead_123 : decode cX8_isAhead 123 = .ok (.ireturn, 1) := by decide +kernel
theorem dX8_insert_0 : decode cX8_insert 0 = .ok (.aload_n 0, 1) := by decide +kernel
theorem dX8_insert_1 : decode cX8_insert 1 = .ok (.getfield 113, 3) := by decide +kernel
theorem dX8_insert_4 : decode cX8_insert 4 = .ok (.istore_n 2, 1) := by decide +kernel
theorem dX8_insert_5 : decode cX8_insert 5 = .ok (.iload_n 2, 1) := by decide +kernel
theorem dX8_insert_6 : decode cX8_insert 6 = .ok (.ifCond .le 39, 3) := by decide +kernel
theorem dX8_insert_9 : decode cX8_insert 9 = .ok (.aload_n 0, 1) := by decide +kernel
theorem dX8_insert_10 : decode cX8_insert 10 = .ok (.iload_n 1, 1) := by decide +kernel
theorem dX8_insert_11 : decode cX8_insert 11 = .ok (.aload_n 0, 1) := by decide +kernel
theorem dX8_insert_12 : decode cX8_insert 12 = .ok (.getfield 33, 3) := by decide +kernel
theorem dX8_insert_15 : decode cX8_insert 15 = .ok (.iload_n 2, 1) := by decide +kernel
theorem dX8_insert_16 : decode cX8_insert 16 = .ok (.iconst 1, 1) := by decide +kernel
theorem dX8_insert_17 : decode cX8_insert 17 = .ok (.isub, 1) := by decide +kernel
theorem dX8_insert_18 : decode cX8_insert 18 = .ok (.iaload, 1) := by decide +kernel
theorem dX8_insert_19 : decode cX8_insert 19 = .ok (.invokevirtual 116, 3) := by decide +kernel
theorem dX8_insert_22 : decode cX8_insert 22 = .ok (.ifCond .eq 23, 3) := by decide +kernel
theorem dX8_insert_25 : decode cX8_insert 25 = .ok (.aload_n 0, 1) := by decide +kernel
theorem dX8_insert_26 : decode cX8_insert 26 = .ok (.getfield 33, 3) := by decide +kernel
theorem dX8_insert_29 : decode cX8_insert 29 = .ok (.iload_n 2, 1) := by decide +kernel
theorem dX8_insert_30 : decode cX8_insert 30 = .ok (.aload_n 0, 1) := by decide +kernel
theorem dX8_insert_31 : decode cX8_insert 31 = .ok (.getfield 33, 3) := by decide +kernel
theorem dX8_insert_34 : decode cX8_insert 34 = .ok (.iload_n 2, 1) := by decide +kernel
theorem dX8_insert_35 : decode cX8_insert 35 = .ok (.iconst 1, 1) := by decide +kernel
theorem dX8_insert_36 : decode cX8_insert 36 = .ok (.isub, 1) := by decide +kernel
theorem dX8_insert_37 : decode cX8_insert 37 = .ok (.iaload, 1) := by decide +kernel
theorem dX8_insert_38 : decode cX8_insert 38 = .ok (.iastore, 1) := by decide +kernel
theorem dX8_insert_39 : decode cX8_insert 39 = .ok (.iinc 2 (-1), 3) := by decide +kernel
theorem dX8_insert_42 : decode cX8_insert 42 = .ok (.goto (-37), 3) := by decide +kernel
theorem dX8_insert_45 : decode cX8_insert 45 = .ok (.aload_n 0, 1) := by decide +kernel
theorem dX8_insert_46 : decode cX8_insert 46 = .ok (.getfield 33, 3) := by decide +kernel
theorem dX8_insert_49 : decode cX8_insert 49 = .ok (.iload_n 2, 1) := by decide +kernel
theorem dX8_insert_50 : decode cX8_insert 50 = .ok (.iload_n 1, 1) := by decide +kernel
theorem dX8_insert_51 : decode cX8_insert 51 = .ok (.iastore, 1) := by decide +kernel
theorem dX8_insert_52 : decode cX8_insert 52 = .ok (.aload_n 0, 1) := by decide +kernel
theorem dX8_insert_53 : decode cX8_insert 53 = .ok (.dup, 1) := by decide +kernel
theorem dX8_insert_54 : decode cX8_insert 54 = .ok (.getfield 113, 3) := by decide +kernel
theorem dX8_insert_57 : decode cX8_insert 57 = .ok (.iconst 1, 1) := by decide +kernel
theorem dX8_insert_58 : decode cX8_insert 58 = .ok (.iadd, 1) := by decide +kernel
theorem dX8_insert_59 : decode cX8_insert 59 = .ok (.putfield 113, 3) := by decide +kernel
theorem dX8_insert_62 : decode cX8_insert 62 = .ok (.return_, 1) := by decide +kernel
theorem dX8_lines_0 : decode cX8_lines 0 = .ok (.aload_n 0, 1) := by decide +kernel
theorem dX8_lines_1 : decode cX8_lines 1 = .ok (.iconst 0, 1) := by decide +kernel
theorem dX8_lines_2 : decode cX8_lines 2 = .ok (.putfield 113, 3) := by decide +kernel
theorem dX8_lines_5 : decode cX8_lines 5 = .ok (.iconst 0, 1) := by decide +kernel
theorem dX8_lines_6 : decode cX8_lines 6 = .ok (.istore 5, 2) := by decide +kernel
theorem dX8_lines_8 : decode cX8_lines 8 = .ok (.iload 5, 2) := by decide +kernel
theorem dX8_lines_10 : decode cX8_lines 10 = .ok (.aload_n 0, 1) := by decide +kernel
theorem dX8_lines_11 : decode cX8_lines 11 = .ok (.getfield 7, 3) := by decide +kernel
theorem dX8_lines_14 : decode cX8_lines 14 = .ok (.iconst 0, 1) := by decide +kernel
theorem dX8_lines_15 : decode cX8_lines 15 = .ok (.iaload, 1) := by decide +kernel
theorem dX8_lines_16 : decode cX8_lines 16 = .ok (.if_icmp .ge 38, 3) := by decide +kernel
theorem dX8_lines_19 : decode cX8_lines 19 = .ok (.aload_n 0, 1) := by decide +kernel
theorem dX8_lines_20 : decode cX8_lines 20 = .ok (.iload 5, 2) := by decide +kernel
theorem dX8_lines_22 : decode cX8_lines 22 = .ok (.invokevirtual 57, 3) := by decide +kernel
theorem dX8_lines_25 : decode cX8_lines 25 = .ok (.ifCond .eq 23, 3) := by decide +kernel
theorem dX8_lines_28 : decode cX8_lines 28 = .ok (.aload_n 0, 1) := by decide +kernel
theorem dX8_lines_29 : decode cX8_lines 29 = .ok (.iload 5, 2) := by decide +kernel
theorem dX8_lines_31 : decode cX8_lines 31 = .ok (.iload_n 1, 1) := by decide +kernel
theorem dX8_lines_32 : decode cX8_lines 32 = .ok (.iload_n 2, 1) := by decide +kernel
theorem dX8_lines_33 : decode cX8_lines 33 = .ok (.iload_n 3, 1) := by decide +kernel
theorem dX8_lines_34 : decode cX8_lines 34 = .ok (.iload 4, 2) := by decide +kernel
theorem dX8_lines_36 : decode cX8_lines 36 = .ok (.invokevirtual 120, 3) := by decide +kernel
theorem dX8_lines_39 : decode cX8_lines 39 = .ok (.ifCond .eq 9, 3) := by decide +kernel
theorem dX8_lines_42 : decode cX8_lines 42 = .ok (.aload_n 0, 1) := by decide +kernel
theorem dX8_lines_43 : decode cX8_lines 43 = .ok (.iload 5, 2) := by decide +kernel
theorem dX8_lines_45 : decode cX8_lines 45 = .ok (.invokevirtual 124, 3) := by decide +kernel
theorem dX8_lines_48 : decode cX8_lines 48 = .ok (.iinc 5 1, 3) := by decide +kernel
theorem dX8_lines_51 : decode cX8_lines 51 = .ok (.goto (-43), 3) := by decide +kernel
theorem dX8_lines_54 : decode cX8_lines 54 = .ok (.return_, 1) := by decide +kernel
theorem dX8_takesLine_0 : decode cX8_takesLine 0 = .ok (.aload_n 0, 1) := by decide +kernel
theorem dX8_takesLine_1 : decode cX8_takesLine 1 = .ok (.getfield 113, 3) := by decide +kernel
theorem dX8_takesLine_4 : decode cX8_takesLine 4 = .ok (.ifCond .ne 5, 3) := by decide +kernel
theorem dX8_takesLine_7 : decode cX8_takesLine 7 = .ok (.iconst 0, 1) := by decide +kernel
theorem dX8_takesLine_8 : decode cX8_takesLine 8 = .ok (.ireturn, 1) := by decide +kernel
theorem dX8_takesLine_9 : decode cX8_takesLine 9 = .ok (.aload_n 0, 1) := by decide +kernel
theorem dX8_takesLine_10 : decode cX8_takesLine 10 = .ok (.invokevirtual 87, 3) := by decide +kernel
theorem dX8_takesLine_13 : decode cX8_takesLine 13 = .ok (.aload_n 0, 1) := by decide +kernel
theorem dX8_takesLine_14 : decode cX8_takesLine 14 = .ok (.getfield 113, 3) := by decide +kernel
theorem dX8_takesLine_17 : decode cX8_takesLine 17 = .ok (.istore_n 1, 1) := by decide +kernel
theorem dX8_takesLine_18 : decode cX8_takesLine 18 = .ok (.iconst 0, 1) := by decide +kernel
theorem dX8_takesLine_19 : decode cX8_takesLine 19 = .ok (.istore_n 2, 1) := by decide +kernel
theorem dX8_takesLine_20 : decode cX8_takesLine 20 = .ok (.iload_n 2, 1) := by decide +kernel
theorem dX8_takesLine_21 : decode cX8_takesLine 21 = .ok (.iload_n 1, 1) := by decide +kernel
theorem dX8_takesLine_22 : decode cX8_takesLine 22 = .ok (.if_icmp .ge 29, 3) := by decide +kernel
theorem dX8_takesLine_25 : decode cX8_takesLine 25 = .ok (.aload_n 0, 1) := by decide +kernel
theorem dX8_takesLine_26 : decode cX8_takesLine 26 = .ok (.getfield 33, 3) := by decide +kernel
theorem dX8_takesLine_29 : decode cX8_takesLine 29 = .ok (.iload_n 2, 1) := by decide +kernel
theorem dX8_takesLine_30 : decode cX8_takesLine 30 = .ok (.aload_n 0, 1) := by decide +kernel
theorem dX8_takesLine_31 : decode cX8_takesLine 31 = .ok (.getfield 7, 3) := by decide +kernel
theorem dX8_takesLine_34 : decode cX8_takesLine 34 = .ok (.bipush 6, 2) := by decide +kernel
theorem dX8_takesLine_36 : decode cX8_takesLine 36 = .ok (.aload_n 0, 1) := by decide +kernel
theorem dX8_takesLine_37 : decode cX8_takesLine 37 = .ok (.getfield 33, 3) := by decide +kernel
theorem dX8_takesLine_40 : decode cX8_takesLine 40 = .ok (.iload_n 2, 1) := by decide +kernel
theorem dX8_takesLine_41 : decode cX8_takesLine 41 = .ok (.iaload, 1) := by decide +kernel
theorem dX8_takesLine_42 : decode cX8_takesLine 42 = .ok (.iadd, 1) := by decide +kernel
theorem dX8_takesLine_43 : decode cX8_takesLine 43 = .ok (.iaload, 1) := by decide +kernel
theorem dX8_takesLine_44 : decode cX8_takesLine 44 = .ok (.iastore, 1) := by decide +kernel
theorem dX8_takesLine_45 : decode cX8_takesLine 45 = .ok (.iinc 2 1, 3) := by decide +kernel
theorem dX8_takesLine_48 : decode cX8_takesLine 48 = .ok (.goto (-28), 3) := by decide +kernel
theorem dX8_takesLine_51 : decode cX8_takesLine 51 = .ok (.iconst 0, 1) := by decide +kernel
theorem dX8_takesLine_52 : decode cX8_takesLine 52 = .ok (.istore_n 2, 1) := by decide +kernel
theorem dX8_takesLine_53 : decode cX8_takesLine 53 = .ok (.iload_n 2, 1) := by decide +kernel
theorem dX8_takesLine_54 : decode cX8_takesLine 54 = .ok (.iload_n 1, 1) := by decide +kernel
theorem dX8_takesLine_55 : decode cX8_takesLine 55 = .ok (.if_icmp .ge 23, 3) := by decide +kernel
theorem dX8_takesLine_58 : decode cX8_takesLine 58 = .ok (.aload_n 0, 1) := by decide +kernel
theorem dX8_takesLine_59 : decode cX8_takesLine 59 = .ok (.aload_n 0, 1) := by decide +kernel
theorem dX8_takesLine_60 : decode cX8_takesLine 60 = .ok (.aload_n 0, 1) := by decide +kernel
theorem dX8_takesLine_61 : decode cX8_takesLine 61 = .ok (.getfield 33, 3) := by decide +kernel
theorem dX8_takesLine_64 : decode cX8_takesLine 64 = .ok (.iload_n 2, 1) := by decide +kernel
theorem dX8_takesLine_65 : decode cX8_takesLine 65 = .ok (.iaload, 1) := by decide +kernel
theorem dX8_takesLine_66 : decode cX8_takesLine 66 = .ok (.invokevirtual 94, 3) := by decide +kernel
theorem dX8_takesLine_69 : decode cX8_takesLine 69 = .ok (.invokevirtual 97, 3) := by decide +kernel
theorem dX8_takesLine_72 : decode cX8_takesLine 72 = .ok (.iinc 2 1, 3) := by decide +kernel
theorem dX8_takesLine_75 : decode cX8_takesLine 75 = .ok (.goto (-22), 3) := by decide +kernel
theorem dX8_takesLine_78 : decode cX8_takesLine 78 = .ok (.iload_n 1, 1) := by decide +kernel
theorem dX8_takesLine_79 : decode cX8_takesLine 79 = .ok (.ireturn, 1) := by decide +kernel
theorem dX8_sweep_0 : decode cX8_sweep 0 = .ok (.iload_n 1, 1) := by decide +kernel
theorem dX8_sweep_1 : decode cX8_sweep 1 = .ok (.iload_n 2, 1) := by decide +kernel
theorem dX8_sweep_2 : decode cX8_sweep 2 = .ok (.iload_n 3, 1) := by decide +kernel
theorem dX8_sweep_3 : decode cX8_sweep 3 = .ok (.iload 4, 2) := by decide +kernel
theorem dX8_sweep_5 : decode cX8_sweep 5 = .ok (.invokestatic 127, 3) := by decide +kernel
theorem dX8_sweep_8 : decode cX8_sweep 8 = .ok (.ifCond .ne 8, 3) := by decide +kernel
theorem dX8_sweep_11 : decode cX8_sweep 11 = .ok (.aload_n 0, 1) := by decide +kernel
theorem dX8_sweep_12 : decode cX8_sweep 12 = .ok (.invokevirtual 81, 3) := by decide +kernel
theorem dX8_sweep_15 : decode cX8_sweep 15 = .ok (.ireturn, 1) := by decide +kernel
theorem dX8_sweep_16 : decode cX8_sweep 16 = .ok (.aload_n 0, 1) := by decide +kernel
theorem dX8_sweep_17 : decode cX8_sweep 17 = .ok (.iload_n 1, 1) := by decide +kernel
theorem dX8_sweep_18 : decode cX8_sweep 18 = .ok (.iload_n 2, 1) := by decide +kernel
theorem dX8_sweep_19 : decode cX8_sweep 19 = .ok (.iload_n 3, 1) := by decide +kernel
theorem dX8_sweep_20 : decode cX8_sweep 20 = .ok (.iload 4, 2) := by decide +kernel
theorem dX8_sweep_22 : decode cX8_sweep 22 = .ok (.invokevirtual 131, 3) := by decide +kernel
theorem dX8_sweep_25 : decode cX8_sweep 25 = .ok (.aload_n 0, 1) := by decide +kernel
theorem dX8_sweep_26 : decode cX8_sweep 26 = .ok (.invokevirtual 135, 3) := by decide +kernel
end
section
theorem dX8_sweep_29 : decode cX8_sweep 29 = .ok (.ireturn, 1) := by decide +kernel
theorem dX8_counter_0 : decode cX8_counter 0 = .ok (.iload_n 1, 1) := by decide +kernel
theorem dX8_counter_1 : decode cX8_counter 1 = .ok (.i2l, 1) := by decide +kernel
theorem dX8_counter_2 : decode cX8_counter 2 = .ok (.lconst 0, 1) := by decide +kernel
theorem dX8_counter_3 : decode cX8_counter 3 = .ok (.ldc2_w 138, 3) := by decide +kernel
theorem dX8_counter_6 : decode cX8_counter 6 = .ok (.invokestatic 49, 3) := by decide +kernel
theorem dX8_counter_9 : decode cX8_counter 9 = .ok (.ifCond .ne 8, 3) := by decide +kernel
theorem dX8_counter_12 : decode cX8_counter 12 = .ok (.aload_n 0, 1) := by decide +kernel
theorem dX8_counter_13 : decode cX8_counter 13 = .ok (.invokevirtual 81, 3) := by decide +kernel
theorem dX8_counter_16 : decode cX8_counter 16 = .ok (.ireturn, 1) := by decide +kernel
theorem dX8_counter_17 : decode cX8_counter 17 = .ok (.aload_n 0, 1) := by decide +kernel
theorem dX8_counter_18 : decode cX8_counter 18 = .ok (.invokevirtual 87, 3) := by decide +kernel
theorem dX8_counter_21 : decode cX8_counter 21 = .ok (.aload_n 0, 1) := by decide +kernel
theorem dX8_counter_22 : decode cX8_counter 22 = .ok (.getfield 7, 3) := by decide +kernel
theorem dX8_counter_25 : decode cX8_counter 25 = .ok (.iconst 3, 1) := by decide +kernel
theorem dX8_counter_26 : decode cX8_counter 26 = .ok (.iaload, 1) := by decide +kernel
theorem dX8_counter_27 : decode cX8_counter 27 = .ok (.istore_n 2, 1) := by decide +kernel
theorem dX8_counter_28 : decode cX8_counter 28 = .ok (.aload_n 0, 1) := by decide +kernel
theorem dX8_counter_29 : decode cX8_counter 29 = .ok (.getfield 7, 3) := by decide +kernel
theorem dX8_counter_32 : decode cX8_counter 32 = .ok (.iconst 3, 1) := by decide +kernel
theorem dX8_counter_33 : decode cX8_counter 33 = .ok (.iload_n 1, 1) := by decide +kernel
theorem dX8_counter_34 : decode cX8_counter 34 = .ok (.iastore, 1) := by decide +kernel
theorem dX8_counter_35 : decode cX8_counter 35 = .ok (.iload_n 2, 1) := by decide +kernel
theorem dX8_counter_36 : decode cX8_counter 36 = .ok (.ireturn, 1) := by decide +kernel
theorem dX8_undo_0 : decode cX8_undo 0 = .ok (.aload_n 0, 1) := by decide +kernel
theorem dX8_undo_1 : decode cX8_undo 1 = .ok (.getfield 60, 3) := by decide +kernel
theorem dX8_undo_4 : decode cX8_undo 4 = .ok (.ifCond .ne 8, 3) := by decide +kernel
theorem dX8_undo_7 : decode cX8_undo 7 = .ok (.aload_n 0, 1) := by decide +kernel
theorem dX8_undo_8 : decode cX8_undo 8 = .ok (.invokevirtual 140, 3) := by decide +kernel
theorem dX8_undo_11 : decode cX8_undo 11 = .ok (.ireturn, 1) := by decide +kernel
theorem dX8_undo_12 : decode cX8_undo 12 = .ok (.aload_n 0, 1) := by decide +kernel
theorem dX8_undo_13 : decode cX8_undo 13 = .ok (.dup, 1) := by decide +kernel
theorem dX8_undo_14 : decode cX8_undo 14 = .ok (.getfield 60, 3) := by decide +kernel
theorem dX8_undo_17 : decode cX8_undo 17 = .ok (.iconst 1, 1) := by decide +kernel
theorem dX8_undo_18 : decode cX8_undo 18 = .ok (.isub, 1) := by decide +kernel
theorem dX8_undo_19 : decode cX8_undo 19 = .ok (.putfield 60, 3) := by decide +kernel
theorem dX8_undo_22 : decode cX8_undo 22 = .ok (.aload_n 0, 1) := by decide +kernel
theorem dX8_undo_23 : decode cX8_undo 23 = .ok (.sipush 2034, 3) := by decide +kernel
theorem dX8_undo_26 : decode cX8_undo 26 = .ok (.sipush 678, 3) := by decide +kernel
theorem dX8_undo_29 : decode cX8_undo 29 = .ok (.aload_n 0, 1) := by decide +kernel
theorem dX8_undo_30 : decode cX8_undo 30 = .ok (.getfield 60, 3) := by decide +kernel
theorem dX8_undo_33 : decode cX8_undo 33 = .ok (.imul, 1) := by decide +kernel
theorem dX8_undo_34 : decode cX8_undo 34 = .ok (.iadd, 1) := by decide +kernel
theorem dX8_undo_35 : decode cX8_undo 35 = .ok (.iconst 0, 1) := by decide +kernel
theorem dX8_undo_36 : decode cX8_undo 36 = .ok (.invokevirtual 64, 3) := by decide +kernel
theorem dX8_undo_39 : decode cX8_undo 39 = .ok (.aload_n 0, 1) := by decide +kernel
theorem dX8_undo_40 : decode cX8_undo 40 = .ok (.getfield 60, 3) := by decide +kernel
theorem dX8_undo_43 : decode cX8_undo 43 = .ok (.ireturn, 1) := by decide +kernel
theorem dX8_ofPoint_0 : decode cX8_ofPoint 0 = .ok (.iload_n 2, 1) := by decide +kernel
theorem dX8_ofPoint_1 : decode cX8_ofPoint 1 = .ok (.ifCond .ne 16, 3) := by decide +kernel
theorem dX8_ofPoint_4 : decode cX8_ofPoint 4 = .ok (.aload_n 0, 1) := by decide +kernel
theorem dX8_ofPoint_5 : decode cX8_ofPoint 5 = .ok (.getfield 7, 3) := by decide +kernel
theorem dX8_ofPoint_8 : decode cX8_ofPoint 8 = .ok (.sipush 128, 3) := by decide +kernel
theorem dX8_ofPoint_11 : decode cX8_ofPoint 11 = .ok (.iload_n 1, 1) := by decide +kernel
theorem dX8_ofPoint_12 : decode cX8_ofPoint 12 = .ok (.iadd, 1) := by decide +kernel
theorem dX8_ofPoint_13 : decode cX8_ofPoint 13 = .ok (.iaload, 1) := by decide +kernel
theorem dX8_ofPoint_14 : decode cX8_ofPoint 14 = .ok (.goto 44, 3) := by decide +kernel
theorem dX8_ofPoint_17 : decode cX8_ofPoint 17 = .ok (.iload_n 2, 1) := by decide +kernel
theorem dX8_ofPoint_18 : decode cX8_ofPoint 18 = .ok (.iconst 1, 1) := by decide +kernel
theorem dX8_ofPoint_19 : decode cX8_ofPoint 19 = .ok (.if_icmp .ne 16, 3) := by decide +kernel
theorem dX8_ofPoint_22 : decode cX8_ofPoint 22 = .ok (.aload_n 0, 1) := by decide +kernel
theorem dX8_ofPoint_23 : decode cX8_ofPoint 23 = .ok (.getfield 7, 3) := by decide +kernel
theorem dX8_ofPoint_26 : decode cX8_ofPoint 26 = .ok (.sipush 250, 3) := by decide +kernel
theorem dX8_ofPoint_29 : decode cX8_ofPoint 29 = .ok (.iload_n 1, 1) := by decide +kernel
theorem dX8_ofPoint_30 : decode cX8_ofPoint 30 = .ok (.iadd, 1) := by decide +kernel
theorem dX8_ofPoint_31 : decode cX8_ofPoint 31 = .ok (.iaload, 1) := by decide +kernel
theorem dX8_ofPoint_32 : decode cX8_ofPoint 32 = .ok (.goto 26, 3) := by decide +kernel
theorem dX8_ofPoint_35 : decode cX8_ofPoint 35 = .ok (.iload_n 2, 1) := by decide +kernel
theorem dX8_ofPoint_36 : decode cX8_ofPoint 36 = .ok (.iconst 2, 1) := by decide +kernel
theorem dX8_ofPoint_37 : decode cX8_ofPoint 37 = .ok (.if_icmp .ne 16, 3) := by decide +kernel
theorem dX8_ofPoint_40 : decode cX8_ofPoint 40 = .ok (.aload_n 0, 1) := by decide +kernel
theorem dX8_ofPoint_41 : decode cX8_ofPoint 41 = .ok (.getfield 7, 3) := by decide +kernel
theorem dX8_ofPoint_44 : decode cX8_ofPoint 44 = .ok (.sipush 372, 3) := by decide +kernel
theorem dX8_ofPoint_47 : decode cX8_ofPoint 47 = .ok (.iload_n 1, 1) := by decide +kernel
theorem dX8_ofPoint_48 : decode cX8_ofPoint 48 = .ok (.iadd, 1) := by decide +kernel
theorem dX8_ofPoint_49 : decode cX8_ofPoint 49 = .ok (.iaload, 1) := by decide +kernel
theorem dX8_ofPoint_50 : decode cX8_ofPoint 50 = .ok (.goto 8, 3) := by decide +kernel
theorem dX8_ofPoint_53 : decode cX8_ofPoint 53 = .ok (.aload_n 0, 1) := by decide +kernel
theorem dX8_ofPoint_54 : decode cX8_ofPoint 54 = .ok (.iload_n 1, 1) := by decide +kernel
theorem dX8_ofPoint_55 : decode cX8_ofPoint 55 = .ok (.invokevirtual 143, 3) := by decide +kernel
theorem dX8_ofPoint_58 : decode cX8_ofPoint 58 = .ok (.ireturn, 1) := by decide +kernel
theorem dX8_of_0 : decode cX8_of 0 = .ok (.aload_n 0, 1) := by decide +kernel
theorem dX8_of_1 : decode cX8_of 1 = .ok (.iload_n 1, 1) := by decide +kernel
theorem dX8_of_2 : decode cX8_of 2 = .ok (.invokevirtual 94, 3) := by decide +kernel
theorem dX8_of_5 : decode cX8_of 5 = .ok (.istore_n 3, 1) := by decide +kernel
theorem dX8_of_6 : decode cX8_of 6 = .ok (.iload_n 3, 1) := by decide +kernel
theorem dX8_of_7 : decode cX8_of 7 = .ok (.ifCond .lt 15, 3) := by decide +kernel
theorem dX8_of_10 : decode cX8_of 10 = .ok (.iload_n 2, 1) := by decide +kernel
theorem dX8_of_11 : decode cX8_of 11 = .ok (.i2l, 1) := by decide +kernel
theorem dX8_of_12 : decode cX8_of 12 = .ok (.lconst 0, 1) := by decide +kernel
theorem dX8_of_13 : decode cX8_of 13 = .ok (.ldc2_w 146, 3) := by decide +kernel
theorem dX8_of_16 : decode cX8_of 16 = .ok (.invokestatic 49, 3) := by decide +kernel
theorem dX8_of_19 : decode cX8_of 19 = .ok (.ifCond .ne 10, 3) := by decide +kernel
theorem dX8_of_22 : decode cX8_of 22 = .ok (.aload_n 0, 1) := by decide +kernel
theorem dX8_of_23 : decode cX8_of 23 = .ok (.invokevirtual 81, 3) := by decide +kernel
theorem dX8_of_26 : decode cX8_of 26 = .ok (.goto 9, 3) := by decide +kernel
theorem dX8_of_29 : decode cX8_of 29 = .ok (.aload_n 0, 1) := by decide +kernel
theorem dX8_of_30 : decode cX8_of 30 = .ok (.iload_n 3, 1) := by decide +kernel
theorem dX8_of_31 : decode cX8_of 31 = .ok (.iload_n 2, 1) := by decide +kernel
theorem dX8_of_32 : decode cX8_of 32 = .ok (.invokevirtual 148, 3) := by decide +kernel
theorem dX8_of_35 : decode cX8_of 35 = .ok (.ireturn, 1) := by decide +kernel
theorem dX8_nth_0 : decode cX8_nth 0 = .ok (.iload_n 1, 1) := by decide +kernel
theorem dX8_nth_1 : decode cX8_nth 1 = .ok (.ifCond .ge 8, 3) := by decide +kernel
theorem dX8_nth_4 : decode cX8_nth 4 = .ok (.aload_n 0, 1) := by decide +kernel
theorem dX8_nth_5 : decode cX8_nth 5 = .ok (.invokevirtual 81, 3) := by decide +kernel
theorem dX8_nth_8 : decode cX8_nth 8 = .ok (.ireturn, 1) := by decide +kernel
theorem dX8_nth_9 : decode cX8_nth 9 = .ok (.iload_n 1, 1) := by decide +kernel
theorem dX8_nth_10 : decode cX8_nth 10 = .ok (.istore_n 2, 1) := by decide +kernel
theorem dX8_nth_11 : decode cX8_nth 11 = .ok (.iconst 0, 1) := by decide +kernel
theorem dX8_nth_12 : decode cX8_nth 12 = .ok (.istore_n 3, 1) := by decide +kernel
theorem dX8_nth_13 : decode cX8_nth 13 = .ok (.iload_n 3, 1) := by decide +kernel
theorem dX8_nth_14 : decode cX8_nth 14 = .ok (.aload_n 0, 1) := by decide +kernel
theorem dX8_nth_15 : decode cX8_nth 15 = .ok (.getfield 7, 3) := by decide +kernel
theorem dX8_nth_18 : decode cX8_nth 18 = .ok (.iconst 0, 1) := by decide +kernel
theorem dX8_nth_19 : decode cX8_nth 19 = .ok (.iaload, 1) := by decide +kernel
theorem dX8_nth_20 : decode cX8_nth 20 = .ok (.if_icmp .ge 34, 3) := by decide +kernel
theorem dX8_nth_23 : decode cX8_nth 23 = .ok (.aload_n 0, 1) := by decide +kernel
theorem dX8_nth_24 : decode cX8_nth 24 = .ok (.iload_n 3, 1) := by decide +kernel
theorem dX8_nth_25 : decode cX8_nth 25 = .ok (.invokevirtual 57, 3) := by decide +kernel
theorem dX8_nth_28 : decode cX8_nth 28 = .ok (.ifCond .eq 20, 3) := by decide +kernel
theorem dX8_nth_31 : decode cX8_nth 31 = .ok (.iload_n 2, 1) := by decide +kernel
theorem dX8_nth_32 : decode cX8_nth 32 = .ok (.ifCond .ne 13, 3) := by decide +kernel
theorem dX8_nth_35 : decode cX8_nth 35 = .ok (.aload_n 0, 1) := by decide +kernel
theorem dX8_nth_36 : decode cX8_nth 36 = .ok (.getfield 7, 3) := by decide +kernel
theorem dX8_nth_39 : decode cX8_nth 39 = .ok (.bipush 6, 2) := by decide +kernel
theorem dX8_nth_41 : decode cX8_nth 41 = .ok (.iload_n 3, 1) := by decide +kernel
theorem dX8_nth_42 : decode cX8_nth 42 = .ok (.iadd, 1) := by decide +kernel
theorem dX8_nth_43 : decode cX8_nth 43 = .ok (.iaload, 1) := by decide +kernel
theorem dX8_nth_44 : decode cX8_nth 44 = .ok (.ireturn, 1) := by decide +kernel
theorem dX8_nth_45 : decode cX8_nth 45 = .ok (.iinc 2 (-1), 3) := by decide +kernel
theorem dX8_nth_48 : decode cX8_nth 48 = .ok (.iinc 3 1, 3) := by decide +kernel
theorem dX8_nth_51 : decode cX8_nth 51 = .ok (.goto (-38), 3) := by decide +kernel
theorem dX8_nth_54 : decode cX8_nth 54 = .ok (.ldc 152, 2) := by decide +kernel
theorem dX8_nth_56 : decode cX8_nth 56 = .ok (.ireturn, 1) := by decide +kernel
theorem dX8_count_0 : decode cX8_count 0 = .ok (.iload_n 1, 1) := by decide +kernel
theorem dX8_count_1 : decode cX8_count 1 = .ok (.iload_n 2, 1) := by decide +kernel
theorem dX8_count_2 : decode cX8_count 2 = .ok (.iload_n 3, 1) := by decide +kernel
theorem dX8_count_3 : decode cX8_count 3 = .ok (.iload 4, 2) := by decide +kernel
theorem dX8_count_5 : decode cX8_count 5 = .ok (.invokestatic 127, 3) := by decide +kernel
theorem dX8_count_8 : decode cX8_count 8 = .ok (.ifCond .ne 8, 3) := by decide +kernel
theorem dX8_count_11 : decode cX8_count 11 = .ok (.aload_n 0, 1) := by decide +kernel
theorem dX8_count_12 : decode cX8_count 12 = .ok (.invokevirtual 81, 3) := by decide +kernel
theorem dX8_count_15 : decode cX8_count 15 = .ok (.ireturn, 1) := by decide +kernel
theorem dX8_count_16 : decode cX8_count 16 = .ok (.aload_n 0, 1) := by decide +kernel
theorem dX8_count_17 : decode cX8_count 17 = .ok (.dup, 1) := by decide +kernel
theorem dX8_count_18 : decode cX8_count 18 = .ok (.getfield 153, 3) := by decide +kernel
theorem dX8_count_21 : decode cX8_count 21 = .ok (.aload_n 0, 1) := by decide +kernel
theorem dX8_count_22 : decode cX8_count 22 = .ok (.getfield 7, 3) := by decide +kernel
theorem dX8_count_25 : decode cX8_count 25 = .ok (.iconst 0, 1) := by decide +kernel
theorem dX8_count_26 : decode cX8_count 26 = .ok (.iaload, 1) := by decide +kernel
theorem dX8_count_27 : decode cX8_count 27 = .ok (.invokestatic 156, 3) := by decide +kernel
theorem dX8_count_30 : decode cX8_count 30 = .ok (.aload_n 0, 1) := by decide +kernel
theorem dX8_count_31 : decode cX8_count 31 = .ok (.getfield 7, 3) := by decide +kernel
theorem dX8_count_34 : decode cX8_count 34 = .ok (.iconst 1, 1) := by decide +kernel
theorem dX8_count_35 : decode cX8_count 35 = .ok (.iaload, 1) := by decide +kernel
theorem dX8_count_36 : decode cX8_count 36 = .ok (.invokestatic 156, 3) := by decide +kernel
theorem dX8_count_39 : decode cX8_count 39 = .ok (.iadd, 1) := by decide +kernel
theorem dX8_count_40 : decode cX8_count 40 = .ok (.iadd, 1) := by decide +kernel
theorem dX8_count_41 : decode cX8_count 41 = .ok (.putfield 153, 3) := by decide +kernel
theorem dX8_count_44 : decode cX8_count 44 = .ok (.iconst 0, 1) := by decide +kernel
theorem dX8_count_45 : decode cX8_count 45 = .ok (.istore 5, 2) := by decide +kernel
theorem dX8_count_47 : decode cX8_count 47 = .ok (.iconst 0, 1) := by decide +kernel
theorem dX8_count_48 : decode cX8_count 48 = .ok (.istore 6, 2) := by decide +kernel
theorem dX8_count_50 : decode cX8_count 50 = .ok (.iload 6, 2) := by decide +kernel
theorem dX8_count_52 : decode cX8_count 52 = .ok (.aload_n 0, 1) := by decide +kernel
theorem dX8_count_53 : decode cX8_count 53 = .ok (.getfield 7, 3) := by decide +kernel
theorem dX8_count_56 : decode cX8_count 56 = .ok (.iconst 0, 1) := by decide +kernel
theorem dX8_count_57 : decode cX8_count 57 = .ok (.iaload, 1) := by decide +kernel
theorem dX8_count_58 : decode cX8_count 58 = .ok (.if_icmp .ge 47, 3) := by decide +kernel
theorem dX8_count_61 : decode cX8_count 61 = .ok (.iload 5, 2) := by decide +kernel
theorem dX8_count_63 : decode cX8_count 63 = .ok (.aload_n 0, 1) := by decide +kernel
theorem dX8_count_64 : decode cX8_count 64 = .ok (.iload 6, 2) := by decide +kernel
theorem dX8_count_66 : decode cX8_count 66 = .ok (.invokevirtual 57, 3) := by decide +kernel
theorem dX8_count_69 : decode cX8_count 69 = .ok (.ifCond .eq 26, 3) := by decide +kernel
theorem dX8_count_72 : decode cX8_count 72 = .ok (.aload_n 0, 1) := by decide +kernel
theorem dX8_count_73 : decode cX8_count 73 = .ok (.iload 6, 2) := by decide +kernel
theorem dX8_count_75 : decode cX8_count 75 = .ok (.iload_n 1, 1) := by decide +kernel
theorem dX8_count_76 : decode cX8_count 76 = .ok (.iload_n 2, 1) := by decide +kernel
theorem dX8_count_77 : decode cX8_count 77 = .ok (.iload_n 3, 1) := by decide +kernel
theorem dX8_count_78 : decode cX8_count 78 = .ok (.iload 4, 2) := by decide +kernel
theorem dX8_count_80 : decode cX8_count 80 = .ok (.invokevirtual 120, 3) := by decide +kernel
theorem dX8_count_83 : decode cX8_count 83 = .ok (.ifCond .eq 12, 3) := by decide +kernel
theorem dX8_count_86 : decode cX8_count 86 = .ok (.aload_n 0, 1) := by decide +kernel
theorem dX8_count_87 : decode cX8_count 87 = .ok (.iload 6, 2) := by decide +kernel
theorem dX8_count_89 : decode cX8_count 89 = .ok (.invokevirtual 143, 3) := by decide +kernel
theorem dX8_count_92 : decode cX8_count 92 = .ok (.goto 4, 3) := by decide +kernel
theorem dX8_count_95 : decode cX8_count 95 = .ok (.iconst 0, 1) := by decide +kernel
theorem dX8_count_96 : decode cX8_count 96 = .ok (.iadd, 1) := by decide +kernel
theorem dX8_count_97 : decode cX8_count 97 = .ok (.istore 5, 2) := by decide +kernel
theorem dX8_count_99 : decode cX8_count 99 = .ok (.iinc 6 1, 3) := by decide +kernel
theorem dX8_count_102 : decode cX8_count 102 = .ok (.goto (-52), 3) := by decide +kernel
theorem dX8_count_105 : decode cX8_count 105 = .ok (.iload 5, 2) := by decide +kernel
theorem dX8_count_107 : decode cX8_count 107 = .ok (.ireturn, 1) := by decide +kernel
theorem dX8_manyIn_0 : decode cX8_manyIn 0 = .ok (.iconst 0, 1) := by decide +kernel
theorem dX8_manyIn_1 : decode cX8_manyIn 1 = .ok (.istore 5, 2) := by decide +kernel
theorem dX8_manyIn_3 : decode cX8_manyIn 3 = .ok (.iconst 0, 1) := by decide +kernel
theorem dX8_manyIn_4 : decode cX8_manyIn 4 = .ok (.istore 6, 2) := by decide +kernel
theorem dX8_manyIn_6 : decode cX8_manyIn 6 = .ok (.iload 6, 2) := by decide +kernel
theorem dX8_manyIn_8 : decode cX8_manyIn 8 = .ok (.aload_n 0, 1) := by decide +kernel
theorem dX8_manyIn_9 : decode cX8_manyIn 9 = .ok (.getfield 7, 3) := by decide +kernel
theorem dX8_manyIn_12 : decode cX8_manyIn 12 = .ok (.iconst 0, 1) := by decide +kernel
theorem dX8_manyIn_13 : decode cX8_manyIn 13 = .ok (.iaload, 1) := by decide +kernel
theorem dX8_manyIn_14 : decode cX8_manyIn 14 = .ok (.if_icmp .ge 42, 3) := by decide +kernel
theorem dX8_manyIn_17 : decode cX8_manyIn 17 = .ok (.iload 5, 2) := by decide +kernel
theorem dX8_manyIn_19 : decode cX8_manyIn 19 = .ok (.aload_n 0, 1) := by decide +kernel
theorem dX8_manyIn_20 : decode cX8_manyIn 20 = .ok (.iload 6, 2) := by decide +kernel
theorem dX8_manyIn_22 : decode cX8_manyIn 22 = .ok (.invokevirtual 57, 3) := by decide +kernel
theorem dX8_manyIn_25 : decode cX8_manyIn 25 = .ok (.ifCond .eq 21, 3) := by decide +kernel
theorem dX8_manyIn_28 : decode cX8_manyIn 28 = .ok (.aload_n 0, 1) := by decide +kernel
theorem dX8_manyIn_29 : decode cX8_manyIn 29 = .ok (.iload 6, 2) := by decide +kernel
theorem dX8_manyIn_31 : decode cX8_manyIn 31 = .ok (.iload_n 1, 1) := by decide +kernel
theorem dX8_manyIn_32 : decode cX8_manyIn 32 = .ok (.iload_n 2, 1) := by decide +kernel
theorem dX8_manyIn_33 : decode cX8_manyIn 33 = .ok (.iload_n 3, 1) := by decide +kernel
theorem dX8_manyIn_34 : decode cX8_manyIn 34 = .ok (.iload 4, 2) := by decide +kernel
theorem dX8_manyIn_36 : decode cX8_manyIn 36 = .ok (.invokevirtual 120, 3) := by decide +kernel
theorem dX8_manyIn_39 : decode cX8_manyIn 39 = .ok (.ifCond .eq 7, 3) := by decide +kernel
theorem dX8_manyIn_42 : decode cX8_manyIn 42 = .ok (.iconst 1, 1) := by decide +kernel
theorem dX8_manyIn_43 : decode cX8_manyIn 43 = .ok (.goto 4, 3) := by decide +kernel
theorem dX8_manyIn_46 : decode cX8_manyIn 46 = .ok (.iconst 0, 1) := by decide +kernel
theorem dX8_manyIn_47 : decode cX8_manyIn 47 = .ok (.iadd, 1) := by decide +kernel
theorem dX8_manyIn_48 : decode cX8_manyIn 48 = .ok (.istore 5, 2) := by decide +kernel
theorem dX8_manyIn_50 : decode cX8_manyIn 50 = .ok (.iinc 6 1, 3) := by decide +kernel
theorem dX8_manyIn_53 : decode cX8_manyIn 53 = .ok (.goto (-47), 3) := by decide +kernel
theorem dX8_manyIn_56 : decode cX8_manyIn 56 = .ok (.iload 5, 2) := by decide +kernel
theorem dX8_manyIn_58 : decode cX8_manyIn 58 = .ok (.ireturn, 1) := by decide +kernel
theorem dX8_many_0 : decode cX8_many 0 = .ok (.iload_n 1, 1) := by decide +kernel
theorem dX8_many_1 : decode cX8_many 1 = .ok (.iload_n 2, 1) := by decide +kernel
theorem dX8_many_2 : decode cX8_many 2 = .ok (.iload_n 3, 1) := by decide +kernel
theorem dX8_many_3 : decode cX8_many 3 = .ok (.iload 4, 2) := by decide +kernel
theorem dX8_many_5 : decode cX8_many 5 = .ok (.invokestatic 127, 3) := by decide +kernel
theorem dX8_many_8 : decode cX8_many 8 = .ok (.ifCond .eq 15, 3) := by decide +kernel
theorem dX8_many_11 : decode cX8_many 11 = .ok (.aload_n 0, 1) := by decide +kernel
theorem dX8_many_12 : decode cX8_many 12 = .ok (.iload_n 1, 1) := by decide +kernel
theorem dX8_many_13 : decode cX8_many 13 = .ok (.iload_n 2, 1) := by decide +kernel
theorem dX8_many_14 : decode cX8_many 14 = .ok (.iload_n 3, 1) := by decide +kernel
theorem dX8_many_15 : decode cX8_many 15 = .ok (.iload 4, 2) := by decide +kernel
theorem dX8_many_17 : decode cX8_many 17 = .ok (.invokevirtual 159, 3) := by decide +kernel
theorem dX8_many_20 : decode cX8_many 20 = .ok (.goto 7, 3) := by decide +kernel
theorem dX8_many_23 : decode cX8_many 23 = .ok (.aload_n 0, 1) := by decide +kernel
theorem dX8_many_24 : decode cX8_many 24 = .ok (.invokevirtual 81, 3) := by decide +kernel
theorem dX8_many_27 : decode cX8_many 27 = .ok (.ireturn, 1) := by decide +kernel
theorem dX8_kth_0 : decode cX8_kth 0 = .ok (.iload_n 1, 1) := by decide +kernel
theorem dX8_kth_1 : decode cX8_kth 1 = .ok (.iload_n 2, 1) := by decide +kernel
theorem dX8_kth_2 : decode cX8_kth 2 = .ok (.iload_n 3, 1) := by decide +kernel
theorem dX8_kth_3 : decode cX8_kth 3 = .ok (.iload 4, 2) := by decide +kernel
theorem dX8_kth_5 : decode cX8_kth 5 = .ok (.invokestatic 127, 3) := by decide +kernel
theorem dX8_kth_8 : decode cX8_kth 8 = .ok (.ifCond .eq 8, 3) := by decide +kernel
theorem dX8_kth_11 : decode cX8_kth 11 = .ok (.iload 5, 2) := by decide +kernel
theorem dX8_kth_13 : decode cX8_kth 13 = .ok (.ifCond .ge 8, 3) := by decide +kernel
theorem dX8_kth_16 : decode cX8_kth 16 = .ok (.aload_n 0, 1) := by decide +kernel
theorem dX8_kth_17 : decode cX8_kth 17 = .ok (.invokevirtual 81, 3) := by decide +kernel
theorem dX8_kth_20 : decode cX8_kth 20 = .ok (.ireturn, 1) := by decide +kernel
theorem dX8_kth_21 : decode cX8_kth 21 = .ok (.aload_n 0, 1) := by decide +kernel
theorem dX8_kth_22 : decode cX8_kth 22 = .ok (.iload_n 1, 1) := by decide +kernel
theorem dX8_kth_23 : decode cX8_kth 23 = .ok (.iload_n 2, 1) := by decide +kernel
theorem dX8_kth_24 : decode cX8_kth 24 = .ok (.iload_n 3, 1) := by decide +kernel
theorem dX8_kth_25 : decode cX8_kth 25 = .ok (.iload 4, 2) := by decide +kernel
theorem dX8_kth_27 : decode cX8_kth 27 = .ok (.invokevirtual 131, 3) := by decide +kernel
theorem dX8_kth_30 : decode cX8_kth 30 = .ok (.iload 5, 2) := by decide +kernel
theorem dX8_kth_32 : decode cX8_kth 32 = .ok (.aload_n 0, 1) := by decide +kernel
theorem dX8_kth_33 : decode cX8_kth 33 = .ok (.getfield 113, 3) := by decide +kernel
theorem dX8_kth_36 : decode cX8_kth 36 = .ok (.if_icmp .ge 21, 3) := by decide +kernel
theorem dX8_kth_39 : decode cX8_kth 39 = .ok (.aload_n 0, 1) := by decide +kernel
theorem dX8_kth_40 : decode cX8_kth 40 = .ok (.getfield 7, 3) := by decide +kernel
theorem dX8_kth_43 : decode cX8_kth 43 = .ok (.bipush 6, 2) := by decide +kernel
theorem dX8_kth_45 : decode cX8_kth 45 = .ok (.aload_n 0, 1) := by decide +kernel
theorem dX8_kth_46 : decode cX8_kth 46 = .ok (.getfield 33, 3) := by decide +kernel
theorem dX8_kth_49 : decode cX8_kth 49 = .ok (.iload 5, 2) := by decide +kernel
theorem dX8_kth_51 : decode cX8_kth 51 = .ok (.iaload, 1) := by decide +kernel
theorem dX8_kth_52 : decode cX8_kth 52 = .ok (.iadd, 1) := by decide +kernel
theorem dX8_kth_53 : decode cX8_kth 53 = .ok (.iaload, 1) := by decide +kernel
theorem dX8_kth_54 : decode cX8_kth 54 = .ok (.goto 5, 3) := by decide +kernel
theorem dX8_kth_57 : decode cX8_kth 57 = .ok (.ldc 152, 2) := by decide +kernel
theorem dX8_kth_59 : decode cX8_kth 59 = .ok (.ireturn, 1) := by decide +kernel
theorem dX8_half_0 : decode cX8_half 0 = .ok (.iload_n 1, 1) := by decide +kernel
theorem dX8_half_1 : decode cX8_half 1 = .ok (.iload_n 2, 1) := by decide +kernel
theorem dX8_half_2 : decode cX8_half 2 = .ok (.iload_n 3, 1) := by decide +kernel
theorem dX8_half_3 : decode cX8_half 3 = .ok (.iload 4, 2) := by decide +kernel
theorem dX8_half_5 : decode cX8_half 5 = .ok (.invokestatic 127, 3) := by decide +kernel
theorem dX8_half_8 : decode cX8_half 8 = .ok (.ifCond .ne 8, 3) := by decide +kernel
theorem dX8_half_11 : decode cX8_half 11 = .ok (.aload_n 0, 1) := by decide +kernel
theorem dX8_half_12 : decode cX8_half 12 = .ok (.invokevirtual 81, 3) := by decide +kernel
theorem dX8_half_15 : decode cX8_half 15 = .ok (.ireturn, 1) := by decide +kernel
theorem dX8_half_16 : decode cX8_half 16 = .ok (.aload_n 0, 1) := by decide +kernel
theorem dX8_half_17 : decode cX8_half 17 = .ok (.iload_n 1, 1) := by decide +kernel
theorem dX8_half_18 : decode cX8_half 18 = .ok (.iload_n 2, 1) := by decide +kernel
theorem dX8_half_19 : decode cX8_half 19 = .ok (.iload_n 3, 1) := by decide +kernel
theorem dX8_half_20 : decode cX8_half 20 = .ok (.iload 4, 2) := by decide +kernel
theorem dX8_half_22 : decode cX8_half 22 = .ok (.invokevirtual 131, 3) := by decide +kernel
theorem dX8_half_25 : decode cX8_half 25 = .ok (.aload_n 0, 1) := by decide +kernel
theorem dX8_half_26 : decode cX8_half 26 = .ok (.getfield 113, 3) := by decide +kernel
theorem dX8_half_29 : decode cX8_half 29 = .ok (.ifCond .ne 8, 3) := by decide +kernel
theorem dX8_half_32 : decode cX8_half 32 = .ok (.ldc 152, 2) := by decide +kernel
theorem dX8_half_34 : decode cX8_half 34 = .ok (.goto 27, 3) := by decide +kernel
theorem dX8_half_37 : decode cX8_half 37 = .ok (.aload_n 0, 1) := by decide +kernel
theorem dX8_half_38 : decode cX8_half 38 = .ok (.getfield 7, 3) := by decide +kernel
theorem dX8_half_41 : decode cX8_half 41 = .ok (.sipush 128, 3) := by decide +kernel
theorem dX8_half_44 : decode cX8_half 44 = .ok (.aload_n 0, 1) := by decide +kernel
theorem dX8_half_45 : decode cX8_half 45 = .ok (.getfield 33, 3) := by decide +kernel
theorem dX8_half_48 : decode cX8_half 48 = .ok (.aload_n 0, 1) := by decide +kernel
theorem dX8_half_49 : decode cX8_half 49 = .ok (.getfield 113, 3) := by decide +kernel
theorem dX8_half_52 : decode cX8_half 52 = .ok (.iconst 1, 1) := by decide +kernel
theorem dX8_half_53 : decode cX8_half 53 = .ok (.iadd, 1) := by decide +kernel
theorem dX8_half_54 : decode cX8_half 54 = .ok (.iconst 2, 1) := by decide +kernel
theorem dX8_half_55 : decode cX8_half 55 = .ok (.idiv, 1) := by decide +kernel
theorem dX8_half_56 : decode cX8_half 56 = .ok (.iconst 1, 1) := by decide +kernel
theorem dX8_half_57 : decode cX8_half 57 = .ok (.isub, 1) := by decide +kernel
theorem dX8_half_58 : decode cX8_half 58 = .ok (.iaload, 1) := by decide +kernel
theorem dX8_half_59 : decode cX8_half 59 = .ok (.iadd, 1) := by decide +kernel
theorem dX8_half_60 : decode cX8_half 60 = .ok (.iaload, 1) := by decide +kernel
theorem dX8_half_61 : decode cX8_half 61 = .ok (.ireturn, 1) := by decide +kernel
theorem dX8_below_0 : decode cX8_below 0 = .ok (.iload_n 1, 1) := by decide +kernel
theorem dX8_below_1 : decode cX8_below 1 = .ok (.invokestatic 53, 3) := by decide +kernel
theorem dX8_below_4 : decode cX8_below 4 = .ok (.ifCond .eq 25, 3) := by decide +kernel
theorem dX8_below_7 : decode cX8_below 7 = .ok (.iload_n 2, 1) := by decide +kernel
theorem dX8_below_8 : decode cX8_below 8 = .ok (.invokestatic 53, 3) := by decide +kernel
theorem dX8_below_11 : decode cX8_below 11 = .ok (.ifCond .eq 18, 3) := by decide +kernel
theorem dX8_below_14 : decode cX8_below 14 = .ok (.aload_n 0, 1) := by decide +kernel
theorem dX8_below_15 : decode cX8_below 15 = .ok (.sipush (-500), 3) := by decide +kernel
theorem dX8_below_18 : decode cX8_below 18 = .ok (.iload_n 1, 1) := by decide +kernel
theorem dX8_below_19 : decode cX8_below 19 = .ok (.sipush (-500), 3) := by decide +kernel
theorem dX8_below_22 : decode cX8_below 22 = .ok (.iload_n 2, 1) := by decide +kernel
theorem dX8_below_23 : decode cX8_below 23 = .ok (.invokevirtual 159, 3) := by decide +kernel
theorem dX8_below_26 : decode cX8_below 26 = .ok (.goto 7, 3) := by decide +kernel
theorem dX8_below_29 : decode cX8_below 29 = .ok (.aload_n 0, 1) := by decide +kernel
theorem dX8_below_30 : decode cX8_below 30 = .ok (.invokevirtual 81, 3) := by decide +kernel
theorem dX8_below_33 : decode cX8_below 33 = .ok (.ireturn, 1) := by decide +kernel
theorem dX8_ring_0 : decode cX8_ring 0 = .ok (.iload_n 1, 1) := by decide +kernel
theorem dX8_ring_1 : decode cX8_ring 1 = .ok (.invokestatic 53, 3) := by decide +kernel
theorem dX8_ring_4 : decode cX8_ring 4 = .ok (.ifCond .eq 22, 3) := by decide +kernel
theorem dX8_ring_7 : decode cX8_ring 7 = .ok (.iload_n 2, 1) := by decide +kernel
theorem dX8_ring_8 : decode cX8_ring 8 = .ok (.invokestatic 53, 3) := by decide +kernel
theorem dX8_ring_11 : decode cX8_ring 11 = .ok (.ifCond .eq 15, 3) := by decide +kernel
theorem dX8_ring_14 : decode cX8_ring 14 = .ok (.iload_n 3, 1) := by decide +kernel
theorem dX8_ring_15 : decode cX8_ring 15 = .ok (.i2l, 1) := by decide +kernel
theorem dX8_ring_16 : decode cX8_ring 16 = .ok (.lconst 1, 1) := by decide +kernel
theorem dX8_ring_17 : decode cX8_ring 17 = .ok (.ldc2_w 163, 3) := by decide +kernel
theorem dX8_ring_20 : decode cX8_ring 20 = .ok (.invokestatic 49, 3) := by decide +kernel
theorem dX8_ring_23 : decode cX8_ring 23 = .ok (.ifCond .ne 8, 3) := by decide +kernel
theorem dX8_ring_26 : decode cX8_ring 26 = .ok (.aload_n 0, 1) := by decide +kernel
theorem dX8_ring_27 : decode cX8_ring 27 = .ok (.invokevirtual 81, 3) := by decide +kernel
theorem dX8_ring_30 : decode cX8_ring 30 = .ok (.ireturn, 1) := by decide +kernel
theorem dX8_ring_31 : decode cX8_ring 31 = .ok (.aload_n 0, 1) := by decide +kernel
theorem dX8_ring_32 : decode cX8_ring 32 = .ok (.invokevirtual 72, 3) := by decide +kernel
theorem dX8_ring_35 : decode cX8_ring 35 = .ok (.iload_n 3, 1) := by decide +kernel
theorem dX8_ring_36 : decode cX8_ring 36 = .ok (.if_icmp .ge 6, 3) := by decide +kernel
theorem dX8_ring_39 : decode cX8_ring 39 = .ok (.ldc 152, 2) := by decide +kernel
theorem dX8_ring_41 : decode cX8_ring 41 = .ok (.ireturn, 1) := by decide +kernel
theorem dX8_ring_42 : decode cX8_ring 42 = .ok (.iconst 0, 1) := by decide +kernel
theorem dX8_ring_43 : decode cX8_ring 43 = .ok (.istore 4, 2) := by decide +kernel
theorem dX8_ring_45 : decode cX8_ring 45 = .ok (.aload_n 0, 1) := by decide +kernel
theorem dX8_ring_46 : decode cX8_ring 46 = .ok (.iload_n 1, 1) := by decide +kernel
theorem dX8_ring_47 : decode cX8_ring 47 = .ok (.iload 4, 2) := by decide +kernel
theorem dX8_ring_49 : decode cX8_ring 49 = .ok (.isub, 1) := by decide +kernel
theorem dX8_ring_50 : decode cX8_ring 50 = .ok (.iload_n 1, 1) := by decide +kernel
theorem dX8_ring_51 : decode cX8_ring 51 = .ok (.iload 4, 2) := by decide +kernel
theorem dX8_ring_53 : decode cX8_ring 53 = .ok (.iadd, 1) := by decide +kernel
theorem dX8_ring_54 : decode cX8_ring 54 = .ok (.iload_n 2, 1) := by decide +kernel
theorem dX8_ring_55 : decode cX8_ring 55 = .ok (.iload 4, 2) := by decide +kernel
theorem dX8_ring_57 : decode cX8_ring 57 = .ok (.isub, 1) := by decide +kernel
theorem dX8_ring_58 : decode cX8_ring 58 = .ok (.iload_n 2, 1) := by decide +kernel
theorem dX8_ring_59 : decode cX8_ring 59 = .ok (.iload 4, 2) := by decide +kernel
theorem dX8_ring_61 : decode cX8_ring 61 = .ok (.iadd, 1) := by decide +kernel
theorem dX8_ring_62 : decode cX8_ring 62 = .ok (.invokevirtual 159, 3) := by decide +kernel
theorem dX8_ring_65 : decode cX8_ring 65 = .ok (.iload_n 3, 1) := by decide +kernel
theorem dX8_ring_66 : decode cX8_ring 66 = .ok (.if_icmp .ge 9, 3) := by decide +kernel
theorem dX8_ring_69 : decode cX8_ring 69 = .ok (.iinc 4 1, 3) := by decide +kernel
theorem dX8_ring_72 : decode cX8_ring 72 = .ok (.goto (-27), 3) := by decide +kernel
theorem dX8_ring_75 : decode cX8_ring 75 = .ok (.iload 4, 2) := by decide +kernel
theorem dX8_ring_77 : decode cX8_ring 77 = .ok (.ireturn, 1) := by decide +kernel
theorem dX8_abs_0 : decode cX8_abs 0 = .ok (.iload_n 0, 1) := by decide +kernel
theorem dX8_abs_1 : decode cX8_abs 1 = .ok (.ifCond .ge 8, 3) := by decide +kernel
theorem dX8_abs_4 : decode cX8_abs 4 = .ok (.iload_n 0, 1) := by decide +kernel
theorem dX8_abs_5 : decode cX8_abs 5 = .ok (.ineg, 1) := by decide +kernel
theorem dX8_abs_6 : decode cX8_abs 6 = .ok (.goto 4, 3) := by decide +kernel
theorem dX8_abs_9 : decode cX8_abs 9 = .ok (.iload_n 0, 1) := by decide +kernel
theorem dX8_abs_10 : decode cX8_abs 10 = .ok (.ireturn, 1) := by decide +kernel
theorem dX8_apart_0 : decode cX8_apart 0 = .ok (.aload_n 0, 1) := by decide +kernel
theorem dX8_apart_1 : decode cX8_apart 1 = .ok (.getfield 7, 3) := by decide +kernel
theorem dX8_apart_4 : decode cX8_apart 4 = .ok (.sipush 128, 3) := by decide +kernel
theorem dX8_apart_7 : decode cX8_apart 7 = .ok (.iload_n 1, 1) := by decide +kernel
theorem dX8_apart_8 : decode cX8_apart 8 = .ok (.iadd, 1) := by decide +kernel
theorem dX8_apart_9 : decode cX8_apart 9 = .ok (.iaload, 1) := by decide +kernel
theorem dX8_apart_10 : decode cX8_apart 10 = .ok (.iload_n 2, 1) := by decide +kernel
theorem dX8_apart_11 : decode cX8_apart 11 = .ok (.isub, 1) := by decide +kernel
theorem dX8_apart_12 : decode cX8_apart 12 = .ok (.invokestatic 165, 3) := by decide +kernel
theorem dX8_apart_15 : decode cX8_apart 15 = .ok (.istore 4, 2) := by decide +kernel
theorem dX8_apart_17 : decode cX8_apart 17 = .ok (.aload_n 0, 1) := by decide +kernel
theorem dX8_apart_18 : decode cX8_apart 18 = .ok (.getfield 7, 3) := by decide +kernel
theorem dX8_apart_21 : decode cX8_apart 21 = .ok (.sipush 250, 3) := by decide +kernel
theorem dX8_apart_24 : decode cX8_apart 24 = .ok (.iload_n 1, 1) := by decide +kernel
theorem dX8_apart_25 : decode cX8_apart 25 = .ok (.iadd, 1) := by decide +kernel
theorem dX8_apart_26 : decode cX8_apart 26 = .ok (.iaload, 1) := by decide +kernel
theorem dX8_apart_27 : decode cX8_apart 27 = .ok (.iload_n 3, 1) := by decide +kernel
theorem dX8_apart_28 : decode cX8_apart 28 = .ok (.isub, 1) := by decide +kernel
theorem dX8_apart_29 : decode cX8_apart 29 = .ok (.invokestatic 165, 3) := by decide +kernel
theorem dX8_apart_32 : decode cX8_apart 32 = .ok (.istore 5, 2) := by decide +kernel
theorem dX8_apart_34 : decode cX8_apart 34 = .ok (.iload 4, 2) := by decide +kernel
theorem dX8_apart_36 : decode cX8_apart 36 = .ok (.iload 5, 2) := by decide +kernel
theorem dX8_apart_38 : decode cX8_apart 38 = .ok (.if_icmp .le 8, 3) := by decide +kernel
theorem dX8_apart_41 : decode cX8_apart 41 = .ok (.iload 4, 2) := by decide +kernel
theorem dX8_apart_43 : decode cX8_apart 43 = .ok (.goto 5, 3) := by decide +kernel
theorem dX8_apart_46 : decode cX8_apart 46 = .ok (.iload 5, 2) := by decide +kernel
theorem dX8_apart_48 : decode cX8_apart 48 = .ok (.ireturn, 1) := by decide +kernel
theorem dX8_near_0 : decode cX8_near 0 = .ok (.iload_n 1, 1) := by decide +kernel
theorem dX8_near_1 : decode cX8_near 1 = .ok (.invokestatic 53, 3) := by decide +kernel
theorem dX8_near_4 : decode cX8_near 4 = .ok (.ifCond .eq 10, 3) := by decide +kernel
theorem dX8_near_7 : decode cX8_near 7 = .ok (.iload_n 2, 1) := by decide +kernel
theorem dX8_near_8 : decode cX8_near 8 = .ok (.invokestatic 53, 3) := by decide +kernel
theorem dX8_near_11 : decode cX8_near 11 = .ok (.ifCond .ne 8, 3) := by decide +kernel
theorem dX8_near_14 : decode cX8_near 14 = .ok (.aload_n 0, 1) := by decide +kernel
theorem dX8_near_15 : decode cX8_near 15 = .ok (.invokevirtual 81, 3) := by decide +kernel
theorem dX8_near_18 : decode cX8_near 18 = .ok (.ireturn, 1) := by decide +kernel
theorem dX8_near_19 : decode cX8_near 19 = .ok (.ldc 152, 2) := by decide +kernel
theorem dX8_near_21 : decode cX8_near 21 = .ok (.istore_n 3, 1) := by decide +kernel
theorem dX8_near_22 : decode cX8_near 22 = .ok (.sipush 2000, 3) := by decide +kernel
theorem dX8_near_25 : decode cX8_near 25 = .ok (.istore 4, 2) := by decide +kernel
theorem dX8_near_27 : decode cX8_near 27 = .ok (.iconst 0, 1) := by decide +kernel
theorem dX8_near_28 : decode cX8_near 28 = .ok (.istore 5, 2) := by decide +kernel
theorem dX8_near_30 : decode cX8_near 30 = .ok (.iload 5, 2) := by decide +kernel
theorem dX8_near_32 : decode cX8_near 32 = .ok (.aload_n 0, 1) := by decide +kernel
theorem dX8_near_33 : decode cX8_near 33 = .ok (.getfield 7, 3) := by decide +kernel
theorem dX8_near_36 : decode cX8_near 36 = .ok (.iconst 0, 1) := by decide +kernel
theorem dX8_near_37 : decode cX8_near 37 = .ok (.iaload, 1) := by decide +kernel
theorem dX8_near_38 : decode cX8_near 38 = .ok (.if_icmp .ge 78, 3) := by decide +kernel
theorem dX8_near_41 : decode cX8_near 41 = .ok (.aload_n 0, 1) := by decide +kernel
theorem dX8_near_42 : decode cX8_near 42 = .ok (.iload 5, 2) := by decide +kernel
theorem dX8_near_44 : decode cX8_near 44 = .ok (.invokevirtual 57, 3) := by decide +kernel
theorem dX8_near_47 : decode cX8_near 47 = .ok (.ifCond .eq 20, 3) := by decide +kernel
theorem dX8_near_50 : decode cX8_near 50 = .ok (.aload_n 0, 1) := by decide +kernel
theorem dX8_near_51 : decode cX8_near 51 = .ok (.iload 5, 2) := by decide +kernel
theorem dX8_near_53 : decode cX8_near 53 = .ok (.iload_n 1, 1) := by decide +kernel
theorem dX8_near_54 : decode cX8_near 54 = .ok (.iload_n 2, 1) := by decide +kernel
theorem dX8_near_55 : decode cX8_near 55 = .ok (.invokevirtual 168, 3) := by decide +kernel
theorem dX8_near_58 : decode cX8_near 58 = .ok (.iload 4, 2) := by decide +kernel
theorem dX8_near_60 : decode cX8_near 60 = .ok (.if_icmp .ge 7, 3) := by decide +kernel
theorem dX8_near_63 : decode cX8_near 63 = .ok (.iconst 1, 1) := by decide +kernel
theorem dX8_near_64 : decode cX8_near 64 = .ok (.goto 4, 3) := by decide +kernel
theorem dX8_near_67 : decode cX8_near 67 = .ok (.iconst 0, 1) := by decide +kernel
theorem dX8_near_68 : decode cX8_near 68 = .ok (.istore 6, 2) := by decide +kernel
theorem dX8_near_70 : decode cX8_near 70 = .ok (.iload 6, 2) := by decide +kernel
theorem dX8_near_72 : decode cX8_near 72 = .ok (.ifCond .eq 16, 3) := by decide +kernel
theorem dX8_near_75 : decode cX8_near 75 = .ok (.aload_n 0, 1) := by decide +kernel
theorem dX8_near_76 : decode cX8_near 76 = .ok (.getfield 7, 3) := by decide +kernel
theorem dX8_near_79 : decode cX8_near 79 = .ok (.bipush 6, 2) := by decide +kernel
theorem dX8_near_81 : decode cX8_near 81 = .ok (.iload 5, 2) := by decide +kernel
theorem dX8_near_83 : decode cX8_near 83 = .ok (.iadd, 1) := by decide +kernel
theorem dX8_near_84 : decode cX8_near 84 = .ok (.iaload, 1) := by decide +kernel
theorem dX8_near_85 : decode cX8_near 85 = .ok (.goto 4, 3) := by decide +kernel
theorem dX8_near_88 : decode cX8_near 88 = .ok (.iload_n 3, 1) := by decide +kernel
theorem dX8_near_89 : decode cX8_near 89 = .ok (.istore_n 3, 1) := by decide +kernel
theorem dX8_near_90 : decode cX8_near 90 = .ok (.iload 6, 2) := by decide +kernel
theorem dX8_near_92 : decode cX8_near 92 = .ok (.ifCond .eq 14, 3) := by decide +kernel
theorem dX8_near_95 : decode cX8_near 95 = .ok (.aload_n 0, 1) := by decide +kernel
theorem dX8_near_96 : decode cX8_near 96 = .ok (.iload 5, 2) := by decide +kernel
theorem dX8_near_98 : decode cX8_near 98 = .ok (.iload_n 1, 1) := by decide +kernel
theorem dX8_near_99 : decode cX8_near 99 = .ok (.iload_n 2, 1) := by decide +kernel
theorem dX8_near_100 : decode cX8_near 100 = .ok (.invokevirtual 168, 3) := by decide +kernel
theorem dX8_near_103 : decode cX8_near 103 = .ok (.goto 5, 3) := by decide +kernel
theorem dX8_near_106 : decode cX8_near 106 = .ok (.iload 4, 2) := by decide +kernel
theorem dX8_near_108 : decode cX8_near 108 = .ok (.istore 4, 2) := by decide +kernel
theorem dX8_near_110 : decode cX8_near 110 = .ok (.iinc 5 1, 3) := by decide +kernel
theorem dX8_near_113 : decode cX8_near 113 = .ok (.goto (-83), 3) := by decide +kernel
theorem dX8_near_116 : decode cX8_near 116 = .ok (.iload_n 3, 1) := by decide +kernel
theorem dX8_near_117 : decode cX8_near 117 = .ok (.ireturn, 1) := by decide +kernel
theorem dX8_strip_0 : decode cX8_strip 0 = .ok (.iload_n 1, 1) := by decide +kernel
theorem dX8_strip_1 : decode cX8_strip 1 = .ok (.i2l, 1) := by decide +kernel
theorem dX8_strip_2 : decode cX8_strip 2 = .ok (.lconst 0, 1) := by decide +kernel
theorem dX8_strip_3 : decode cX8_strip 3 = .ok (.lconst 1, 1) := by decide +kernel
theorem dX8_strip_4 : decode cX8_strip 4 = .ok (.invokestatic 49, 3) := by decide +kernel
theorem dX8_strip_7 : decode cX8_strip 7 = .ok (.ifCond .ne 8, 3) := by decide +kernel
theorem dX8_strip_10 : decode cX8_strip 10 = .ok (.aload_n 0, 1) := by decide +kernel
theorem dX8_strip_11 : decode cX8_strip 11 = .ok (.invokevirtual 81, 3) := by decide +kernel
theorem dX8_strip_14 : decode cX8_strip 14 = .ok (.ireturn, 1) := by decide +kernel
theorem dX8_strip_15 : decode cX8_strip 15 = .ok (.aload_n 0, 1) := by decide +kernel
theorem dX8_strip_16 : decode cX8_strip 16 = .ok (.sipush (-500), 3) := by decide +kernel
theorem dX8_strip_19 : decode cX8_strip 19 = .ok (.sipush 500, 3) := by decide +kernel
theorem dX8_strip_22 : decode cX8_strip 22 = .ok (.sipush (-500), 3) := by decide +kernel
theorem dX8_strip_25 : decode cX8_strip 25 = .ok (.sipush 500, 3) := by decide +kernel
theorem dX8_strip_28 : decode cX8_strip 28 = .ok (.invokevirtual 131, 3) := by decide +kernel
theorem dX8_strip_31 : decode cX8_strip 31 = .ok (.iconst 0, 1) := by decide +kernel
theorem dX8_strip_32 : decode cX8_strip 32 = .ok (.istore_n 2, 1) := by decide +kernel
theorem dX8_strip_33 : decode cX8_strip 33 = .ok (.iconst 0, 1) := by decide +kernel
theorem dX8_strip_34 : decode cX8_strip 34 = .ok (.istore_n 3, 1) := by decide +kernel
theorem dX8_strip_35 : decode cX8_strip 35 = .ok (.iconst 1, 1) := by decide +kernel
theorem dX8_strip_36 : decode cX8_strip 36 = .ok (.istore 4, 2) := by decide +kernel
theorem dX8_strip_38 : decode cX8_strip 38 = .ok (.iload 4, 2) := by decide +kernel
theorem dX8_strip_40 : decode cX8_strip 40 = .ok (.aload_n 0, 1) := by decide +kernel
theorem dX8_strip_41 : decode cX8_strip 41 = .ok (.getfield 113, 3) := by decide +kernel
theorem dX8_strip_44 : decode cX8_strip 44 = .ok (.if_icmp .ge 88, 3) := by decide +kernel
theorem dX8_strip_47 : decode cX8_strip 47 = .ok (.aload_n 0, 1) := by decide +kernel
theorem dX8_strip_48 : decode cX8_strip 48 = .ok (.getfield 7, 3) := by decide +kernel
theorem dX8_strip_51 : decode cX8_strip 51 = .ok (.sipush 128, 3) := by decide +kernel
theorem dX8_strip_54 : decode cX8_strip 54 = .ok (.aload_n 0, 1) := by decide +kernel
theorem dX8_strip_55 : decode cX8_strip 55 = .ok (.getfield 33, 3) := by decide +kernel
theorem dX8_strip_58 : decode cX8_strip 58 = .ok (.iload 4, 2) := by decide +kernel
theorem dX8_strip_60 : decode cX8_strip 60 = .ok (.iaload, 1) := by decide +kernel
theorem dX8_strip_61 : decode cX8_strip 61 = .ok (.iadd, 1) := by decide +kernel
theorem dX8_strip_62 : decode cX8_strip 62 = .ok (.iaload, 1) := by decide +kernel
theorem dX8_strip_63 : decode cX8_strip 63 = .ok (.aload_n 0, 1) := by decide +kernel
theorem dX8_strip_64 : decode cX8_strip 64 = .ok (.getfield 7, 3) := by decide +kernel
theorem dX8_strip_67 : decode cX8_strip 67 = .ok (.sipush 128, 3) := by decide +kernel
theorem dX8_strip_70 : decode cX8_strip 70 = .ok (.aload_n 0, 1) := by decide +kernel
theorem dX8_strip_71 : decode cX8_strip 71 = .ok (.getfield 33, 3) := by decide +kernel
theorem dX8_strip_74 : decode cX8_strip 74 = .ok (.iload 4, 2) := by decide +kernel
theorem dX8_strip_76 : decode cX8_strip 76 = .ok (.iconst 1, 1) := by decide +kernel
theorem dX8_strip_77 : decode cX8_strip 77 = .ok (.isub, 1) := by decide +kernel
theorem dX8_strip_78 : decode cX8_strip 78 = .ok (.iaload, 1) := by decide +kernel
theorem dX8_strip_79 : decode cX8_strip 79 = .ok (.iadd, 1) := by decide +kernel
theorem dX8_strip_80 : decode cX8_strip 80 = .ok (.iaload, 1) := by decide +kernel
theorem dX8_strip_81 : decode cX8_strip 81 = .ok (.isub, 1) := by decide +kernel
theorem dX8_strip_82 : decode cX8_strip 82 = .ok (.istore 5, 2) := by decide +kernel
theorem dX8_strip_84 : decode cX8_strip 84 = .ok (.iload 5, 2) := by decide +kernel
theorem dX8_strip_86 : decode cX8_strip 86 = .ok (.iload_n 2, 1) := by decide +kernel
theorem dX8_strip_87 : decode cX8_strip 87 = .ok (.if_icmp .le 24, 3) := by decide +kernel
theorem dX8_strip_90 : decode cX8_strip 90 = .ok (.aload_n 0, 1) := by decide +kernel
theorem dX8_strip_91 : decode cX8_strip 91 = .ok (.getfield 7, 3) := by decide +kernel
theorem dX8_strip_94 : decode cX8_strip 94 = .ok (.sipush 128, 3) := by decide +kernel
theorem dX8_strip_97 : decode cX8_strip 97 = .ok (.aload_n 0, 1) := by decide +kernel
theorem dX8_strip_98 : decode cX8_strip 98 = .ok (.getfield 33, 3) := by decide +kernel
theorem dX8_strip_101 : decode cX8_strip 101 = .ok (.iload 4, 2) := by decide +kernel
theorem dX8_strip_103 : decode cX8_strip 103 = .ok (.iconst 1, 1) := by decide +kernel
theorem dX8_strip_104 : decode cX8_strip 104 = .ok (.isub, 1) := by decide +kernel
theorem dX8_strip_105 : decode cX8_strip 105 = .ok (.iaload, 1) := by decide +kernel
theorem dX8_strip_106 : decode cX8_strip 106 = .ok (.iadd, 1) := by decide +kernel
theorem dX8_strip_107 : decode cX8_strip 107 = .ok (.iaload, 1) := by decide +kernel
theorem dX8_strip_108 : decode cX8_strip 108 = .ok (.goto 4, 3) := by decide +kernel
theorem dX8_strip_111 : decode cX8_strip 111 = .ok (.iload_n 3, 1) := by decide +kernel
theorem dX8_strip_112 : decode cX8_strip 112 = .ok (.istore_n 3, 1) := by decide +kernel
theorem dX8_strip_113 : decode cX8_strip 113 = .ok (.iload 5, 2) := by decide +kernel
theorem dX8_strip_115 : decode cX8_strip 115 = .ok (.iload_n 2, 1) := by decide +kernel
theorem dX8_strip_116 : decode cX8_strip 116 = .ok (.if_icmp .le 8, 3) := by decide +kernel
theorem dX8_strip_119 : decode cX8_strip 119 = .ok (.iload 5, 2) := by decide +kernel
theorem dX8_strip_121 : decode cX8_strip 121 = .ok (.goto 4, 3) := by decide +kernel
theorem dX8_strip_124 : decode cX8_strip 124 = .ok (.iload_n 2, 1) := by decide +kernel
theorem dX8_strip_125 : decode cX8_strip 125 = .ok (.istore_n 2, 1) := by decide +kernel
theorem dX8_strip_126 : decode cX8_strip 126 = .ok (.iinc 4 1, 3) := by decide +kernel
theorem dX8_strip_129 : decode cX8_strip 129 = .ok (.goto (-91), 3) := by decide +kernel
theorem dX8_strip_132 : decode cX8_strip 132 = .ok (.iload_n 2, 1) := by decide +kernel
theorem dX8_strip_133 : decode cX8_strip 133 = .ok (.ifCond .ne 8, 3) := by decide +kernel
theorem dX8_strip_136 : decode cX8_strip 136 = .ok (.ldc 152, 2) := by decide +kernel
theorem dX8_strip_138 : decode cX8_strip 138 = .ok (.goto 12, 3) := by decide +kernel
theorem dX8_strip_141 : decode cX8_strip 141 = .ok (.iload_n 1, 1) := by decide +kernel
theorem dX8_strip_142 : decode cX8_strip 142 = .ok (.ifCond .ne 7, 3) := by decide +kernel
theorem dX8_strip_145 : decode cX8_strip 145 = .ok (.iload_n 2, 1) := by decide +kernel
theorem dX8_strip_146 : decode cX8_strip 146 = .ok (.goto 4, 3) := by decide +kernel
theorem dX8_strip_149 : decode cX8_strip 149 = .ok (.iload_n 3, 1) := by decide +kernel
theorem dX8_strip_150 : decode cX8_strip 150 = .ok (.ireturn, 1) := by decide +kernel
theorem dX8_square_0 : decode cX8_square 0 = .ok (.iload_n 1, 1) := by decide +kernel
theorem dX8_square_1 : decode cX8_square 1 = .ok (.i2l, 1) := by decide +kernel
theorem dX8_square_2 : decode cX8_square 2 = .ok (.lconst 0, 1) := by decide +kernel
theorem dX8_square_3 : decode cX8_square 3 = .ok (.ldc2_w 172, 3) := by decide +kernel
theorem dX8_square_6 : decode cX8_square 6 = .ok (.invokestatic 49, 3) := by decide +kernel
theorem dX8_square_9 : decode cX8_square 9 = .ok (.ifCond .eq 15, 3) := by decide +kernel
theorem dX8_square_12 : decode cX8_square 12 = .ok (.iload_n 2, 1) := by decide +kernel
theorem dX8_square_13 : decode cX8_square 13 = .ok (.i2l, 1) := by decide +kernel
theorem dX8_square_14 : decode cX8_square 14 = .ok (.lconst 0, 1) := by decide +kernel
theorem dX8_square_15 : decode cX8_square 15 = .ok (.ldc2_w 174, 3) := by decide +kernel
theorem dX8_square_18 : decode cX8_square 18 = .ok (.invokestatic 49, 3) := by decide +kernel
theorem dX8_square_21 : decode cX8_square 21 = .ok (.ifCond .ne 8, 3) := by decide +kernel
theorem dX8_square_24 : decode cX8_square 24 = .ok (.aload_n 0, 1) := by decide +kernel
theorem dX8_square_25 : decode cX8_square 25 = .ok (.invokevirtual 81, 3) := by decide +kernel
theorem dX8_square_28 : decode cX8_square 28 = .ok (.ireturn, 1) := by decide +kernel
theorem dX8_square_29 : decode cX8_square 29 = .ok (.iconst 0, 1) := by decide +kernel
theorem dX8_square_30 : decode cX8_square 30 = .ok (.istore_n 3, 1) := by decide +kernel
theorem dX8_square_31 : decode cX8_square 31 = .ok (.iconst 0, 1) := by decide +kernel
theorem dX8_square_32 : decode cX8_square 32 = .ok (.istore 4, 2) := by decide +kernel
theorem dX8_square_34 : decode cX8_square 34 = .ok (.iconst 0, 1) := by decide +kernel
theorem dX8_square_35 : decode cX8_square 35 = .ok (.istore 5, 2) := by decide +kernel
theorem dX8_square_37 : decode cX8_square 37 = .ok (.iconst 0, 1) := by decide +kernel
theorem dX8_square_38 : decode cX8_square 38 = .ok (.istore 6, 2) := by decide +kernel
theorem dX8_square_40 : decode cX8_square 40 = .ok (.iload 6, 2) := by decide +kernel
theorem dX8_square_42 : decode cX8_square 42 = .ok (.aload_n 0, 1) := by decide +kernel
theorem dX8_square_43 : decode cX8_square 43 = .ok (.getfield 7, 3) := by decide +kernel
theorem dX8_square_46 : decode cX8_square 46 = .ok (.iconst 0, 1) := by decide +kernel
theorem dX8_square_47 : decode cX8_square 47 = .ok (.iaload, 1) := by decide +kernel
theorem dX8_square_48 : decode cX8_square 48 = .ok (.if_icmp .ge 180, 3) := by decide +kernel
theorem dX8_square_51 : decode cX8_square 51 = .ok (.iconst 0, 1) := by decide +kernel
theorem dX8_square_52 : decode cX8_square 52 = .ok (.istore 7, 2) := by decide +kernel
theorem dX8_square_54 : decode cX8_square 54 = .ok (.iload 7, 2) := by decide +kernel
theorem dX8_square_56 : decode cX8_square 56 = .ok (.aload_n 0, 1) := by decide +kernel
theorem dX8_square_57 : decode cX8_square 57 = .ok (.getfield 7, 3) := by decide +kernel
theorem dX8_square_60 : decode cX8_square 60 = .ok (.iconst 0, 1) := by decide +kernel
theorem dX8_square_61 : decode cX8_square 61 = .ok (.iaload, 1) := by decide +kernel
theorem dX8_square_62 : decode cX8_square 62 = .ok (.if_icmp .ge 160, 3) := by decide +kernel
theorem dX8_square_65 : decode cX8_square 65 = .ok (.aload_n 0, 1) := by decide +kernel
theorem dX8_square_66 : decode cX8_square 66 = .ok (.getfield 7, 3) := by decide +kernel
theorem dX8_square_69 : decode cX8_square 69 = .ok (.sipush 128, 3) := by decide +kernel
theorem dX8_square_72 : decode cX8_square 72 = .ok (.iload 6, 2) := by decide +kernel
theorem dX8_square_74 : decode cX8_square 74 = .ok (.iadd, 1) := by decide +kernel
theorem dX8_square_75 : decode cX8_square 75 = .ok (.iaload, 1) := by decide +kernel
theorem dX8_square_76 : decode cX8_square 76 = .ok (.istore 8, 2) := by decide +kernel
theorem dX8_square_78 : decode cX8_square 78 = .ok (.aload_n 0, 1) := by decide +kernel
theorem dX8_square_79 : decode cX8_square 79 = .ok (.getfield 7, 3) := by decide +kernel
theorem dX8_square_82 : decode cX8_square 82 = .ok (.sipush 250, 3) := by decide +kernel
theorem dX8_square_85 : decode cX8_square 85 = .ok (.iload 7, 2) := by decide +kernel
theorem dX8_square_87 : decode cX8_square 87 = .ok (.iadd, 1) := by decide +kernel
theorem dX8_square_88 : decode cX8_square 88 = .ok (.iaload, 1) := by decide +kernel
theorem dX8_square_89 : decode cX8_square 89 = .ok (.istore 9, 2) := by decide +kernel
theorem dX8_square_91 : decode cX8_square 91 = .ok (.aload_n 0, 1) := by decide +kernel
theorem dX8_square_92 : decode cX8_square 92 = .ok (.iload 6, 2) := by decide +kernel
theorem dX8_square_94 : decode cX8_square 94 = .ok (.invokevirtual 57, 3) := by decide +kernel
theorem dX8_square_97 : decode cX8_square 97 = .ok (.ifCond .eq 31, 3) := by decide +kernel
theorem dX8_square_100 : decode cX8_square 100 = .ok (.aload_n 0, 1) := by decide +kernel
theorem dX8_square_101 : decode cX8_square 101 = .ok (.iload 7, 2) := by decide +kernel
theorem dX8_square_103 : decode cX8_square 103 = .ok (.invokevirtual 57, 3) := by decide +kernel
theorem dX8_square_106 : decode cX8_square 106 = .ok (.ifCond .eq 22, 3) := by decide +kernel
theorem dX8_square_109 : decode cX8_square 109 = .ok (.aload_n 0, 1) := by decide +kernel
theorem dX8_square_110 : decode cX8_square 110 = .ok (.iload 8, 2) := by decide +kernel
theorem dX8_square_112 : decode cX8_square 112 = .ok (.iload 8, 2) := by decide +kernel
theorem dX8_square_114 : decode cX8_square 114 = .ok (.iload_n 1, 1) := by decide +kernel
theorem dX8_square_115 : decode cX8_square 115 = .ok (.iadd, 1) := by decide +kernel
theorem dX8_square_116 : decode cX8_square 116 = .ok (.iload 9, 2) := by decide +kernel
theorem dX8_square_118 : decode cX8_square 118 = .ok (.iload 9, 2) := by decide +kernel
theorem dX8_square_120 : decode cX8_square 120 = .ok (.iload_n 1, 1) := by decide +kernel
theorem dX8_square_121 : decode cX8_square 121 = .ok (.iadd, 1) := by decide +kernel
theorem dX8_square_122 : decode cX8_square 122 = .ok (.invokevirtual 159, 3) := by decide +kernel
theorem dX8_square_125 : decode cX8_square 125 = .ok (.goto 4, 3) := by decide +kernel
theorem dX8_square_128 : decode cX8_square 128 = .ok (.iconst 0, 1) := by decide +kernel
theorem dX8_square_129 : decode cX8_square 129 = .ok (.istore 10, 2) := by decide +kernel
theorem dX8_square_131 : decode cX8_square 131 = .ok (.iload 10, 2) := by decide +kernel
theorem dX8_square_133 : decode cX8_square 133 = .ok (.iload_n 3, 1) := by decide +kernel
theorem dX8_square_134 : decode cX8_square 134 = .ok (.if_icmp .gt 35, 3) := by decide +kernel
theorem dX8_square_137 : decode cX8_square 137 = .ok (.iload 10, 2) := by decide +kernel
theorem dX8_square_139 : decode cX8_square 139 = .ok (.iload_n 3, 1) := by decide +kernel
theorem dX8_square_140 : decode cX8_square 140 = .ok (.if_icmp .ne 33, 3) := by decide +kernel
theorem dX8_square_143 : decode cX8_square 143 = .ok (.iload 10, 2) := by decide +kernel
theorem dX8_square_145 : decode cX8_square 145 = .ok (.ifCond .le 28, 3) := by decide +kernel
theorem dX8_square_148 : decode cX8_square 148 = .ok (.iload 8, 2) := by decide +kernel
theorem dX8_square_150 : decode cX8_square 150 = .ok (.iload 4, 2) := by decide +kernel
theorem dX8_square_152 : decode cX8_square 152 = .ok (.if_icmp .lt 17, 3) := by decide +kernel
theorem dX8_square_155 : decode cX8_square 155 = .ok (.iload 8, 2) := by decide +kernel
theorem dX8_square_157 : decode cX8_square 157 = .ok (.iload 4, 2) := by decide +kernel
theorem dX8_square_159 : decode cX8_square 159 = .ok (.if_icmp .ne 14, 3) := by decide +kernel
theorem dX8_square_162 : decode cX8_square 162 = .ok (.iload 9, 2) := by decide +kernel
theorem dX8_square_164 : decode cX8_square 164 = .ok (.iload 5, 2) := by decide +kernel
theorem dX8_square_166 : decode cX8_square 166 = .ok (.if_icmp .ge 7, 3) := by decide +kernel
theorem dX8_square_169 : decode cX8_square 169 = .ok (.iconst 1, 1) := by decide +kernel
theorem dX8_square_170 : decode cX8_square 170 = .ok (.goto 4, 3) := by decide +kernel
theorem dX8_square_173 : decode cX8_square 173 = .ok (.iconst 0, 1) := by decide +kernel
theorem dX8_square_174 : decode cX8_square 174 = .ok (.istore 11, 2) := by decide +kernel
theorem dX8_square_176 : decode cX8_square 176 = .ok (.iload 11, 2) := by decide +kernel
theorem dX8_square_178 : decode cX8_square 178 = .ok (.ifCond .eq 8, 3) := by decide +kernel
theorem dX8_square_181 : decode cX8_square 181 = .ok (.iload 10, 2) := by decide +kernel
theorem dX8_square_183 : decode cX8_square 183 = .ok (.goto 4, 3) := by decide +kernel
theorem dX8_square_186 : decode cX8_square 186 = .ok (.iload_n 3, 1) := by decide +kernel
theorem dX8_square_187 : decode cX8_square 187 = .ok (.istore_n 3, 1) := by decide +kernel
theorem dX8_square_188 : decode cX8_square 188 = .ok (.iload 11, 2) := by decide +kernel
theorem dX8_square_190 : decode cX8_square 190 = .ok (.ifCond .eq 8, 3) := by decide +kernel
theorem dX8_square_193 : decode cX8_square 193 = .ok (.iload 8, 2) := by decide +kernel
theorem dX8_square_195 : decode cX8_square 195 = .ok (.goto 5, 3) := by decide +kernel
theorem dX8_square_198 : decode cX8_square 198 = .ok (.iload 4, 2) := by decide +kernel
theorem dX8_square_200 : decode cX8_square 200 = .ok (.istore 4, 2) := by decide +kernel
theorem dX8_square_202 : decode cX8_square 202 = .ok (.iload 11, 2) := by decide +kernel
theorem dX8_square_204 : decode cX8_square 204 = .ok (.ifCond .eq 8, 3) := by decide +kernel
theorem dX8_square_207 : decode cX8_square 207 = .ok (.iload 9, 2) := by decide +kernel
theorem dX8_square_209 : decode cX8_square 209 = .ok (.goto 5, 3) := by decide +kernel
theorem dX8_square_212 : decode cX8_square 212 = .ok (.iload 5, 2) := by decide +kernel
theorem dX8_square_214 : decode cX8_square 214 = .ok (.istore 5, 2) := by decide +kernel
theorem dX8_square_216 : decode cX8_square 216 = .ok (.iinc 7 1, 3) := by decide +kernel
theorem dX8_square_219 : decode cX8_square 219 = .ok (.goto (-165), 3) := by decide +kernel
theorem dX8_square_222 : decode cX8_square 222 = .ok (.iinc 6 1, 3) := by decide +kernel
theorem dX8_square_225 : decode cX8_square 225 = .ok (.goto (-185), 3) := by decide +kernel
theorem dX8_square_228 : decode cX8_square 228 = .ok (.iload_n 3, 1) := by decide +kernel
theorem dX8_square_229 : decode cX8_square 229 = .ok (.ifCond .ne 8, 3) := by decide +kernel
theorem dX8_square_232 : decode cX8_square 232 = .ok (.ldc 152, 2) := by decide +kernel
theorem dX8_square_234 : decode cX8_square 234 = .ok (.goto 23, 3) := by decide +kernel
theorem dX8_square_237 : decode cX8_square 237 = .ok (.iload_n 2, 1) := by decide +kernel
theorem dX8_square_238 : decode cX8_square 238 = .ok (.ifCond .ne 7, 3) := by decide +kernel
theorem dX8_square_241 : decode cX8_square 241 = .ok (.iload_n 3, 1) := by decide +kernel
theorem dX8_square_242 : decode cX8_square 242 = .ok (.goto 15, 3) := by decide +kernel
theorem dX8_square_245 : decode cX8_square 245 = .ok (.iload_n 2, 1) := by decide +kernel
theorem dX8_square_246 : decode cX8_square 246 = .ok (.iconst 1, 1) := by decide +kernel
theorem dX8_square_247 : decode cX8_square 247 = .ok (.if_icmp .ne 8, 3) := by decide +kernel
theorem dX8_square_250 : decode cX8_square 250 = .ok (.iload 4, 2) := by decide +kernel
theorem dX8_square_252 : decode cX8_square 252 = .ok (.goto 5, 3) := by decide +kernel
theorem dX8_square_255 : decode cX8_square 255 = .ok (.iload 5, 2) := by decide +kernel
theorem dX8_square_257 : decode cX8_square 257 = .ok (.ireturn, 1) := by decide +kernel
theorem dX8_pairs_0 : decode cX8_pairs 0 = .ok (.iconst 0, 1) := by decide +kernel
theorem dX8_pairs_1 : decode cX8_pairs 1 = .ok (.istore_n 1, 1) := by decide +kernel
theorem dX8_pairs_2 : decode cX8_pairs 2 = .ok (.iconst 0, 1) := by decide +kernel
theorem dX8_pairs_3 : decode cX8_pairs 3 = .ok (.istore_n 2, 1) := by decide +kernel
theorem dX8_pairs_4 : decode cX8_pairs 4 = .ok (.iload_n 2, 1) := by decide +kernel
theorem dX8_pairs_5 : decode cX8_pairs 5 = .ok (.aload_n 0, 1) := by decide +kernel
theorem dX8_pairs_6 : decode cX8_pairs 6 = .ok (.getfield 7, 3) := by decide +kernel
theorem dX8_pairs_9 : decode cX8_pairs 9 = .ok (.iconst 0, 1) := by decide +kernel
theorem dX8_pairs_10 : decode cX8_pairs 10 = .ok (.iaload, 1) := by decide +kernel
theorem dX8_pairs_11 : decode cX8_pairs 11 = .ok (.if_icmp .ge 97, 3) := by decide +kernel
theorem dX8_pairs_14 : decode cX8_pairs 14 = .ok (.iconst 0, 1) := by decide +kernel
theorem dX8_pairs_15 : decode cX8_pairs 15 = .ok (.istore_n 3, 1) := by decide +kernel
theorem dX8_pairs_16 : decode cX8_pairs 16 = .ok (.iload_n 3, 1) := by decide +kernel
theorem dX8_pairs_17 : decode cX8_pairs 17 = .ok (.aload_n 0, 1) := by decide +kernel
theorem dX8_pairs_18 : decode cX8_pairs 18 = .ok (.getfield 7, 3) := by decide +kernel
theorem dX8_pairs_21 : decode cX8_pairs 21 = .ok (.iconst 0, 1) := by decide +kernel
theorem dX8_pairs_22 : decode cX8_pairs 22 = .ok (.iaload, 1) := by decide +kernel
theorem dX8_pairs_23 : decode cX8_pairs 23 = .ok (.if_icmp .ge 79, 3) := by decide +kernel
theorem dX8_pairs_26 : decode cX8_pairs 26 = .ok (.iload_n 1, 1) := by decide +kernel
theorem dX8_pairs_27 : decode cX8_pairs 27 = .ok (.aload_n 0, 1) := by decide +kernel
theorem dX8_pairs_28 : decode cX8_pairs 28 = .ok (.iload_n 2, 1) := by decide +kernel
theorem dX8_pairs_29 : decode cX8_pairs 29 = .ok (.invokevirtual 57, 3) := by decide +kernel
theorem dX8_pairs_32 : decode cX8_pairs 32 = .ok (.ifCond .eq 61, 3) := by decide +kernel
theorem dX8_pairs_35 : decode cX8_pairs 35 = .ok (.aload_n 0, 1) := by decide +kernel
theorem dX8_pairs_36 : decode cX8_pairs 36 = .ok (.iload_n 3, 1) := by decide +kernel
theorem dX8_pairs_37 : decode cX8_pairs 37 = .ok (.invokevirtual 57, 3) := by decide +kernel
theorem dX8_pairs_40 : decode cX8_pairs 40 = .ok (.ifCond .eq 53, 3) := by decide +kernel
theorem dX8_pairs_43 : decode cX8_pairs 43 = .ok (.aload_n 0, 1) := by decide +kernel
theorem dX8_pairs_44 : decode cX8_pairs 44 = .ok (.getfield 7, 3) := by decide +kernel
theorem dX8_pairs_47 : decode cX8_pairs 47 = .ok (.sipush 128, 3) := by decide +kernel
theorem dX8_pairs_50 : decode cX8_pairs 50 = .ok (.iload_n 2, 1) := by decide +kernel
theorem dX8_pairs_51 : decode cX8_pairs 51 = .ok (.iadd, 1) := by decide +kernel
theorem dX8_pairs_52 : decode cX8_pairs 52 = .ok (.iaload, 1) := by decide +kernel
theorem dX8_pairs_53 : decode cX8_pairs 53 = .ok (.aload_n 0, 1) := by decide +kernel
theorem dX8_pairs_54 : decode cX8_pairs 54 = .ok (.getfield 7, 3) := by decide +kernel
theorem dX8_pairs_57 : decode cX8_pairs 57 = .ok (.sipush 128, 3) := by decide +kernel
theorem dX8_pairs_60 : decode cX8_pairs 60 = .ok (.iload_n 3, 1) := by decide +kernel
theorem dX8_pairs_61 : decode cX8_pairs 61 = .ok (.iadd, 1) := by decide +kernel
theorem dX8_pairs_62 : decode cX8_pairs 62 = .ok (.iaload, 1) := by decide +kernel
theorem dX8_pairs_63 : decode cX8_pairs 63 = .ok (.if_icmp .ge 30, 3) := by decide +kernel
theorem dX8_pairs_66 : decode cX8_pairs 66 = .ok (.aload_n 0, 1) := by decide +kernel
theorem dX8_pairs_67 : decode cX8_pairs 67 = .ok (.getfield 7, 3) := by decide +kernel
theorem dX8_pairs_70 : decode cX8_pairs 70 = .ok (.sipush 250, 3) := by decide +kernel
theorem dX8_pairs_73 : decode cX8_pairs 73 = .ok (.iload_n 2, 1) := by decide +kernel
theorem dX8_pairs_74 : decode cX8_pairs 74 = .ok (.iadd, 1) := by decide +kernel
theorem dX8_pairs_75 : decode cX8_pairs 75 = .ok (.iaload, 1) := by decide +kernel
theorem dX8_pairs_76 : decode cX8_pairs 76 = .ok (.aload_n 0, 1) := by decide +kernel
theorem dX8_pairs_77 : decode cX8_pairs 77 = .ok (.getfield 7, 3) := by decide +kernel
theorem dX8_pairs_80 : decode cX8_pairs 80 = .ok (.sipush 250, 3) := by decide +kernel
theorem dX8_pairs_83 : decode cX8_pairs 83 = .ok (.iload_n 3, 1) := by decide +kernel
theorem dX8_pairs_84 : decode cX8_pairs 84 = .ok (.iadd, 1) := by decide +kernel
theorem dX8_pairs_85 : decode cX8_pairs 85 = .ok (.iaload, 1) := by decide +kernel
theorem dX8_pairs_86 : decode cX8_pairs 86 = .ok (.if_icmp .ge 7, 3) := by decide +kernel
theorem dX8_pairs_89 : decode cX8_pairs 89 = .ok (.iconst 1, 1) := by decide +kernel
theorem dX8_pairs_90 : decode cX8_pairs 90 = .ok (.goto 4, 3) := by decide +kernel
theorem dX8_pairs_93 : decode cX8_pairs 93 = .ok (.iconst 0, 1) := by decide +kernel
theorem dX8_pairs_94 : decode cX8_pairs 94 = .ok (.iadd, 1) := by decide +kernel
theorem dX8_pairs_95 : decode cX8_pairs 95 = .ok (.istore_n 1, 1) := by decide +kernel
theorem dX8_pairs_96 : decode cX8_pairs 96 = .ok (.iinc 3 1, 3) := by decide +kernel
theorem dX8_pairs_99 : decode cX8_pairs 99 = .ok (.goto (-83), 3) := by decide +kernel
theorem dX8_pairs_102 : decode cX8_pairs 102 = .ok (.iinc 2 1, 3) := by decide +kernel
theorem dX8_pairs_105 : decode cX8_pairs 105 = .ok (.goto (-101), 3) := by decide +kernel
theorem dX8_pairs_108 : decode cX8_pairs 108 = .ok (.iload_n 1, 1) := by decide +kernel
theorem dX8_pairs_109 : decode cX8_pairs 109 = .ok (.ireturn, 1) := by decide +kernel
theorem dX8_isStair_0 : decode cX8_isStair 0 = .ok (.iconst 0, 1) := by decide +kernel
theorem dX8_isStair_1 : decode cX8_isStair 1 = .ok (.istore_n 2, 1) := by decide +kernel
theorem dX8_isStair_2 : decode cX8_isStair 2 = .ok (.iload_n 2, 1) := by decide +kernel
theorem dX8_isStair_3 : decode cX8_isStair 3 = .ok (.aload_n 0, 1) := by decide +kernel
theorem dX8_isStair_4 : decode cX8_isStair 4 = .ok (.getfield 7, 3) := by decide +kernel
theorem dX8_isStair_7 : decode cX8_isStair 7 = .ok (.iconst 0, 1) := by decide +kernel
theorem dX8_isStair_8 : decode cX8_isStair 8 = .ok (.iaload, 1) := by decide +kernel
theorem dX8_isStair_9 : decode cX8_isStair 9 = .ok (.if_icmp .ge 121, 3) := by decide +kernel
theorem dX8_isStair_12 : decode cX8_isStair 12 = .ok (.aload_n 0, 1) := by decide +kernel
theorem dX8_isStair_13 : decode cX8_isStair 13 = .ok (.getfield 7, 3) := by decide +kernel
theorem dX8_isStair_16 : decode cX8_isStair 16 = .ok (.sipush 128, 3) := by decide +kernel
theorem dX8_isStair_19 : decode cX8_isStair 19 = .ok (.iload_n 2, 1) := by decide +kernel
theorem dX8_isStair_20 : decode cX8_isStair 20 = .ok (.iadd, 1) := by decide +kernel
theorem dX8_isStair_21 : decode cX8_isStair 21 = .ok (.iaload, 1) := by decide +kernel
theorem dX8_isStair_22 : decode cX8_isStair 22 = .ok (.aload_n 0, 1) := by decide +kernel
theorem dX8_isStair_23 : decode cX8_isStair 23 = .ok (.getfield 7, 3) := by decide +kernel
theorem dX8_isStair_26 : decode cX8_isStair 26 = .ok (.sipush 128, 3) := by decide +kernel
theorem dX8_isStair_29 : decode cX8_isStair 29 = .ok (.iload_n 1, 1) := by decide +kernel
theorem dX8_isStair_30 : decode cX8_isStair 30 = .ok (.iadd, 1) := by decide +kernel
theorem dX8_isStair_31 : decode cX8_isStair 31 = .ok (.iaload, 1) := by decide +kernel
theorem dX8_isStair_32 : decode cX8_isStair 32 = .ok (.if_icmp .ne 30, 3) := by decide +kernel
theorem dX8_isStair_35 : decode cX8_isStair 35 = .ok (.aload_n 0, 1) := by decide +kernel
theorem dX8_isStair_36 : decode cX8_isStair 36 = .ok (.getfield 7, 3) := by decide +kernel
theorem dX8_isStair_39 : decode cX8_isStair 39 = .ok (.sipush 250, 3) := by decide +kernel
theorem dX8_isStair_42 : decode cX8_isStair 42 = .ok (.iload_n 2, 1) := by decide +kernel
theorem dX8_isStair_43 : decode cX8_isStair 43 = .ok (.iadd, 1) := by decide +kernel
theorem dX8_isStair_44 : decode cX8_isStair 44 = .ok (.iaload, 1) := by decide +kernel
theorem dX8_isStair_45 : decode cX8_isStair 45 = .ok (.aload_n 0, 1) := by decide +kernel
theorem dX8_isStair_46 : decode cX8_isStair 46 = .ok (.getfield 7, 3) := by decide +kernel
theorem dX8_isStair_49 : decode cX8_isStair 49 = .ok (.sipush 250, 3) := by decide +kernel
theorem dX8_isStair_52 : decode cX8_isStair 52 = .ok (.iload_n 1, 1) := by decide +kernel
theorem dX8_isStair_53 : decode cX8_isStair 53 = .ok (.iadd, 1) := by decide +kernel
theorem dX8_isStair_54 : decode cX8_isStair 54 = .ok (.iaload, 1) := by decide +kernel
theorem dX8_isStair_55 : decode cX8_isStair 55 = .ok (.if_icmp .ne 7, 3) := by decide +kernel
theorem dX8_isStair_58 : decode cX8_isStair 58 = .ok (.iconst 1, 1) := by decide +kernel
theorem dX8_isStair_59 : decode cX8_isStair 59 = .ok (.goto 4, 3) := by decide +kernel
theorem dX8_isStair_62 : decode cX8_isStair 62 = .ok (.iconst 0, 1) := by decide +kernel
theorem dX8_isStair_63 : decode cX8_isStair 63 = .ok (.istore_n 3, 1) := by decide +kernel
theorem dX8_isStair_64 : decode cX8_isStair 64 = .ok (.aload_n 0, 1) := by decide +kernel
theorem dX8_isStair_65 : decode cX8_isStair 65 = .ok (.iload_n 2, 1) := by decide +kernel
theorem dX8_isStair_66 : decode cX8_isStair 66 = .ok (.invokevirtual 57, 3) := by decide +kernel
theorem dX8_isStair_69 : decode cX8_isStair 69 = .ok (.ifCond .eq 55, 3) := by decide +kernel
theorem dX8_isStair_72 : decode cX8_isStair 72 = .ok (.iload_n 3, 1) := by decide +kernel
theorem dX8_isStair_73 : decode cX8_isStair 73 = .ok (.ifCond .ne 51, 3) := by decide +kernel
theorem dX8_isStair_76 : decode cX8_isStair 76 = .ok (.aload_n 0, 1) := by decide +kernel
theorem dX8_isStair_77 : decode cX8_isStair 77 = .ok (.getfield 7, 3) := by decide +kernel
theorem dX8_isStair_80 : decode cX8_isStair 80 = .ok (.sipush 128, 3) := by decide +kernel
theorem dX8_isStair_83 : decode cX8_isStair 83 = .ok (.iload_n 2, 1) := by decide +kernel
theorem dX8_isStair_84 : decode cX8_isStair 84 = .ok (.iadd, 1) := by decide +kernel
theorem dX8_isStair_85 : decode cX8_isStair 85 = .ok (.iaload, 1) := by decide +kernel
theorem dX8_isStair_86 : decode cX8_isStair 86 = .ok (.aload_n 0, 1) := by decide +kernel
theorem dX8_isStair_87 : decode cX8_isStair 87 = .ok (.getfield 7, 3) := by decide +kernel
theorem dX8_isStair_90 : decode cX8_isStair 90 = .ok (.sipush 128, 3) := by decide +kernel
theorem dX8_isStair_93 : decode cX8_isStair 93 = .ok (.iload_n 1, 1) := by decide +kernel
theorem dX8_isStair_94 : decode cX8_isStair 94 = .ok (.iadd, 1) := by decide +kernel
theorem dX8_isStair_95 : decode cX8_isStair 95 = .ok (.iaload, 1) := by decide +kernel
theorem dX8_isStair_96 : decode cX8_isStair 96 = .ok (.if_icmp .lt 28, 3) := by decide +kernel
theorem dX8_isStair_99 : decode cX8_isStair 99 = .ok (.aload_n 0, 1) := by decide +kernel
theorem dX8_isStair_100 : decode cX8_isStair 100 = .ok (.getfield 7, 3) := by decide +kernel
theorem dX8_isStair_103 : decode cX8_isStair 103 = .ok (.sipush 250, 3) := by decide +kernel
theorem dX8_isStair_106 : decode cX8_isStair 106 = .ok (.iload_n 2, 1) := by decide +kernel
theorem dX8_isStair_107 : decode cX8_isStair 107 = .ok (.iadd, 1) := by decide +kernel
theorem dX8_isStair_108 : decode cX8_isStair 108 = .ok (.iaload, 1) := by decide +kernel
theorem dX8_isStair_109 : decode cX8_isStair 109 = .ok (.aload_n 0, 1) := by decide +kernel
theorem dX8_isStair_110 : decode cX8_isStair 110 = .ok (.getfield 7, 3) := by decide +kernel
theorem dX8_isStair_113 : decode cX8_isStair 113 = .ok (.sipush 250, 3) := by decide +kernel
theorem dX8_isStair_116 : decode cX8_isStair 116 = .ok (.iload_n 1, 1) := by decide +kernel
theorem dX8_isStair_117 : decode cX8_isStair 117 = .ok (.iadd, 1) := by decide +kernel
theorem dX8_isStair_118 : decode cX8_isStair 118 = .ok (.iaload, 1) := by decide +kernel
theorem dX8_isStair_119 : decode cX8_isStair 119 = .ok (.if_icmp .lt 5, 3) := by decide +kernel
theorem dX8_isStair_122 : decode cX8_isStair 122 = .ok (.iconst 0, 1) := by decide +kernel
theorem dX8_isStair_123 : decode cX8_isStair 123 = .ok (.ireturn, 1) := by decide +kernel
theorem dX8_isStair_124 : decode cX8_isStair 124 = .ok (.iinc 2 1, 3) := by decide +kernel
theorem dX8_isStair_127 : decode cX8_isStair 127 = .ok (.goto (-125), 3) := by decide +kernel
theorem dX8_isStair_130 : decode cX8_isStair 130 = .ok (.iconst 1, 1) := by decide +kernel
theorem dX8_isStair_131 : decode cX8_isStair 131 = .ok (.ireturn, 1) := by decide +kernel
theorem dX8_stair_0 : decode cX8_stair 0 = .ok (.iload_n 1, 1) := by decide +kernel
theorem dX8_stair_1 : decode cX8_stair 1 = .ok (.iconst (-1), 1) := by decide +kernel
theorem dX8_stair_2 : decode cX8_stair 2 = .ok (.if_icmp .ge 8, 3) := by decide +kernel
theorem dX8_stair_5 : decode cX8_stair 5 = .ok (.aload_n 0, 1) := by decide +kernel
theorem dX8_stair_6 : decode cX8_stair 6 = .ok (.invokevirtual 81, 3) := by decide +kernel
theorem dX8_stair_9 : decode cX8_stair 9 = .ok (.ireturn, 1) := by decide +kernel
theorem dX8_stair_10 : decode cX8_stair 10 = .ok (.aload_n 0, 1) := by decide +kernel
theorem dX8_stair_11 : decode cX8_stair 11 = .ok (.iconst 0, 1) := by decide +kernel
theorem dX8_stair_12 : decode cX8_stair 12 = .ok (.putfield 113, 3) := by decide +kernel
theorem dX8_stair_15 : decode cX8_stair 15 = .ok (.iconst 0, 1) := by decide +kernel
theorem dX8_stair_16 : decode cX8_stair 16 = .ok (.istore_n 2, 1) := by decide +kernel
theorem dX8_stair_17 : decode cX8_stair 17 = .ok (.iload_n 2, 1) := by decide +kernel
theorem dX8_stair_18 : decode cX8_stair 18 = .ok (.aload_n 0, 1) := by decide +kernel
theorem dX8_stair_19 : decode cX8_stair 19 = .ok (.getfield 7, 3) := by decide +kernel
theorem dX8_stair_22 : decode cX8_stair 22 = .ok (.iconst 0, 1) := by decide +kernel
theorem dX8_stair_23 : decode cX8_stair 23 = .ok (.iaload, 1) := by decide +kernel
theorem dX8_stair_24 : decode cX8_stair 24 = .ok (.if_icmp .ge 30, 3) := by decide +kernel
theorem dX8_stair_27 : decode cX8_stair 27 = .ok (.aload_n 0, 1) := by decide +kernel
theorem dX8_stair_28 : decode cX8_stair 28 = .ok (.iload_n 2, 1) := by decide +kernel
theorem dX8_stair_29 : decode cX8_stair 29 = .ok (.invokevirtual 57, 3) := by decide +kernel
theorem dX8_stair_32 : decode cX8_stair 32 = .ok (.ifCond .eq 16, 3) := by decide +kernel
theorem dX8_stair_35 : decode cX8_stair 35 = .ok (.aload_n 0, 1) := by decide +kernel
theorem dX8_stair_36 : decode cX8_stair 36 = .ok (.iload_n 2, 1) := by decide +kernel
theorem dX8_stair_37 : decode cX8_stair 37 = .ok (.invokevirtual 176, 3) := by decide +kernel
theorem dX8_stair_40 : decode cX8_stair 40 = .ok (.ifCond .eq 8, 3) := by decide +kernel
theorem dX8_stair_43 : decode cX8_stair 43 = .ok (.aload_n 0, 1) := by decide +kernel
theorem dX8_stair_44 : decode cX8_stair 44 = .ok (.iload_n 2, 1) := by decide +kernel
theorem dX8_stair_45 : decode cX8_stair 45 = .ok (.invokevirtual 124, 3) := by decide +kernel
theorem dX8_stair_48 : decode cX8_stair 48 = .ok (.iinc 2 1, 3) := by decide +kernel
theorem dX8_stair_51 : decode cX8_stair 51 = .ok (.goto (-34), 3) := by decide +kernel
theorem dX8_stair_54 : decode cX8_stair 54 = .ok (.iload_n 1, 1) := by decide +kernel
theorem dX8_stair_55 : decode cX8_stair 55 = .ok (.iconst (-1), 1) := by decide +kernel
theorem dX8_stair_56 : decode cX8_stair 56 = .ok (.if_icmp .ne 10, 3) := by decide +kernel
theorem dX8_stair_59 : decode cX8_stair 59 = .ok (.aload_n 0, 1) := by decide +kernel
theorem dX8_stair_60 : decode cX8_stair 60 = .ok (.getfield 113, 3) := by decide +kernel
theorem dX8_stair_63 : decode cX8_stair 63 = .ok (.goto 30, 3) := by decide +kernel
theorem dX8_stair_66 : decode cX8_stair 66 = .ok (.iload_n 1, 1) := by decide +kernel
theorem dX8_stair_67 : decode cX8_stair 67 = .ok (.aload_n 0, 1) := by decide +kernel
theorem dX8_stair_68 : decode cX8_stair 68 = .ok (.getfield 113, 3) := by decide +kernel
theorem dX8_stair_71 : decode cX8_stair 71 = .ok (.if_icmp .ge 20, 3) := by decide +kernel
theorem dX8_stair_74 : decode cX8_stair 74 = .ok (.aload_n 0, 1) := by decide +kernel
theorem dX8_stair_75 : decode cX8_stair 75 = .ok (.getfield 7, 3) := by decide +kernel
theorem dX8_stair_78 : decode cX8_stair 78 = .ok (.bipush 6, 2) := by decide +kernel
theorem dX8_stair_80 : decode cX8_stair 80 = .ok (.aload_n 0, 1) := by decide +kernel
theorem dX8_stair_81 : decode cX8_stair 81 = .ok (.getfield 33, 3) := by decide +kernel
theorem dX8_stair_84 : decode cX8_stair 84 = .ok (.iload_n 1, 1) := by decide +kernel
theorem dX8_stair_85 : decode cX8_stair 85 = .ok (.iaload, 1) := by decide +kernel
theorem dX8_stair_86 : decode cX8_stair 86 = .ok (.iadd, 1) := by decide +kernel
theorem dX8_stair_87 : decode cX8_stair 87 = .ok (.iaload, 1) := by decide +kernel
theorem dX8_stair_88 : decode cX8_stair 88 = .ok (.goto 5, 3) := by decide +kernel
theorem dX8_stair_91 : decode cX8_stair 91 = .ok (.ldc 152, 2) := by decide +kernel
theorem dX8_stair_93 : decode cX8_stair 93 = .ok (.ireturn, 1) := by decide +kernel
theorem dX8_layersOf_0 : decode cX8_layersOf 0 = .ok (.iload_n 1, 1) := by decide +kernel
theorem dX8_layersOf_1 : decode cX8_layersOf 1 = .ok (.ifCond .ne 12, 3) := by decide +kernel
theorem dX8_layersOf_4 : decode cX8_layersOf 4 = .ok (.aload_n 0, 1) := by decide +kernel
theorem dX8_layersOf_5 : decode cX8_layersOf 5 = .ok (.getfield 7, 3) := by decide +kernel
theorem dX8_layersOf_8 : decode cX8_layersOf 8 = .ok (.iconst 0, 1) := by decide +kernel
theorem dX8_layersOf_9 : decode cX8_layersOf 9 = .ok (.iaload, 1) := by decide +kernel
theorem dX8_layersOf_10 : decode cX8_layersOf 10 = .ok (.goto 49, 3) := by decide +kernel
theorem dX8_layersOf_13 : decode cX8_layersOf 13 = .ok (.iload_n 1, 1) := by decide +kernel
theorem dX8_layersOf_14 : decode cX8_layersOf 14 = .ok (.iconst 1, 1) := by decide +kernel
theorem dX8_layersOf_15 : decode cX8_layersOf 15 = .ok (.if_icmp .ne 12, 3) := by decide +kernel
theorem dX8_layersOf_18 : decode cX8_layersOf 18 = .ok (.aload_n 0, 1) := by decide +kernel
theorem dX8_layersOf_19 : decode cX8_layersOf 19 = .ok (.getfield 7, 3) := by decide +kernel
theorem dX8_layersOf_22 : decode cX8_layersOf 22 = .ok (.iconst 1, 1) := by decide +kernel
theorem dX8_layersOf_23 : decode cX8_layersOf 23 = .ok (.iaload, 1) := by decide +kernel
theorem dX8_layersOf_24 : decode cX8_layersOf 24 = .ok (.goto 35, 3) := by decide +kernel
theorem dX8_layersOf_27 : decode cX8_layersOf 27 = .ok (.iload_n 1, 1) := by decide +kernel
theorem dX8_layersOf_28 : decode cX8_layersOf 28 = .ok (.iconst 2, 1) := by decide +kernel
theorem dX8_layersOf_29 : decode cX8_layersOf 29 = .ok (.if_icmp .ne 12, 3) := by decide +kernel
theorem dX8_layersOf_32 : decode cX8_layersOf 32 = .ok (.aload_n 0, 1) := by decide +kernel
theorem dX8_layersOf_33 : decode cX8_layersOf 33 = .ok (.getfield 7, 3) := by decide +kernel
theorem dX8_layersOf_36 : decode cX8_layersOf 36 = .ok (.iconst 4, 1) := by decide +kernel
theorem dX8_layersOf_37 : decode cX8_layersOf 37 = .ok (.iaload, 1) := by decide +kernel
theorem dX8_layersOf_38 : decode cX8_layersOf 38 = .ok (.goto 21, 3) := by decide +kernel
theorem dX8_layersOf_41 : decode cX8_layersOf 41 = .ok (.iload_n 1, 1) := by decide +kernel
theorem dX8_layersOf_42 : decode cX8_layersOf 42 = .ok (.iconst 3, 1) := by decide +kernel
theorem dX8_layersOf_43 : decode cX8_layersOf 43 = .ok (.if_icmp .ne 10, 3) := by decide +kernel
theorem dX8_layersOf_46 : decode cX8_layersOf 46 = .ok (.aload_n 0, 1) := by decide +kernel
theorem dX8_layersOf_47 : decode cX8_layersOf 47 = .ok (.getfield 153, 3) := by decide +kernel
theorem dX8_layersOf_50 : decode cX8_layersOf 50 = .ok (.goto 9, 3) := by decide +kernel
theorem dX8_layersOf_53 : decode cX8_layersOf 53 = .ok (.aload_n 0, 1) := by decide +kernel
theorem dX8_layersOf_54 : decode cX8_layersOf 54 = .ok (.getfield 7, 3) := by decide +kernel
theorem dX8_layersOf_57 : decode cX8_layersOf 57 = .ok (.iconst 5, 1) := by decide +kernel
theorem dX8_layersOf_58 : decode cX8_layersOf 58 = .ok (.iaload, 1) := by decide +kernel
theorem dX8_layersOf_59 : decode cX8_layersOf 59 = .ok (.ireturn, 1) := by decide +kernel
theorem dX8_layers_0 : decode cX8_layers 0 = .ok (.iload_n 1, 1) := by decide +kernel
theorem dX8_layers_1 : decode cX8_layers 1 = .ok (.i2l, 1) := by decide +kernel
theorem dX8_layers_2 : decode cX8_layers 2 = .ok (.lconst 0, 1) := by decide +kernel
theorem dX8_layers_3 : decode cX8_layers 3 = .ok (.ldc2_w 179, 3) := by decide +kernel
theorem dX8_layers_6 : decode cX8_layers 6 = .ok (.invokestatic 49, 3) := by decide +kernel
theorem dX8_layers_9 : decode cX8_layers 9 = .ok (.ifCond .eq 11, 3) := by decide +kernel
theorem dX8_layers_12 : decode cX8_layers 12 = .ok (.aload_n 0, 1) := by decide +kernel
theorem dX8_layers_13 : decode cX8_layers 13 = .ok (.iload_n 1, 1) := by decide +kernel
theorem dX8_layers_14 : decode cX8_layers 14 = .ok (.invokevirtual 181, 3) := by decide +kernel
theorem dX8_layers_17 : decode cX8_layers 17 = .ok (.goto 7, 3) := by decide +kernel
theorem dX8_layers_20 : decode cX8_layers 20 = .ok (.aload_n 0, 1) := by decide +kernel
theorem dX8_layers_21 : decode cX8_layers 21 = .ok (.invokevirtual 81, 3) := by decide +kernel
theorem dX8_layers_24 : decode cX8_layers 24 = .ok (.ireturn, 1) := by decide +kernel
theorem dX8_inLayer_0 : decode cX8_inLayer 0 = .ok (.iload_n 1, 1) := by decide +kernel
theorem dX8_inLayer_1 : decode cX8_inLayer 1 = .ok (.i2l, 1) := by decide +kernel
theorem dX8_inLayer_2 : decode cX8_inLayer 2 = .ok (.lconst 1, 1) := by decide +kernel
theorem dX8_inLayer_3 : decode cX8_inLayer 3 = .ok (.ldc2_w 184, 3) := by decide +kernel
theorem dX8_inLayer_6 : decode cX8_inLayer 6 = .ok (.invokestatic 49, 3) := by decide +kernel
theorem dX8_inLayer_9 : decode cX8_inLayer 9 = .ok (.ifCond .eq 34, 3) := by decide +kernel
theorem dX8_inLayer_12 : decode cX8_inLayer 12 = .ok (.iload_n 1, 1) := by decide +kernel
theorem dX8_inLayer_13 : decode cX8_inLayer 13 = .ok (.invokestatic 156, 3) := by decide +kernel
theorem dX8_inLayer_16 : decode cX8_inLayer 16 = .ok (.iconst 1, 1) := by decide +kernel
theorem dX8_inLayer_17 : decode cX8_inLayer 17 = .ok (.if_icmp .ne 26, 3) := by decide +kernel
theorem dX8_inLayer_20 : decode cX8_inLayer 20 = .ok (.iload_n 2, 1) := by decide +kernel
theorem dX8_inLayer_21 : decode cX8_inLayer 21 = .ok (.i2l, 1) := by decide +kernel
theorem dX8_inLayer_22 : decode cX8_inLayer 22 = .ok (.lconst 0, 1) := by decide +kernel
theorem dX8_inLayer_23 : decode cX8_inLayer 23 = .ok (.lconst 1, 1) := by decide +kernel
theorem dX8_inLayer_24 : decode cX8_inLayer 24 = .ok (.invokestatic 49, 3) := by decide +kernel
theorem dX8_inLayer_27 : decode cX8_inLayer 27 = .ok (.ifCond .eq 16, 3) := by decide +kernel
theorem dX8_inLayer_30 : decode cX8_inLayer 30 = .ok (.iload_n 3, 1) := by decide +kernel
theorem dX8_inLayer_31 : decode cX8_inLayer 31 = .ok (.iload 4, 2) := by decide +kernel
theorem dX8_inLayer_33 : decode cX8_inLayer 33 = .ok (.iload 5, 2) := by decide +kernel
theorem dX8_inLayer_35 : decode cX8_inLayer 35 = .ok (.iload 6, 2) := by decide +kernel
theorem dX8_inLayer_37 : decode cX8_inLayer 37 = .ok (.invokestatic 127, 3) := by decide +kernel
theorem dX8_inLayer_40 : decode cX8_inLayer 40 = .ok (.ifCond .ne 8, 3) := by decide +kernel
theorem dX8_inLayer_43 : decode cX8_inLayer 43 = .ok (.aload_n 0, 1) := by decide +kernel
theorem dX8_inLayer_44 : decode cX8_inLayer 44 = .ok (.invokevirtual 81, 3) := by decide +kernel
theorem dX8_inLayer_47 : decode cX8_inLayer 47 = .ok (.ireturn, 1) := by decide +kernel
theorem dX8_inLayer_48 : decode cX8_inLayer 48 = .ok (.iload_n 2, 1) := by decide +kernel
theorem dX8_inLayer_49 : decode cX8_inLayer 49 = .ok (.ifCond .ne 12, 3) := by decide +kernel
theorem dX8_inLayer_52 : decode cX8_inLayer 52 = .ok (.aload_n 0, 1) := by decide +kernel
theorem dX8_inLayer_53 : decode cX8_inLayer 53 = .ok (.getfield 7, 3) := by decide +kernel
theorem dX8_inLayer_56 : decode cX8_inLayer 56 = .ok (.iconst 0, 1) := by decide +kernel
theorem dX8_inLayer_57 : decode cX8_inLayer 57 = .ok (.iaload, 1) := by decide +kernel
theorem dX8_inLayer_58 : decode cX8_inLayer 58 = .ok (.goto 9, 3) := by decide +kernel
theorem dX8_inLayer_61 : decode cX8_inLayer 61 = .ok (.aload_n 0, 1) := by decide +kernel
theorem dX8_inLayer_62 : decode cX8_inLayer 62 = .ok (.getfield 7, 3) := by decide +kernel
theorem dX8_inLayer_65 : decode cX8_inLayer 65 = .ok (.iconst 1, 1) := by decide +kernel
theorem dX8_inLayer_66 : decode cX8_inLayer 66 = .ok (.iaload, 1) := by decide +kernel
theorem dX8_inLayer_67 : decode cX8_inLayer 67 = .ok (.istore 7, 2) := by decide +kernel
theorem dX8_inLayer_69 : decode cX8_inLayer 69 = .ok (.iload 7, 2) := by decide +kernel
theorem dX8_inLayer_71 : decode cX8_inLayer 71 = .ok (.iload_n 1, 1) := by decide +kernel
theorem dX8_inLayer_72 : decode cX8_inLayer 72 = .ok (.idiv, 1) := by decide +kernel
theorem dX8_inLayer_73 : decode cX8_inLayer 73 = .ok (.iconst 2, 1) := by decide +kernel
theorem dX8_inLayer_74 : decode cX8_inLayer 74 = .ok (.irem, 1) := by decide +kernel
theorem dX8_inLayer_75 : decode cX8_inLayer 75 = .ok (.ifCond .ne 6, 3) := by decide +kernel
theorem dX8_inLayer_78 : decode cX8_inLayer 78 = .ok (.ldc 152, 2) := by decide +kernel
theorem dX8_inLayer_80 : decode cX8_inLayer 80 = .ok (.ireturn, 1) := by decide +kernel
theorem dX8_inLayer_81 : decode cX8_inLayer 81 = .ok (.iload 7, 2) := by decide +kernel
theorem dX8_inLayer_83 : decode cX8_inLayer 83 = .ok (.iload_n 1, 1) := by decide +kernel
theorem dX8_inLayer_84 : decode cX8_inLayer 84 = .ok (.idiv, 1) := by decide +kernel
theorem dX8_inLayer_85 : decode cX8_inLayer 85 = .ok (.iconst 2, 1) := by decide +kernel
theorem dX8_inLayer_86 : decode cX8_inLayer 86 = .ok (.idiv, 1) := by decide +kernel
theorem dX8_inLayer_87 : decode cX8_inLayer 87 = .ok (.iload_n 1, 1) := by decide +kernel
theorem dX8_inLayer_88 : decode cX8_inLayer 88 = .ok (.imul, 1) := by decide +kernel
theorem dX8_inLayer_89 : decode cX8_inLayer 89 = .ok (.iconst 2, 1) := by decide +kernel
theorem dX8_inLayer_90 : decode cX8_inLayer 90 = .ok (.imul, 1) := by decide +kernel
theorem dX8_inLayer_91 : decode cX8_inLayer 91 = .ok (.istore 8, 2) := by decide +kernel
theorem dX8_inLayer_93 : decode cX8_inLayer 93 = .ok (.iconst 0, 1) := by decide +kernel
theorem dX8_inLayer_94 : decode cX8_inLayer 94 = .ok (.istore 9, 2) := by decide +kernel
theorem dX8_inLayer_96 : decode cX8_inLayer 96 = .ok (.iload 8, 2) := by decide +kernel
theorem dX8_inLayer_98 : decode cX8_inLayer 98 = .ok (.istore 10, 2) := by decide +kernel
theorem dX8_inLayer_100 : decode cX8_inLayer 100 = .ok (.iload 10, 2) := by decide +kernel
theorem dX8_inLayer_102 : decode cX8_inLayer 102 = .ok (.iload 8, 2) := by decide +kernel
theorem dX8_inLayer_104 : decode cX8_inLayer 104 = .ok (.iload_n 1, 1) := by decide +kernel
theorem dX8_inLayer_105 : decode cX8_inLayer 105 = .ok (.iadd, 1) := by decide +kernel
theorem dX8_inLayer_106 : decode cX8_inLayer 106 = .ok (.if_icmp .ge 53, 3) := by decide +kernel
theorem dX8_inLayer_109 : decode cX8_inLayer 109 = .ok (.iload 9, 2) := by decide +kernel
theorem dX8_inLayer_111 : decode cX8_inLayer 111 = .ok (.aload_n 0, 1) := by decide +kernel
theorem dX8_inLayer_112 : decode cX8_inLayer 112 = .ok (.iload_n 2, 1) := by decide +kernel
theorem dX8_inLayer_113 : decode cX8_inLayer 113 = .ok (.ifCond .ne 8, 3) := by decide +kernel
theorem dX8_inLayer_116 : decode cX8_inLayer 116 = .ok (.iload 10, 2) := by decide +kernel
theorem dX8_inLayer_118 : decode cX8_inLayer 118 = .ok (.goto 14, 3) := by decide +kernel
theorem dX8_inLayer_121 : decode cX8_inLayer 121 = .ok (.aload_n 0, 1) := by decide +kernel
theorem dX8_inLayer_122 : decode cX8_inLayer 122 = .ok (.getfield 7, 3) := by decide +kernel
theorem dX8_inLayer_125 : decode cX8_inLayer 125 = .ok (.sipush 616, 3) := by decide +kernel
theorem dX8_inLayer_128 : decode cX8_inLayer 128 = .ok (.iload 10, 2) := by decide +kernel
theorem dX8_inLayer_130 : decode cX8_inLayer 130 = .ok (.iadd, 1) := by decide +kernel
theorem dX8_inLayer_131 : decode cX8_inLayer 131 = .ok (.iaload, 1) := by decide +kernel
theorem dX8_inLayer_132 : decode cX8_inLayer 132 = .ok (.iload_n 3, 1) := by decide +kernel
theorem dX8_inLayer_133 : decode cX8_inLayer 133 = .ok (.iload 4, 2) := by decide +kernel
theorem dX8_inLayer_135 : decode cX8_inLayer 135 = .ok (.iload 5, 2) := by decide +kernel
theorem dX8_inLayer_137 : decode cX8_inLayer 137 = .ok (.iload 6, 2) := by decide +kernel
theorem dX8_inLayer_139 : decode cX8_inLayer 139 = .ok (.invokevirtual 120, 3) := by decide +kernel
theorem dX8_inLayer_142 : decode cX8_inLayer 142 = .ok (.ifCond .eq 7, 3) := by decide +kernel
theorem dX8_inLayer_145 : decode cX8_inLayer 145 = .ok (.iconst 1, 1) := by decide +kernel
theorem dX8_inLayer_146 : decode cX8_inLayer 146 = .ok (.goto 4, 3) := by decide +kernel
theorem dX8_inLayer_149 : decode cX8_inLayer 149 = .ok (.iconst 0, 1) := by decide +kernel
theorem dX8_inLayer_150 : decode cX8_inLayer 150 = .ok (.iadd, 1) := by decide +kernel
theorem dX8_inLayer_151 : decode cX8_inLayer 151 = .ok (.istore 9, 2) := by decide +kernel
theorem dX8_inLayer_153 : decode cX8_inLayer 153 = .ok (.iinc 10 1, 3) := by decide +kernel
theorem dX8_inLayer_156 : decode cX8_inLayer 156 = .ok (.goto (-56), 3) := by decide +kernel
theorem dX8_inLayer_159 : decode cX8_inLayer 159 = .ok (.iload 9, 2) := by decide +kernel
theorem dX8_inLayer_161 : decode cX8_inLayer 161 = .ok (.ireturn, 1) := by decide +kernel
theorem dX8_type_0 : decode cX8_type 0 = .ok (.iload_n 1, 1) := by decide +kernel
theorem dX8_type_1 : decode cX8_type 1 = .ok (.i2l, 1) := by decide +kernel
theorem dX8_type_2 : decode cX8_type 2 = .ok (.lconst 0, 1) := by decide +kernel
theorem dX8_type_3 : decode cX8_type 3 = .ok (.ldc2_w 186, 3) := by decide +kernel
theorem dX8_type_6 : decode cX8_type 6 = .ok (.invokestatic 49, 3) := by decide +kernel
theorem dX8_type_9 : decode cX8_type 9 = .ok (.ifCond .ne 8, 3) := by decide +kernel
theorem dX8_type_12 : decode cX8_type 12 = .ok (.aload_n 0, 1) := by decide +kernel
theorem dX8_type_13 : decode cX8_type 13 = .ok (.invokevirtual 81, 3) := by decide +kernel
theorem dX8_type_16 : decode cX8_type 16 = .ok (.ireturn, 1) := by decide +kernel
theorem dX8_type_17 : decode cX8_type 17 = .ok (.aload_n 0, 1) := by decide +kernel
theorem dX8_type_18 : decode cX8_type 18 = .ok (.getfield 188, 3) := by decide +kernel
theorem dX8_type_21 : decode cX8_type 21 = .ok (.bipush 120, 2) := by decide +kernel
theorem dX8_type_23 : decode cX8_type 23 = .ok (.if_icmp .ne 8, 3) := by decide +kernel
theorem dX8_type_26 : decode cX8_type 26 = .ok (.aload_n 0, 1) := by decide +kernel
theorem dX8_type_27 : decode cX8_type 27 = .ok (.invokevirtual 84, 3) := by decide +kernel
theorem dX8_type_30 : decode cX8_type 30 = .ok (.ireturn, 1) := by decide +kernel
theorem dX8_type_31 : decode cX8_type 31 = .ok (.aload_n 0, 1) := by decide +kernel
theorem dX8_type_32 : decode cX8_type 32 = .ok (.getfield 20, 3) := by decide +kernel
theorem dX8_type_35 : decode cX8_type 35 = .ok (.aload_n 0, 1) := by decide +kernel
theorem dX8_type_36 : decode cX8_type 36 = .ok (.getfield 188, 3) := by decide +kernel
theorem dX8_type_39 : decode cX8_type 39 = .ok (.iload_n 1, 1) := by decide +kernel
theorem dX8_type_40 : decode cX8_type 40 = .ok (.iastore, 1) := by decide +kernel
theorem dX8_type_41 : decode cX8_type 41 = .ok (.aload_n 0, 1) := by decide +kernel
theorem dX8_type_42 : decode cX8_type 42 = .ok (.dup, 1) := by decide +kernel
theorem dX8_type_43 : decode cX8_type 43 = .ok (.getfield 188, 3) := by decide +kernel
theorem dX8_type_46 : decode cX8_type 46 = .ok (.iconst 1, 1) := by decide +kernel
theorem dX8_type_47 : decode cX8_type 47 = .ok (.iadd, 1) := by decide +kernel
theorem dX8_type_48 : decode cX8_type 48 = .ok (.putfield 188, 3) := by decide +kernel
theorem dX8_type_51 : decode cX8_type 51 = .ok (.aload_n 0, 1) := by decide +kernel
theorem dX8_type_52 : decode cX8_type 52 = .ok (.getfield 188, 3) := by decide +kernel
theorem dX8_type_55 : decode cX8_type 55 = .ok (.ireturn, 1) := by decide +kernel
theorem dX8_clear_0 : decode cX8_clear 0 = .ok (.aload_n 0, 1) := by decide +kernel
theorem dX8_clear_1 : decode cX8_clear 1 = .ok (.getfield 188, 3) := by decide +kernel
theorem dX8_clear_4 : decode cX8_clear 4 = .ok (.istore_n 1, 1) := by decide +kernel
theorem dX8_clear_5 : decode cX8_clear 5 = .ok (.aload_n 0, 1) := by decide +kernel
theorem dX8_clear_6 : decode cX8_clear 6 = .ok (.iconst 0, 1) := by decide +kernel
theorem dX8_clear_7 : decode cX8_clear 7 = .ok (.putfield 188, 3) := by decide +kernel
theorem dX8_clear_10 : decode cX8_clear 10 = .ok (.iload_n 1, 1) := by decide +kernel
theorem dX8_clear_11 : decode cX8_clear 11 = .ok (.ireturn, 1) := by decide +kernel
theorem dX8_here_0 : decode cX8_here 0 = .ok (.aload_n 0, 1) := by decide +kernel
theorem dX8_here_1 : decode cX8_here 1 = .ok (.getfield 191, 3) := by decide +kernel
theorem dX8_here_4 : decode cX8_here 4 = .ok (.aload_n 0, 1) := by decide +kernel
theorem dX8_here_5 : decode cX8_here 5 = .ok (.getfield 188, 3) := by decide +kernel
theorem dX8_here_8 : decode cX8_here 8 = .ok (.if_icmp .ge 15, 3) := by decide +kernel
theorem dX8_here_11 : decode cX8_here 11 = .ok (.aload_n 0, 1) := by decide +kernel
theorem dX8_here_12 : decode cX8_here 12 = .ok (.getfield 20, 3) := by decide +kernel
theorem dX8_here_15 : decode cX8_here 15 = .ok (.aload_n 0, 1) := by decide +kernel
theorem dX8_here_16 : decode cX8_here 16 = .ok (.getfield 191, 3) := by decide +kernel
theorem dX8_here_19 : decode cX8_here 19 = .ok (.iaload, 1) := by decide +kernel
theorem dX8_here_20 : decode cX8_here 20 = .ok (.goto 4, 3) := by decide +kernel
theorem dX8_here_23 : decode cX8_here 23 = .ok (.iconst (-1), 1) := by decide +kernel
theorem dX8_here_24 : decode cX8_here 24 = .ok (.ireturn, 1) := by decide +kernel
theorem dX8_next_0 : decode cX8_next 0 = .ok (.aload_n 0, 1) := by decide +kernel
theorem dX8_next_1 : decode cX8_next 1 = .ok (.invokevirtual 194, 3) := by decide +kernel
theorem dX8_next_4 : decode cX8_next 4 = .ok (.bipush 32, 2) := by decide +kernel
theorem dX8_next_6 : decode cX8_next 6 = .ok (.if_icmp .ne 16, 3) := by decide +kernel
theorem dX8_next_9 : decode cX8_next 9 = .ok (.aload_n 0, 1) := by decide +kernel
theorem dX8_next_10 : decode cX8_next 10 = .ok (.dup, 1) := by decide +kernel
theorem dX8_next_11 : decode cX8_next 11 = .ok (.getfield 191, 3) := by decide +kernel
theorem dX8_next_14 : decode cX8_next 14 = .ok (.iconst 1, 1) := by decide +kernel
theorem dX8_next_15 : decode cX8_next 15 = .ok (.iadd, 1) := by decide +kernel
theorem dX8_next_16 : decode cX8_next 16 = .ok (.putfield 191, 3) := by decide +kernel
theorem dX8_next_19 : decode cX8_next 19 = .ok (.goto (-19), 3) := by decide +kernel
theorem dX8_next_22 : decode cX8_next 22 = .ok (.aload_n 0, 1) := by decide +kernel
theorem dX8_next_23 : decode cX8_next 23 = .ok (.aload_n 0, 1) := by decide +kernel
theorem dX8_next_24 : decode cX8_next 24 = .ok (.getfield 191, 3) := by decide +kernel
theorem dX8_next_27 : decode cX8_next 27 = .ok (.putfield 197, 3) := by decide +kernel
theorem dX8_next_30 : decode cX8_next 30 = .ok (.aload_n 0, 1) := by decide +kernel
theorem dX8_next_31 : decode cX8_next 31 = .ok (.invokevirtual 194, 3) := by decide +kernel
theorem dX8_next_34 : decode cX8_next 34 = .ok (.ireturn, 1) := by decide +kernel
theorem dX8_takes_0 : decode cX8_takes 0 = .ok (.aload_n 0, 1) := by decide +kernel
theorem dX8_takes_1 : decode cX8_takes 1 = .ok (.invokevirtual 200, 3) := by decide +kernel
theorem dX8_takes_4 : decode cX8_takes 4 = .ok (.iload_n 1, 1) := by decide +kernel
theorem dX8_takes_5 : decode cX8_takes 5 = .ok (.if_icmp .ne 7, 3) := by decide +kernel
theorem dX8_takes_8 : decode cX8_takes 8 = .ok (.iconst 1, 1) := by decide +kernel
theorem dX8_takes_9 : decode cX8_takes 9 = .ok (.goto 4, 3) := by decide +kernel
theorem dX8_takes_12 : decode cX8_takes 12 = .ok (.iconst 0, 1) := by decide +kernel
theorem dX8_takes_13 : decode cX8_takes 13 = .ok (.istore_n 2, 1) := by decide +kernel
theorem dX8_takes_14 : decode cX8_takes 14 = .ok (.aload_n 0, 1) := by decide +kernel
theorem dX8_takes_15 : decode cX8_takes 15 = .ok (.dup, 1) := by decide +kernel
theorem dX8_takes_16 : decode cX8_takes 16 = .ok (.getfield 191, 3) := by decide +kernel
theorem dX8_takes_19 : decode cX8_takes 19 = .ok (.iload_n 2, 1) := by decide +kernel
theorem dX8_takes_20 : decode cX8_takes 20 = .ok (.ifCond .eq 7, 3) := by decide +kernel
theorem dX8_takes_23 : decode cX8_takes 23 = .ok (.iconst 1, 1) := by decide +kernel
theorem dX8_takes_24 : decode cX8_takes 24 = .ok (.goto 4, 3) := by decide +kernel
theorem dX8_takes_27 : decode cX8_takes 27 = .ok (.iconst 0, 1) := by decide +kernel
theorem dX8_takes_28 : decode cX8_takes 28 = .ok (.iadd, 1) := by decide +kernel
theorem dX8_takes_29 : decode cX8_takes 29 = .ok (.putfield 191, 3) := by decide +kernel
theorem dX8_takes_32 : decode cX8_takes 32 = .ok (.iload_n 2, 1) := by decide +kernel
theorem dX8_takes_33 : decode cX8_takes 33 = .ok (.ireturn, 1) := by decide +kernel
theorem dX8_takesNumber_0 : decode cX8_takesNumber 0 = .ok (.aload_n 0, 1) := by decide +kernel
theorem dX8_takesNumber_1 : decode cX8_takesNumber 1 = .ok (.invokevirtual 200, 3) := by decide +kernel
end
section
theorem dX8_takesNumber_4 : decode cX8_takesNumber 4 = .ok (.bipush 45, 2) := by decide +kernel
theorem dX8_takesNumber_6 : decode cX8_takesNumber 6 = .ok (.if_icmp .ne 7, 3) := by decide +kernel
theorem dX8_takesNumber_9 : decode cX8_takesNumber 9 = .ok (.iconst 1, 1) := by decide +kernel
theorem dX8_takesNumber_10 : decode cX8_takesNumber 10 = .ok (.goto 4, 3) := by decide +kernel
theorem dX8_takesNumber_13 : decode cX8_takesNumber 13 = .ok (.iconst 0, 1) := by decide +kernel
theorem dX8_takesNumber_14 : decode cX8_takesNumber 14 = .ok (.istore_n 2, 1) := by decide +kernel
theorem dX8_takesNumber_15 : decode cX8_takesNumber 15 = .ok (.aload_n 0, 1) := by decide +kernel
theorem dX8_takesNumber_16 : decode cX8_takesNumber 16 = .ok (.getfield 191, 3) := by decide +kernel
theorem dX8_takesNumber_19 : decode cX8_takesNumber 19 = .ok (.istore_n 3, 1) := by decide +kernel
theorem dX8_takesNumber_20 : decode cX8_takesNumber 20 = .ok (.aload_n 0, 1) := by decide +kernel
theorem dX8_takesNumber_21 : decode cX8_takesNumber 21 = .ok (.dup, 1) := by decide +kernel
theorem dX8_takesNumber_22 : decode cX8_takesNumber 22 = .ok (.getfield 191, 3) := by decide +kernel
theorem dX8_takesNumber_25 : decode cX8_takesNumber 25 = .ok (.iload_n 2, 1) := by decide +kernel
theorem dX8_takesNumber_26 : decode cX8_takesNumber 26 = .ok (.ifCond .eq 7, 3) := by decide +kernel
theorem dX8_takesNumber_29 : decode cX8_takesNumber 29 = .ok (.iconst 1, 1) := by decide +kernel
theorem dX8_takesNumber_30 : decode cX8_takesNumber 30 = .ok (.goto 4, 3) := by decide +kernel
theorem dX8_takesNumber_33 : decode cX8_takesNumber 33 = .ok (.iconst 0, 1) := by decide +kernel
theorem dX8_takesNumber_34 : decode cX8_takesNumber 34 = .ok (.iadd, 1) := by decide +kernel
theorem dX8_takesNumber_35 : decode cX8_takesNumber 35 = .ok (.putfield 191, 3) := by decide +kernel
theorem dX8_takesNumber_38 : decode cX8_takesNumber 38 = .ok (.iconst 0, 1) := by decide +kernel
theorem dX8_takesNumber_39 : decode cX8_takesNumber 39 = .ok (.istore 4, 2) := by decide +kernel
theorem dX8_takesNumber_41 : decode cX8_takesNumber 41 = .ok (.aload_n 0, 1) := by decide +kernel
theorem dX8_takesNumber_42 : decode cX8_takesNumber 42 = .ok (.iconst 0, 1) := by decide +kernel
theorem dX8_takesNumber_43 : decode cX8_takesNumber 43 = .ok (.putfield 203, 3) := by decide +kernel
theorem dX8_takesNumber_46 : decode cX8_takesNumber 46 = .ok (.aload_n 0, 1) := by decide +kernel
theorem dX8_takesNumber_47 : decode cX8_takesNumber 47 = .ok (.invokevirtual 194, 3) := by decide +kernel
theorem dX8_takesNumber_50 : decode cX8_takesNumber 50 = .ok (.i2l, 1) := by decide +kernel
theorem dX8_takesNumber_51 : decode cX8_takesNumber 51 = .ok (.ldc2_w 206, 3) := by decide +kernel
theorem dX8_takesNumber_54 : decode cX8_takesNumber 54 = .ok (.ldc2_w 208, 3) := by decide +kernel
theorem dX8_takesNumber_57 : decode cX8_takesNumber 57 = .ok (.invokestatic 49, 3) := by decide +kernel
theorem dX8_takesNumber_60 : decode cX8_takesNumber 60 = .ok (.ifCond .eq 51, 3) := by decide +kernel
theorem dX8_takesNumber_63 : decode cX8_takesNumber 63 = .ok (.aload_n 0, 1) := by decide +kernel
theorem dX8_takesNumber_64 : decode cX8_takesNumber 64 = .ok (.iload 4, 2) := by decide +kernel
theorem dX8_takesNumber_66 : decode cX8_takesNumber 66 = .ok (.iconst 4, 1) := by decide +kernel
theorem dX8_takesNumber_67 : decode cX8_takesNumber 67 = .ok (.if_icmp .ge 21, 3) := by decide +kernel
theorem dX8_takesNumber_70 : decode cX8_takesNumber 70 = .ok (.bipush 10, 2) := by decide +kernel
theorem dX8_takesNumber_72 : decode cX8_takesNumber 72 = .ok (.aload_n 0, 1) := by decide +kernel
theorem dX8_takesNumber_73 : decode cX8_takesNumber 73 = .ok (.getfield 203, 3) := by decide +kernel
theorem dX8_takesNumber_76 : decode cX8_takesNumber 76 = .ok (.imul, 1) := by decide +kernel
theorem dX8_takesNumber_77 : decode cX8_takesNumber 77 = .ok (.aload_n 0, 1) := by decide +kernel
theorem dX8_takesNumber_78 : decode cX8_takesNumber 78 = .ok (.invokevirtual 194, 3) := by decide +kernel
theorem dX8_takesNumber_81 : decode cX8_takesNumber 81 = .ok (.iadd, 1) := by decide +kernel
theorem dX8_takesNumber_82 : decode cX8_takesNumber 82 = .ok (.bipush 48, 2) := by decide +kernel
theorem dX8_takesNumber_84 : decode cX8_takesNumber 84 = .ok (.isub, 1) := by decide +kernel
theorem dX8_takesNumber_85 : decode cX8_takesNumber 85 = .ok (.goto 7, 3) := by decide +kernel
theorem dX8_takesNumber_88 : decode cX8_takesNumber 88 = .ok (.aload_n 0, 1) := by decide +kernel
theorem dX8_takesNumber_89 : decode cX8_takesNumber 89 = .ok (.getfield 203, 3) := by decide +kernel
theorem dX8_takesNumber_92 : decode cX8_takesNumber 92 = .ok (.putfield 203, 3) := by decide +kernel
theorem dX8_takesNumber_95 : decode cX8_takesNumber 95 = .ok (.iinc 4 1, 3) := by decide +kernel
theorem dX8_takesNumber_98 : decode cX8_takesNumber 98 = .ok (.aload_n 0, 1) := by decide +kernel
theorem dX8_takesNumber_99 : decode cX8_takesNumber 99 = .ok (.dup, 1) := by decide +kernel
theorem dX8_takesNumber_100 : decode cX8_takesNumber 100 = .ok (.getfield 191, 3) := by decide +kernel
theorem dX8_takesNumber_103 : decode cX8_takesNumber 103 = .ok (.iconst 1, 1) := by decide +kernel
theorem dX8_takesNumber_104 : decode cX8_takesNumber 104 = .ok (.iadd, 1) := by decide +kernel
theorem dX8_takesNumber_105 : decode cX8_takesNumber 105 = .ok (.putfield 191, 3) := by decide +kernel
theorem dX8_takesNumber_108 : decode cX8_takesNumber 108 = .ok (.goto (-62), 3) := by decide +kernel
theorem dX8_takesNumber_111 : decode cX8_takesNumber 111 = .ok (.aload_n 0, 1) := by decide +kernel
theorem dX8_takesNumber_112 : decode cX8_takesNumber 112 = .ok (.iload_n 2, 1) := by decide +kernel
theorem dX8_takesNumber_113 : decode cX8_takesNumber 113 = .ok (.ifCond .eq 11, 3) := by decide +kernel
theorem dX8_takesNumber_116 : decode cX8_takesNumber 116 = .ok (.aload_n 0, 1) := by decide +kernel
theorem dX8_takesNumber_117 : decode cX8_takesNumber 117 = .ok (.getfield 203, 3) := by decide +kernel
theorem dX8_takesNumber_120 : decode cX8_takesNumber 120 = .ok (.ineg, 1) := by decide +kernel
theorem dX8_takesNumber_121 : decode cX8_takesNumber 121 = .ok (.goto 7, 3) := by decide +kernel
theorem dX8_takesNumber_124 : decode cX8_takesNumber 124 = .ok (.aload_n 0, 1) := by decide +kernel
theorem dX8_takesNumber_125 : decode cX8_takesNumber 125 = .ok (.getfield 203, 3) := by decide +kernel
theorem dX8_takesNumber_128 : decode cX8_takesNumber 128 = .ok (.putfield 203, 3) := by decide +kernel
theorem dX8_takesNumber_131 : decode cX8_takesNumber 131 = .ok (.aload_n 0, 1) := by decide +kernel
theorem dX8_takesNumber_132 : decode cX8_takesNumber 132 = .ok (.iload 4, 2) := by decide +kernel
theorem dX8_takesNumber_134 : decode cX8_takesNumber 134 = .ok (.ifCond .ne 10, 3) := by decide +kernel
theorem dX8_takesNumber_137 : decode cX8_takesNumber 137 = .ok (.aload_n 0, 1) := by decide +kernel
theorem dX8_takesNumber_138 : decode cX8_takesNumber 138 = .ok (.getfield 191, 3) := by decide +kernel
theorem dX8_takesNumber_141 : decode cX8_takesNumber 141 = .ok (.goto 4, 3) := by decide +kernel
theorem dX8_takesNumber_144 : decode cX8_takesNumber 144 = .ok (.iload_n 3, 1) := by decide +kernel
theorem dX8_takesNumber_145 : decode cX8_takesNumber 145 = .ok (.putfield 197, 3) := by decide +kernel
theorem dX8_takesNumber_148 : decode cX8_takesNumber 148 = .ok (.iload 4, 2) := by decide +kernel
theorem dX8_takesNumber_150 : decode cX8_takesNumber 150 = .ok (.i2l, 1) := by decide +kernel
theorem dX8_takesNumber_151 : decode cX8_takesNumber 151 = .ok (.lconst 1, 1) := by decide +kernel
theorem dX8_takesNumber_152 : decode cX8_takesNumber 152 = .ok (.ldc2_w 146, 3) := by decide +kernel
theorem dX8_takesNumber_155 : decode cX8_takesNumber 155 = .ok (.invokestatic 49, 3) := by decide +kernel
theorem dX8_takesNumber_158 : decode cX8_takesNumber 158 = .ok (.ifCond .eq 23, 3) := by decide +kernel
theorem dX8_takesNumber_161 : decode cX8_takesNumber 161 = .ok (.aload_n 0, 1) := by decide +kernel
theorem dX8_takesNumber_162 : decode cX8_takesNumber 162 = .ok (.getfield 203, 3) := by decide +kernel
theorem dX8_takesNumber_165 : decode cX8_takesNumber 165 = .ok (.i2l, 1) := by decide +kernel
theorem dX8_takesNumber_166 : decode cX8_takesNumber 166 = .ok (.iload_n 1, 1) := by decide +kernel
theorem dX8_takesNumber_167 : decode cX8_takesNumber 167 = .ok (.i2l, 1) := by decide +kernel
theorem dX8_takesNumber_168 : decode cX8_takesNumber 168 = .ok (.ldc2_w 47, 3) := by decide +kernel
theorem dX8_takesNumber_171 : decode cX8_takesNumber 171 = .ok (.invokestatic 49, 3) := by decide +kernel
theorem dX8_takesNumber_174 : decode cX8_takesNumber 174 = .ok (.ifCond .eq 7, 3) := by decide +kernel
theorem dX8_takesNumber_177 : decode cX8_takesNumber 177 = .ok (.iconst 1, 1) := by decide +kernel
theorem dX8_takesNumber_178 : decode cX8_takesNumber 178 = .ok (.goto 4, 3) := by decide +kernel
theorem dX8_takesNumber_181 : decode cX8_takesNumber 181 = .ok (.iconst 0, 1) := by decide +kernel
theorem dX8_takesNumber_182 : decode cX8_takesNumber 182 = .ok (.ireturn, 1) := by decide +kernel
theorem dX8_puts_0 : decode cX8_puts 0 = .ok (.aload_n 0, 1) := by decide +kernel
theorem dX8_puts_1 : decode cX8_puts 1 = .ok (.getfield 13, 3) := by decide +kernel
theorem dX8_puts_4 : decode cX8_puts 4 = .ok (.sipush 548, 3) := by decide +kernel
theorem dX8_puts_7 : decode cX8_puts 7 = .ok (.aload_n 0, 1) := by decide +kernel
theorem dX8_puts_8 : decode cX8_puts 8 = .ok (.getfield 13, 3) := by decide +kernel
theorem dX8_puts_11 : decode cX8_puts 11 = .ok (.sipush 546, 3) := by decide +kernel
theorem dX8_puts_14 : decode cX8_puts 14 = .ok (.iaload, 1) := by decide +kernel
theorem dX8_puts_15 : decode cX8_puts 15 = .ok (.iadd, 1) := by decide +kernel
theorem dX8_puts_16 : decode cX8_puts 16 = .ok (.iload_n 1, 1) := by decide +kernel
theorem dX8_puts_17 : decode cX8_puts 17 = .ok (.iastore, 1) := by decide +kernel
theorem dX8_puts_18 : decode cX8_puts 18 = .ok (.aload_n 0, 1) := by decide +kernel
theorem dX8_puts_19 : decode cX8_puts 19 = .ok (.getfield 13, 3) := by decide +kernel
theorem dX8_puts_22 : decode cX8_puts 22 = .ok (.sipush 546, 3) := by decide +kernel
theorem dX8_puts_25 : decode cX8_puts 25 = .ok (.dup2, 1) := by decide +kernel
theorem dX8_puts_26 : decode cX8_puts 26 = .ok (.iaload, 1) := by decide +kernel
theorem dX8_puts_27 : decode cX8_puts 27 = .ok (.iconst 1, 1) := by decide +kernel
theorem dX8_puts_28 : decode cX8_puts 28 = .ok (.iadd, 1) := by decide +kernel
theorem dX8_puts_29 : decode cX8_puts 29 = .ok (.iastore, 1) := by decide +kernel
theorem dX8_puts_30 : decode cX8_puts 30 = .ok (.return_, 1) := by decide +kernel
theorem dX8_takesRect_0 : decode cX8_takesRect 0 = .ok (.sipush 668, 3) := by decide +kernel
theorem dX8_takesRect_3 : decode cX8_takesRect 3 = .ok (.iconst 4, 1) := by decide +kernel
theorem dX8_takesRect_4 : decode cX8_takesRect 4 = .ok (.aload_n 0, 1) := by decide +kernel
theorem dX8_takesRect_5 : decode cX8_takesRect 5 = .ok (.getfield 13, 3) := by decide +kernel
theorem dX8_takesRect_8 : decode cX8_takesRect 8 = .ok (.sipush 547, 3) := by decide +kernel
theorem dX8_takesRect_11 : decode cX8_takesRect 11 = .ok (.iaload, 1) := by decide +kernel
theorem dX8_takesRect_12 : decode cX8_takesRect 12 = .ok (.imul, 1) := by decide +kernel
theorem dX8_takesRect_13 : decode cX8_takesRect 13 = .ok (.iadd, 1) := by decide +kernel
theorem dX8_takesRect_14 : decode cX8_takesRect 14 = .ok (.istore_n 1, 1) := by decide +kernel
theorem dX8_takesRect_15 : decode cX8_takesRect 15 = .ok (.iconst 0, 1) := by decide +kernel
theorem dX8_takesRect_16 : decode cX8_takesRect 16 = .ok (.istore_n 2, 1) := by decide +kernel
theorem dX8_takesRect_17 : decode cX8_takesRect 17 = .ok (.iload_n 2, 1) := by decide +kernel
theorem dX8_takesRect_18 : decode cX8_takesRect 18 = .ok (.iconst 4, 1) := by decide +kernel
theorem dX8_takesRect_19 : decode cX8_takesRect 19 = .ok (.if_icmp .ge 80, 3) := by decide +kernel
theorem dX8_takesRect_22 : decode cX8_takesRect 22 = .ok (.aload_n 0, 1) := by decide +kernel
theorem dX8_takesRect_23 : decode cX8_takesRect 23 = .ok (.iload_n 2, 1) := by decide +kernel
theorem dX8_takesRect_24 : decode cX8_takesRect 24 = .ok (.ifCond .ne 8, 3) := by decide +kernel
theorem dX8_takesRect_27 : decode cX8_takesRect 27 = .ok (.bipush 91, 2) := by decide +kernel
theorem dX8_takesRect_29 : decode cX8_takesRect 29 = .ok (.goto 5, 3) := by decide +kernel
theorem dX8_takesRect_32 : decode cX8_takesRect 32 = .ok (.bipush 44, 2) := by decide +kernel
theorem dX8_takesRect_34 : decode cX8_takesRect 34 = .ok (.invokevirtual 210, 3) := by decide +kernel
theorem dX8_takesRect_37 : decode cX8_takesRect 37 = .ok (.ifCond .eq 36, 3) := by decide +kernel
theorem dX8_takesRect_40 : decode cX8_takesRect 40 = .ok (.aload_n 0, 1) := by decide +kernel
theorem dX8_takesRect_41 : decode cX8_takesRect 41 = .ok (.iload_n 2, 1) := by decide +kernel
theorem dX8_takesRect_42 : decode cX8_takesRect 42 = .ok (.iconst 2, 1) := by decide +kernel
theorem dX8_takesRect_43 : decode cX8_takesRect 43 = .ok (.irem, 1) := by decide +kernel
theorem dX8_takesRect_44 : decode cX8_takesRect 44 = .ok (.ifCond .ne 9, 3) := by decide +kernel
theorem dX8_takesRect_47 : decode cX8_takesRect 47 = .ok (.sipush (-500), 3) := by decide +kernel
theorem dX8_takesRect_50 : decode cX8_takesRect 50 = .ok (.goto 13, 3) := by decide +kernel
theorem dX8_takesRect_53 : decode cX8_takesRect 53 = .ok (.aload_n 0, 1) := by decide +kernel
theorem dX8_takesRect_54 : decode cX8_takesRect 54 = .ok (.getfield 13, 3) := by decide +kernel
theorem dX8_takesRect_57 : decode cX8_takesRect 57 = .ok (.iload_n 1, 1) := by decide +kernel
theorem dX8_takesRect_58 : decode cX8_takesRect 58 = .ok (.iload_n 2, 1) := by decide +kernel
theorem dX8_takesRect_59 : decode cX8_takesRect 59 = .ok (.iadd, 1) := by decide +kernel
theorem dX8_takesRect_60 : decode cX8_takesRect 60 = .ok (.iconst 1, 1) := by decide +kernel
theorem dX8_takesRect_61 : decode cX8_takesRect 61 = .ok (.isub, 1) := by decide +kernel
theorem dX8_takesRect_62 : decode cX8_takesRect 62 = .ok (.iaload, 1) := by decide +kernel
theorem dX8_takesRect_63 : decode cX8_takesRect 63 = .ok (.invokevirtual 213, 3) := by decide +kernel
theorem dX8_takesRect_66 : decode cX8_takesRect 66 = .ok (.ifCond .eq 7, 3) := by decide +kernel
theorem dX8_takesRect_69 : decode cX8_takesRect 69 = .ok (.iconst 1, 1) := by decide +kernel
theorem dX8_takesRect_70 : decode cX8_takesRect 70 = .ok (.goto 4, 3) := by decide +kernel
theorem dX8_takesRect_73 : decode cX8_takesRect 73 = .ok (.iconst 0, 1) := by decide +kernel
theorem dX8_takesRect_74 : decode cX8_takesRect 74 = .ok (.istore_n 3, 1) := by decide +kernel
theorem dX8_takesRect_75 : decode cX8_takesRect 75 = .ok (.iload_n 3, 1) := by decide +kernel
theorem dX8_takesRect_76 : decode cX8_takesRect 76 = .ok (.ifCond .ne 5, 3) := by decide +kernel
theorem dX8_takesRect_79 : decode cX8_takesRect 79 = .ok (.iconst 0, 1) := by decide +kernel
theorem dX8_takesRect_80 : decode cX8_takesRect 80 = .ok (.ireturn, 1) := by decide +kernel
theorem dX8_takesRect_81 : decode cX8_takesRect 81 = .ok (.aload_n 0, 1) := by decide +kernel
theorem dX8_takesRect_82 : decode cX8_takesRect 82 = .ok (.getfield 13, 3) := by decide +kernel
theorem dX8_takesRect_85 : decode cX8_takesRect 85 = .ok (.iload_n 1, 1) := by decide +kernel
theorem dX8_takesRect_86 : decode cX8_takesRect 86 = .ok (.iload_n 2, 1) := by decide +kernel
theorem dX8_takesRect_87 : decode cX8_takesRect 87 = .ok (.iadd, 1) := by decide +kernel
theorem dX8_takesRect_88 : decode cX8_takesRect 88 = .ok (.aload_n 0, 1) := by decide +kernel
theorem dX8_takesRect_89 : decode cX8_takesRect 89 = .ok (.getfield 203, 3) := by decide +kernel
theorem dX8_takesRect_92 : decode cX8_takesRect 92 = .ok (.iastore, 1) := by decide +kernel
theorem dX8_takesRect_93 : decode cX8_takesRect 93 = .ok (.iinc 2 1, 3) := by decide +kernel
theorem dX8_takesRect_96 : decode cX8_takesRect 96 = .ok (.goto (-79), 3) := by decide +kernel
theorem dX8_takesRect_99 : decode cX8_takesRect 99 = .ok (.aload_n 0, 1) := by decide +kernel
theorem dX8_takesRect_100 : decode cX8_takesRect 100 = .ok (.bipush 93, 2) := by decide +kernel
theorem dX8_takesRect_102 : decode cX8_takesRect 102 = .ok (.invokevirtual 210, 3) := by decide +kernel
theorem dX8_takesRect_105 : decode cX8_takesRect 105 = .ok (.ifCond .ne 5, 3) := by decide +kernel
theorem dX8_takesRect_108 : decode cX8_takesRect 108 = .ok (.iconst 0, 1) := by decide +kernel
theorem dX8_takesRect_109 : decode cX8_takesRect 109 = .ok (.ireturn, 1) := by decide +kernel
theorem dX8_takesRect_110 : decode cX8_takesRect 110 = .ok (.aload_n 0, 1) := by decide +kernel
theorem dX8_takesRect_111 : decode cX8_takesRect 111 = .ok (.aload_n 0, 1) := by decide +kernel
theorem dX8_takesRect_112 : decode cX8_takesRect 112 = .ok (.getfield 13, 3) := by decide +kernel
theorem dX8_takesRect_115 : decode cX8_takesRect 115 = .ok (.sipush 547, 3) := by decide +kernel
theorem dX8_takesRect_118 : decode cX8_takesRect 118 = .ok (.iaload, 1) := by decide +kernel
theorem dX8_takesRect_119 : decode cX8_takesRect 119 = .ok (.invokevirtual 216, 3) := by decide +kernel
theorem dX8_takesRect_122 : decode cX8_takesRect 122 = .ok (.aload_n 0, 1) := by decide +kernel
theorem dX8_takesRect_123 : decode cX8_takesRect 123 = .ok (.getfield 13, 3) := by decide +kernel
theorem dX8_takesRect_126 : decode cX8_takesRect 126 = .ok (.sipush 547, 3) := by decide +kernel
theorem dX8_takesRect_129 : decode cX8_takesRect 129 = .ok (.dup2, 1) := by decide +kernel
theorem dX8_takesRect_130 : decode cX8_takesRect 130 = .ok (.iaload, 1) := by decide +kernel
theorem dX8_takesRect_131 : decode cX8_takesRect 131 = .ok (.iconst 1, 1) := by decide +kernel
theorem dX8_takesRect_132 : decode cX8_takesRect 132 = .ok (.iadd, 1) := by decide +kernel
theorem dX8_takesRect_133 : decode cX8_takesRect 133 = .ok (.iastore, 1) := by decide +kernel
theorem dX8_takesRect_134 : decode cX8_takesRect 134 = .ok (.iconst 1, 1) := by decide +kernel
theorem dX8_takesRect_135 : decode cX8_takesRect 135 = .ok (.ireturn, 1) := by decide +kernel
theorem dX8_notes_0 : decode cX8_notes 0 = .ok (.aload_n 0, 1) := by decide +kernel
theorem dX8_notes_1 : decode cX8_notes 1 = .ok (.getfield 219, 3) := by decide +kernel
theorem dX8_notes_4 : decode cX8_notes 4 = .ok (.ifCond .le 38, 3) := by decide +kernel
theorem dX8_notes_7 : decode cX8_notes 7 = .ok (.aload_n 0, 1) := by decide +kernel
theorem dX8_notes_8 : decode cX8_notes 8 = .ok (.getfield 36, 3) := by decide +kernel
theorem dX8_notes_11 : decode cX8_notes 11 = .ok (.aload_n 0, 1) := by decide +kernel
theorem dX8_notes_12 : decode cX8_notes 12 = .ok (.getfield 219, 3) := by decide +kernel
theorem dX8_notes_15 : decode cX8_notes 15 = .ok (.iconst 1, 1) := by decide +kernel
theorem dX8_notes_16 : decode cX8_notes 16 = .ok (.isub, 1) := by decide +kernel
theorem dX8_notes_17 : decode cX8_notes 17 = .ok (.iaload, 1) := by decide +kernel
theorem dX8_notes_18 : decode cX8_notes 18 = .ok (.bipush (-4), 2) := by decide +kernel
theorem dX8_notes_20 : decode cX8_notes 20 = .ok (.if_icmp .ne 22, 3) := by decide +kernel
theorem dX8_notes_23 : decode cX8_notes 23 = .ok (.aload_n 0, 1) := by decide +kernel
theorem dX8_notes_24 : decode cX8_notes 24 = .ok (.dup, 1) := by decide +kernel
theorem dX8_notes_25 : decode cX8_notes 25 = .ok (.getfield 219, 3) := by decide +kernel
theorem dX8_notes_28 : decode cX8_notes 28 = .ok (.iconst 1, 1) := by decide +kernel
theorem dX8_notes_29 : decode cX8_notes 29 = .ok (.isub, 1) := by decide +kernel
theorem dX8_notes_30 : decode cX8_notes 30 = .ok (.putfield 219, 3) := by decide +kernel
theorem dX8_notes_33 : decode cX8_notes 33 = .ok (.aload_n 0, 1) := by decide +kernel
theorem dX8_notes_34 : decode cX8_notes 34 = .ok (.bipush (-4), 2) := by decide +kernel
theorem dX8_notes_36 : decode cX8_notes 36 = .ok (.invokevirtual 216, 3) := by decide +kernel
theorem dX8_notes_39 : decode cX8_notes 39 = .ok (.goto (-39), 3) := by decide +kernel
theorem dX8_notes_42 : decode cX8_notes 42 = .ok (.return_, 1) := by decide +kernel
theorem dX8_does_0 : decode cX8_does 0 = .ok (.aload_n 0, 1) := by decide +kernel
theorem dX8_does_1 : decode cX8_does 1 = .ok (.getfield 219, 3) := by decide +kernel
theorem dX8_does_4 : decode cX8_does 4 = .ok (.ifCond .le 80, 3) := by decide +kernel
theorem dX8_does_7 : decode cX8_does 7 = .ok (.aload_n 0, 1) := by decide +kernel
theorem dX8_does_8 : decode cX8_does 8 = .ok (.getfield 36, 3) := by decide +kernel
theorem dX8_does_11 : decode cX8_does 11 = .ok (.aload_n 0, 1) := by decide +kernel
theorem dX8_does_12 : decode cX8_does 12 = .ok (.getfield 219, 3) := by decide +kernel
theorem dX8_does_15 : decode cX8_does 15 = .ok (.iconst 1, 1) := by decide +kernel
theorem dX8_does_16 : decode cX8_does 16 = .ok (.isub, 1) := by decide +kernel
theorem dX8_does_17 : decode cX8_does 17 = .ok (.iaload, 1) := by decide +kernel
theorem dX8_does_18 : decode cX8_does 18 = .ok (.bipush (-3), 2) := by decide +kernel
theorem dX8_does_20 : decode cX8_does 20 = .ok (.if_icmp .eq 38, 3) := by decide +kernel
theorem dX8_does_23 : decode cX8_does 23 = .ok (.iload_n 1, 1) := by decide +kernel
theorem dX8_does_24 : decode cX8_does 24 = .ok (.ifCond .ne 60, 3) := by decide +kernel
theorem dX8_does_27 : decode cX8_does 27 = .ok (.aload_n 0, 1) := by decide +kernel
theorem dX8_does_28 : decode cX8_does 28 = .ok (.getfield 36, 3) := by decide +kernel
theorem dX8_does_31 : decode cX8_does 31 = .ok (.aload_n 0, 1) := by decide +kernel
theorem dX8_does_32 : decode cX8_does 32 = .ok (.getfield 219, 3) := by decide +kernel
theorem dX8_does_35 : decode cX8_does 35 = .ok (.iconst 1, 1) := by decide +kernel
theorem dX8_does_36 : decode cX8_does 36 = .ok (.isub, 1) := by decide +kernel
theorem dX8_does_37 : decode cX8_does 37 = .ok (.iaload, 1) := by decide +kernel
theorem dX8_does_38 : decode cX8_does 38 = .ok (.iconst (-1), 1) := by decide +kernel
theorem dX8_does_39 : decode cX8_does 39 = .ok (.if_icmp .eq 19, 3) := by decide +kernel
theorem dX8_does_42 : decode cX8_does 42 = .ok (.aload_n 0, 1) := by decide +kernel
theorem dX8_does_43 : decode cX8_does 43 = .ok (.getfield 36, 3) := by decide +kernel
theorem dX8_does_46 : decode cX8_does 46 = .ok (.aload_n 0, 1) := by decide +kernel
theorem dX8_does_47 : decode cX8_does 47 = .ok (.getfield 219, 3) := by decide +kernel
theorem dX8_does_50 : decode cX8_does 50 = .ok (.iconst 1, 1) := by decide +kernel
theorem dX8_does_51 : decode cX8_does 51 = .ok (.isub, 1) := by decide +kernel
theorem dX8_does_52 : decode cX8_does 52 = .ok (.iaload, 1) := by decide +kernel
theorem dX8_does_53 : decode cX8_does 53 = .ok (.bipush (-2), 2) := by decide +kernel
theorem dX8_does_55 : decode cX8_does 55 = .ok (.if_icmp .ne 29, 3) := by decide +kernel
theorem dX8_does_58 : decode cX8_does 58 = .ok (.aload_n 0, 1) := by decide +kernel
theorem dX8_does_59 : decode cX8_does 59 = .ok (.dup, 1) := by decide +kernel
theorem dX8_does_60 : decode cX8_does 60 = .ok (.getfield 219, 3) := by decide +kernel
theorem dX8_does_63 : decode cX8_does 63 = .ok (.iconst 1, 1) := by decide +kernel
theorem dX8_does_64 : decode cX8_does 64 = .ok (.isub, 1) := by decide +kernel
theorem dX8_does_65 : decode cX8_does 65 = .ok (.putfield 219, 3) := by decide +kernel
theorem dX8_does_68 : decode cX8_does 68 = .ok (.aload_n 0, 1) := by decide +kernel
theorem dX8_does_69 : decode cX8_does 69 = .ok (.aload_n 0, 1) := by decide +kernel
theorem dX8_does_70 : decode cX8_does 70 = .ok (.getfield 36, 3) := by decide +kernel
theorem dX8_does_73 : decode cX8_does 73 = .ok (.aload_n 0, 1) := by decide +kernel
theorem dX8_does_74 : decode cX8_does 74 = .ok (.getfield 219, 3) := by decide +kernel
theorem dX8_does_77 : decode cX8_does 77 = .ok (.iaload, 1) := by decide +kernel
theorem dX8_does_78 : decode cX8_does 78 = .ok (.invokevirtual 216, 3) := by decide +kernel
theorem dX8_does_81 : decode cX8_does 81 = .ok (.goto (-81), 3) := by decide +kernel
theorem dX8_does_84 : decode cX8_does 84 = .ok (.return_, 1) := by decide +kernel
theorem dX8_deep_0 : decode cX8_deep 0 = .ok (.iconst 0, 1) := by decide +kernel
theorem dX8_deep_1 : decode cX8_deep 1 = .ok (.istore_n 1, 1) := by decide +kernel
theorem dX8_deep_2 : decode cX8_deep 2 = .ok (.iconst 0, 1) := by decide +kernel
theorem dX8_deep_3 : decode cX8_deep 3 = .ok (.istore_n 2, 1) := by decide +kernel
theorem dX8_deep_4 : decode cX8_deep 4 = .ok (.iload_n 2, 1) := by decide +kernel
theorem dX8_deep_5 : decode cX8_deep 5 = .ok (.aload_n 0, 1) := by decide +kernel
theorem dX8_deep_6 : decode cX8_deep 6 = .ok (.getfield 219, 3) := by decide +kernel
theorem dX8_deep_9 : decode cX8_deep 9 = .ok (.if_icmp .ge 39, 3) := by decide +kernel
theorem dX8_deep_12 : decode cX8_deep 12 = .ok (.iload_n 1, 1) := by decide +kernel
theorem dX8_deep_13 : decode cX8_deep 13 = .ok (.aload_n 0, 1) := by decide +kernel
theorem dX8_deep_14 : decode cX8_deep 14 = .ok (.getfield 36, 3) := by decide +kernel
theorem dX8_deep_17 : decode cX8_deep 17 = .ok (.iload_n 2, 1) := by decide +kernel
theorem dX8_deep_18 : decode cX8_deep 18 = .ok (.iaload, 1) := by decide +kernel
theorem dX8_deep_19 : decode cX8_deep 19 = .ok (.bipush (-4), 2) := by decide +kernel
theorem dX8_deep_21 : decode cX8_deep 21 = .ok (.if_icmp .eq 14, 3) := by decide +kernel
theorem dX8_deep_24 : decode cX8_deep 24 = .ok (.aload_n 0, 1) := by decide +kernel
theorem dX8_deep_25 : decode cX8_deep 25 = .ok (.getfield 36, 3) := by decide +kernel
theorem dX8_deep_28 : decode cX8_deep 28 = .ok (.iload_n 2, 1) := by decide +kernel
theorem dX8_deep_29 : decode cX8_deep 29 = .ok (.iaload, 1) := by decide +kernel
theorem dX8_deep_30 : decode cX8_deep 30 = .ok (.bipush (-5), 2) := by decide +kernel
theorem dX8_deep_32 : decode cX8_deep 32 = .ok (.if_icmp .ne 7, 3) := by decide +kernel
theorem dX8_deep_35 : decode cX8_deep 35 = .ok (.iconst 1, 1) := by decide +kernel
theorem dX8_deep_36 : decode cX8_deep 36 = .ok (.goto 4, 3) := by decide +kernel
theorem dX8_deep_39 : decode cX8_deep 39 = .ok (.iconst 0, 1) := by decide +kernel
theorem dX8_deep_40 : decode cX8_deep 40 = .ok (.iadd, 1) := by decide +kernel
theorem dX8_deep_41 : decode cX8_deep 41 = .ok (.istore_n 1, 1) := by decide +kernel
theorem dX8_deep_42 : decode cX8_deep 42 = .ok (.iinc 2 1, 3) := by decide +kernel
theorem dX8_deep_45 : decode cX8_deep 45 = .ok (.goto (-41), 3) := by decide +kernel
theorem dX8_deep_48 : decode cX8_deep 48 = .ok (.iload_n 1, 1) := by decide +kernel
theorem dX8_deep_49 : decode cX8_deep 49 = .ok (.ireturn, 1) := by decide +kernel
theorem dX8_opens_0 : decode cX8_opens 0 = .ok (.aload_n 0, 1) := by decide +kernel
theorem dX8_opens_1 : decode cX8_opens 1 = .ok (.getfield 36, 3) := by decide +kernel
theorem dX8_opens_4 : decode cX8_opens 4 = .ok (.aload_n 0, 1) := by decide +kernel
theorem dX8_opens_5 : decode cX8_opens 5 = .ok (.getfield 219, 3) := by decide +kernel
theorem dX8_opens_8 : decode cX8_opens 8 = .ok (.iload_n 1, 1) := by decide +kernel
theorem dX8_opens_9 : decode cX8_opens 9 = .ok (.iastore, 1) := by decide +kernel
theorem dX8_opens_10 : decode cX8_opens 10 = .ok (.aload_n 0, 1) := by decide +kernel
theorem dX8_opens_11 : decode cX8_opens 11 = .ok (.dup, 1) := by decide +kernel
theorem dX8_opens_12 : decode cX8_opens 12 = .ok (.getfield 219, 3) := by decide +kernel
theorem dX8_opens_15 : decode cX8_opens 15 = .ok (.iconst 1, 1) := by decide +kernel
theorem dX8_opens_16 : decode cX8_opens 16 = .ok (.iadd, 1) := by decide +kernel
theorem dX8_opens_17 : decode cX8_opens 17 = .ok (.putfield 219, 3) := by decide +kernel
theorem dX8_opens_20 : decode cX8_opens 20 = .ok (.return_, 1) := by decide +kernel
theorem dX8_spot_0 : decode cX8_spot 0 = .ok (.aload_n 0, 1) := by decide +kernel
theorem dX8_spot_1 : decode cX8_spot 1 = .ok (.invokevirtual 200, 3) := by decide +kernel
theorem dX8_spot_4 : decode cX8_spot 4 = .ok (.istore_n 1, 1) := by decide +kernel
theorem dX8_spot_5 : decode cX8_spot 5 = .ok (.iload_n 1, 1) := by decide +kernel
theorem dX8_spot_6 : decode cX8_spot 6 = .ok (.bipush 91, 2) := by decide +kernel
theorem dX8_spot_8 : decode cX8_spot 8 = .ok (.if_icmp .ne 18, 3) := by decide +kernel
theorem dX8_spot_11 : decode cX8_spot 11 = .ok (.aload_n 0, 1) := by decide +kernel
theorem dX8_spot_12 : decode cX8_spot 12 = .ok (.invokevirtual 222, 3) := by decide +kernel
theorem dX8_spot_15 : decode cX8_spot 15 = .ok (.ifCond .ne 5, 3) := by decide +kernel
theorem dX8_spot_18 : decode cX8_spot 18 = .ok (.iconst 0, 1) := by decide +kernel
theorem dX8_spot_19 : decode cX8_spot 19 = .ok (.ireturn, 1) := by decide +kernel
theorem dX8_spot_20 : decode cX8_spot 20 = .ok (.aload_n 0, 1) := by decide +kernel
theorem dX8_spot_21 : decode cX8_spot 21 = .ok (.invokevirtual 226, 3) := by decide +kernel
theorem dX8_spot_24 : decode cX8_spot 24 = .ok (.iconst 1, 1) := by decide +kernel
theorem dX8_spot_25 : decode cX8_spot 25 = .ok (.ireturn, 1) := by decide +kernel
theorem dX8_spot_26 : decode cX8_spot 26 = .ok (.iload_n 1, 1) := by decide +kernel
theorem dX8_spot_27 : decode cX8_spot 27 = .ok (.bipush 40, 2) := by decide +kernel
theorem dX8_spot_29 : decode cX8_spot 29 = .ok (.if_icmp .eq 9, 3) := by decide +kernel
theorem dX8_spot_32 : decode cX8_spot 32 = .ok (.iload_n 1, 1) := by decide +kernel
theorem dX8_spot_33 : decode cX8_spot 33 = .ok (.bipush 33, 2) := by decide +kernel
theorem dX8_spot_35 : decode cX8_spot 35 = .ok (.if_icmp .ne 12, 3) := by decide +kernel
theorem dX8_spot_38 : decode cX8_spot 38 = .ok (.aload_n 0, 1) := by decide +kernel
theorem dX8_spot_39 : decode cX8_spot 39 = .ok (.invokevirtual 229, 3) := by decide +kernel
theorem dX8_spot_42 : decode cX8_spot 42 = .ok (.bipush 12, 2) := by decide +kernel
theorem dX8_spot_44 : decode cX8_spot 44 = .ok (.if_icmp .ne 5, 3) := by decide +kernel
theorem dX8_spot_47 : decode cX8_spot 47 = .ok (.iconst 0, 1) := by decide +kernel
theorem dX8_spot_48 : decode cX8_spot 48 = .ok (.ireturn, 1) := by decide +kernel
theorem dX8_spot_49 : decode cX8_spot 49 = .ok (.aload_n 0, 1) := by decide +kernel
theorem dX8_spot_50 : decode cX8_spot 50 = .ok (.dup, 1) := by decide +kernel
theorem dX8_spot_51 : decode cX8_spot 51 = .ok (.getfield 191, 3) := by decide +kernel
theorem dX8_spot_54 : decode cX8_spot 54 = .ok (.iconst 1, 1) := by decide +kernel
theorem dX8_spot_55 : decode cX8_spot 55 = .ok (.iadd, 1) := by decide +kernel
theorem dX8_spot_56 : decode cX8_spot 56 = .ok (.putfield 191, 3) := by decide +kernel
theorem dX8_spot_59 : decode cX8_spot 59 = .ok (.aload_n 0, 1) := by decide +kernel
theorem dX8_spot_60 : decode cX8_spot 60 = .ok (.iload_n 1, 1) := by decide +kernel
theorem dX8_spot_61 : decode cX8_spot 61 = .ok (.bipush 33, 2) := by decide +kernel
theorem dX8_spot_63 : decode cX8_spot 63 = .ok (.if_icmp .ne 8, 3) := by decide +kernel
theorem dX8_spot_66 : decode cX8_spot 66 = .ok (.bipush (-4), 2) := by decide +kernel
theorem dX8_spot_68 : decode cX8_spot 68 = .ok (.goto 5, 3) := by decide +kernel
theorem dX8_spot_71 : decode cX8_spot 71 = .ok (.bipush (-5), 2) := by decide +kernel
theorem dX8_spot_73 : decode cX8_spot 73 = .ok (.invokevirtual 232, 3) := by decide +kernel
theorem dX8_spot_76 : decode cX8_spot 76 = .ok (.iconst 2, 1) := by decide +kernel
theorem dX8_spot_77 : decode cX8_spot 77 = .ok (.ireturn, 1) := by decide +kernel
theorem dX8_behind_0 : decode cX8_behind 0 = .ok (.aload_n 0, 1) := by decide +kernel
theorem dX8_behind_1 : decode cX8_behind 1 = .ok (.invokevirtual 200, 3) := by decide +kernel
theorem dX8_behind_4 : decode cX8_behind 4 = .ok (.istore_n 1, 1) := by decide +kernel
theorem dX8_behind_5 : decode cX8_behind 5 = .ok (.iload_n 1, 1) := by decide +kernel
theorem dX8_behind_6 : decode cX8_behind 6 = .ok (.bipush 38, 2) := by decide +kernel
theorem dX8_behind_8 : decode cX8_behind 8 = .ok (.if_icmp .ne 17, 3) := by decide +kernel
theorem dX8_behind_11 : decode cX8_behind 11 = .ok (.aload_n 0, 1) := by decide +kernel
theorem dX8_behind_12 : decode cX8_behind 12 = .ok (.iconst 1, 1) := by decide +kernel
theorem dX8_behind_13 : decode cX8_behind 13 = .ok (.invokevirtual 235, 3) := by decide +kernel
theorem dX8_behind_16 : decode cX8_behind 16 = .ok (.aload_n 0, 1) := by decide +kernel
theorem dX8_behind_17 : decode cX8_behind 17 = .ok (.bipush (-3), 2) := by decide +kernel
theorem dX8_behind_19 : decode cX8_behind 19 = .ok (.invokevirtual 232, 3) := by decide +kernel
theorem dX8_behind_22 : decode cX8_behind 22 = .ok (.goto 114, 3) := by decide +kernel
theorem dX8_behind_25 : decode cX8_behind 25 = .ok (.iload_n 1, 1) := by decide +kernel
theorem dX8_behind_26 : decode cX8_behind 26 = .ok (.bipush 43, 2) := by decide +kernel
theorem dX8_behind_28 : decode cX8_behind 28 = .ok (.if_icmp .eq 9, 3) := by decide +kernel
theorem dX8_behind_31 : decode cX8_behind 31 = .ok (.iload_n 1, 1) := by decide +kernel
theorem dX8_behind_32 : decode cX8_behind 32 = .ok (.bipush 45, 2) := by decide +kernel
theorem dX8_behind_34 : decode cX8_behind 34 = .ok (.if_icmp .ne 27, 3) := by decide +kernel
theorem dX8_behind_37 : decode cX8_behind 37 = .ok (.aload_n 0, 1) := by decide +kernel
theorem dX8_behind_38 : decode cX8_behind 38 = .ok (.iconst 0, 1) := by decide +kernel
theorem dX8_behind_39 : decode cX8_behind 39 = .ok (.invokevirtual 235, 3) := by decide +kernel
theorem dX8_behind_42 : decode cX8_behind 42 = .ok (.aload_n 0, 1) := by decide +kernel
theorem dX8_behind_43 : decode cX8_behind 43 = .ok (.iload_n 1, 1) := by decide +kernel
theorem dX8_behind_44 : decode cX8_behind 44 = .ok (.bipush 43, 2) := by decide +kernel
theorem dX8_behind_46 : decode cX8_behind 46 = .ok (.if_icmp .ne 7, 3) := by decide +kernel
theorem dX8_behind_49 : decode cX8_behind 49 = .ok (.iconst (-1), 1) := by decide +kernel
theorem dX8_behind_50 : decode cX8_behind 50 = .ok (.goto 5, 3) := by decide +kernel
theorem dX8_behind_53 : decode cX8_behind 53 = .ok (.bipush (-2), 2) := by decide +kernel
theorem dX8_behind_55 : decode cX8_behind 55 = .ok (.invokevirtual 232, 3) := by decide +kernel
theorem dX8_behind_58 : decode cX8_behind 58 = .ok (.goto 78, 3) := by decide +kernel
theorem dX8_behind_61 : decode cX8_behind 61 = .ok (.iload_n 1, 1) := by decide +kernel
theorem dX8_behind_62 : decode cX8_behind 62 = .ok (.bipush 41, 2) := by decide +kernel
theorem dX8_behind_64 : decode cX8_behind 64 = .ok (.if_icmp .eq 9, 3) := by decide +kernel
theorem dX8_behind_67 : decode cX8_behind 67 = .ok (.iload_n 1, 1) := by decide +kernel
theorem dX8_behind_68 : decode cX8_behind 68 = .ok (.bipush 59, 2) := by decide +kernel
theorem dX8_behind_70 : decode cX8_behind 70 = .ok (.if_icmp .ne 64, 3) := by decide +kernel
theorem dX8_behind_73 : decode cX8_behind 73 = .ok (.aload_n 0, 1) := by decide +kernel
theorem dX8_behind_74 : decode cX8_behind 74 = .ok (.iconst 0, 1) := by decide +kernel
theorem dX8_behind_75 : decode cX8_behind 75 = .ok (.invokevirtual 235, 3) := by decide +kernel
theorem dX8_behind_78 : decode cX8_behind 78 = .ok (.aload_n 0, 1) := by decide +kernel
theorem dX8_behind_79 : decode cX8_behind 79 = .ok (.getfield 219, 3) := by decide +kernel
theorem dX8_behind_82 : decode cX8_behind 82 = .ok (.ifCond .le 7, 3) := by decide +kernel
theorem dX8_behind_85 : decode cX8_behind 85 = .ok (.iconst 1, 1) := by decide +kernel
theorem dX8_behind_86 : decode cX8_behind 86 = .ok (.goto 4, 3) := by decide +kernel
theorem dX8_behind_89 : decode cX8_behind 89 = .ok (.iconst 0, 1) := by decide +kernel
theorem dX8_behind_90 : decode cX8_behind 90 = .ok (.iload_n 1, 1) := by decide +kernel
theorem dX8_behind_91 : decode cX8_behind 91 = .ok (.bipush 41, 2) := by decide +kernel
theorem dX8_behind_93 : decode cX8_behind 93 = .ok (.if_icmp .ne 7, 3) := by decide +kernel
theorem dX8_behind_96 : decode cX8_behind 96 = .ok (.iconst 1, 1) := by decide +kernel
theorem dX8_behind_97 : decode cX8_behind 97 = .ok (.goto 4, 3) := by decide +kernel
theorem dX8_behind_100 : decode cX8_behind 100 = .ok (.iconst 0, 1) := by decide +kernel
theorem dX8_behind_101 : decode cX8_behind 101 = .ok (.if_icmp .eq 5, 3) := by decide +kernel
theorem dX8_behind_104 : decode cX8_behind 104 = .ok (.iconst 0, 1) := by decide +kernel
theorem dX8_behind_105 : decode cX8_behind 105 = .ok (.ireturn, 1) := by decide +kernel
theorem dX8_behind_106 : decode cX8_behind 106 = .ok (.aload_n 0, 1) := by decide +kernel
theorem dX8_behind_107 : decode cX8_behind 107 = .ok (.dup, 1) := by decide +kernel
theorem dX8_behind_108 : decode cX8_behind 108 = .ok (.getfield 219, 3) := by decide +kernel
theorem dX8_behind_111 : decode cX8_behind 111 = .ok (.aload_n 0, 1) := by decide +kernel
theorem dX8_behind_112 : decode cX8_behind 112 = .ok (.getfield 219, 3) := by decide +kernel
theorem dX8_behind_115 : decode cX8_behind 115 = .ok (.ifCond .le 7, 3) := by decide +kernel
theorem dX8_behind_118 : decode cX8_behind 118 = .ok (.iconst 1, 1) := by decide +kernel
theorem dX8_behind_119 : decode cX8_behind 119 = .ok (.goto 4, 3) := by decide +kernel
theorem dX8_behind_122 : decode cX8_behind 122 = .ok (.iconst 0, 1) := by decide +kernel
theorem dX8_behind_123 : decode cX8_behind 123 = .ok (.isub, 1) := by decide +kernel
theorem dX8_behind_124 : decode cX8_behind 124 = .ok (.putfield 219, 3) := by decide +kernel
theorem dX8_behind_127 : decode cX8_behind 127 = .ok (.aload_n 0, 1) := by decide +kernel
theorem dX8_behind_128 : decode cX8_behind 128 = .ok (.invokevirtual 226, 3) := by decide +kernel
theorem dX8_behind_131 : decode cX8_behind 131 = .ok (.goto 5, 3) := by decide +kernel
theorem dX8_behind_134 : decode cX8_behind 134 = .ok (.iconst 0, 1) := by decide +kernel
theorem dX8_behind_135 : decode cX8_behind 135 = .ok (.ireturn, 1) := by decide +kernel
theorem dX8_behind_136 : decode cX8_behind 136 = .ok (.aload_n 0, 1) := by decide +kernel
theorem dX8_behind_137 : decode cX8_behind 137 = .ok (.dup, 1) := by decide +kernel
theorem dX8_behind_138 : decode cX8_behind 138 = .ok (.getfield 191, 3) := by decide +kernel
theorem dX8_behind_141 : decode cX8_behind 141 = .ok (.iconst 1, 1) := by decide +kernel
theorem dX8_behind_142 : decode cX8_behind 142 = .ok (.iadd, 1) := by decide +kernel
theorem dX8_behind_143 : decode cX8_behind 143 = .ok (.putfield 191, 3) := by decide +kernel
theorem dX8_behind_146 : decode cX8_behind 146 = .ok (.iload_n 1, 1) := by decide +kernel
theorem dX8_behind_147 : decode cX8_behind 147 = .ok (.bipush 59, 2) := by decide +kernel
theorem dX8_behind_149 : decode cX8_behind 149 = .ok (.if_icmp .ne 7, 3) := by decide +kernel
theorem dX8_behind_152 : decode cX8_behind 152 = .ok (.iconst 3, 1) := by decide +kernel
theorem dX8_behind_153 : decode cX8_behind 153 = .ok (.goto 14, 3) := by decide +kernel
theorem dX8_behind_156 : decode cX8_behind 156 = .ok (.iload_n 1, 1) := by decide +kernel
theorem dX8_behind_157 : decode cX8_behind 157 = .ok (.bipush 41, 2) := by decide +kernel
theorem dX8_behind_159 : decode cX8_behind 159 = .ok (.if_icmp .ne 7, 3) := by decide +kernel
theorem dX8_behind_162 : decode cX8_behind 162 = .ok (.iconst 1, 1) := by decide +kernel
theorem dX8_behind_163 : decode cX8_behind 163 = .ok (.goto 4, 3) := by decide +kernel
theorem dX8_behind_166 : decode cX8_behind 166 = .ok (.iconst 2, 1) := by decide +kernel
theorem dX8_behind_167 : decode cX8_behind 167 = .ok (.ireturn, 1) := by decide +kernel
theorem dX8_area_0 : decode cX8_area 0 = .ok (.aload_n 0, 1) := by decide +kernel
theorem dX8_area_1 : decode cX8_area 1 = .ok (.getfield 13, 3) := by decide +kernel
theorem dX8_area_4 : decode cX8_area 4 = .ok (.sipush 546, 3) := by decide +kernel
theorem dX8_area_7 : decode cX8_area 7 = .ok (.iconst 0, 1) := by decide +kernel
theorem dX8_area_8 : decode cX8_area 8 = .ok (.iastore, 1) := by decide +kernel
theorem dX8_area_9 : decode cX8_area 9 = .ok (.aload_n 0, 1) := by decide +kernel
theorem dX8_area_10 : decode cX8_area 10 = .ok (.getfield 13, 3) := by decide +kernel
theorem dX8_area_13 : decode cX8_area 13 = .ok (.sipush 547, 3) := by decide +kernel
theorem dX8_area_16 : decode cX8_area 16 = .ok (.iconst 0, 1) := by decide +kernel
theorem dX8_area_17 : decode cX8_area 17 = .ok (.iastore, 1) := by decide +kernel
theorem dX8_area_18 : decode cX8_area 18 = .ok (.aload_n 0, 1) := by decide +kernel
theorem dX8_area_19 : decode cX8_area 19 = .ok (.iconst 0, 1) := by decide +kernel
theorem dX8_area_20 : decode cX8_area 20 = .ok (.putfield 191, 3) := by decide +kernel
theorem dX8_area_23 : decode cX8_area 23 = .ok (.aload_n 0, 1) := by decide +kernel
theorem dX8_area_24 : decode cX8_area 24 = .ok (.iconst 0, 1) := by decide +kernel
theorem dX8_area_25 : decode cX8_area 25 = .ok (.putfield 219, 3) := by decide +kernel
theorem dX8_area_28 : decode cX8_area 28 = .ok (.iconst 2, 1) := by decide +kernel
theorem dX8_area_29 : decode cX8_area 29 = .ok (.istore_n 1, 1) := by decide +kernel
theorem dX8_area_30 : decode cX8_area 30 = .ok (.iload_n 1, 1) := by decide +kernel
theorem dX8_area_31 : decode cX8_area 31 = .ok (.iconst 1, 1) := by decide +kernel
theorem dX8_area_32 : decode cX8_area 32 = .ok (.if_icmp .eq 8, 3) := by decide +kernel
theorem dX8_area_35 : decode cX8_area 35 = .ok (.iload_n 1, 1) := by decide +kernel
theorem dX8_area_36 : decode cX8_area 36 = .ok (.iconst 2, 1) := by decide +kernel
theorem dX8_area_37 : decode cX8_area 37 = .ok (.if_icmp .ne 23, 3) := by decide +kernel
theorem dX8_area_40 : decode cX8_area 40 = .ok (.iload_n 1, 1) := by decide +kernel
theorem dX8_area_41 : decode cX8_area 41 = .ok (.iconst 2, 1) := by decide +kernel
theorem dX8_area_42 : decode cX8_area 42 = .ok (.if_icmp .ne 10, 3) := by decide +kernel
theorem dX8_area_45 : decode cX8_area 45 = .ok (.aload_n 0, 1) := by decide +kernel
theorem dX8_area_46 : decode cX8_area 46 = .ok (.invokevirtual 239, 3) := by decide +kernel
theorem dX8_area_49 : decode cX8_area 49 = .ok (.goto 7, 3) := by decide +kernel
theorem dX8_area_52 : decode cX8_area 52 = .ok (.aload_n 0, 1) := by decide +kernel
theorem dX8_area_53 : decode cX8_area 53 = .ok (.invokevirtual 242, 3) := by decide +kernel
theorem dX8_area_56 : decode cX8_area 56 = .ok (.istore_n 1, 1) := by decide +kernel
theorem dX8_area_57 : decode cX8_area 57 = .ok (.goto (-27), 3) := by decide +kernel
theorem dX8_area_60 : decode cX8_area 60 = .ok (.iload_n 1, 1) := by decide +kernel
theorem dX8_area_61 : decode cX8_area 61 = .ok (.ifCond .eq 10, 3) := by decide +kernel
theorem dX8_area_64 : decode cX8_area 64 = .ok (.aload_n 0, 1) := by decide +kernel
theorem dX8_area_65 : decode cX8_area 65 = .ok (.invokevirtual 200, 3) := by decide +kernel
theorem dX8_area_68 : decode cX8_area 68 = .ok (.ifCond .lt 11, 3) := by decide +kernel
theorem dX8_area_71 : decode cX8_area 71 = .ok (.bipush (-10), 2) := by decide +kernel
theorem dX8_area_73 : decode cX8_area 73 = .ok (.aload_n 0, 1) := by decide +kernel
theorem dX8_area_74 : decode cX8_area 74 = .ok (.getfield 197, 3) := by decide +kernel
theorem dX8_area_77 : decode cX8_area 77 = .ok (.isub, 1) := by decide +kernel
theorem dX8_area_78 : decode cX8_area 78 = .ok (.ireturn, 1) := by decide +kernel
theorem dX8_area_79 : decode cX8_area 79 = .ok (.aload_n 0, 1) := by decide +kernel
theorem dX8_area_80 : decode cX8_area 80 = .ok (.sipush 546, 3) := by decide +kernel
theorem dX8_area_83 : decode cX8_area 83 = .ok (.iconst 0, 1) := by decide +kernel
theorem dX8_area_84 : decode cX8_area 84 = .ok (.invokevirtual 245, 3) := by decide +kernel
theorem dX8_area_87 : decode cX8_area 87 = .ok (.aload_n 0, 1) := by decide +kernel
theorem dX8_area_88 : decode cX8_area 88 = .ok (.getfield 13, 3) := by decide +kernel
theorem dX8_area_91 : decode cX8_area 91 = .ok (.iconst 1, 1) := by decide +kernel
theorem dX8_area_92 : decode cX8_area 92 = .ok (.iaload, 1) := by decide +kernel
theorem dX8_area_93 : decode cX8_area 93 = .ok (.ireturn, 1) := by decide +kernel
theorem dX8_isCovered_0 : decode cX8_isCovered 0 = .ok (.iconst 0, 1) := by decide +kernel
theorem dX8_isCovered_1 : decode cX8_isCovered 1 = .ok (.istore_n 3, 1) := by decide +kernel
theorem dX8_isCovered_2 : decode cX8_isCovered 2 = .ok (.iconst 0, 1) := by decide +kernel
theorem dX8_isCovered_3 : decode cX8_isCovered 3 = .ok (.istore 4, 2) := by decide +kernel
theorem dX8_isCovered_5 : decode cX8_isCovered 5 = .ok (.iload 4, 2) := by decide +kernel
theorem dX8_isCovered_7 : decode cX8_isCovered 7 = .ok (.aload_n 0, 1) := by decide +kernel
theorem dX8_isCovered_8 : decode cX8_isCovered 8 = .ok (.getfield 13, 3) := by decide +kernel
theorem dX8_isCovered_11 : decode cX8_isCovered 11 = .ok (.iconst 0, 1) := by decide +kernel
theorem dX8_isCovered_12 : decode cX8_isCovered 12 = .ok (.iaload, 1) := by decide +kernel
theorem dX8_isCovered_13 : decode cX8_isCovered 13 = .ok (.if_icmp .ge 232, 3) := by decide +kernel
theorem dX8_isCovered_16 : decode cX8_isCovered 16 = .ok (.aload_n 0, 1) := by decide +kernel
theorem dX8_isCovered_17 : decode cX8_isCovered 17 = .ok (.getfield 13, 3) := by decide +kernel
theorem dX8_isCovered_20 : decode cX8_isCovered 20 = .ok (.iconst 2, 1) := by decide +kernel
theorem dX8_isCovered_21 : decode cX8_isCovered 21 = .ok (.iload 4, 2) := by decide +kernel
theorem dX8_isCovered_23 : decode cX8_isCovered 23 = .ok (.iadd, 1) := by decide +kernel
theorem dX8_isCovered_24 : decode cX8_isCovered 24 = .ok (.iaload, 1) := by decide +kernel
theorem dX8_isCovered_25 : decode cX8_isCovered 25 = .ok (.istore 5, 2) := by decide +kernel
theorem dX8_isCovered_27 : decode cX8_isCovered 27 = .ok (.iload 5, 2) := by decide +kernel
theorem dX8_isCovered_29 : decode cX8_isCovered 29 = .ok (.bipush (-4), 2) := by decide +kernel
theorem dX8_isCovered_31 : decode cX8_isCovered 31 = .ok (.if_icmp .ne 30, 3) := by decide +kernel
theorem dX8_isCovered_34 : decode cX8_isCovered 34 = .ok (.aload_n 0, 1) := by decide +kernel
theorem dX8_isCovered_35 : decode cX8_isCovered 35 = .ok (.getfield 39, 3) := by decide +kernel
theorem dX8_isCovered_38 : decode cX8_isCovered 38 = .ok (.iload_n 3, 1) := by decide +kernel
theorem dX8_isCovered_39 : decode cX8_isCovered 39 = .ok (.iconst 1, 1) := by decide +kernel
theorem dX8_isCovered_40 : decode cX8_isCovered 40 = .ok (.isub, 1) := by decide +kernel
theorem dX8_isCovered_41 : decode cX8_isCovered 41 = .ok (.aload_n 0, 1) := by decide +kernel
theorem dX8_isCovered_42 : decode cX8_isCovered 42 = .ok (.getfield 39, 3) := by decide +kernel
theorem dX8_isCovered_45 : decode cX8_isCovered 45 = .ok (.iload_n 3, 1) := by decide +kernel
theorem dX8_isCovered_46 : decode cX8_isCovered 46 = .ok (.iconst 1, 1) := by decide +kernel
theorem dX8_isCovered_47 : decode cX8_isCovered 47 = .ok (.isub, 1) := by decide +kernel
theorem dX8_isCovered_48 : decode cX8_isCovered 48 = .ok (.baload, 1) := by decide +kernel
theorem dX8_isCovered_49 : decode cX8_isCovered 49 = .ok (.ifCond .ne 7, 3) := by decide +kernel
theorem dX8_isCovered_52 : decode cX8_isCovered 52 = .ok (.iconst 1, 1) := by decide +kernel
theorem dX8_isCovered_53 : decode cX8_isCovered 53 = .ok (.goto 4, 3) := by decide +kernel
theorem dX8_isCovered_56 : decode cX8_isCovered 56 = .ok (.iconst 0, 1) := by decide +kernel
theorem dX8_isCovered_57 : decode cX8_isCovered 57 = .ok (.bastore, 1) := by decide +kernel
theorem dX8_isCovered_58 : decode cX8_isCovered 58 = .ok (.goto 181, 3) := by decide +kernel
theorem dX8_isCovered_61 : decode cX8_isCovered 61 = .ok (.iload 5, 2) := by decide +kernel
theorem dX8_isCovered_63 : decode cX8_isCovered 63 = .ok (.ifCond .ge 99, 3) := by decide +kernel
theorem dX8_isCovered_66 : decode cX8_isCovered 66 = .ok (.iinc 3 (-1), 3) := by decide +kernel
theorem dX8_isCovered_69 : decode cX8_isCovered 69 = .ok (.aload_n 0, 1) := by decide +kernel
theorem dX8_isCovered_70 : decode cX8_isCovered 70 = .ok (.getfield 39, 3) := by decide +kernel
theorem dX8_isCovered_73 : decode cX8_isCovered 73 = .ok (.iload_n 3, 1) := by decide +kernel
theorem dX8_isCovered_74 : decode cX8_isCovered 74 = .ok (.iconst 1, 1) := by decide +kernel
theorem dX8_isCovered_75 : decode cX8_isCovered 75 = .ok (.isub, 1) := by decide +kernel
theorem dX8_isCovered_76 : decode cX8_isCovered 76 = .ok (.baload, 1) := by decide +kernel
theorem dX8_isCovered_77 : decode cX8_isCovered 77 = .ok (.istore 6, 2) := by decide +kernel
theorem dX8_isCovered_79 : decode cX8_isCovered 79 = .ok (.aload_n 0, 1) := by decide +kernel
theorem dX8_isCovered_80 : decode cX8_isCovered 80 = .ok (.getfield 39, 3) := by decide +kernel
theorem dX8_isCovered_83 : decode cX8_isCovered 83 = .ok (.iload_n 3, 1) := by decide +kernel
theorem dX8_isCovered_84 : decode cX8_isCovered 84 = .ok (.baload, 1) := by decide +kernel
theorem dX8_isCovered_85 : decode cX8_isCovered 85 = .ok (.istore 7, 2) := by decide +kernel
theorem dX8_isCovered_87 : decode cX8_isCovered 87 = .ok (.aload_n 0, 1) := by decide +kernel
theorem dX8_isCovered_88 : decode cX8_isCovered 88 = .ok (.getfield 39, 3) := by decide +kernel
theorem dX8_isCovered_91 : decode cX8_isCovered 91 = .ok (.iload_n 3, 1) := by decide +kernel
theorem dX8_isCovered_92 : decode cX8_isCovered 92 = .ok (.iconst 1, 1) := by decide +kernel
theorem dX8_isCovered_93 : decode cX8_isCovered 93 = .ok (.isub, 1) := by decide +kernel
theorem dX8_isCovered_94 : decode cX8_isCovered 94 = .ok (.iload 5, 2) := by decide +kernel
theorem dX8_isCovered_96 : decode cX8_isCovered 96 = .ok (.iconst (-1), 1) := by decide +kernel
theorem dX8_isCovered_97 : decode cX8_isCovered 97 = .ok (.if_icmp .ne 21, 3) := by decide +kernel
theorem dX8_isCovered_100 : decode cX8_isCovered 100 = .ok (.iload 6, 2) := by decide +kernel
theorem dX8_isCovered_102 : decode cX8_isCovered 102 = .ok (.ifCond .ne 8, 3) := by decide +kernel
theorem dX8_isCovered_105 : decode cX8_isCovered 105 = .ok (.iload 7, 2) := by decide +kernel
theorem dX8_isCovered_107 : decode cX8_isCovered 107 = .ok (.ifCond .eq 7, 3) := by decide +kernel
theorem dX8_isCovered_110 : decode cX8_isCovered 110 = .ok (.iconst 1, 1) := by decide +kernel
theorem dX8_isCovered_111 : decode cX8_isCovered 111 = .ok (.goto 47, 3) := by decide +kernel
theorem dX8_isCovered_114 : decode cX8_isCovered 114 = .ok (.iconst 0, 1) := by decide +kernel
theorem dX8_isCovered_115 : decode cX8_isCovered 115 = .ok (.goto 43, 3) := by decide +kernel
theorem dX8_isCovered_118 : decode cX8_isCovered 118 = .ok (.iload 5, 2) := by decide +kernel
theorem dX8_isCovered_120 : decode cX8_isCovered 120 = .ok (.bipush (-2), 2) := by decide +kernel
theorem dX8_isCovered_122 : decode cX8_isCovered 122 = .ok (.if_icmp .ne 21, 3) := by decide +kernel
theorem dX8_isCovered_125 : decode cX8_isCovered 125 = .ok (.iload 6, 2) := by decide +kernel
theorem dX8_isCovered_127 : decode cX8_isCovered 127 = .ok (.ifCond .eq 12, 3) := by decide +kernel
theorem dX8_isCovered_130 : decode cX8_isCovered 130 = .ok (.iload 7, 2) := by decide +kernel
theorem dX8_isCovered_132 : decode cX8_isCovered 132 = .ok (.ifCond .ne 7, 3) := by decide +kernel
theorem dX8_isCovered_135 : decode cX8_isCovered 135 = .ok (.iconst 1, 1) := by decide +kernel
theorem dX8_isCovered_136 : decode cX8_isCovered 136 = .ok (.goto 22, 3) := by decide +kernel
theorem dX8_isCovered_139 : decode cX8_isCovered 139 = .ok (.iconst 0, 1) := by decide +kernel
theorem dX8_isCovered_140 : decode cX8_isCovered 140 = .ok (.goto 18, 3) := by decide +kernel
theorem dX8_isCovered_143 : decode cX8_isCovered 143 = .ok (.iload 6, 2) := by decide +kernel
theorem dX8_isCovered_145 : decode cX8_isCovered 145 = .ok (.ifCond .eq 12, 3) := by decide +kernel
theorem dX8_isCovered_148 : decode cX8_isCovered 148 = .ok (.iload 7, 2) := by decide +kernel
theorem dX8_isCovered_150 : decode cX8_isCovered 150 = .ok (.ifCond .eq 7, 3) := by decide +kernel
theorem dX8_isCovered_153 : decode cX8_isCovered 153 = .ok (.iconst 1, 1) := by decide +kernel
theorem dX8_isCovered_154 : decode cX8_isCovered 154 = .ok (.goto 4, 3) := by decide +kernel
theorem dX8_isCovered_157 : decode cX8_isCovered 157 = .ok (.iconst 0, 1) := by decide +kernel
theorem dX8_isCovered_158 : decode cX8_isCovered 158 = .ok (.bastore, 1) := by decide +kernel
theorem dX8_isCovered_159 : decode cX8_isCovered 159 = .ok (.goto 80, 3) := by decide +kernel
theorem dX8_isCovered_162 : decode cX8_isCovered 162 = .ok (.bipush 122, 2) := by decide +kernel
theorem dX8_isCovered_164 : decode cX8_isCovered 164 = .ok (.iconst 4, 1) := by decide +kernel
theorem dX8_isCovered_165 : decode cX8_isCovered 165 = .ok (.iload 5, 2) := by decide +kernel
theorem dX8_isCovered_167 : decode cX8_isCovered 167 = .ok (.imul, 1) := by decide +kernel
theorem dX8_isCovered_168 : decode cX8_isCovered 168 = .ok (.iadd, 1) := by decide +kernel
theorem dX8_isCovered_169 : decode cX8_isCovered 169 = .ok (.istore 6, 2) := by decide +kernel
theorem dX8_isCovered_171 : decode cX8_isCovered 171 = .ok (.aload_n 0, 1) := by decide +kernel
theorem dX8_isCovered_172 : decode cX8_isCovered 172 = .ok (.getfield 39, 3) := by decide +kernel
theorem dX8_isCovered_175 : decode cX8_isCovered 175 = .ok (.iload_n 3, 1) := by decide +kernel
theorem dX8_isCovered_176 : decode cX8_isCovered 176 = .ok (.iload_n 1, 1) := by decide +kernel
theorem dX8_isCovered_177 : decode cX8_isCovered 177 = .ok (.i2l, 1) := by decide +kernel
theorem dX8_isCovered_178 : decode cX8_isCovered 178 = .ok (.aload_n 0, 1) := by decide +kernel
theorem dX8_isCovered_179 : decode cX8_isCovered 179 = .ok (.getfield 13, 3) := by decide +kernel
theorem dX8_isCovered_182 : decode cX8_isCovered 182 = .ok (.iload 6, 2) := by decide +kernel
theorem dX8_isCovered_184 : decode cX8_isCovered 184 = .ok (.iaload, 1) := by decide +kernel
theorem dX8_isCovered_185 : decode cX8_isCovered 185 = .ok (.i2l, 1) := by decide +kernel
theorem dX8_isCovered_186 : decode cX8_isCovered 186 = .ok (.aload_n 0, 1) := by decide +kernel
theorem dX8_isCovered_187 : decode cX8_isCovered 187 = .ok (.getfield 13, 3) := by decide +kernel
theorem dX8_isCovered_190 : decode cX8_isCovered 190 = .ok (.iload 6, 2) := by decide +kernel
theorem dX8_isCovered_192 : decode cX8_isCovered 192 = .ok (.iconst 1, 1) := by decide +kernel
theorem dX8_isCovered_193 : decode cX8_isCovered 193 = .ok (.iadd, 1) := by decide +kernel
theorem dX8_isCovered_194 : decode cX8_isCovered 194 = .ok (.iaload, 1) := by decide +kernel
theorem dX8_isCovered_195 : decode cX8_isCovered 195 = .ok (.i2l, 1) := by decide +kernel
theorem dX8_isCovered_196 : decode cX8_isCovered 196 = .ok (.invokestatic 49, 3) := by decide +kernel
theorem dX8_isCovered_199 : decode cX8_isCovered 199 = .ok (.ifCond .eq 35, 3) := by decide +kernel
theorem dX8_isCovered_202 : decode cX8_isCovered 202 = .ok (.iload_n 2, 1) := by decide +kernel
theorem dX8_isCovered_203 : decode cX8_isCovered 203 = .ok (.i2l, 1) := by decide +kernel
theorem dX8_isCovered_204 : decode cX8_isCovered 204 = .ok (.aload_n 0, 1) := by decide +kernel
theorem dX8_isCovered_205 : decode cX8_isCovered 205 = .ok (.getfield 13, 3) := by decide +kernel
theorem dX8_isCovered_208 : decode cX8_isCovered 208 = .ok (.iload 6, 2) := by decide +kernel
theorem dX8_isCovered_210 : decode cX8_isCovered 210 = .ok (.iconst 2, 1) := by decide +kernel
theorem dX8_isCovered_211 : decode cX8_isCovered 211 = .ok (.iadd, 1) := by decide +kernel
theorem dX8_isCovered_212 : decode cX8_isCovered 212 = .ok (.iaload, 1) := by decide +kernel
theorem dX8_isCovered_213 : decode cX8_isCovered 213 = .ok (.i2l, 1) := by decide +kernel
theorem dX8_isCovered_214 : decode cX8_isCovered 214 = .ok (.aload_n 0, 1) := by decide +kernel
theorem dX8_isCovered_215 : decode cX8_isCovered 215 = .ok (.getfield 13, 3) := by decide +kernel
theorem dX8_isCovered_218 : decode cX8_isCovered 218 = .ok (.iload 6, 2) := by decide +kernel
theorem dX8_isCovered_220 : decode cX8_isCovered 220 = .ok (.iconst 3, 1) := by decide +kernel
theorem dX8_isCovered_221 : decode cX8_isCovered 221 = .ok (.iadd, 1) := by decide +kernel
theorem dX8_isCovered_222 : decode cX8_isCovered 222 = .ok (.iaload, 1) := by decide +kernel
theorem dX8_isCovered_223 : decode cX8_isCovered 223 = .ok (.i2l, 1) := by decide +kernel
theorem dX8_isCovered_224 : decode cX8_isCovered 224 = .ok (.invokestatic 49, 3) := by decide +kernel
theorem dX8_isCovered_227 : decode cX8_isCovered 227 = .ok (.ifCond .eq 7, 3) := by decide +kernel
theorem dX8_isCovered_230 : decode cX8_isCovered 230 = .ok (.iconst 1, 1) := by decide +kernel
theorem dX8_isCovered_231 : decode cX8_isCovered 231 = .ok (.goto 4, 3) := by decide +kernel
theorem dX8_isCovered_234 : decode cX8_isCovered 234 = .ok (.iconst 0, 1) := by decide +kernel
theorem dX8_isCovered_235 : decode cX8_isCovered 235 = .ok (.bastore, 1) := by decide +kernel
theorem dX8_isCovered_236 : decode cX8_isCovered 236 = .ok (.iinc 3 1, 3) := by decide +kernel
theorem dX8_isCovered_239 : decode cX8_isCovered 239 = .ok (.iinc 4 1, 3) := by decide +kernel
theorem dX8_isCovered_242 : decode cX8_isCovered 242 = .ok (.goto (-237), 3) := by decide +kernel
theorem dX8_isCovered_245 : decode cX8_isCovered 245 = .ok (.iload_n 3, 1) := by decide +kernel
theorem dX8_isCovered_246 : decode cX8_isCovered 246 = .ok (.ifCond .le 16, 3) := by decide +kernel
theorem dX8_isCovered_249 : decode cX8_isCovered 249 = .ok (.aload_n 0, 1) := by decide +kernel
theorem dX8_isCovered_250 : decode cX8_isCovered 250 = .ok (.getfield 39, 3) := by decide +kernel
theorem dX8_isCovered_253 : decode cX8_isCovered 253 = .ok (.iconst 0, 1) := by decide +kernel
theorem dX8_isCovered_254 : decode cX8_isCovered 254 = .ok (.baload, 1) := by decide +kernel
theorem dX8_isCovered_255 : decode cX8_isCovered 255 = .ok (.ifCond .eq 7, 3) := by decide +kernel
theorem dX8_isCovered_258 : decode cX8_isCovered 258 = .ok (.iconst 1, 1) := by decide +kernel
theorem dX8_isCovered_259 : decode cX8_isCovered 259 = .ok (.goto 4, 3) := by decide +kernel
theorem dX8_isCovered_262 : decode cX8_isCovered 262 = .ok (.iconst 0, 1) := by decide +kernel
theorem dX8_isCovered_263 : decode cX8_isCovered 263 = .ok (.ireturn, 1) := by decide +kernel
theorem dX8_linesArea_0 : decode cX8_linesArea 0 = .ok (.aload_n 0, 1) := by decide +kernel
theorem dX8_linesArea_1 : decode cX8_linesArea 1 = .ok (.iconst 0, 1) := by decide +kernel
theorem dX8_linesArea_2 : decode cX8_linesArea 2 = .ok (.putfield 113, 3) := by decide +kernel
theorem dX8_linesArea_5 : decode cX8_linesArea 5 = .ok (.iconst 0, 1) := by decide +kernel
theorem dX8_linesArea_6 : decode cX8_linesArea 6 = .ok (.istore_n 1, 1) := by decide +kernel
theorem dX8_linesArea_7 : decode cX8_linesArea 7 = .ok (.iload_n 1, 1) := by decide +kernel
theorem dX8_linesArea_8 : decode cX8_linesArea 8 = .ok (.aload_n 0, 1) := by decide +kernel
theorem dX8_linesArea_9 : decode cX8_linesArea 9 = .ok (.getfield 7, 3) := by decide +kernel
theorem dX8_linesArea_12 : decode cX8_linesArea 12 = .ok (.iconst 0, 1) := by decide +kernel
theorem dX8_linesArea_13 : decode cX8_linesArea 13 = .ok (.iaload, 1) := by decide +kernel
theorem dX8_linesArea_14 : decode cX8_linesArea 14 = .ok (.if_icmp .ge 49, 3) := by decide +kernel
theorem dX8_linesArea_17 : decode cX8_linesArea 17 = .ok (.aload_n 0, 1) := by decide +kernel
theorem dX8_linesArea_18 : decode cX8_linesArea 18 = .ok (.iload_n 1, 1) := by decide +kernel
theorem dX8_linesArea_19 : decode cX8_linesArea 19 = .ok (.invokevirtual 57, 3) := by decide +kernel
theorem dX8_linesArea_22 : decode cX8_linesArea 22 = .ok (.ifCond .eq 35, 3) := by decide +kernel
theorem dX8_linesArea_25 : decode cX8_linesArea 25 = .ok (.aload_n 0, 1) := by decide +kernel
theorem dX8_linesArea_26 : decode cX8_linesArea 26 = .ok (.aload_n 0, 1) := by decide +kernel
theorem dX8_linesArea_27 : decode cX8_linesArea 27 = .ok (.getfield 7, 3) := by decide +kernel
theorem dX8_linesArea_30 : decode cX8_linesArea 30 = .ok (.sipush 128, 3) := by decide +kernel
theorem dX8_linesArea_33 : decode cX8_linesArea 33 = .ok (.iload_n 1, 1) := by decide +kernel
theorem dX8_linesArea_34 : decode cX8_linesArea 34 = .ok (.iadd, 1) := by decide +kernel
theorem dX8_linesArea_35 : decode cX8_linesArea 35 = .ok (.iaload, 1) := by decide +kernel
theorem dX8_linesArea_36 : decode cX8_linesArea 36 = .ok (.aload_n 0, 1) := by decide +kernel
theorem dX8_linesArea_37 : decode cX8_linesArea 37 = .ok (.getfield 7, 3) := by decide +kernel
theorem dX8_linesArea_40 : decode cX8_linesArea 40 = .ok (.sipush 250, 3) := by decide +kernel
theorem dX8_linesArea_43 : decode cX8_linesArea 43 = .ok (.iload_n 1, 1) := by decide +kernel
theorem dX8_linesArea_44 : decode cX8_linesArea 44 = .ok (.iadd, 1) := by decide +kernel
theorem dX8_linesArea_45 : decode cX8_linesArea 45 = .ok (.iaload, 1) := by decide +kernel
theorem dX8_linesArea_46 : decode cX8_linesArea 46 = .ok (.invokevirtual 248, 3) := by decide +kernel
theorem dX8_linesArea_49 : decode cX8_linesArea 49 = .ok (.ifCond .eq 8, 3) := by decide +kernel
theorem dX8_linesArea_52 : decode cX8_linesArea 52 = .ok (.aload_n 0, 1) := by decide +kernel
theorem dX8_linesArea_53 : decode cX8_linesArea 53 = .ok (.iload_n 1, 1) := by decide +kernel
theorem dX8_linesArea_54 : decode cX8_linesArea 54 = .ok (.invokevirtual 124, 3) := by decide +kernel
theorem dX8_linesArea_57 : decode cX8_linesArea 57 = .ok (.iinc 1 1, 3) := by decide +kernel
theorem dX8_linesArea_60 : decode cX8_linesArea 60 = .ok (.goto (-53), 3) := by decide +kernel
theorem dX8_linesArea_63 : decode cX8_linesArea 63 = .ok (.return_, 1) := by decide +kernel
theorem dX8_inside_0 : decode cX8_inside 0 = .ok (.aload_n 0, 1) := by decide +kernel
theorem dX8_inside_1 : decode cX8_inside 1 = .ok (.invokevirtual 251, 3) := by decide +kernel
theorem dX8_inside_4 : decode cX8_inside 4 = .ok (.iconst 0, 1) := by decide +kernel
theorem dX8_inside_5 : decode cX8_inside 5 = .ok (.istore_n 1, 1) := by decide +kernel
theorem dX8_inside_6 : decode cX8_inside 6 = .ok (.iconst 0, 1) := by decide +kernel
theorem dX8_inside_7 : decode cX8_inside 7 = .ok (.istore_n 2, 1) := by decide +kernel
theorem dX8_inside_8 : decode cX8_inside 8 = .ok (.iload_n 2, 1) := by decide +kernel
theorem dX8_inside_9 : decode cX8_inside 9 = .ok (.aload_n 0, 1) := by decide +kernel
theorem dX8_inside_10 : decode cX8_inside 10 = .ok (.getfield 113, 3) := by decide +kernel
theorem dX8_inside_13 : decode cX8_inside 13 = .ok (.if_icmp .ge 22, 3) := by decide +kernel
theorem dX8_inside_16 : decode cX8_inside 16 = .ok (.iload_n 1, 1) := by decide +kernel
theorem dX8_inside_17 : decode cX8_inside 17 = .ok (.aload_n 0, 1) := by decide +kernel
theorem dX8_inside_18 : decode cX8_inside 18 = .ok (.aload_n 0, 1) := by decide +kernel
theorem dX8_inside_19 : decode cX8_inside 19 = .ok (.getfield 33, 3) := by decide +kernel
theorem dX8_inside_22 : decode cX8_inside 22 = .ok (.iload_n 2, 1) := by decide +kernel
theorem dX8_inside_23 : decode cX8_inside 23 = .ok (.iaload, 1) := by decide +kernel
theorem dX8_inside_24 : decode cX8_inside 24 = .ok (.invokevirtual 143, 3) := by decide +kernel
theorem dX8_inside_27 : decode cX8_inside 27 = .ok (.iadd, 1) := by decide +kernel
theorem dX8_inside_28 : decode cX8_inside 28 = .ok (.istore_n 1, 1) := by decide +kernel
theorem dX8_inside_29 : decode cX8_inside 29 = .ok (.iinc 2 1, 3) := by decide +kernel
theorem dX8_inside_32 : decode cX8_inside 32 = .ok (.goto (-24), 3) := by decide +kernel
theorem dX8_inside_35 : decode cX8_inside 35 = .ok (.iload_n 1, 1) := by decide +kernel
theorem dX8_inside_36 : decode cX8_inside 36 = .ok (.ireturn, 1) := by decide +kernel
theorem dX8_covers_0 : decode cX8_covers 0 = .ok (.iload_n 1, 1) := by decide +kernel
theorem dX8_covers_1 : decode cX8_covers 1 = .ok (.invokestatic 53, 3) := by decide +kernel
theorem dX8_covers_4 : decode cX8_covers 4 = .ok (.ifCond .eq 10, 3) := by decide +kernel
theorem dX8_covers_7 : decode cX8_covers 7 = .ok (.iload_n 2, 1) := by decide +kernel
theorem dX8_covers_8 : decode cX8_covers 8 = .ok (.invokestatic 53, 3) := by decide +kernel
theorem dX8_covers_11 : decode cX8_covers 11 = .ok (.ifCond .ne 8, 3) := by decide +kernel
theorem dX8_covers_14 : decode cX8_covers 14 = .ok (.aload_n 0, 1) := by decide +kernel
theorem dX8_covers_15 : decode cX8_covers 15 = .ok (.invokevirtual 81, 3) := by decide +kernel
theorem dX8_covers_18 : decode cX8_covers 18 = .ok (.ireturn, 1) := by decide +kernel
theorem dX8_covers_19 : decode cX8_covers 19 = .ok (.aload_n 0, 1) := by decide +kernel
theorem dX8_covers_20 : decode cX8_covers 20 = .ok (.iload_n 1, 1) := by decide +kernel
theorem dX8_covers_21 : decode cX8_covers 21 = .ok (.iload_n 2, 1) := by decide +kernel
theorem dX8_covers_22 : decode cX8_covers 22 = .ok (.invokevirtual 248, 3) := by decide +kernel
theorem dX8_covers_25 : decode cX8_covers 25 = .ok (.ifCond .eq 7, 3) := by decide +kernel
theorem dX8_covers_28 : decode cX8_covers 28 = .ok (.iconst 1, 1) := by decide +kernel
theorem dX8_covers_29 : decode cX8_covers 29 = .ok (.goto 4, 3) := by decide +kernel
theorem dX8_covers_32 : decode cX8_covers 32 = .ok (.iconst 0, 1) := by decide +kernel
theorem dX8_covers_33 : decode cX8_covers 33 = .ok (.ireturn, 1) := by decide +kernel
theorem dX8_found_0 : decode cX8_found 0 = .ok (.iload_n 1, 1) := by decide +kernel
theorem dX8_found_1 : decode cX8_found 1 = .ok (.ifCond .ge 8, 3) := by decide +kernel
theorem dX8_found_4 : decode cX8_found 4 = .ok (.aload_n 0, 1) := by decide +kernel
theorem dX8_found_5 : decode cX8_found 5 = .ok (.invokevirtual 81, 3) := by decide +kernel
theorem dX8_found_8 : decode cX8_found 8 = .ok (.ireturn, 1) := by decide +kernel
theorem dX8_found_9 : decode cX8_found 9 = .ok (.aload_n 0, 1) := by decide +kernel
theorem dX8_found_10 : decode cX8_found 10 = .ok (.invokevirtual 251, 3) := by decide +kernel
theorem dX8_found_13 : decode cX8_found 13 = .ok (.iload_n 1, 1) := by decide +kernel
theorem dX8_found_14 : decode cX8_found 14 = .ok (.aload_n 0, 1) := by decide +kernel
theorem dX8_found_15 : decode cX8_found 15 = .ok (.getfield 113, 3) := by decide +kernel
theorem dX8_found_18 : decode cX8_found 18 = .ok (.if_icmp .ge 20, 3) := by decide +kernel
theorem dX8_found_21 : decode cX8_found 21 = .ok (.aload_n 0, 1) := by decide +kernel
theorem dX8_found_22 : decode cX8_found 22 = .ok (.getfield 7, 3) := by decide +kernel
theorem dX8_found_25 : decode cX8_found 25 = .ok (.bipush 6, 2) := by decide +kernel
theorem dX8_found_27 : decode cX8_found 27 = .ok (.aload_n 0, 1) := by decide +kernel
theorem dX8_found_28 : decode cX8_found 28 = .ok (.getfield 33, 3) := by decide +kernel
theorem dX8_found_31 : decode cX8_found 31 = .ok (.iload_n 1, 1) := by decide +kernel
theorem dX8_found_32 : decode cX8_found 32 = .ok (.iaload, 1) := by decide +kernel
theorem dX8_found_33 : decode cX8_found 33 = .ok (.iadd, 1) := by decide +kernel
theorem dX8_found_34 : decode cX8_found 34 = .ok (.iaload, 1) := by decide +kernel
theorem dX8_found_35 : decode cX8_found 35 = .ok (.goto 5, 3) := by decide +kernel
theorem dX8_found_38 : decode cX8_found 38 = .ok (.ldc 152, 2) := by decide +kernel
theorem dX8_found_40 : decode cX8_found 40 = .ok (.ireturn, 1) := by decide +kernel
theorem dX8_mow_0 : decode cX8_mow 0 = .ok (.aload_n 0, 1) := by decide +kernel
theorem dX8_mow_1 : decode cX8_mow 1 = .ok (.invokevirtual 251, 3) := by decide +kernel
theorem dX8_mow_4 : decode cX8_mow 4 = .ok (.aload_n 0, 1) := by decide +kernel
theorem dX8_mow_5 : decode cX8_mow 5 = .ok (.invokevirtual 135, 3) := by decide +kernel
theorem dX8_mow_8 : decode cX8_mow 8 = .ok (.ireturn, 1) := by decide +kernel
theorem dX8_tells_0 : decode cX8_tells 0 = .ok (.lload_n 1, 1) := by decide +kernel
theorem dX8_tells_1 : decode cX8_tells 1 = .ok (.lstore 5, 2) := by decide +kernel
theorem dX8_tells_3 : decode cX8_tells 3 = .ok (.lload_n 3, 1) := by decide +kernel
theorem dX8_tells_4 : decode cX8_tells 4 = .ok (.lstore 7, 2) := by decide +kernel
theorem dX8_tells_6 : decode cX8_tells 6 = .ok (.lload 7, 2) := by decide +kernel
theorem dX8_tells_8 : decode cX8_tells 8 = .ok (.lconst 0, 1) := by decide +kernel
theorem dX8_tells_9 : decode cX8_tells 9 = .ok (.lcmp, 1) := by decide +kernel
theorem dX8_tells_10 : decode cX8_tells 10 = .ok (.ifCond .eq 21, 3) := by decide +kernel
theorem dX8_tells_13 : decode cX8_tells 13 = .ok (.lload 5, 2) := by decide +kernel
theorem dX8_tells_15 : decode cX8_tells 15 = .ok (.lload 7, 2) := by decide +kernel
theorem dX8_tells_17 : decode cX8_tells 17 = .ok (.lrem, 1) := by decide +kernel
theorem dX8_tells_18 : decode cX8_tells 18 = .ok (.lstore 9, 2) := by decide +kernel
theorem dX8_tells_20 : decode cX8_tells 20 = .ok (.lload 7, 2) := by decide +kernel
theorem dX8_tells_22 : decode cX8_tells 22 = .ok (.lstore 5, 2) := by decide +kernel
theorem dX8_tells_24 : decode cX8_tells 24 = .ok (.lload 9, 2) := by decide +kernel
theorem dX8_tells_26 : decode cX8_tells 26 = .ok (.lstore 7, 2) := by decide +kernel
theorem dX8_tells_28 : decode cX8_tells 28 = .ok (.goto (-22), 3) := by decide +kernel
theorem dX8_tells_31 : decode cX8_tells 31 = .ok (.aload_n 0, 1) := by decide +kernel
theorem dX8_tells_32 : decode cX8_tells 32 = .ok (.lload_n 1, 1) := by decide +kernel
theorem dX8_tells_33 : decode cX8_tells 33 = .ok (.lload 5, 2) := by decide +kernel
theorem dX8_tells_35 : decode cX8_tells 35 = .ok (.ldiv, 1) := by decide +kernel
theorem dX8_tells_36 : decode cX8_tells 36 = .ok (.putfield 23, 3) := by decide +kernel
theorem dX8_tells_39 : decode cX8_tells 39 = .ok (.aload_n 0, 1) := by decide +kernel
theorem dX8_tells_40 : decode cX8_tells 40 = .ok (.lload_n 3, 1) := by decide +kernel
theorem dX8_tells_41 : decode cX8_tells 41 = .ok (.lload 5, 2) := by decide +kernel
theorem dX8_tells_43 : decode cX8_tells 43 = .ok (.ldiv, 1) := by decide +kernel
theorem dX8_tells_44 : decode cX8_tells 44 = .ok (.putfield 27, 3) := by decide +kernel
theorem dX8_tells_47 : decode cX8_tells 47 = .ok (.iconst 1, 1) := by decide +kernel
theorem dX8_tells_48 : decode cX8_tells 48 = .ok (.ireturn, 1) := by decide +kernel
theorem dX8_odds_0 : decode cX8_odds 0 = .ok (.iload_n 1, 1) := by decide +kernel
theorem dX8_odds_1 : decode cX8_odds 1 = .ok (.iload_n 2, 1) := by decide +kernel
theorem dX8_odds_2 : decode cX8_odds 2 = .ok (.iload_n 3, 1) := by decide +kernel
theorem dX8_odds_3 : decode cX8_odds 3 = .ok (.iload 4, 2) := by decide +kernel
theorem dX8_odds_5 : decode cX8_odds 5 = .ok (.invokestatic 127, 3) := by decide +kernel
theorem dX8_odds_8 : decode cX8_odds 8 = .ok (.ifCond .eq 29, 3) := by decide +kernel
theorem dX8_odds_11 : decode cX8_odds 11 = .ok (.iload 5, 2) := by decide +kernel
theorem dX8_odds_13 : decode cX8_odds 13 = .ok (.i2l, 1) := by decide +kernel
theorem dX8_odds_14 : decode cX8_odds 14 = .ok (.lconst 0, 1) := by decide +kernel
theorem dX8_odds_15 : decode cX8_odds 15 = .ok (.ldc2_w 254, 3) := by decide +kernel
theorem dX8_odds_18 : decode cX8_odds 18 = .ok (.invokestatic 49, 3) := by decide +kernel
theorem dX8_odds_21 : decode cX8_odds 21 = .ok (.ifCond .eq 16, 3) := by decide +kernel
theorem dX8_odds_24 : decode cX8_odds 24 = .ok (.iload 6, 2) := by decide +kernel
theorem dX8_odds_26 : decode cX8_odds 26 = .ok (.i2l, 1) := by decide +kernel
theorem dX8_odds_27 : decode cX8_odds 27 = .ok (.lconst 0, 1) := by decide +kernel
theorem dX8_odds_28 : decode cX8_odds 28 = .ok (.ldc2_w 256, 3) := by decide +kernel
theorem dX8_odds_31 : decode cX8_odds 31 = .ok (.invokestatic 49, 3) := by decide +kernel
theorem dX8_odds_34 : decode cX8_odds 34 = .ok (.ifCond .ne 8, 3) := by decide +kernel
theorem dX8_odds_37 : decode cX8_odds 37 = .ok (.aload_n 0, 1) := by decide +kernel
theorem dX8_odds_38 : decode cX8_odds 38 = .ok (.invokevirtual 81, 3) := by decide +kernel
theorem dX8_odds_41 : decode cX8_odds 41 = .ok (.ireturn, 1) := by decide +kernel
theorem dX8_odds_42 : decode cX8_odds 42 = .ok (.aload_n 0, 1) := by decide +kernel
theorem dX8_odds_43 : decode cX8_odds 43 = .ok (.iload_n 1, 1) := by decide +kernel
theorem dX8_odds_44 : decode cX8_odds 44 = .ok (.iload_n 2, 1) := by decide +kernel
theorem dX8_odds_45 : decode cX8_odds 45 = .ok (.iload_n 3, 1) := by decide +kernel
theorem dX8_odds_46 : decode cX8_odds 46 = .ok (.iload 4, 2) := by decide +kernel
theorem dX8_odds_48 : decode cX8_odds 48 = .ok (.invokevirtual 159, 3) := by decide +kernel
theorem dX8_odds_51 : decode cX8_odds 51 = .ok (.istore 7, 2) := by decide +kernel
theorem dX8_odds_53 : decode cX8_odds 53 = .ok (.iload 7, 2) := by decide +kernel
theorem dX8_odds_55 : decode cX8_odds 55 = .ok (.bipush 15, 2) := by decide +kernel
theorem dX8_odds_57 : decode cX8_odds 57 = .ok (.if_icmp .le 8, 3) := by decide +kernel
theorem dX8_odds_60 : decode cX8_odds 60 = .ok (.aload_n 0, 1) := by decide +kernel
theorem dX8_odds_61 : decode cX8_odds 61 = .ok (.invokevirtual 140, 3) := by decide +kernel
theorem dX8_odds_64 : decode cX8_odds 64 = .ok (.ireturn, 1) := by decide +kernel
theorem dX8_odds_65 : decode cX8_odds 65 = .ok (.lconst 0, 1) := by decide +kernel
theorem dX8_odds_66 : decode cX8_odds 66 = .ok (.lstore 8, 2) := by decide +kernel
theorem dX8_odds_68 : decode cX8_odds 68 = .ok (.lconst 1, 1) := by decide +kernel
theorem dX8_odds_69 : decode cX8_odds 69 = .ok (.lstore 10, 2) := by decide +kernel
theorem dX8_odds_71 : decode cX8_odds 71 = .ok (.lconst 1, 1) := by decide +kernel
theorem dX8_odds_72 : decode cX8_odds 72 = .ok (.lstore 12, 2) := by decide +kernel
theorem dX8_odds_74 : decode cX8_odds 74 = .ok (.iconst 0, 1) := by decide +kernel
theorem dX8_odds_75 : decode cX8_odds 75 = .ok (.istore 14, 2) := by decide +kernel
theorem dX8_odds_77 : decode cX8_odds 77 = .ok (.iload 14, 2) := by decide +kernel
theorem dX8_odds_79 : decode cX8_odds 79 = .ok (.iload 7, 2) := by decide +kernel
theorem dX8_odds_81 : decode cX8_odds 81 = .ok (.if_icmp .gt 107, 3) := by decide +kernel
theorem dX8_odds_84 : decode cX8_odds 84 = .ok (.lload 12, 2) := by decide +kernel
theorem dX8_odds_86 : decode cX8_odds 86 = .ok (.lstore 15, 2) := by decide +kernel
theorem dX8_odds_88 : decode cX8_odds 88 = .ok (.iconst 0, 1) := by decide +kernel
theorem dX8_odds_89 : decode cX8_odds 89 = .ok (.istore 17, 2) := by decide +kernel
theorem dX8_odds_91 : decode cX8_odds 91 = .ok (.iload 17, 2) := by decide +kernel
theorem dX8_odds_93 : decode cX8_odds 93 = .ok (.iload 7, 2) := by decide +kernel
theorem dX8_odds_95 : decode cX8_odds 95 = .ok (.if_icmp .ge 33, 3) := by decide +kernel
theorem dX8_odds_98 : decode cX8_odds 98 = .ok (.lload 15, 2) := by decide +kernel
theorem dX8_odds_100 : decode cX8_odds 100 = .ok (.iload 17, 2) := by decide +kernel
theorem dX8_odds_102 : decode cX8_odds 102 = .ok (.iload 14, 2) := by decide +kernel
theorem dX8_odds_104 : decode cX8_odds 104 = .ok (.if_icmp .ge 9, 3) := by decide +kernel
theorem dX8_odds_107 : decode cX8_odds 107 = .ok (.iload 6, 2) := by decide +kernel
theorem dX8_odds_109 : decode cX8_odds 109 = .ok (.i2l, 1) := by decide +kernel
theorem dX8_odds_110 : decode cX8_odds 110 = .ok (.goto 9, 3) := by decide +kernel
theorem dX8_odds_113 : decode cX8_odds 113 = .ok (.bipush 10, 2) := by decide +kernel
theorem dX8_odds_115 : decode cX8_odds 115 = .ok (.iload 6, 2) := by decide +kernel
theorem dX8_odds_117 : decode cX8_odds 117 = .ok (.isub, 1) := by decide +kernel
theorem dX8_odds_118 : decode cX8_odds 118 = .ok (.i2l, 1) := by decide +kernel
theorem dX8_odds_119 : decode cX8_odds 119 = .ok (.lmul, 1) := by decide +kernel
theorem dX8_odds_120 : decode cX8_odds 120 = .ok (.lstore 15, 2) := by decide +kernel
theorem dX8_odds_122 : decode cX8_odds 122 = .ok (.iinc 17 1, 3) := by decide +kernel
theorem dX8_odds_125 : decode cX8_odds 125 = .ok (.goto (-34), 3) := by decide +kernel
theorem dX8_odds_128 : decode cX8_odds 128 = .ok (.lload 8, 2) := by decide +kernel
theorem dX8_odds_130 : decode cX8_odds 130 = .ok (.iload 14, 2) := by decide +kernel
theorem dX8_odds_132 : decode cX8_odds 132 = .ok (.iload 5, 2) := by decide +kernel
theorem dX8_odds_134 : decode cX8_odds 134 = .ok (.if_icmp .lt 8, 3) := by decide +kernel
theorem dX8_odds_137 : decode cX8_odds 137 = .ok (.lload 15, 2) := by decide +kernel
theorem dX8_odds_139 : decode cX8_odds 139 = .ok (.goto 4, 3) := by decide +kernel
theorem dX8_odds_142 : decode cX8_odds 142 = .ok (.lconst 0, 1) := by decide +kernel
theorem dX8_odds_143 : decode cX8_odds 143 = .ok (.ladd, 1) := by decide +kernel
theorem dX8_odds_144 : decode cX8_odds 144 = .ok (.lstore 8, 2) := by decide +kernel
theorem dX8_odds_146 : decode cX8_odds 146 = .ok (.lload 12, 2) := by decide +kernel
theorem dX8_odds_148 : decode cX8_odds 148 = .ok (.iload 7, 2) := by decide +kernel
theorem dX8_odds_150 : decode cX8_odds 150 = .ok (.iload 14, 2) := by decide +kernel
theorem dX8_odds_152 : decode cX8_odds 152 = .ok (.isub, 1) := by decide +kernel
theorem dX8_odds_153 : decode cX8_odds 153 = .ok (.i2l, 1) := by decide +kernel
theorem dX8_odds_154 : decode cX8_odds 154 = .ok (.lmul, 1) := by decide +kernel
theorem dX8_odds_155 : decode cX8_odds 155 = .ok (.iload 14, 2) := by decide +kernel
theorem dX8_odds_157 : decode cX8_odds 157 = .ok (.iconst 1, 1) := by decide +kernel
theorem dX8_odds_158 : decode cX8_odds 158 = .ok (.iadd, 1) := by decide +kernel
theorem dX8_odds_159 : decode cX8_odds 159 = .ok (.i2l, 1) := by decide +kernel
theorem dX8_odds_160 : decode cX8_odds 160 = .ok (.ldiv, 1) := by decide +kernel
theorem dX8_odds_161 : decode cX8_odds 161 = .ok (.lstore 12, 2) := by decide +kernel
theorem dX8_odds_163 : decode cX8_odds 163 = .ok (.lload 10, 2) := by decide +kernel
theorem dX8_odds_165 : decode cX8_odds 165 = .ok (.iload 14, 2) := by decide +kernel
theorem dX8_odds_167 : decode cX8_odds 167 = .ok (.iload 7, 2) := by decide +kernel
theorem dX8_odds_169 : decode cX8_odds 169 = .ok (.if_icmp .ge 9, 3) := by decide +kernel
theorem dX8_odds_172 : decode cX8_odds 172 = .ok (.ldc2_w 256, 3) := by decide +kernel
theorem dX8_odds_175 : decode cX8_odds 175 = .ok (.goto 4, 3) := by decide +kernel
theorem dX8_odds_178 : decode cX8_odds 178 = .ok (.lconst 1, 1) := by decide +kernel
theorem dX8_odds_179 : decode cX8_odds 179 = .ok (.lmul, 1) := by decide +kernel
theorem dX8_odds_180 : decode cX8_odds 180 = .ok (.lstore 10, 2) := by decide +kernel
theorem dX8_odds_182 : decode cX8_odds 182 = .ok (.iinc 14 1, 3) := by decide +kernel
theorem dX8_odds_185 : decode cX8_odds 185 = .ok (.goto (-108), 3) := by decide +kernel
theorem dX8_odds_188 : decode cX8_odds 188 = .ok (.aload_n 0, 1) := by decide +kernel
theorem dX8_odds_189 : decode cX8_odds 189 = .ok (.lload 8, 2) := by decide +kernel
theorem dX8_odds_191 : decode cX8_odds 191 = .ok (.lload 10, 2) := by decide +kernel
theorem dX8_odds_193 : decode cX8_odds 193 = .ok (.invokevirtual 258, 3) := by decide +kernel
theorem dX8_odds_196 : decode cX8_odds 196 = .ok (.ireturn, 1) := by decide +kernel
theorem dX8_part_0 : decode cX8_part 0 = .ok (.iload_n 1, 1) := by decide +kernel
theorem dX8_part_1 : decode cX8_part 1 = .ok (.i2l, 1) := by decide +kernel
theorem dX8_part_2 : decode cX8_part 2 = .ok (.lconst 0, 1) := by decide +kernel
theorem dX8_part_3 : decode cX8_part 3 = .ok (.lconst 1, 1) := by decide +kernel
theorem dX8_part_4 : decode cX8_part 4 = .ok (.invokestatic 49, 3) := by decide +kernel
theorem dX8_part_7 : decode cX8_part 7 = .ok (.ifCond .ne 17, 3) := by decide +kernel
theorem dX8_part_10 : decode cX8_part 10 = .ok (.aload_n 0, 1) := by decide +kernel
theorem dX8_part_11 : decode cX8_part 11 = .ok (.getfield 30, 3) := by decide +kernel
theorem dX8_part_14 : decode cX8_part 14 = .ok (.iconst 0, 1) := by decide +kernel
theorem dX8_part_15 : decode cX8_part 15 = .ok (.dup2, 1) := by decide +kernel
theorem dX8_part_16 : decode cX8_part 16 = .ok (.iaload, 1) := by decide +kernel
theorem dX8_part_17 : decode cX8_part 17 = .ok (.iconst 1, 1) := by decide +kernel
theorem dX8_part_18 : decode cX8_part 18 = .ok (.iadd, 1) := by decide +kernel
theorem dX8_part_19 : decode cX8_part 19 = .ok (.iastore, 1) := by decide +kernel
theorem dX8_part_20 : decode cX8_part 20 = .ok (.ldc2_w 262, 3) := by decide +kernel
theorem dX8_part_23 : decode cX8_part 23 = .ok (.lreturn, 1) := by decide +kernel
theorem dX8_part_24 : decode cX8_part 24 = .ok (.iload_n 1, 1) := by decide +kernel
theorem dX8_part_25 : decode cX8_part 25 = .ok (.ifCond .ne 10, 3) := by decide +kernel
theorem dX8_part_28 : decode cX8_part 28 = .ok (.aload_n 0, 1) := by decide +kernel
theorem dX8_part_29 : decode cX8_part 29 = .ok (.getfield 23, 3) := by decide +kernel
theorem dX8_part_32 : decode cX8_part 32 = .ok (.goto 7, 3) := by decide +kernel
theorem dX8_part_35 : decode cX8_part 35 = .ok (.aload_n 0, 1) := by decide +kernel
theorem dX8_part_36 : decode cX8_part 36 = .ok (.getfield 27, 3) := by decide +kernel
theorem dX8_part_39 : decode cX8_part 39 = .ok (.lreturn, 1) := by decide +kernel
theorem dX8_image_0 : decode cX8_image 0 = .ok (.iload_n 1, 1) := by decide +kernel
theorem dX8_image_1 : decode cX8_image 1 = .ok (.i2l, 1) := by decide +kernel
theorem dX8_image_2 : decode cX8_image 2 = .ok (.lconst 0, 1) := by decide +kernel
theorem dX8_image_3 : decode cX8_image 3 = .ok (.lconst 1, 1) := by decide +kernel
theorem dX8_image_4 : decode cX8_image 4 = .ok (.invokestatic 49, 3) := by decide +kernel
theorem dX8_image_7 : decode cX8_image 7 = .ok (.ifCond .ne 8, 3) := by decide +kernel
theorem dX8_image_10 : decode cX8_image 10 = .ok (.aload_n 0, 1) := by decide +kernel
theorem dX8_image_11 : decode cX8_image 11 = .ok (.invokevirtual 81, 3) := by decide +kernel
theorem dX8_image_14 : decode cX8_image 14 = .ok (.ireturn, 1) := by decide +kernel
theorem dX8_image_15 : decode cX8_image 15 = .ok (.aload_n 0, 1) := by decide +kernel
theorem dX8_image_16 : decode cX8_image 16 = .ok (.iconst 0, 1) := by decide +kernel
theorem dX8_image_17 : decode cX8_image 17 = .ok (.sipush 678, 3) := by decide +kernel
theorem dX8_image_20 : decode cX8_image 20 = .ok (.sipush 678, 3) := by decide +kernel
theorem dX8_image_23 : decode cX8_image 23 = .ok (.iload_n 1, 1) := by decide +kernel
theorem dX8_image_24 : decode cX8_image 24 = .ok (.imul, 1) := by decide +kernel
theorem dX8_image_25 : decode cX8_image 25 = .ok (.iadd, 1) := by decide +kernel
theorem dX8_image_26 : decode cX8_image 26 = .ok (.invokevirtual 64, 3) := by decide +kernel
theorem dX8_image_29 : decode cX8_image 29 = .ok (.aload_n 0, 1) := by decide +kernel
theorem dX8_image_30 : decode cX8_image 30 = .ok (.iconst 0, 1) := by decide +kernel
theorem dX8_image_31 : decode cX8_image 31 = .ok (.sipush 182, 3) := by decide +kernel
theorem dX8_image_34 : decode cX8_image 34 = .ok (.iconst 1, 1) := by decide +kernel
theorem dX8_image_35 : decode cX8_image 35 = .ok (.iload_n 1, 1) := by decide +kernel
theorem dX8_image_36 : decode cX8_image 36 = .ok (.iadd, 1) := by decide +kernel
theorem dX8_image_37 : decode cX8_image 37 = .ok (.imul, 1) := by decide +kernel
theorem dX8_image_38 : decode cX8_image 38 = .ok (.invokevirtual 245, 3) := by decide +kernel
theorem dX8_image_41 : decode cX8_image 41 = .ok (.aload_n 0, 1) := by decide +kernel
theorem dX8_image_42 : decode cX8_image 42 = .ok (.getfield 16, 3) := by decide +kernel
theorem dX8_image_45 : decode cX8_image 45 = .ok (.iload_n 1, 1) := by decide +kernel
theorem dX8_image_46 : decode cX8_image 46 = .ok (.iconst 1, 1) := by decide +kernel
theorem dX8_image_47 : decode cX8_image 47 = .ok (.bastore, 1) := by decide +kernel
theorem dX8_image_48 : decode cX8_image 48 = .ok (.iconst 1, 1) := by decide +kernel
theorem dX8_image_49 : decode cX8_image 49 = .ok (.ireturn, 1) := by decide +kernel
theorem dX8_from_0 : decode cX8_from 0 = .ok (.iload_n 1, 1) := by decide +kernel
theorem dX8_from_1 : decode cX8_from 1 = .ok (.i2l, 1) := by decide +kernel
theorem dX8_from_2 : decode cX8_from 2 = .ok (.lconst 0, 1) := by decide +kernel
theorem dX8_from_3 : decode cX8_from 3 = .ok (.lconst 1, 1) := by decide +kernel
theorem dX8_from_4 : decode cX8_from 4 = .ok (.invokestatic 49, 3) := by decide +kernel
theorem dX8_from_7 : decode cX8_from 7 = .ok (.ifCond .ne 8, 3) := by decide +kernel
theorem dX8_from_10 : decode cX8_from 10 = .ok (.aload_n 0, 1) := by decide +kernel
theorem dX8_from_11 : decode cX8_from 11 = .ok (.invokevirtual 81, 3) := by decide +kernel
theorem dX8_from_14 : decode cX8_from 14 = .ok (.ireturn, 1) := by decide +kernel
theorem dX8_from_15 : decode cX8_from 15 = .ok (.aload_n 0, 1) := by decide +kernel
theorem dX8_from_16 : decode cX8_from 16 = .ok (.getfield 16, 3) := by decide +kernel
theorem dX8_from_19 : decode cX8_from 19 = .ok (.iload_n 1, 1) := by decide +kernel
theorem dX8_from_20 : decode cX8_from 20 = .ok (.baload, 1) := by decide +kernel
theorem dX8_from_21 : decode cX8_from 21 = .ok (.ifCond .ne 8, 3) := by decide +kernel
theorem dX8_from_24 : decode cX8_from 24 = .ok (.aload_n 0, 1) := by decide +kernel
theorem dX8_from_25 : decode cX8_from 25 = .ok (.invokevirtual 140, 3) := by decide +kernel
theorem dX8_from_28 : decode cX8_from 28 = .ok (.ireturn, 1) := by decide +kernel
theorem dX8_from_29 : decode cX8_from 29 = .ok (.aload_n 0, 1) := by decide +kernel
theorem dX8_from_30 : decode cX8_from 30 = .ok (.sipush 678, 3) := by decide +kernel
theorem dX8_from_33 : decode cX8_from 33 = .ok (.sipush 678, 3) := by decide +kernel
theorem dX8_from_36 : decode cX8_from 36 = .ok (.iload_n 1, 1) := by decide +kernel
theorem dX8_from_37 : decode cX8_from 37 = .ok (.imul, 1) := by decide +kernel
theorem dX8_from_38 : decode cX8_from 38 = .ok (.iadd, 1) := by decide +kernel
theorem dX8_from_39 : decode cX8_from 39 = .ok (.iconst 0, 1) := by decide +kernel
theorem dX8_from_40 : decode cX8_from 40 = .ok (.invokevirtual 64, 3) := by decide +kernel
theorem dX8_from_43 : decode cX8_from 43 = .ok (.aload_n 0, 1) := by decide +kernel
theorem dX8_from_44 : decode cX8_from 44 = .ok (.sipush 182, 3) := by decide +kernel
theorem dX8_from_47 : decode cX8_from 47 = .ok (.iconst 1, 1) := by decide +kernel
theorem dX8_from_48 : decode cX8_from 48 = .ok (.iload_n 1, 1) := by decide +kernel
theorem dX8_from_49 : decode cX8_from 49 = .ok (.iadd, 1) := by decide +kernel
theorem dX8_from_50 : decode cX8_from 50 = .ok (.imul, 1) := by decide +kernel
theorem dX8_from_51 : decode cX8_from 51 = .ok (.iconst 0, 1) := by decide +kernel
theorem dX8_from_52 : decode cX8_from 52 = .ok (.invokevirtual 245, 3) := by decide +kernel
theorem dX8_from_55 : decode cX8_from 55 = .ok (.aload_n 0, 1) := by decide +kernel
theorem dX8_from_56 : decode cX8_from 56 = .ok (.iconst 0, 1) := by decide +kernel
theorem dX8_from_57 : decode cX8_from 57 = .ok (.putfield 60, 3) := by decide +kernel
theorem dX8_from_60 : decode cX8_from 60 = .ok (.iconst 1, 1) := by decide +kernel
theorem dX8_from_61 : decode cX8_from 61 = .ok (.ireturn, 1) := by decide +kernel
theorem dX8_status_0 : decode cX8_status 0 = .ok (.iload_n 1, 1) := by decide +kernel
theorem dX8_status_1 : decode cX8_status 1 = .ok (.i2l, 1) := by decide +kernel
theorem dX8_status_2 : decode cX8_status 2 = .ok (.lconst 0, 1) := by decide +kernel
theorem dX8_status_3 : decode cX8_status 3 = .ok (.ldc2_w 174, 3) := by decide +kernel
theorem dX8_status_6 : decode cX8_status 6 = .ok (.invokestatic 49, 3) := by decide +kernel
theorem dX8_status_9 : decode cX8_status 9 = .ok (.ifCond .ne 15, 3) := by decide +kernel
theorem dX8_status_12 : decode cX8_status 12 = .ok (.aload_n 0, 1) := by decide +kernel
theorem dX8_status_13 : decode cX8_status 13 = .ok (.getfield 30, 3) := by decide +kernel
theorem dX8_status_16 : decode cX8_status 16 = .ok (.iconst 0, 1) := by decide +kernel
theorem dX8_status_17 : decode cX8_status 17 = .ok (.dup2, 1) := by decide +kernel
theorem dX8_status_18 : decode cX8_status 18 = .ok (.iaload, 1) := by decide +kernel
theorem dX8_status_19 : decode cX8_status 19 = .ok (.iconst 1, 1) := by decide +kernel
theorem dX8_status_20 : decode cX8_status 20 = .ok (.iadd, 1) := by decide +kernel
theorem dX8_status_21 : decode cX8_status 21 = .ok (.iastore, 1) := by decide +kernel
theorem dX8_status_22 : decode cX8_status 22 = .ok (.iconst (-1), 1) := by decide +kernel
theorem dX8_status_23 : decode cX8_status 23 = .ok (.ireturn, 1) := by decide +kernel
theorem dX8_status_24 : decode cX8_status 24 = .ok (.aload_n 0, 1) := by decide +kernel
theorem dX8_status_25 : decode cX8_status 25 = .ok (.getfield 30, 3) := by decide +kernel
theorem dX8_status_28 : decode cX8_status 28 = .ok (.iload_n 1, 1) := by decide +kernel
theorem dX8_status_29 : decode cX8_status 29 = .ok (.iaload, 1) := by decide +kernel
theorem dX8_status_30 : decode cX8_status 30 = .ok (.ireturn, 1) := by decide +kernel
theorem dX8_weights_0 : decode cX8_weights 0 = .ok (.iconst 0, 1) := by decide +kernel
theorem dX8_weights_1 : decode cX8_weights 1 = .ok (.istore_n 1, 1) := by decide +kernel
theorem dX8_weights_2 : decode cX8_weights 2 = .ok (.iconst 0, 1) := by decide +kernel
theorem dX8_weights_3 : decode cX8_weights 3 = .ok (.istore_n 2, 1) := by decide +kernel
theorem dX8_weights_4 : decode cX8_weights 4 = .ok (.iload_n 2, 1) := by decide +kernel
theorem dX8_weights_5 : decode cX8_weights 5 = .ok (.aload_n 0, 1) := by decide +kernel
theorem dX8_weights_6 : decode cX8_weights 6 = .ok (.getfield 7, 3) := by decide +kernel
theorem dX8_weights_9 : decode cX8_weights 9 = .ok (.iconst 0, 1) := by decide +kernel
theorem dX8_weights_10 : decode cX8_weights 10 = .ok (.iaload, 1) := by decide +kernel
theorem dX8_weights_11 : decode cX8_weights 11 = .ok (.if_icmp .ge 34, 3) := by decide +kernel
theorem dX8_weights_14 : decode cX8_weights 14 = .ok (.iload_n 1, 1) := by decide +kernel
theorem dX8_weights_15 : decode cX8_weights 15 = .ok (.aload_n 0, 1) := by decide +kernel
theorem dX8_weights_16 : decode cX8_weights 16 = .ok (.iload_n 2, 1) := by decide +kernel
theorem dX8_weights_17 : decode cX8_weights 17 = .ok (.invokevirtual 57, 3) := by decide +kernel
theorem dX8_weights_20 : decode cX8_weights 20 = .ok (.ifCond .eq 16, 3) := by decide +kernel
theorem dX8_weights_23 : decode cX8_weights 23 = .ok (.aload_n 0, 1) := by decide +kernel
theorem dX8_weights_24 : decode cX8_weights 24 = .ok (.getfield 7, 3) := by decide +kernel
theorem dX8_weights_27 : decode cX8_weights 27 = .ok (.sipush 372, 3) := by decide +kernel
theorem dX8_weights_30 : decode cX8_weights 30 = .ok (.iload_n 2, 1) := by decide +kernel
theorem dX8_weights_31 : decode cX8_weights 31 = .ok (.iadd, 1) := by decide +kernel
theorem dX8_weights_32 : decode cX8_weights 32 = .ok (.iaload, 1) := by decide +kernel
theorem dX8_weights_33 : decode cX8_weights 33 = .ok (.goto 4, 3) := by decide +kernel
theorem dX8_weights_36 : decode cX8_weights 36 = .ok (.iconst 0, 1) := by decide +kernel
theorem dX8_weights_37 : decode cX8_weights 37 = .ok (.iadd, 1) := by decide +kernel
theorem dX8_weights_38 : decode cX8_weights 38 = .ok (.istore_n 1, 1) := by decide +kernel
theorem dX8_weights_39 : decode cX8_weights 39 = .ok (.iinc 2 1, 3) := by decide +kernel
theorem dX8_weights_42 : decode cX8_weights 42 = .ok (.goto (-38), 3) := by decide +kernel
theorem dX8_weights_45 : decode cX8_weights 45 = .ok (.iload_n 1, 1) := by decide +kernel
theorem dX8_weights_46 : decode cX8_weights 46 = .ok (.ireturn, 1) := by decide +kernel
theorem dX8_sizeOf_0 : decode cX8_sizeOf 0 = .ok (.iload_n 1, 1) := by decide +kernel
theorem dX8_sizeOf_1 : decode cX8_sizeOf 1 = .ok (.tableswitch 84 0 6 #[43, 48, 55, 62, 69, 74, 79], 43) := by decide +kernel
theorem dX8_sizeOf_44 : decode cX8_sizeOf 44 = .ok (.aload_n 0, 1) := by decide +kernel
theorem dX8_sizeOf_45 : decode cX8_sizeOf 45 = .ok (.invokevirtual 72, 3) := by decide +kernel
theorem dX8_sizeOf_48 : decode cX8_sizeOf 48 = .ok (.ireturn, 1) := by decide +kernel
theorem dX8_sizeOf_49 : decode cX8_sizeOf 49 = .ok (.aload_n 0, 1) := by decide +kernel
theorem dX8_sizeOf_50 : decode cX8_sizeOf 50 = .ok (.getfield 7, 3) := by decide +kernel
theorem dX8_sizeOf_53 : decode cX8_sizeOf 53 = .ok (.iconst 1, 1) := by decide +kernel
theorem dX8_sizeOf_54 : decode cX8_sizeOf 54 = .ok (.iaload, 1) := by decide +kernel
theorem dX8_sizeOf_55 : decode cX8_sizeOf 55 = .ok (.ireturn, 1) := by decide +kernel
theorem dX8_sizeOf_56 : decode cX8_sizeOf 56 = .ok (.aload_n 0, 1) := by decide +kernel
theorem dX8_sizeOf_57 : decode cX8_sizeOf 57 = .ok (.getfield 7, 3) := by decide +kernel
theorem dX8_sizeOf_60 : decode cX8_sizeOf 60 = .ok (.iconst 2, 1) := by decide +kernel
theorem dX8_sizeOf_61 : decode cX8_sizeOf 61 = .ok (.iaload, 1) := by decide +kernel
theorem dX8_sizeOf_62 : decode cX8_sizeOf 62 = .ok (.ireturn, 1) := by decide +kernel
theorem dX8_sizeOf_63 : decode cX8_sizeOf 63 = .ok (.aload_n 0, 1) := by decide +kernel
theorem dX8_sizeOf_64 : decode cX8_sizeOf 64 = .ok (.getfield 7, 3) := by decide +kernel
theorem dX8_sizeOf_67 : decode cX8_sizeOf 67 = .ok (.iconst 3, 1) := by decide +kernel
theorem dX8_sizeOf_68 : decode cX8_sizeOf 68 = .ok (.iaload, 1) := by decide +kernel
theorem dX8_sizeOf_69 : decode cX8_sizeOf 69 = .ok (.ireturn, 1) := by decide +kernel
theorem dX8_sizeOf_70 : decode cX8_sizeOf 70 = .ok (.aload_n 0, 1) := by decide +kernel
theorem dX8_sizeOf_71 : decode cX8_sizeOf 71 = .ok (.invokevirtual 264, 3) := by decide +kernel
theorem dX8_sizeOf_74 : decode cX8_sizeOf 74 = .ok (.ireturn, 1) := by decide +kernel
theorem dX8_sizeOf_75 : decode cX8_sizeOf 75 = .ok (.aload_n 0, 1) := by decide +kernel
theorem dX8_sizeOf_76 : decode cX8_sizeOf 76 = .ok (.getfield 60, 3) := by decide +kernel
theorem dX8_sizeOf_79 : decode cX8_sizeOf 79 = .ok (.ireturn, 1) := by decide +kernel
theorem dX8_sizeOf_80 : decode cX8_sizeOf 80 = .ok (.aload_n 0, 1) := by decide +kernel
theorem dX8_sizeOf_81 : decode cX8_sizeOf 81 = .ok (.getfield 188, 3) := by decide +kernel
theorem dX8_sizeOf_84 : decode cX8_sizeOf 84 = .ok (.ireturn, 1) := by decide +kernel
theorem dX8_sizeOf_85 : decode cX8_sizeOf 85 = .ok (.aload_n 0, 1) := by decide +kernel
theorem dX8_sizeOf_86 : decode cX8_sizeOf 86 = .ok (.getfield 13, 3) := by decide +kernel
theorem dX8_sizeOf_89 : decode cX8_sizeOf 89 = .ok (.iconst 1, 1) := by decide +kernel
theorem dX8_sizeOf_90 : decode cX8_sizeOf 90 = .ok (.iaload, 1) := by decide +kernel
theorem dX8_sizeOf_91 : decode cX8_sizeOf 91 = .ok (.ireturn, 1) := by decide +kernel
theorem dX8_size_0 : decode cX8_size 0 = .ok (.iload_n 1, 1) := by decide +kernel
theorem dX8_size_1 : decode cX8_size 1 = .ok (.i2l, 1) := by decide +kernel
theorem dX8_size_2 : decode cX8_size 2 = .ok (.lconst 0, 1) := by decide +kernel
theorem dX8_size_3 : decode cX8_size 3 = .ok (.ldc2_w 267, 3) := by decide +kernel
theorem dX8_size_6 : decode cX8_size 6 = .ok (.invokestatic 49, 3) := by decide +kernel
theorem dX8_size_9 : decode cX8_size 9 = .ok (.ifCond .eq 11, 3) := by decide +kernel
theorem dX8_size_12 : decode cX8_size 12 = .ok (.aload_n 0, 1) := by decide +kernel
theorem dX8_size_13 : decode cX8_size 13 = .ok (.iload_n 1, 1) := by decide +kernel
theorem dX8_size_14 : decode cX8_size 14 = .ok (.invokevirtual 269, 3) := by decide +kernel
theorem dX8_size_17 : decode cX8_size 17 = .ok (.goto 7, 3) := by decide +kernel
theorem dX8_size_20 : decode cX8_size 20 = .ok (.aload_n 0, 1) := by decide +kernel
theorem dX8_size_21 : decode cX8_size 21 = .ok (.invokevirtual 81, 3) := by decide +kernel
theorem dX8_size_24 : decode cX8_size 24 = .ok (.ireturn, 1) := by decide +kernel
theorem dX8_mix_0 : decode cX8_mix 0 = .ok (.aload_n 0, 1) := by decide +kernel
theorem dX8_mix_1 : decode cX8_mix 1 = .ok (.ldc2_w 272, 3) := by decide +kernel
theorem dX8_mix_4 : decode cX8_mix 4 = .ok (.aload_n 0, 1) := by decide +kernel
theorem dX8_mix_5 : decode cX8_mix 5 = .ok (.getfield 274, 3) := by decide +kernel
theorem dX8_mix_8 : decode cX8_mix 8 = .ok (.lmul, 1) := by decide +kernel
theorem dX8_mix_9 : decode cX8_mix 9 = .ok (.lload_n 1, 1) := by decide +kernel
theorem dX8_mix_10 : decode cX8_mix 10 = .ok (.ladd, 1) := by decide +kernel
theorem dX8_mix_11 : decode cX8_mix 11 = .ok (.putfield 274, 3) := by decide +kernel
theorem dX8_mix_14 : decode cX8_mix 14 = .ok (.return_, 1) := by decide +kernel
theorem dX8_digest_0 : decode cX8_digest 0 = .ok (.aload_n 0, 1) := by decide +kernel
theorem dX8_digest_1 : decode cX8_digest 1 = .ok (.ldc2_w 277, 3) := by decide +kernel
theorem dX8_digest_4 : decode cX8_digest 4 = .ok (.putfield 274, 3) := by decide +kernel
theorem dX8_digest_7 : decode cX8_digest 7 = .ok (.iconst 0, 1) := by decide +kernel
theorem dX8_digest_8 : decode cX8_digest 8 = .ok (.istore_n 1, 1) := by decide +kernel
theorem dX8_digest_9 : decode cX8_digest 9 = .ok (.iload_n 1, 1) := by decide +kernel
theorem dX8_digest_10 : decode cX8_digest 10 = .ok (.bipush 8, 2) := by decide +kernel
theorem dX8_digest_12 : decode cX8_digest 12 = .ok (.if_icmp .ge 19, 3) := by decide +kernel
theorem dX8_digest_15 : decode cX8_digest 15 = .ok (.aload_n 0, 1) := by decide +kernel
theorem dX8_digest_16 : decode cX8_digest 16 = .ok (.aload_n 0, 1) := by decide +kernel
theorem dX8_digest_17 : decode cX8_digest 17 = .ok (.iload_n 1, 1) := by decide +kernel
theorem dX8_digest_18 : decode cX8_digest 18 = .ok (.invokevirtual 269, 3) := by decide +kernel
theorem dX8_digest_21 : decode cX8_digest 21 = .ok (.i2l, 1) := by decide +kernel
theorem dX8_digest_22 : decode cX8_digest 22 = .ok (.invokevirtual 279, 3) := by decide +kernel
theorem dX8_digest_25 : decode cX8_digest 25 = .ok (.iinc 1 1, 3) := by decide +kernel
theorem dX8_digest_28 : decode cX8_digest 28 = .ok (.goto (-19), 3) := by decide +kernel
theorem dX8_digest_31 : decode cX8_digest 31 = .ok (.iconst 0, 1) := by decide +kernel
theorem dX8_digest_32 : decode cX8_digest 32 = .ok (.istore_n 1, 1) := by decide +kernel
theorem dX8_digest_33 : decode cX8_digest 33 = .ok (.iload_n 1, 1) := by decide +kernel
theorem dX8_digest_34 : decode cX8_digest 34 = .ok (.iconst 5, 1) := by decide +kernel
theorem dX8_digest_35 : decode cX8_digest 35 = .ok (.if_icmp .ge 19, 3) := by decide +kernel
theorem dX8_digest_38 : decode cX8_digest 38 = .ok (.aload_n 0, 1) := by decide +kernel
theorem dX8_digest_39 : decode cX8_digest 39 = .ok (.aload_n 0, 1) := by decide +kernel
theorem dX8_digest_40 : decode cX8_digest 40 = .ok (.iload_n 1, 1) := by decide +kernel
theorem dX8_digest_41 : decode cX8_digest 41 = .ok (.invokevirtual 181, 3) := by decide +kernel
end
section
theorem dX8_digest_44 : decode cX8_digest 44 = .ok (.i2l, 1) := by decide +kernel
theorem dX8_digest_45 : decode cX8_digest 45 = .ok (.invokevirtual 279, 3) := by decide +kernel
theorem dX8_digest_48 : decode cX8_digest 48 = .ok (.iinc 1 1, 3) := by decide +kernel
theorem dX8_digest_51 : decode cX8_digest 51 = .ok (.goto (-18), 3) := by decide +kernel
theorem dX8_digest_54 : decode cX8_digest 54 = .ok (.iconst 0, 1) := by decide +kernel
theorem dX8_digest_55 : decode cX8_digest 55 = .ok (.istore_n 1, 1) := by decide +kernel
theorem dX8_digest_56 : decode cX8_digest 56 = .ok (.iload_n 1, 1) := by decide +kernel
theorem dX8_digest_57 : decode cX8_digest 57 = .ok (.aload_n 0, 1) := by decide +kernel
theorem dX8_digest_58 : decode cX8_digest 58 = .ok (.getfield 7, 3) := by decide +kernel
theorem dX8_digest_61 : decode cX8_digest 61 = .ok (.iconst 0, 1) := by decide +kernel
theorem dX8_digest_62 : decode cX8_digest 62 = .ok (.iaload, 1) := by decide +kernel
theorem dX8_digest_63 : decode cX8_digest 63 = .ok (.if_icmp .ge 55, 3) := by decide +kernel
theorem dX8_digest_66 : decode cX8_digest 66 = .ok (.aload_n 0, 1) := by decide +kernel
theorem dX8_digest_67 : decode cX8_digest 67 = .ok (.iload_n 1, 1) := by decide +kernel
theorem dX8_digest_68 : decode cX8_digest 68 = .ok (.invokevirtual 57, 3) := by decide +kernel
theorem dX8_digest_71 : decode cX8_digest 71 = .ok (.ifCond .eq 41, 3) := by decide +kernel
theorem dX8_digest_74 : decode cX8_digest 74 = .ok (.aload_n 0, 1) := by decide +kernel
theorem dX8_digest_75 : decode cX8_digest 75 = .ok (.aload_n 0, 1) := by decide +kernel
theorem dX8_digest_76 : decode cX8_digest 76 = .ok (.getfield 7, 3) := by decide +kernel
theorem dX8_digest_79 : decode cX8_digest 79 = .ok (.bipush 6, 2) := by decide +kernel
theorem dX8_digest_81 : decode cX8_digest 81 = .ok (.iload_n 1, 1) := by decide +kernel
theorem dX8_digest_82 : decode cX8_digest 82 = .ok (.iadd, 1) := by decide +kernel
theorem dX8_digest_83 : decode cX8_digest 83 = .ok (.iaload, 1) := by decide +kernel
theorem dX8_digest_84 : decode cX8_digest 84 = .ok (.i2l, 1) := by decide +kernel
theorem dX8_digest_85 : decode cX8_digest 85 = .ok (.invokevirtual 279, 3) := by decide +kernel
theorem dX8_digest_88 : decode cX8_digest 88 = .ok (.iconst 0, 1) := by decide +kernel
theorem dX8_digest_89 : decode cX8_digest 89 = .ok (.istore_n 2, 1) := by decide +kernel
theorem dX8_digest_90 : decode cX8_digest 90 = .ok (.iload_n 2, 1) := by decide +kernel
theorem dX8_digest_91 : decode cX8_digest 91 = .ok (.iconst 4, 1) := by decide +kernel
theorem dX8_digest_92 : decode cX8_digest 92 = .ok (.if_icmp .ge 20, 3) := by decide +kernel
theorem dX8_digest_95 : decode cX8_digest 95 = .ok (.aload_n 0, 1) := by decide +kernel
theorem dX8_digest_96 : decode cX8_digest 96 = .ok (.aload_n 0, 1) := by decide +kernel
theorem dX8_digest_97 : decode cX8_digest 97 = .ok (.iload_n 1, 1) := by decide +kernel
theorem dX8_digest_98 : decode cX8_digest 98 = .ok (.iload_n 2, 1) := by decide +kernel
theorem dX8_digest_99 : decode cX8_digest 99 = .ok (.invokevirtual 148, 3) := by decide +kernel
theorem dX8_digest_102 : decode cX8_digest 102 = .ok (.i2l, 1) := by decide +kernel
theorem dX8_digest_103 : decode cX8_digest 103 = .ok (.invokevirtual 279, 3) := by decide +kernel
theorem dX8_digest_106 : decode cX8_digest 106 = .ok (.iinc 2 1, 3) := by decide +kernel
theorem dX8_digest_109 : decode cX8_digest 109 = .ok (.goto (-19), 3) := by decide +kernel
theorem dX8_digest_112 : decode cX8_digest 112 = .ok (.iinc 1 1, 3) := by decide +kernel
theorem dX8_digest_115 : decode cX8_digest 115 = .ok (.goto (-59), 3) := by decide +kernel
theorem dX8_digest_118 : decode cX8_digest 118 = .ok (.aload_n 0, 1) := by decide +kernel
theorem dX8_digest_119 : decode cX8_digest 119 = .ok (.aload_n 0, 1) := by decide +kernel
theorem dX8_digest_120 : decode cX8_digest 120 = .ok (.getfield 23, 3) := by decide +kernel
theorem dX8_digest_123 : decode cX8_digest 123 = .ok (.invokevirtual 279, 3) := by decide +kernel
theorem dX8_digest_126 : decode cX8_digest 126 = .ok (.aload_n 0, 1) := by decide +kernel
theorem dX8_digest_127 : decode cX8_digest 127 = .ok (.aload_n 0, 1) := by decide +kernel
theorem dX8_digest_128 : decode cX8_digest 128 = .ok (.getfield 27, 3) := by decide +kernel
theorem dX8_digest_131 : decode cX8_digest 131 = .ok (.invokevirtual 279, 3) := by decide +kernel
theorem dX8_digest_134 : decode cX8_digest 134 = .ok (.aload_n 0, 1) := by decide +kernel
theorem dX8_digest_135 : decode cX8_digest 135 = .ok (.getfield 274, 3) := by decide +kernel
theorem dX8_digest_138 : decode cX8_digest 138 = .ok (.lreturn, 1) := by decide +kernel
theorem dJ6_bitCount_0f7a4_0 : decode cJ6_bitCount_0f7a4 0 = .ok (.iload_n 0, 1) := by decide +kernel
theorem dJ6_bitCount_0f7a4_1 : decode cJ6_bitCount_0f7a4 1 = .ok (.iload_n 0, 1) := by decide +kernel
theorem dJ6_bitCount_0f7a4_2 : decode cJ6_bitCount_0f7a4 2 = .ok (.iconst 1, 1) := by decide +kernel
theorem dJ6_bitCount_0f7a4_3 : decode cJ6_bitCount_0f7a4 3 = .ok (.iushr, 1) := by decide +kernel
theorem dJ6_bitCount_0f7a4_4 : decode cJ6_bitCount_0f7a4 4 = .ok (.ldc_w 265, 3) := by decide +kernel
theorem dJ6_bitCount_0f7a4_7 : decode cJ6_bitCount_0f7a4 7 = .ok (.iand, 1) := by decide +kernel
theorem dJ6_bitCount_0f7a4_8 : decode cJ6_bitCount_0f7a4 8 = .ok (.isub, 1) := by decide +kernel
theorem dJ6_bitCount_0f7a4_9 : decode cJ6_bitCount_0f7a4 9 = .ok (.istore_n 0, 1) := by decide +kernel
theorem dJ6_bitCount_0f7a4_10 : decode cJ6_bitCount_0f7a4 10 = .ok (.iload_n 0, 1) := by decide +kernel
theorem dJ6_bitCount_0f7a4_11 : decode cJ6_bitCount_0f7a4 11 = .ok (.ldc_w 266, 3) := by decide +kernel
theorem dJ6_bitCount_0f7a4_14 : decode cJ6_bitCount_0f7a4 14 = .ok (.iand, 1) := by decide +kernel
theorem dJ6_bitCount_0f7a4_15 : decode cJ6_bitCount_0f7a4 15 = .ok (.iload_n 0, 1) := by decide +kernel
theorem dJ6_bitCount_0f7a4_16 : decode cJ6_bitCount_0f7a4 16 = .ok (.iconst 2, 1) := by decide +kernel
theorem dJ6_bitCount_0f7a4_17 : decode cJ6_bitCount_0f7a4 17 = .ok (.iushr, 1) := by decide +kernel
theorem dJ6_bitCount_0f7a4_18 : decode cJ6_bitCount_0f7a4 18 = .ok (.ldc_w 266, 3) := by decide +kernel
theorem dJ6_bitCount_0f7a4_21 : decode cJ6_bitCount_0f7a4 21 = .ok (.iand, 1) := by decide +kernel
theorem dJ6_bitCount_0f7a4_22 : decode cJ6_bitCount_0f7a4 22 = .ok (.iadd, 1) := by decide +kernel
theorem dJ6_bitCount_0f7a4_23 : decode cJ6_bitCount_0f7a4 23 = .ok (.istore_n 0, 1) := by decide +kernel
theorem dJ6_bitCount_0f7a4_24 : decode cJ6_bitCount_0f7a4 24 = .ok (.iload_n 0, 1) := by decide +kernel
theorem dJ6_bitCount_0f7a4_25 : decode cJ6_bitCount_0f7a4 25 = .ok (.iload_n 0, 1) := by decide +kernel
theorem dJ6_bitCount_0f7a4_26 : decode cJ6_bitCount_0f7a4 26 = .ok (.iconst 4, 1) := by decide +kernel
theorem dJ6_bitCount_0f7a4_27 : decode cJ6_bitCount_0f7a4 27 = .ok (.iushr, 1) := by decide +kernel
theorem dJ6_bitCount_0f7a4_28 : decode cJ6_bitCount_0f7a4 28 = .ok (.iadd, 1) := by decide +kernel
theorem dJ6_bitCount_0f7a4_29 : decode cJ6_bitCount_0f7a4 29 = .ok (.ldc_w 267, 3) := by decide +kernel
theorem dJ6_bitCount_0f7a4_32 : decode cJ6_bitCount_0f7a4 32 = .ok (.iand, 1) := by decide +kernel
theorem dJ6_bitCount_0f7a4_33 : decode cJ6_bitCount_0f7a4 33 = .ok (.istore_n 0, 1) := by decide +kernel
theorem dJ6_bitCount_0f7a4_34 : decode cJ6_bitCount_0f7a4 34 = .ok (.iload_n 0, 1) := by decide +kernel
theorem dJ6_bitCount_0f7a4_35 : decode cJ6_bitCount_0f7a4 35 = .ok (.iload_n 0, 1) := by decide +kernel
theorem dJ6_bitCount_0f7a4_36 : decode cJ6_bitCount_0f7a4 36 = .ok (.bipush 8, 2) := by decide +kernel
theorem dJ6_bitCount_0f7a4_38 : decode cJ6_bitCount_0f7a4 38 = .ok (.iushr, 1) := by decide +kernel
theorem dJ6_bitCount_0f7a4_39 : decode cJ6_bitCount_0f7a4 39 = .ok (.iadd, 1) := by decide +kernel
theorem dJ6_bitCount_0f7a4_40 : decode cJ6_bitCount_0f7a4 40 = .ok (.istore_n 0, 1) := by decide +kernel
theorem dJ6_bitCount_0f7a4_41 : decode cJ6_bitCount_0f7a4 41 = .ok (.iload_n 0, 1) := by decide +kernel
theorem dJ6_bitCount_0f7a4_42 : decode cJ6_bitCount_0f7a4 42 = .ok (.iload_n 0, 1) := by decide +kernel
theorem dJ6_bitCount_0f7a4_43 : decode cJ6_bitCount_0f7a4 43 = .ok (.bipush 16, 2) := by decide +kernel
theorem dJ6_bitCount_0f7a4_45 : decode cJ6_bitCount_0f7a4 45 = .ok (.iushr, 1) := by decide +kernel
theorem dJ6_bitCount_0f7a4_46 : decode cJ6_bitCount_0f7a4 46 = .ok (.iadd, 1) := by decide +kernel
theorem dJ6_bitCount_0f7a4_47 : decode cJ6_bitCount_0f7a4 47 = .ok (.istore_n 0, 1) := by decide +kernel
theorem dJ6_bitCount_0f7a4_48 : decode cJ6_bitCount_0f7a4 48 = .ok (.iload_n 0, 1) := by decide +kernel
theorem dJ6_bitCount_0f7a4_49 : decode cJ6_bitCount_0f7a4 49 = .ok (.bipush 63, 2) := by decide +kernel
theorem dJ6_bitCount_0f7a4_51 : decode cJ6_bitCount_0f7a4 51 = .ok (.iand, 1) := by decide +kernel
theorem dJ6_bitCount_0f7a4_52 : decode cJ6_bitCount_0f7a4 52 = .ok (.ireturn, 1) := by decide +kernel
theorem dJ9_abs_0f7a4_0 : decode cJ9_abs_0f7a4 0 = .ok (.iload_n 0, 1) := by decide +kernel
theorem dJ9_abs_0f7a4_1 : decode cJ9_abs_0f7a4 1 = .ok (.ifCond .ge 8, 3) := by decide +kernel
theorem dJ9_abs_0f7a4_4 : decode cJ9_abs_0f7a4 4 = .ok (.iload_n 0, 1) := by decide +kernel
theorem dJ9_abs_0f7a4_5 : decode cJ9_abs_0f7a4 5 = .ok (.ineg, 1) := by decide +kernel
theorem dJ9_abs_0f7a4_6 : decode cJ9_abs_0f7a4 6 = .ok (.goto 4, 3) := by decide +kernel
theorem dJ9_abs_0f7a4_9 : decode cJ9_abs_0f7a4 9 = .ok (.iload_n 0, 1) := by decide +kernel
theorem dJ9_abs_0f7a4_10 : decode cJ9_abs_0f7a4 10 = .ok (.ireturn, 1) := by decide +kernel
theorem dJ9_max_7cf53_0 : decode cJ9_max_7cf53 0 = .ok (.iload_n 0, 1) := by decide +kernel
theorem dJ9_max_7cf53_1 : decode cJ9_max_7cf53 1 = .ok (.iload_n 1, 1) := by decide +kernel
theorem dJ9_max_7cf53_2 : decode cJ9_max_7cf53 2 = .ok (.if_icmp .lt 7, 3) := by decide +kernel
theorem dJ9_max_7cf53_5 : decode cJ9_max_7cf53 5 = .ok (.iload_n 0, 1) := by decide +kernel
theorem dJ9_max_7cf53_6 : decode cJ9_max_7cf53 6 = .ok (.goto 4, 3) := by decide +kernel
theorem dJ9_max_7cf53_9 : decode cJ9_max_7cf53 9 = .ok (.iload_n 1, 1) := by decide +kernel
theorem dJ9_max_7cf53_10 : decode cJ9_max_7cf53 10 = .ok (.ireturn, 1) := by decide +kernel
theorem dL_law_0 : decode cL_law 0 = .ok (.new 7, 3) := by decide +kernel
theorem dL_law_3 : decode cL_law 3 = .ok (.dup, 1) := by decide +kernel
theorem dL_law_4 : decode cL_law 4 = .ok (.invokespecial 9, 3) := by decide +kernel
theorem dL_law_7 : decode cL_law 7 = .ok (.astore_n 1, 1) := by decide +kernel
theorem dL_law_8 : decode cL_law 8 = .ok (.new 10, 3) := by decide +kernel
theorem dL_law_11 : decode cL_law 11 = .ok (.dup, 1) := by decide +kernel
theorem dL_law_12 : decode cL_law 12 = .ok (.invokespecial 12, 3) := by decide +kernel
theorem dL_law_15 : decode cL_law 15 = .ok (.astore_n 2, 1) := by decide +kernel
theorem dL_law_16 : decode cL_law 16 = .ok (.iconst 0, 1) := by decide +kernel
theorem dL_law_17 : decode cL_law 17 = .ok (.istore_n 3, 1) := by decide +kernel
theorem dL_law_18 : decode cL_law 18 = .ok (.iload_n 3, 1) := by decide +kernel
theorem dL_law_19 : decode cL_law 19 = .ok (.aload_n 0, 1) := by decide +kernel
theorem dL_law_20 : decode cL_law 20 = .ok (.arraylength, 1) := by decide +kernel
theorem dL_law_21 : decode cL_law 21 = .ok (.bipush 7, 2) := by decide +kernel
theorem dL_law_23 : decode cL_law 23 = .ok (.isub, 1) := by decide +kernel
theorem dL_law_24 : decode cL_law 24 = .ok (.if_icmp .gt 1318, 3) := by decide +kernel
theorem dL_law_27 : decode cL_law 27 = .ok (.aload_n 0, 1) := by decide +kernel
theorem dL_law_28 : decode cL_law 28 = .ok (.iload_n 3, 1) := by decide +kernel
theorem dL_law_29 : decode cL_law 29 = .ok (.iaload, 1) := by decide +kernel
theorem dL_law_30 : decode cL_law 30 = .ok (.bipush 63, 2) := by decide +kernel
theorem dL_law_32 : decode cL_law 32 = .ok (.iand, 1) := by decide +kernel
theorem dL_law_33 : decode cL_law 33 = .ok (.tableswitch 1303 0 35 #[159, 202, 225, 268, 301, 354, 377, 390, 423, 446, 499, 552, 615, 668, 701, 744, 777, 800, 833, 846, 869, 892, 967, 990, 1003, 1016, 1029, 1062, 1085, 1098, 1173, 1197, 1220, 1243, 1266, 1289], 159) := by decide +kernel
theorem dL_law_192 : decode cL_law 192 = .ok (.aload_n 1, 1) := by decide +kernel
theorem dL_law_193 : decode cL_law 193 = .ok (.aload_n 0, 1) := by decide +kernel
theorem dL_law_194 : decode cL_law 194 = .ok (.iload_n 3, 1) := by decide +kernel
theorem dL_law_195 : decode cL_law 195 = .ok (.iconst 1, 1) := by decide +kernel
theorem dL_law_196 : decode cL_law 196 = .ok (.iadd, 1) := by decide +kernel
theorem dL_law_197 : decode cL_law 197 = .ok (.iaload, 1) := by decide +kernel
theorem dL_law_198 : decode cL_law 198 = .ok (.aload_n 0, 1) := by decide +kernel
theorem dL_law_199 : decode cL_law 199 = .ok (.iload_n 3, 1) := by decide +kernel
theorem dL_law_200 : decode cL_law 200 = .ok (.iconst 2, 1) := by decide +kernel
theorem dL_law_201 : decode cL_law 201 = .ok (.iadd, 1) := by decide +kernel
theorem dL_law_202 : decode cL_law 202 = .ok (.iaload, 1) := by decide +kernel
theorem dL_law_203 : decode cL_law 203 = .ok (.aload_n 0, 1) := by decide +kernel
theorem dL_law_204 : decode cL_law 204 = .ok (.iload_n 3, 1) := by decide +kernel
theorem dL_law_205 : decode cL_law 205 = .ok (.iconst 3, 1) := by decide +kernel
theorem dL_law_206 : decode cL_law 206 = .ok (.iadd, 1) := by decide +kernel
theorem dL_law_207 : decode cL_law 207 = .ok (.iaload, 1) := by decide +kernel
theorem dL_law_208 : decode cL_law 208 = .ok (.invokevirtual 13, 3) := by decide +kernel
theorem dL_law_211 : decode cL_law 211 = .ok (.aload_n 2, 1) := by decide +kernel
theorem dL_law_212 : decode cL_law 212 = .ok (.aload_n 0, 1) := by decide +kernel
theorem dL_law_213 : decode cL_law 213 = .ok (.iload_n 3, 1) := by decide +kernel
theorem dL_law_214 : decode cL_law 214 = .ok (.iconst 1, 1) := by decide +kernel
theorem dL_law_215 : decode cL_law 215 = .ok (.iadd, 1) := by decide +kernel
theorem dL_law_216 : decode cL_law 216 = .ok (.iaload, 1) := by decide +kernel
theorem dL_law_217 : decode cL_law 217 = .ok (.aload_n 0, 1) := by decide +kernel
theorem dL_law_218 : decode cL_law 218 = .ok (.iload_n 3, 1) := by decide +kernel
theorem dL_law_219 : decode cL_law 219 = .ok (.iconst 2, 1) := by decide +kernel
theorem dL_law_220 : decode cL_law 220 = .ok (.iadd, 1) := by decide +kernel
theorem dL_law_221 : decode cL_law 221 = .ok (.iaload, 1) := by decide +kernel
theorem dL_law_222 : decode cL_law 222 = .ok (.aload_n 0, 1) := by decide +kernel
theorem dL_law_223 : decode cL_law 223 = .ok (.iload_n 3, 1) := by decide +kernel
theorem dL_law_224 : decode cL_law 224 = .ok (.iconst 3, 1) := by decide +kernel
theorem dL_law_225 : decode cL_law 225 = .ok (.iadd, 1) := by decide +kernel
theorem dL_law_226 : decode cL_law 226 = .ok (.iaload, 1) := by decide +kernel
theorem dL_law_227 : decode cL_law 227 = .ok (.invokevirtual 17, 3) := by decide +kernel
theorem dL_law_230 : decode cL_law 230 = .ok (.if_icmp .eq 1106, 3) := by decide +kernel
theorem dL_law_233 : decode cL_law 233 = .ok (.iconst 0, 1) := by decide +kernel
theorem dL_law_234 : decode cL_law 234 = .ok (.ireturn, 1) := by decide +kernel
theorem dL_law_235 : decode cL_law 235 = .ok (.aload_n 1, 1) := by decide +kernel
theorem dL_law_236 : decode cL_law 236 = .ok (.aload_n 0, 1) := by decide +kernel
theorem dL_law_237 : decode cL_law 237 = .ok (.iload_n 3, 1) := by decide +kernel
theorem dL_law_238 : decode cL_law 238 = .ok (.iconst 1, 1) := by decide +kernel
theorem dL_law_239 : decode cL_law 239 = .ok (.iadd, 1) := by decide +kernel
theorem dL_law_240 : decode cL_law 240 = .ok (.iaload, 1) := by decide +kernel
theorem dL_law_241 : decode cL_law 241 = .ok (.invokevirtual 18, 3) := by decide +kernel
theorem dL_law_244 : decode cL_law 244 = .ok (.aload_n 2, 1) := by decide +kernel
theorem dL_law_245 : decode cL_law 245 = .ok (.aload_n 0, 1) := by decide +kernel
theorem dL_law_246 : decode cL_law 246 = .ok (.iload_n 3, 1) := by decide +kernel
theorem dL_law_247 : decode cL_law 247 = .ok (.iconst 1, 1) := by decide +kernel
theorem dL_law_248 : decode cL_law 248 = .ok (.iadd, 1) := by decide +kernel
theorem dL_law_249 : decode cL_law 249 = .ok (.iaload, 1) := by decide +kernel
theorem dL_law_250 : decode cL_law 250 = .ok (.invokevirtual 22, 3) := by decide +kernel
theorem dL_law_253 : decode cL_law 253 = .ok (.if_icmp .eq 1083, 3) := by decide +kernel
theorem dL_law_256 : decode cL_law 256 = .ok (.iconst 0, 1) := by decide +kernel
theorem dL_law_257 : decode cL_law 257 = .ok (.ireturn, 1) := by decide +kernel
theorem dL_law_258 : decode cL_law 258 = .ok (.aload_n 1, 1) := by decide +kernel
theorem dL_law_259 : decode cL_law 259 = .ok (.aload_n 0, 1) := by decide +kernel
theorem dL_law_260 : decode cL_law 260 = .ok (.iload_n 3, 1) := by decide +kernel
theorem dL_law_261 : decode cL_law 261 = .ok (.iconst 1, 1) := by decide +kernel
theorem dL_law_262 : decode cL_law 262 = .ok (.iadd, 1) := by decide +kernel
theorem dL_law_263 : decode cL_law 263 = .ok (.iaload, 1) := by decide +kernel
theorem dL_law_264 : decode cL_law 264 = .ok (.aload_n 0, 1) := by decide +kernel
theorem dL_law_265 : decode cL_law 265 = .ok (.iload_n 3, 1) := by decide +kernel
theorem dL_law_266 : decode cL_law 266 = .ok (.iconst 2, 1) := by decide +kernel
theorem dL_law_267 : decode cL_law 267 = .ok (.iadd, 1) := by decide +kernel
theorem dL_law_268 : decode cL_law 268 = .ok (.iaload, 1) := by decide +kernel
theorem dL_law_269 : decode cL_law 269 = .ok (.aload_n 0, 1) := by decide +kernel
theorem dL_law_270 : decode cL_law 270 = .ok (.iload_n 3, 1) := by decide +kernel
theorem dL_law_271 : decode cL_law 271 = .ok (.iconst 3, 1) := by decide +kernel
theorem dL_law_272 : decode cL_law 272 = .ok (.iadd, 1) := by decide +kernel
theorem dL_law_273 : decode cL_law 273 = .ok (.iaload, 1) := by decide +kernel
theorem dL_law_274 : decode cL_law 274 = .ok (.invokevirtual 23, 3) := by decide +kernel
theorem dL_law_277 : decode cL_law 277 = .ok (.aload_n 2, 1) := by decide +kernel
theorem dL_law_278 : decode cL_law 278 = .ok (.aload_n 0, 1) := by decide +kernel
theorem dL_law_279 : decode cL_law 279 = .ok (.iload_n 3, 1) := by decide +kernel
theorem dL_law_280 : decode cL_law 280 = .ok (.iconst 1, 1) := by decide +kernel
theorem dL_law_281 : decode cL_law 281 = .ok (.iadd, 1) := by decide +kernel
theorem dL_law_282 : decode cL_law 282 = .ok (.iaload, 1) := by decide +kernel
theorem dL_law_283 : decode cL_law 283 = .ok (.aload_n 0, 1) := by decide +kernel
theorem dL_law_284 : decode cL_law 284 = .ok (.iload_n 3, 1) := by decide +kernel
theorem dL_law_285 : decode cL_law 285 = .ok (.iconst 2, 1) := by decide +kernel
theorem dL_law_286 : decode cL_law 286 = .ok (.iadd, 1) := by decide +kernel
theorem dL_law_287 : decode cL_law 287 = .ok (.iaload, 1) := by decide +kernel
theorem dL_law_288 : decode cL_law 288 = .ok (.aload_n 0, 1) := by decide +kernel
theorem dL_law_289 : decode cL_law 289 = .ok (.iload_n 3, 1) := by decide +kernel
theorem dL_law_290 : decode cL_law 290 = .ok (.iconst 3, 1) := by decide +kernel
theorem dL_law_291 : decode cL_law 291 = .ok (.iadd, 1) := by decide +kernel
theorem dL_law_292 : decode cL_law 292 = .ok (.iaload, 1) := by decide +kernel
theorem dL_law_293 : decode cL_law 293 = .ok (.invokevirtual 26, 3) := by decide +kernel
theorem dL_law_296 : decode cL_law 296 = .ok (.if_icmp .eq 1040, 3) := by decide +kernel
theorem dL_law_299 : decode cL_law 299 = .ok (.iconst 0, 1) := by decide +kernel
theorem dL_law_300 : decode cL_law 300 = .ok (.ireturn, 1) := by decide +kernel
theorem dL_law_301 : decode cL_law 301 = .ok (.aload_n 1, 1) := by decide +kernel
theorem dL_law_302 : decode cL_law 302 = .ok (.aload_n 0, 1) := by decide +kernel
theorem dL_law_303 : decode cL_law 303 = .ok (.iload_n 3, 1) := by decide +kernel
theorem dL_law_304 : decode cL_law 304 = .ok (.iconst 1, 1) := by decide +kernel
theorem dL_law_305 : decode cL_law 305 = .ok (.iadd, 1) := by decide +kernel
theorem dL_law_306 : decode cL_law 306 = .ok (.iaload, 1) := by decide +kernel
theorem dL_law_307 : decode cL_law 307 = .ok (.aload_n 0, 1) := by decide +kernel
theorem dL_law_308 : decode cL_law 308 = .ok (.iload_n 3, 1) := by decide +kernel
theorem dL_law_309 : decode cL_law 309 = .ok (.iconst 2, 1) := by decide +kernel
theorem dL_law_310 : decode cL_law 310 = .ok (.iadd, 1) := by decide +kernel
theorem dL_law_311 : decode cL_law 311 = .ok (.iaload, 1) := by decide +kernel
theorem dL_law_312 : decode cL_law 312 = .ok (.invokevirtual 27, 3) := by decide +kernel
theorem dL_law_315 : decode cL_law 315 = .ok (.aload_n 2, 1) := by decide +kernel
theorem dL_law_316 : decode cL_law 316 = .ok (.aload_n 0, 1) := by decide +kernel
theorem dL_law_317 : decode cL_law 317 = .ok (.iload_n 3, 1) := by decide +kernel
theorem dL_law_318 : decode cL_law 318 = .ok (.iconst 1, 1) := by decide +kernel
theorem dL_law_319 : decode cL_law 319 = .ok (.iadd, 1) := by decide +kernel
theorem dL_law_320 : decode cL_law 320 = .ok (.iaload, 1) := by decide +kernel
theorem dL_law_321 : decode cL_law 321 = .ok (.aload_n 0, 1) := by decide +kernel
theorem dL_law_322 : decode cL_law 322 = .ok (.iload_n 3, 1) := by decide +kernel
theorem dL_law_323 : decode cL_law 323 = .ok (.iconst 2, 1) := by decide +kernel
theorem dL_law_324 : decode cL_law 324 = .ok (.iadd, 1) := by decide +kernel
theorem dL_law_325 : decode cL_law 325 = .ok (.iaload, 1) := by decide +kernel
theorem dL_law_326 : decode cL_law 326 = .ok (.invokevirtual 31, 3) := by decide +kernel
theorem dL_law_329 : decode cL_law 329 = .ok (.if_icmp .eq 1007, 3) := by decide +kernel
theorem dL_law_332 : decode cL_law 332 = .ok (.iconst 0, 1) := by decide +kernel
theorem dL_law_333 : decode cL_law 333 = .ok (.ireturn, 1) := by decide +kernel
theorem dL_law_334 : decode cL_law 334 = .ok (.aload_n 1, 1) := by decide +kernel
theorem dL_law_335 : decode cL_law 335 = .ok (.aload_n 0, 1) := by decide +kernel
theorem dL_law_336 : decode cL_law 336 = .ok (.iload_n 3, 1) := by decide +kernel
theorem dL_law_337 : decode cL_law 337 = .ok (.iconst 1, 1) := by decide +kernel
theorem dL_law_338 : decode cL_law 338 = .ok (.iadd, 1) := by decide +kernel
theorem dL_law_339 : decode cL_law 339 = .ok (.iaload, 1) := by decide +kernel
theorem dL_law_340 : decode cL_law 340 = .ok (.aload_n 0, 1) := by decide +kernel
theorem dL_law_341 : decode cL_law 341 = .ok (.iload_n 3, 1) := by decide +kernel
theorem dL_law_342 : decode cL_law 342 = .ok (.iconst 2, 1) := by decide +kernel
theorem dL_law_343 : decode cL_law 343 = .ok (.iadd, 1) := by decide +kernel
theorem dL_law_344 : decode cL_law 344 = .ok (.iaload, 1) := by decide +kernel
theorem dL_law_345 : decode cL_law 345 = .ok (.aload_n 0, 1) := by decide +kernel
theorem dL_law_346 : decode cL_law 346 = .ok (.iload_n 3, 1) := by decide +kernel
theorem dL_law_347 : decode cL_law 347 = .ok (.iconst 3, 1) := by decide +kernel
theorem dL_law_348 : decode cL_law 348 = .ok (.iadd, 1) := by decide +kernel
theorem dL_law_349 : decode cL_law 349 = .ok (.iaload, 1) := by decide +kernel
theorem dL_law_350 : decode cL_law 350 = .ok (.aload_n 0, 1) := by decide +kernel
theorem dL_law_351 : decode cL_law 351 = .ok (.iload_n 3, 1) := by decide +kernel
theorem dL_law_352 : decode cL_law 352 = .ok (.iconst 4, 1) := by decide +kernel
theorem dL_law_353 : decode cL_law 353 = .ok (.iadd, 1) := by decide +kernel
theorem dL_law_354 : decode cL_law 354 = .ok (.iaload, 1) := by decide +kernel
theorem dL_law_355 : decode cL_law 355 = .ok (.invokevirtual 32, 3) := by decide +kernel
theorem dL_law_358 : decode cL_law 358 = .ok (.aload_n 2, 1) := by decide +kernel
theorem dL_law_359 : decode cL_law 359 = .ok (.aload_n 0, 1) := by decide +kernel
theorem dL_law_360 : decode cL_law 360 = .ok (.iload_n 3, 1) := by decide +kernel
theorem dL_law_361 : decode cL_law 361 = .ok (.iconst 1, 1) := by decide +kernel
theorem dL_law_362 : decode cL_law 362 = .ok (.iadd, 1) := by decide +kernel
theorem dL_law_363 : decode cL_law 363 = .ok (.iaload, 1) := by decide +kernel
theorem dL_law_364 : decode cL_law 364 = .ok (.aload_n 0, 1) := by decide +kernel
theorem dL_law_365 : decode cL_law 365 = .ok (.iload_n 3, 1) := by decide +kernel
theorem dL_law_366 : decode cL_law 366 = .ok (.iconst 2, 1) := by decide +kernel
theorem dL_law_367 : decode cL_law 367 = .ok (.iadd, 1) := by decide +kernel
theorem dL_law_368 : decode cL_law 368 = .ok (.iaload, 1) := by decide +kernel
theorem dL_law_369 : decode cL_law 369 = .ok (.aload_n 0, 1) := by decide +kernel
theorem dL_law_370 : decode cL_law 370 = .ok (.iload_n 3, 1) := by decide +kernel
theorem dL_law_371 : decode cL_law 371 = .ok (.iconst 3, 1) := by decide +kernel
theorem dL_law_372 : decode cL_law 372 = .ok (.iadd, 1) := by decide +kernel
theorem dL_law_373 : decode cL_law 373 = .ok (.iaload, 1) := by decide +kernel
theorem dL_law_374 : decode cL_law 374 = .ok (.aload_n 0, 1) := by decide +kernel
theorem dL_law_375 : decode cL_law 375 = .ok (.iload_n 3, 1) := by decide +kernel
theorem dL_law_376 : decode cL_law 376 = .ok (.iconst 4, 1) := by decide +kernel
theorem dL_law_377 : decode cL_law 377 = .ok (.iadd, 1) := by decide +kernel
theorem dL_law_378 : decode cL_law 378 = .ok (.iaload, 1) := by decide +kernel
theorem dL_law_379 : decode cL_law 379 = .ok (.invokevirtual 36, 3) := by decide +kernel
theorem dL_law_382 : decode cL_law 382 = .ok (.if_icmp .eq 954, 3) := by decide +kernel
theorem dL_law_385 : decode cL_law 385 = .ok (.iconst 0, 1) := by decide +kernel
theorem dL_law_386 : decode cL_law 386 = .ok (.ireturn, 1) := by decide +kernel
theorem dL_law_387 : decode cL_law 387 = .ok (.aload_n 1, 1) := by decide +kernel
theorem dL_law_388 : decode cL_law 388 = .ok (.aload_n 0, 1) := by decide +kernel
theorem dL_law_389 : decode cL_law 389 = .ok (.iload_n 3, 1) := by decide +kernel
theorem dL_law_390 : decode cL_law 390 = .ok (.iconst 1, 1) := by decide +kernel
theorem dL_law_391 : decode cL_law 391 = .ok (.iadd, 1) := by decide +kernel
theorem dL_law_392 : decode cL_law 392 = .ok (.iaload, 1) := by decide +kernel
theorem dL_law_393 : decode cL_law 393 = .ok (.invokevirtual 37, 3) := by decide +kernel
theorem dL_law_396 : decode cL_law 396 = .ok (.aload_n 2, 1) := by decide +kernel
theorem dL_law_397 : decode cL_law 397 = .ok (.aload_n 0, 1) := by decide +kernel
theorem dL_law_398 : decode cL_law 398 = .ok (.iload_n 3, 1) := by decide +kernel
theorem dL_law_399 : decode cL_law 399 = .ok (.iconst 1, 1) := by decide +kernel
theorem dL_law_400 : decode cL_law 400 = .ok (.iadd, 1) := by decide +kernel
theorem dL_law_401 : decode cL_law 401 = .ok (.iaload, 1) := by decide +kernel
theorem dL_law_402 : decode cL_law 402 = .ok (.invokevirtual 40, 3) := by decide +kernel
theorem dL_law_405 : decode cL_law 405 = .ok (.if_icmp .eq 931, 3) := by decide +kernel
theorem dL_law_408 : decode cL_law 408 = .ok (.iconst 0, 1) := by decide +kernel
theorem dL_law_409 : decode cL_law 409 = .ok (.ireturn, 1) := by decide +kernel
theorem dL_law_410 : decode cL_law 410 = .ok (.aload_n 1, 1) := by decide +kernel
theorem dL_law_411 : decode cL_law 411 = .ok (.invokevirtual 41, 3) := by decide +kernel
theorem dL_law_414 : decode cL_law 414 = .ok (.aload_n 2, 1) := by decide +kernel
theorem dL_law_415 : decode cL_law 415 = .ok (.invokevirtual 45, 3) := by decide +kernel
theorem dL_law_418 : decode cL_law 418 = .ok (.if_icmp .eq 918, 3) := by decide +kernel
theorem dL_law_421 : decode cL_law 421 = .ok (.iconst 0, 1) := by decide +kernel
theorem dL_law_422 : decode cL_law 422 = .ok (.ireturn, 1) := by decide +kernel
theorem dL_law_423 : decode cL_law 423 = .ok (.aload_n 1, 1) := by decide +kernel
theorem dL_law_424 : decode cL_law 424 = .ok (.aload_n 0, 1) := by decide +kernel
theorem dL_law_425 : decode cL_law 425 = .ok (.iload_n 3, 1) := by decide +kernel
theorem dL_law_426 : decode cL_law 426 = .ok (.iconst 1, 1) := by decide +kernel
theorem dL_law_427 : decode cL_law 427 = .ok (.iadd, 1) := by decide +kernel
theorem dL_law_428 : decode cL_law 428 = .ok (.iaload, 1) := by decide +kernel
theorem dL_law_429 : decode cL_law 429 = .ok (.aload_n 0, 1) := by decide +kernel
theorem dL_law_430 : decode cL_law 430 = .ok (.iload_n 3, 1) := by decide +kernel
theorem dL_law_431 : decode cL_law 431 = .ok (.iconst 2, 1) := by decide +kernel
theorem dL_law_432 : decode cL_law 432 = .ok (.iadd, 1) := by decide +kernel
theorem dL_law_433 : decode cL_law 433 = .ok (.iaload, 1) := by decide +kernel
theorem dL_law_434 : decode cL_law 434 = .ok (.invokevirtual 46, 3) := by decide +kernel
theorem dL_law_437 : decode cL_law 437 = .ok (.aload_n 2, 1) := by decide +kernel
theorem dL_law_438 : decode cL_law 438 = .ok (.aload_n 0, 1) := by decide +kernel
theorem dL_law_439 : decode cL_law 439 = .ok (.iload_n 3, 1) := by decide +kernel
theorem dL_law_440 : decode cL_law 440 = .ok (.iconst 1, 1) := by decide +kernel
theorem dL_law_441 : decode cL_law 441 = .ok (.iadd, 1) := by decide +kernel
theorem dL_law_442 : decode cL_law 442 = .ok (.iaload, 1) := by decide +kernel
theorem dL_law_443 : decode cL_law 443 = .ok (.aload_n 0, 1) := by decide +kernel
theorem dL_law_444 : decode cL_law 444 = .ok (.iload_n 3, 1) := by decide +kernel
theorem dL_law_445 : decode cL_law 445 = .ok (.iconst 2, 1) := by decide +kernel
theorem dL_law_446 : decode cL_law 446 = .ok (.iadd, 1) := by decide +kernel
theorem dL_law_447 : decode cL_law 447 = .ok (.iaload, 1) := by decide +kernel
theorem dL_law_448 : decode cL_law 448 = .ok (.invokevirtual 49, 3) := by decide +kernel
theorem dL_law_451 : decode cL_law 451 = .ok (.if_icmp .eq 885, 3) := by decide +kernel
theorem dL_law_454 : decode cL_law 454 = .ok (.iconst 0, 1) := by decide +kernel
theorem dL_law_455 : decode cL_law 455 = .ok (.ireturn, 1) := by decide +kernel
theorem dL_law_456 : decode cL_law 456 = .ok (.aload_n 1, 1) := by decide +kernel
theorem dL_law_457 : decode cL_law 457 = .ok (.aload_n 0, 1) := by decide +kernel
theorem dL_law_458 : decode cL_law 458 = .ok (.iload_n 3, 1) := by decide +kernel
theorem dL_law_459 : decode cL_law 459 = .ok (.iconst 1, 1) := by decide +kernel
theorem dL_law_460 : decode cL_law 460 = .ok (.iadd, 1) := by decide +kernel
theorem dL_law_461 : decode cL_law 461 = .ok (.iaload, 1) := by decide +kernel
theorem dL_law_462 : decode cL_law 462 = .ok (.invokevirtual 50, 3) := by decide +kernel
theorem dL_law_465 : decode cL_law 465 = .ok (.aload_n 2, 1) := by decide +kernel
theorem dL_law_466 : decode cL_law 466 = .ok (.aload_n 0, 1) := by decide +kernel
theorem dL_law_467 : decode cL_law 467 = .ok (.iload_n 3, 1) := by decide +kernel
theorem dL_law_468 : decode cL_law 468 = .ok (.iconst 1, 1) := by decide +kernel
theorem dL_law_469 : decode cL_law 469 = .ok (.iadd, 1) := by decide +kernel
theorem dL_law_470 : decode cL_law 470 = .ok (.iaload, 1) := by decide +kernel
theorem dL_law_471 : decode cL_law 471 = .ok (.invokevirtual 53, 3) := by decide +kernel
theorem dL_law_474 : decode cL_law 474 = .ok (.if_icmp .eq 862, 3) := by decide +kernel
theorem dL_law_477 : decode cL_law 477 = .ok (.iconst 0, 1) := by decide +kernel
theorem dL_law_478 : decode cL_law 478 = .ok (.ireturn, 1) := by decide +kernel
theorem dL_law_479 : decode cL_law 479 = .ok (.aload_n 1, 1) := by decide +kernel
theorem dL_law_480 : decode cL_law 480 = .ok (.aload_n 0, 1) := by decide +kernel
theorem dL_law_481 : decode cL_law 481 = .ok (.iload_n 3, 1) := by decide +kernel
theorem dL_law_482 : decode cL_law 482 = .ok (.iconst 1, 1) := by decide +kernel
theorem dL_law_483 : decode cL_law 483 = .ok (.iadd, 1) := by decide +kernel
theorem dL_law_484 : decode cL_law 484 = .ok (.iaload, 1) := by decide +kernel
theorem dL_law_485 : decode cL_law 485 = .ok (.aload_n 0, 1) := by decide +kernel
theorem dL_law_486 : decode cL_law 486 = .ok (.iload_n 3, 1) := by decide +kernel
theorem dL_law_487 : decode cL_law 487 = .ok (.iconst 2, 1) := by decide +kernel
theorem dL_law_488 : decode cL_law 488 = .ok (.iadd, 1) := by decide +kernel
theorem dL_law_489 : decode cL_law 489 = .ok (.iaload, 1) := by decide +kernel
theorem dL_law_490 : decode cL_law 490 = .ok (.aload_n 0, 1) := by decide +kernel
theorem dL_law_491 : decode cL_law 491 = .ok (.iload_n 3, 1) := by decide +kernel
theorem dL_law_492 : decode cL_law 492 = .ok (.iconst 3, 1) := by decide +kernel
theorem dL_law_493 : decode cL_law 493 = .ok (.iadd, 1) := by decide +kernel
theorem dL_law_494 : decode cL_law 494 = .ok (.iaload, 1) := by decide +kernel
theorem dL_law_495 : decode cL_law 495 = .ok (.aload_n 0, 1) := by decide +kernel
theorem dL_law_496 : decode cL_law 496 = .ok (.iload_n 3, 1) := by decide +kernel
theorem dL_law_497 : decode cL_law 497 = .ok (.iconst 4, 1) := by decide +kernel
theorem dL_law_498 : decode cL_law 498 = .ok (.iadd, 1) := by decide +kernel
theorem dL_law_499 : decode cL_law 499 = .ok (.iaload, 1) := by decide +kernel
theorem dL_law_500 : decode cL_law 500 = .ok (.invokevirtual 54, 3) := by decide +kernel
theorem dL_law_503 : decode cL_law 503 = .ok (.aload_n 2, 1) := by decide +kernel
theorem dL_law_504 : decode cL_law 504 = .ok (.aload_n 0, 1) := by decide +kernel
theorem dL_law_505 : decode cL_law 505 = .ok (.iload_n 3, 1) := by decide +kernel
theorem dL_law_506 : decode cL_law 506 = .ok (.iconst 1, 1) := by decide +kernel
theorem dL_law_507 : decode cL_law 507 = .ok (.iadd, 1) := by decide +kernel
theorem dL_law_508 : decode cL_law 508 = .ok (.iaload, 1) := by decide +kernel
theorem dL_law_509 : decode cL_law 509 = .ok (.aload_n 0, 1) := by decide +kernel
theorem dL_law_510 : decode cL_law 510 = .ok (.iload_n 3, 1) := by decide +kernel
theorem dL_law_511 : decode cL_law 511 = .ok (.iconst 2, 1) := by decide +kernel
theorem dL_law_512 : decode cL_law 512 = .ok (.iadd, 1) := by decide +kernel
theorem dL_law_513 : decode cL_law 513 = .ok (.iaload, 1) := by decide +kernel
theorem dL_law_514 : decode cL_law 514 = .ok (.aload_n 0, 1) := by decide +kernel
theorem dL_law_515 : decode cL_law 515 = .ok (.iload_n 3, 1) := by decide +kernel
theorem dL_law_516 : decode cL_law 516 = .ok (.iconst 3, 1) := by decide +kernel
theorem dL_law_517 : decode cL_law 517 = .ok (.iadd, 1) := by decide +kernel
theorem dL_law_518 : decode cL_law 518 = .ok (.iaload, 1) := by decide +kernel
theorem dL_law_519 : decode cL_law 519 = .ok (.aload_n 0, 1) := by decide +kernel
theorem dL_law_520 : decode cL_law 520 = .ok (.iload_n 3, 1) := by decide +kernel
theorem dL_law_521 : decode cL_law 521 = .ok (.iconst 4, 1) := by decide +kernel
theorem dL_law_522 : decode cL_law 522 = .ok (.iadd, 1) := by decide +kernel
theorem dL_law_523 : decode cL_law 523 = .ok (.iaload, 1) := by decide +kernel
theorem dL_law_524 : decode cL_law 524 = .ok (.invokevirtual 57, 3) := by decide +kernel
theorem dL_law_527 : decode cL_law 527 = .ok (.if_icmp .eq 809, 3) := by decide +kernel
theorem dL_law_530 : decode cL_law 530 = .ok (.iconst 0, 1) := by decide +kernel
theorem dL_law_531 : decode cL_law 531 = .ok (.ireturn, 1) := by decide +kernel
theorem dL_law_532 : decode cL_law 532 = .ok (.aload_n 1, 1) := by decide +kernel
theorem dL_law_533 : decode cL_law 533 = .ok (.aload_n 0, 1) := by decide +kernel
theorem dL_law_534 : decode cL_law 534 = .ok (.iload_n 3, 1) := by decide +kernel
theorem dL_law_535 : decode cL_law 535 = .ok (.iconst 1, 1) := by decide +kernel
theorem dL_law_536 : decode cL_law 536 = .ok (.iadd, 1) := by decide +kernel
theorem dL_law_537 : decode cL_law 537 = .ok (.iaload, 1) := by decide +kernel
theorem dL_law_538 : decode cL_law 538 = .ok (.aload_n 0, 1) := by decide +kernel
theorem dL_law_539 : decode cL_law 539 = .ok (.iload_n 3, 1) := by decide +kernel
theorem dL_law_540 : decode cL_law 540 = .ok (.iconst 2, 1) := by decide +kernel
theorem dL_law_541 : decode cL_law 541 = .ok (.iadd, 1) := by decide +kernel
theorem dL_law_542 : decode cL_law 542 = .ok (.iaload, 1) := by decide +kernel
theorem dL_law_543 : decode cL_law 543 = .ok (.aload_n 0, 1) := by decide +kernel
theorem dL_law_544 : decode cL_law 544 = .ok (.iload_n 3, 1) := by decide +kernel
theorem dL_law_545 : decode cL_law 545 = .ok (.iconst 3, 1) := by decide +kernel
theorem dL_law_546 : decode cL_law 546 = .ok (.iadd, 1) := by decide +kernel
theorem dL_law_547 : decode cL_law 547 = .ok (.iaload, 1) := by decide +kernel
theorem dL_law_548 : decode cL_law 548 = .ok (.aload_n 0, 1) := by decide +kernel
theorem dL_law_549 : decode cL_law 549 = .ok (.iload_n 3, 1) := by decide +kernel
theorem dL_law_550 : decode cL_law 550 = .ok (.iconst 4, 1) := by decide +kernel
theorem dL_law_551 : decode cL_law 551 = .ok (.iadd, 1) := by decide +kernel
theorem dL_law_552 : decode cL_law 552 = .ok (.iaload, 1) := by decide +kernel
theorem dL_law_553 : decode cL_law 553 = .ok (.invokevirtual 58, 3) := by decide +kernel
theorem dL_law_556 : decode cL_law 556 = .ok (.aload_n 2, 1) := by decide +kernel
theorem dL_law_557 : decode cL_law 557 = .ok (.aload_n 0, 1) := by decide +kernel
theorem dL_law_558 : decode cL_law 558 = .ok (.iload_n 3, 1) := by decide +kernel
theorem dL_law_559 : decode cL_law 559 = .ok (.iconst 1, 1) := by decide +kernel
theorem dL_law_560 : decode cL_law 560 = .ok (.iadd, 1) := by decide +kernel
theorem dL_law_561 : decode cL_law 561 = .ok (.iaload, 1) := by decide +kernel
theorem dL_law_562 : decode cL_law 562 = .ok (.aload_n 0, 1) := by decide +kernel
theorem dL_law_563 : decode cL_law 563 = .ok (.iload_n 3, 1) := by decide +kernel
theorem dL_law_564 : decode cL_law 564 = .ok (.iconst 2, 1) := by decide +kernel
theorem dL_law_565 : decode cL_law 565 = .ok (.iadd, 1) := by decide +kernel
theorem dL_law_566 : decode cL_law 566 = .ok (.iaload, 1) := by decide +kernel
theorem dL_law_567 : decode cL_law 567 = .ok (.aload_n 0, 1) := by decide +kernel
theorem dL_law_568 : decode cL_law 568 = .ok (.iload_n 3, 1) := by decide +kernel
theorem dL_law_569 : decode cL_law 569 = .ok (.iconst 3, 1) := by decide +kernel
theorem dL_law_570 : decode cL_law 570 = .ok (.iadd, 1) := by decide +kernel
theorem dL_law_571 : decode cL_law 571 = .ok (.iaload, 1) := by decide +kernel
theorem dL_law_572 : decode cL_law 572 = .ok (.aload_n 0, 1) := by decide +kernel
theorem dL_law_573 : decode cL_law 573 = .ok (.iload_n 3, 1) := by decide +kernel
theorem dL_law_574 : decode cL_law 574 = .ok (.iconst 4, 1) := by decide +kernel
theorem dL_law_575 : decode cL_law 575 = .ok (.iadd, 1) := by decide +kernel
theorem dL_law_576 : decode cL_law 576 = .ok (.iaload, 1) := by decide +kernel
theorem dL_law_577 : decode cL_law 577 = .ok (.invokevirtual 61, 3) := by decide +kernel
theorem dL_law_580 : decode cL_law 580 = .ok (.if_icmp .eq 756, 3) := by decide +kernel
theorem dL_law_583 : decode cL_law 583 = .ok (.iconst 0, 1) := by decide +kernel
theorem dL_law_584 : decode cL_law 584 = .ok (.ireturn, 1) := by decide +kernel
theorem dL_law_585 : decode cL_law 585 = .ok (.aload_n 1, 1) := by decide +kernel
theorem dL_law_586 : decode cL_law 586 = .ok (.aload_n 0, 1) := by decide +kernel
theorem dL_law_587 : decode cL_law 587 = .ok (.iload_n 3, 1) := by decide +kernel
theorem dL_law_588 : decode cL_law 588 = .ok (.iconst 1, 1) := by decide +kernel
theorem dL_law_589 : decode cL_law 589 = .ok (.iadd, 1) := by decide +kernel
theorem dL_law_590 : decode cL_law 590 = .ok (.iaload, 1) := by decide +kernel
theorem dL_law_591 : decode cL_law 591 = .ok (.aload_n 0, 1) := by decide +kernel
theorem dL_law_592 : decode cL_law 592 = .ok (.iload_n 3, 1) := by decide +kernel
theorem dL_law_593 : decode cL_law 593 = .ok (.iconst 2, 1) := by decide +kernel
theorem dL_law_594 : decode cL_law 594 = .ok (.iadd, 1) := by decide +kernel
theorem dL_law_595 : decode cL_law 595 = .ok (.iaload, 1) := by decide +kernel
theorem dL_law_596 : decode cL_law 596 = .ok (.aload_n 0, 1) := by decide +kernel
theorem dL_law_597 : decode cL_law 597 = .ok (.iload_n 3, 1) := by decide +kernel
theorem dL_law_598 : decode cL_law 598 = .ok (.iconst 3, 1) := by decide +kernel
theorem dL_law_599 : decode cL_law 599 = .ok (.iadd, 1) := by decide +kernel
theorem dL_law_600 : decode cL_law 600 = .ok (.iaload, 1) := by decide +kernel
theorem dL_law_601 : decode cL_law 601 = .ok (.aload_n 0, 1) := by decide +kernel
theorem dL_law_602 : decode cL_law 602 = .ok (.iload_n 3, 1) := by decide +kernel
theorem dL_law_603 : decode cL_law 603 = .ok (.iconst 4, 1) := by decide +kernel
theorem dL_law_604 : decode cL_law 604 = .ok (.iadd, 1) := by decide +kernel
theorem dL_law_605 : decode cL_law 605 = .ok (.iaload, 1) := by decide +kernel
theorem dL_law_606 : decode cL_law 606 = .ok (.aload_n 0, 1) := by decide +kernel
theorem dL_law_607 : decode cL_law 607 = .ok (.iload_n 3, 1) := by decide +kernel
theorem dL_law_608 : decode cL_law 608 = .ok (.iconst 5, 1) := by decide +kernel
theorem dL_law_609 : decode cL_law 609 = .ok (.iadd, 1) := by decide +kernel
theorem dL_law_610 : decode cL_law 610 = .ok (.iaload, 1) := by decide +kernel
theorem dL_law_611 : decode cL_law 611 = .ok (.invokevirtual 62, 3) := by decide +kernel
theorem dL_law_614 : decode cL_law 614 = .ok (.aload_n 2, 1) := by decide +kernel
theorem dL_law_615 : decode cL_law 615 = .ok (.aload_n 0, 1) := by decide +kernel
theorem dL_law_616 : decode cL_law 616 = .ok (.iload_n 3, 1) := by decide +kernel
theorem dL_law_617 : decode cL_law 617 = .ok (.iconst 1, 1) := by decide +kernel
theorem dL_law_618 : decode cL_law 618 = .ok (.iadd, 1) := by decide +kernel
theorem dL_law_619 : decode cL_law 619 = .ok (.iaload, 1) := by decide +kernel
theorem dL_law_620 : decode cL_law 620 = .ok (.aload_n 0, 1) := by decide +kernel
theorem dL_law_621 : decode cL_law 621 = .ok (.iload_n 3, 1) := by decide +kernel
theorem dL_law_622 : decode cL_law 622 = .ok (.iconst 2, 1) := by decide +kernel
theorem dL_law_623 : decode cL_law 623 = .ok (.iadd, 1) := by decide +kernel
theorem dL_law_624 : decode cL_law 624 = .ok (.iaload, 1) := by decide +kernel
theorem dL_law_625 : decode cL_law 625 = .ok (.aload_n 0, 1) := by decide +kernel
theorem dL_law_626 : decode cL_law 626 = .ok (.iload_n 3, 1) := by decide +kernel
theorem dL_law_627 : decode cL_law 627 = .ok (.iconst 3, 1) := by decide +kernel
theorem dL_law_628 : decode cL_law 628 = .ok (.iadd, 1) := by decide +kernel
theorem dL_law_629 : decode cL_law 629 = .ok (.iaload, 1) := by decide +kernel
theorem dL_law_630 : decode cL_law 630 = .ok (.aload_n 0, 1) := by decide +kernel
theorem dL_law_631 : decode cL_law 631 = .ok (.iload_n 3, 1) := by decide +kernel
theorem dL_law_632 : decode cL_law 632 = .ok (.iconst 4, 1) := by decide +kernel
theorem dL_law_633 : decode cL_law 633 = .ok (.iadd, 1) := by decide +kernel
theorem dL_law_634 : decode cL_law 634 = .ok (.iaload, 1) := by decide +kernel
theorem dL_law_635 : decode cL_law 635 = .ok (.aload_n 0, 1) := by decide +kernel
theorem dL_law_636 : decode cL_law 636 = .ok (.iload_n 3, 1) := by decide +kernel
theorem dL_law_637 : decode cL_law 637 = .ok (.iconst 5, 1) := by decide +kernel
theorem dL_law_638 : decode cL_law 638 = .ok (.iadd, 1) := by decide +kernel
theorem dL_law_639 : decode cL_law 639 = .ok (.iaload, 1) := by decide +kernel
theorem dL_law_640 : decode cL_law 640 = .ok (.invokevirtual 66, 3) := by decide +kernel
theorem dL_law_643 : decode cL_law 643 = .ok (.if_icmp .eq 693, 3) := by decide +kernel
theorem dL_law_646 : decode cL_law 646 = .ok (.iconst 0, 1) := by decide +kernel
theorem dL_law_647 : decode cL_law 647 = .ok (.ireturn, 1) := by decide +kernel
theorem dL_law_648 : decode cL_law 648 = .ok (.aload_n 1, 1) := by decide +kernel
theorem dL_law_649 : decode cL_law 649 = .ok (.aload_n 0, 1) := by decide +kernel
theorem dL_law_650 : decode cL_law 650 = .ok (.iload_n 3, 1) := by decide +kernel
theorem dL_law_651 : decode cL_law 651 = .ok (.iconst 1, 1) := by decide +kernel
theorem dL_law_652 : decode cL_law 652 = .ok (.iadd, 1) := by decide +kernel
theorem dL_law_653 : decode cL_law 653 = .ok (.iaload, 1) := by decide +kernel
theorem dL_law_654 : decode cL_law 654 = .ok (.aload_n 0, 1) := by decide +kernel
theorem dL_law_655 : decode cL_law 655 = .ok (.iload_n 3, 1) := by decide +kernel
theorem dL_law_656 : decode cL_law 656 = .ok (.iconst 2, 1) := by decide +kernel
theorem dL_law_657 : decode cL_law 657 = .ok (.iadd, 1) := by decide +kernel
theorem dL_law_658 : decode cL_law 658 = .ok (.iaload, 1) := by decide +kernel
theorem dL_law_659 : decode cL_law 659 = .ok (.aload_n 0, 1) := by decide +kernel
theorem dL_law_660 : decode cL_law 660 = .ok (.iload_n 3, 1) := by decide +kernel
theorem dL_law_661 : decode cL_law 661 = .ok (.iconst 3, 1) := by decide +kernel
theorem dL_law_662 : decode cL_law 662 = .ok (.iadd, 1) := by decide +kernel
theorem dL_law_663 : decode cL_law 663 = .ok (.iaload, 1) := by decide +kernel
theorem dL_law_664 : decode cL_law 664 = .ok (.aload_n 0, 1) := by decide +kernel
theorem dL_law_665 : decode cL_law 665 = .ok (.iload_n 3, 1) := by decide +kernel
theorem dL_law_666 : decode cL_law 666 = .ok (.iconst 4, 1) := by decide +kernel
theorem dL_law_667 : decode cL_law 667 = .ok (.iadd, 1) := by decide +kernel
theorem dL_law_668 : decode cL_law 668 = .ok (.iaload, 1) := by decide +kernel
theorem dL_law_669 : decode cL_law 669 = .ok (.invokevirtual 67, 3) := by decide +kernel
theorem dL_law_672 : decode cL_law 672 = .ok (.aload_n 2, 1) := by decide +kernel
theorem dL_law_673 : decode cL_law 673 = .ok (.aload_n 0, 1) := by decide +kernel
theorem dL_law_674 : decode cL_law 674 = .ok (.iload_n 3, 1) := by decide +kernel
theorem dL_law_675 : decode cL_law 675 = .ok (.iconst 1, 1) := by decide +kernel
theorem dL_law_676 : decode cL_law 676 = .ok (.iadd, 1) := by decide +kernel
theorem dL_law_677 : decode cL_law 677 = .ok (.iaload, 1) := by decide +kernel
theorem dL_law_678 : decode cL_law 678 = .ok (.aload_n 0, 1) := by decide +kernel
theorem dL_law_679 : decode cL_law 679 = .ok (.iload_n 3, 1) := by decide +kernel
theorem dL_law_680 : decode cL_law 680 = .ok (.iconst 2, 1) := by decide +kernel
theorem dL_law_681 : decode cL_law 681 = .ok (.iadd, 1) := by decide +kernel
theorem dL_law_682 : decode cL_law 682 = .ok (.iaload, 1) := by decide +kernel
theorem dL_law_683 : decode cL_law 683 = .ok (.aload_n 0, 1) := by decide +kernel
theorem dL_law_684 : decode cL_law 684 = .ok (.iload_n 3, 1) := by decide +kernel
theorem dL_law_685 : decode cL_law 685 = .ok (.iconst 3, 1) := by decide +kernel
theorem dL_law_686 : decode cL_law 686 = .ok (.iadd, 1) := by decide +kernel
theorem dL_law_687 : decode cL_law 687 = .ok (.iaload, 1) := by decide +kernel
theorem dL_law_688 : decode cL_law 688 = .ok (.aload_n 0, 1) := by decide +kernel
theorem dL_law_689 : decode cL_law 689 = .ok (.iload_n 3, 1) := by decide +kernel
theorem dL_law_690 : decode cL_law 690 = .ok (.iconst 4, 1) := by decide +kernel
theorem dL_law_691 : decode cL_law 691 = .ok (.iadd, 1) := by decide +kernel
theorem dL_law_692 : decode cL_law 692 = .ok (.iaload, 1) := by decide +kernel
theorem dL_law_693 : decode cL_law 693 = .ok (.invokevirtual 70, 3) := by decide +kernel
theorem dL_law_696 : decode cL_law 696 = .ok (.if_icmp .eq 640, 3) := by decide +kernel
theorem dL_law_699 : decode cL_law 699 = .ok (.iconst 0, 1) := by decide +kernel
theorem dL_law_700 : decode cL_law 700 = .ok (.ireturn, 1) := by decide +kernel
theorem dL_law_701 : decode cL_law 701 = .ok (.aload_n 1, 1) := by decide +kernel
theorem dL_law_702 : decode cL_law 702 = .ok (.aload_n 0, 1) := by decide +kernel
theorem dL_law_703 : decode cL_law 703 = .ok (.iload_n 3, 1) := by decide +kernel
theorem dL_law_704 : decode cL_law 704 = .ok (.iconst 1, 1) := by decide +kernel
theorem dL_law_705 : decode cL_law 705 = .ok (.iadd, 1) := by decide +kernel
theorem dL_law_706 : decode cL_law 706 = .ok (.iaload, 1) := by decide +kernel
theorem dL_law_707 : decode cL_law 707 = .ok (.aload_n 0, 1) := by decide +kernel
theorem dL_law_708 : decode cL_law 708 = .ok (.iload_n 3, 1) := by decide +kernel
theorem dL_law_709 : decode cL_law 709 = .ok (.iconst 2, 1) := by decide +kernel
theorem dL_law_710 : decode cL_law 710 = .ok (.iadd, 1) := by decide +kernel
theorem dL_law_711 : decode cL_law 711 = .ok (.iaload, 1) := by decide +kernel
theorem dL_law_712 : decode cL_law 712 = .ok (.invokevirtual 71, 3) := by decide +kernel
theorem dL_law_715 : decode cL_law 715 = .ok (.aload_n 2, 1) := by decide +kernel
theorem dL_law_716 : decode cL_law 716 = .ok (.aload_n 0, 1) := by decide +kernel
theorem dL_law_717 : decode cL_law 717 = .ok (.iload_n 3, 1) := by decide +kernel
theorem dL_law_718 : decode cL_law 718 = .ok (.iconst 1, 1) := by decide +kernel
theorem dL_law_719 : decode cL_law 719 = .ok (.iadd, 1) := by decide +kernel
theorem dL_law_720 : decode cL_law 720 = .ok (.iaload, 1) := by decide +kernel
theorem dL_law_721 : decode cL_law 721 = .ok (.aload_n 0, 1) := by decide +kernel
theorem dL_law_722 : decode cL_law 722 = .ok (.iload_n 3, 1) := by decide +kernel
theorem dL_law_723 : decode cL_law 723 = .ok (.iconst 2, 1) := by decide +kernel
theorem dL_law_724 : decode cL_law 724 = .ok (.iadd, 1) := by decide +kernel
theorem dL_law_725 : decode cL_law 725 = .ok (.iaload, 1) := by decide +kernel
theorem dL_law_726 : decode cL_law 726 = .ok (.invokevirtual 74, 3) := by decide +kernel
theorem dL_law_729 : decode cL_law 729 = .ok (.if_icmp .eq 607, 3) := by decide +kernel
theorem dL_law_732 : decode cL_law 732 = .ok (.iconst 0, 1) := by decide +kernel
theorem dL_law_733 : decode cL_law 733 = .ok (.ireturn, 1) := by decide +kernel
theorem dL_law_734 : decode cL_law 734 = .ok (.aload_n 1, 1) := by decide +kernel
theorem dL_law_735 : decode cL_law 735 = .ok (.aload_n 0, 1) := by decide +kernel
theorem dL_law_736 : decode cL_law 736 = .ok (.iload_n 3, 1) := by decide +kernel
theorem dL_law_737 : decode cL_law 737 = .ok (.iconst 1, 1) := by decide +kernel
theorem dL_law_738 : decode cL_law 738 = .ok (.iadd, 1) := by decide +kernel
theorem dL_law_739 : decode cL_law 739 = .ok (.iaload, 1) := by decide +kernel
theorem dL_law_740 : decode cL_law 740 = .ok (.aload_n 0, 1) := by decide +kernel
theorem dL_law_741 : decode cL_law 741 = .ok (.iload_n 3, 1) := by decide +kernel
theorem dL_law_742 : decode cL_law 742 = .ok (.iconst 2, 1) := by decide +kernel
theorem dL_law_743 : decode cL_law 743 = .ok (.iadd, 1) := by decide +kernel
theorem dL_law_744 : decode cL_law 744 = .ok (.iaload, 1) := by decide +kernel
theorem dL_law_745 : decode cL_law 745 = .ok (.aload_n 0, 1) := by decide +kernel
theorem dL_law_746 : decode cL_law 746 = .ok (.iload_n 3, 1) := by decide +kernel
theorem dL_law_747 : decode cL_law 747 = .ok (.iconst 3, 1) := by decide +kernel
theorem dL_law_748 : decode cL_law 748 = .ok (.iadd, 1) := by decide +kernel
theorem dL_law_749 : decode cL_law 749 = .ok (.iaload, 1) := by decide +kernel
theorem dL_law_750 : decode cL_law 750 = .ok (.invokevirtual 75, 3) := by decide +kernel
theorem dL_law_753 : decode cL_law 753 = .ok (.aload_n 2, 1) := by decide +kernel
theorem dL_law_754 : decode cL_law 754 = .ok (.aload_n 0, 1) := by decide +kernel
theorem dL_law_755 : decode cL_law 755 = .ok (.iload_n 3, 1) := by decide +kernel
theorem dL_law_756 : decode cL_law 756 = .ok (.iconst 1, 1) := by decide +kernel
theorem dL_law_757 : decode cL_law 757 = .ok (.iadd, 1) := by decide +kernel
theorem dL_law_758 : decode cL_law 758 = .ok (.iaload, 1) := by decide +kernel
theorem dL_law_759 : decode cL_law 759 = .ok (.aload_n 0, 1) := by decide +kernel
theorem dL_law_760 : decode cL_law 760 = .ok (.iload_n 3, 1) := by decide +kernel
theorem dL_law_761 : decode cL_law 761 = .ok (.iconst 2, 1) := by decide +kernel
theorem dL_law_762 : decode cL_law 762 = .ok (.iadd, 1) := by decide +kernel
theorem dL_law_763 : decode cL_law 763 = .ok (.iaload, 1) := by decide +kernel
theorem dL_law_764 : decode cL_law 764 = .ok (.aload_n 0, 1) := by decide +kernel
theorem dL_law_765 : decode cL_law 765 = .ok (.iload_n 3, 1) := by decide +kernel
theorem dL_law_766 : decode cL_law 766 = .ok (.iconst 3, 1) := by decide +kernel
theorem dL_law_767 : decode cL_law 767 = .ok (.iadd, 1) := by decide +kernel
theorem dL_law_768 : decode cL_law 768 = .ok (.iaload, 1) := by decide +kernel
theorem dL_law_769 : decode cL_law 769 = .ok (.invokevirtual 78, 3) := by decide +kernel
theorem dL_law_772 : decode cL_law 772 = .ok (.if_icmp .eq 564, 3) := by decide +kernel
theorem dL_law_775 : decode cL_law 775 = .ok (.iconst 0, 1) := by decide +kernel
theorem dL_law_776 : decode cL_law 776 = .ok (.ireturn, 1) := by decide +kernel
theorem dL_law_777 : decode cL_law 777 = .ok (.aload_n 1, 1) := by decide +kernel
theorem dL_law_778 : decode cL_law 778 = .ok (.aload_n 0, 1) := by decide +kernel
theorem dL_law_779 : decode cL_law 779 = .ok (.iload_n 3, 1) := by decide +kernel
theorem dL_law_780 : decode cL_law 780 = .ok (.iconst 1, 1) := by decide +kernel
theorem dL_law_781 : decode cL_law 781 = .ok (.iadd, 1) := by decide +kernel
theorem dL_law_782 : decode cL_law 782 = .ok (.iaload, 1) := by decide +kernel
theorem dL_law_783 : decode cL_law 783 = .ok (.aload_n 0, 1) := by decide +kernel
theorem dL_law_784 : decode cL_law 784 = .ok (.iload_n 3, 1) := by decide +kernel
theorem dL_law_785 : decode cL_law 785 = .ok (.iconst 2, 1) := by decide +kernel
theorem dL_law_786 : decode cL_law 786 = .ok (.iadd, 1) := by decide +kernel
theorem dL_law_787 : decode cL_law 787 = .ok (.iaload, 1) := by decide +kernel
theorem dL_law_788 : decode cL_law 788 = .ok (.invokevirtual 79, 3) := by decide +kernel
theorem dL_law_791 : decode cL_law 791 = .ok (.aload_n 2, 1) := by decide +kernel
theorem dL_law_792 : decode cL_law 792 = .ok (.aload_n 0, 1) := by decide +kernel
theorem dL_law_793 : decode cL_law 793 = .ok (.iload_n 3, 1) := by decide +kernel
theorem dL_law_794 : decode cL_law 794 = .ok (.iconst 1, 1) := by decide +kernel
theorem dL_law_795 : decode cL_law 795 = .ok (.iadd, 1) := by decide +kernel
theorem dL_law_796 : decode cL_law 796 = .ok (.iaload, 1) := by decide +kernel
theorem dL_law_797 : decode cL_law 797 = .ok (.aload_n 0, 1) := by decide +kernel
theorem dL_law_798 : decode cL_law 798 = .ok (.iload_n 3, 1) := by decide +kernel
theorem dL_law_799 : decode cL_law 799 = .ok (.iconst 2, 1) := by decide +kernel
theorem dL_law_800 : decode cL_law 800 = .ok (.iadd, 1) := by decide +kernel
theorem dL_law_801 : decode cL_law 801 = .ok (.iaload, 1) := by decide +kernel
theorem dL_law_802 : decode cL_law 802 = .ok (.invokevirtual 82, 3) := by decide +kernel
theorem dL_law_805 : decode cL_law 805 = .ok (.if_icmp .eq 531, 3) := by decide +kernel
theorem dL_law_808 : decode cL_law 808 = .ok (.iconst 0, 1) := by decide +kernel
theorem dL_law_809 : decode cL_law 809 = .ok (.ireturn, 1) := by decide +kernel
theorem dL_law_810 : decode cL_law 810 = .ok (.aload_n 1, 1) := by decide +kernel
theorem dL_law_811 : decode cL_law 811 = .ok (.aload_n 0, 1) := by decide +kernel
theorem dL_law_812 : decode cL_law 812 = .ok (.iload_n 3, 1) := by decide +kernel
theorem dL_law_813 : decode cL_law 813 = .ok (.iconst 1, 1) := by decide +kernel
theorem dL_law_814 : decode cL_law 814 = .ok (.iadd, 1) := by decide +kernel
theorem dL_law_815 : decode cL_law 815 = .ok (.iaload, 1) := by decide +kernel
theorem dL_law_816 : decode cL_law 816 = .ok (.invokevirtual 83, 3) := by decide +kernel
theorem dL_law_819 : decode cL_law 819 = .ok (.aload_n 2, 1) := by decide +kernel
theorem dL_law_820 : decode cL_law 820 = .ok (.aload_n 0, 1) := by decide +kernel
theorem dL_law_821 : decode cL_law 821 = .ok (.iload_n 3, 1) := by decide +kernel
theorem dL_law_822 : decode cL_law 822 = .ok (.iconst 1, 1) := by decide +kernel
theorem dL_law_823 : decode cL_law 823 = .ok (.iadd, 1) := by decide +kernel
theorem dL_law_824 : decode cL_law 824 = .ok (.iaload, 1) := by decide +kernel
theorem dL_law_825 : decode cL_law 825 = .ok (.invokevirtual 86, 3) := by decide +kernel
theorem dL_law_828 : decode cL_law 828 = .ok (.if_icmp .eq 508, 3) := by decide +kernel
theorem dL_law_831 : decode cL_law 831 = .ok (.iconst 0, 1) := by decide +kernel
theorem dL_law_832 : decode cL_law 832 = .ok (.ireturn, 1) := by decide +kernel
theorem dL_law_833 : decode cL_law 833 = .ok (.aload_n 1, 1) := by decide +kernel
theorem dL_law_834 : decode cL_law 834 = .ok (.aload_n 0, 1) := by decide +kernel
theorem dL_law_835 : decode cL_law 835 = .ok (.iload_n 3, 1) := by decide +kernel
theorem dL_law_836 : decode cL_law 836 = .ok (.iconst 1, 1) := by decide +kernel
theorem dL_law_837 : decode cL_law 837 = .ok (.iadd, 1) := by decide +kernel
theorem dL_law_838 : decode cL_law 838 = .ok (.iaload, 1) := by decide +kernel
theorem dL_law_839 : decode cL_law 839 = .ok (.aload_n 0, 1) := by decide +kernel
theorem dL_law_840 : decode cL_law 840 = .ok (.iload_n 3, 1) := by decide +kernel
theorem dL_law_841 : decode cL_law 841 = .ok (.iconst 2, 1) := by decide +kernel
theorem dL_law_842 : decode cL_law 842 = .ok (.iadd, 1) := by decide +kernel
theorem dL_law_843 : decode cL_law 843 = .ok (.iaload, 1) := by decide +kernel
theorem dL_law_844 : decode cL_law 844 = .ok (.invokevirtual 87, 3) := by decide +kernel
theorem dL_law_847 : decode cL_law 847 = .ok (.aload_n 2, 1) := by decide +kernel
theorem dL_law_848 : decode cL_law 848 = .ok (.aload_n 0, 1) := by decide +kernel
theorem dL_law_849 : decode cL_law 849 = .ok (.iload_n 3, 1) := by decide +kernel
theorem dL_law_850 : decode cL_law 850 = .ok (.iconst 1, 1) := by decide +kernel
theorem dL_law_851 : decode cL_law 851 = .ok (.iadd, 1) := by decide +kernel
theorem dL_law_852 : decode cL_law 852 = .ok (.iaload, 1) := by decide +kernel
theorem dL_law_853 : decode cL_law 853 = .ok (.aload_n 0, 1) := by decide +kernel
theorem dL_law_854 : decode cL_law 854 = .ok (.iload_n 3, 1) := by decide +kernel
theorem dL_law_855 : decode cL_law 855 = .ok (.iconst 2, 1) := by decide +kernel
theorem dL_law_856 : decode cL_law 856 = .ok (.iadd, 1) := by decide +kernel
theorem dL_law_857 : decode cL_law 857 = .ok (.iaload, 1) := by decide +kernel
theorem dL_law_858 : decode cL_law 858 = .ok (.invokevirtual 90, 3) := by decide +kernel
theorem dL_law_861 : decode cL_law 861 = .ok (.if_icmp .eq 475, 3) := by decide +kernel
theorem dL_law_864 : decode cL_law 864 = .ok (.iconst 0, 1) := by decide +kernel
theorem dL_law_865 : decode cL_law 865 = .ok (.ireturn, 1) := by decide +kernel
theorem dL_law_866 : decode cL_law 866 = .ok (.aload_n 1, 1) := by decide +kernel
theorem dL_law_867 : decode cL_law 867 = .ok (.invokevirtual 91, 3) := by decide +kernel
theorem dL_law_870 : decode cL_law 870 = .ok (.aload_n 2, 1) := by decide +kernel
theorem dL_law_871 : decode cL_law 871 = .ok (.invokevirtual 94, 3) := by decide +kernel
theorem dL_law_874 : decode cL_law 874 = .ok (.if_icmp .eq 462, 3) := by decide +kernel
theorem dL_law_877 : decode cL_law 877 = .ok (.iconst 0, 1) := by decide +kernel
theorem dL_law_878 : decode cL_law 878 = .ok (.ireturn, 1) := by decide +kernel
theorem dL_law_879 : decode cL_law 879 = .ok (.aload_n 1, 1) := by decide +kernel
theorem dL_law_880 : decode cL_law 880 = .ok (.aload_n 0, 1) := by decide +kernel
theorem dL_law_881 : decode cL_law 881 = .ok (.iload_n 3, 1) := by decide +kernel
theorem dL_law_882 : decode cL_law 882 = .ok (.iconst 1, 1) := by decide +kernel
theorem dL_law_883 : decode cL_law 883 = .ok (.iadd, 1) := by decide +kernel
theorem dL_law_884 : decode cL_law 884 = .ok (.iaload, 1) := by decide +kernel
theorem dL_law_885 : decode cL_law 885 = .ok (.invokevirtual 95, 3) := by decide +kernel
theorem dL_law_888 : decode cL_law 888 = .ok (.aload_n 2, 1) := by decide +kernel
theorem dL_law_889 : decode cL_law 889 = .ok (.aload_n 0, 1) := by decide +kernel
theorem dL_law_890 : decode cL_law 890 = .ok (.iload_n 3, 1) := by decide +kernel
theorem dL_law_891 : decode cL_law 891 = .ok (.iconst 1, 1) := by decide +kernel
theorem dL_law_892 : decode cL_law 892 = .ok (.iadd, 1) := by decide +kernel
theorem dL_law_893 : decode cL_law 893 = .ok (.iaload, 1) := by decide +kernel
theorem dL_law_894 : decode cL_law 894 = .ok (.invokevirtual 98, 3) := by decide +kernel
theorem dL_law_897 : decode cL_law 897 = .ok (.if_icmp .eq 439, 3) := by decide +kernel
theorem dL_law_900 : decode cL_law 900 = .ok (.iconst 0, 1) := by decide +kernel
theorem dL_law_901 : decode cL_law 901 = .ok (.ireturn, 1) := by decide +kernel
theorem dL_law_902 : decode cL_law 902 = .ok (.aload_n 1, 1) := by decide +kernel
theorem dL_law_903 : decode cL_law 903 = .ok (.aload_n 0, 1) := by decide +kernel
theorem dL_law_904 : decode cL_law 904 = .ok (.iload_n 3, 1) := by decide +kernel
theorem dL_law_905 : decode cL_law 905 = .ok (.iconst 1, 1) := by decide +kernel
theorem dL_law_906 : decode cL_law 906 = .ok (.iadd, 1) := by decide +kernel
theorem dL_law_907 : decode cL_law 907 = .ok (.iaload, 1) := by decide +kernel
theorem dL_law_908 : decode cL_law 908 = .ok (.invokevirtual 99, 3) := by decide +kernel
theorem dL_law_911 : decode cL_law 911 = .ok (.aload_n 2, 1) := by decide +kernel
theorem dL_law_912 : decode cL_law 912 = .ok (.aload_n 0, 1) := by decide +kernel
theorem dL_law_913 : decode cL_law 913 = .ok (.iload_n 3, 1) := by decide +kernel
theorem dL_law_914 : decode cL_law 914 = .ok (.iconst 1, 1) := by decide +kernel
theorem dL_law_915 : decode cL_law 915 = .ok (.iadd, 1) := by decide +kernel
theorem dL_law_916 : decode cL_law 916 = .ok (.iaload, 1) := by decide +kernel
theorem dL_law_917 : decode cL_law 917 = .ok (.invokevirtual 102, 3) := by decide +kernel
theorem dL_law_920 : decode cL_law 920 = .ok (.if_icmp .eq 416, 3) := by decide +kernel
theorem dL_law_923 : decode cL_law 923 = .ok (.iconst 0, 1) := by decide +kernel
theorem dL_law_924 : decode cL_law 924 = .ok (.ireturn, 1) := by decide +kernel
theorem dL_law_925 : decode cL_law 925 = .ok (.aload_n 1, 1) := by decide +kernel
theorem dL_law_926 : decode cL_law 926 = .ok (.aload_n 0, 1) := by decide +kernel
theorem dL_law_927 : decode cL_law 927 = .ok (.iload_n 3, 1) := by decide +kernel
theorem dL_law_928 : decode cL_law 928 = .ok (.iconst 1, 1) := by decide +kernel
theorem dL_law_929 : decode cL_law 929 = .ok (.iadd, 1) := by decide +kernel
theorem dL_law_930 : decode cL_law 930 = .ok (.iaload, 1) := by decide +kernel
theorem dL_law_931 : decode cL_law 931 = .ok (.aload_n 0, 1) := by decide +kernel
theorem dL_law_932 : decode cL_law 932 = .ok (.iload_n 3, 1) := by decide +kernel
theorem dL_law_933 : decode cL_law 933 = .ok (.iconst 2, 1) := by decide +kernel
theorem dL_law_934 : decode cL_law 934 = .ok (.iadd, 1) := by decide +kernel
theorem dL_law_935 : decode cL_law 935 = .ok (.iaload, 1) := by decide +kernel
theorem dL_law_936 : decode cL_law 936 = .ok (.aload_n 0, 1) := by decide +kernel
theorem dL_law_937 : decode cL_law 937 = .ok (.iload_n 3, 1) := by decide +kernel
theorem dL_law_938 : decode cL_law 938 = .ok (.iconst 3, 1) := by decide +kernel
theorem dL_law_939 : decode cL_law 939 = .ok (.iadd, 1) := by decide +kernel
theorem dL_law_940 : decode cL_law 940 = .ok (.iaload, 1) := by decide +kernel
theorem dL_law_941 : decode cL_law 941 = .ok (.aload_n 0, 1) := by decide +kernel
theorem dL_law_942 : decode cL_law 942 = .ok (.iload_n 3, 1) := by decide +kernel
theorem dL_law_943 : decode cL_law 943 = .ok (.iconst 4, 1) := by decide +kernel
theorem dL_law_944 : decode cL_law 944 = .ok (.iadd, 1) := by decide +kernel
theorem dL_law_945 : decode cL_law 945 = .ok (.iaload, 1) := by decide +kernel
theorem dL_law_946 : decode cL_law 946 = .ok (.aload_n 0, 1) := by decide +kernel
theorem dL_law_947 : decode cL_law 947 = .ok (.iload_n 3, 1) := by decide +kernel
theorem dL_law_948 : decode cL_law 948 = .ok (.iconst 5, 1) := by decide +kernel
theorem dL_law_949 : decode cL_law 949 = .ok (.iadd, 1) := by decide +kernel
theorem dL_law_950 : decode cL_law 950 = .ok (.iaload, 1) := by decide +kernel
theorem dL_law_951 : decode cL_law 951 = .ok (.aload_n 0, 1) := by decide +kernel
theorem dL_law_952 : decode cL_law 952 = .ok (.iload_n 3, 1) := by decide +kernel
theorem dL_law_953 : decode cL_law 953 = .ok (.bipush 6, 2) := by decide +kernel
theorem dL_law_955 : decode cL_law 955 = .ok (.iadd, 1) := by decide +kernel
theorem dL_law_956 : decode cL_law 956 = .ok (.iaload, 1) := by decide +kernel
theorem dL_law_957 : decode cL_law 957 = .ok (.invokevirtual 103, 3) := by decide +kernel
theorem dL_law_960 : decode cL_law 960 = .ok (.aload_n 2, 1) := by decide +kernel
theorem dL_law_961 : decode cL_law 961 = .ok (.aload_n 0, 1) := by decide +kernel
theorem dL_law_962 : decode cL_law 962 = .ok (.iload_n 3, 1) := by decide +kernel
theorem dL_law_963 : decode cL_law 963 = .ok (.iconst 1, 1) := by decide +kernel
theorem dL_law_964 : decode cL_law 964 = .ok (.iadd, 1) := by decide +kernel
theorem dL_law_965 : decode cL_law 965 = .ok (.iaload, 1) := by decide +kernel
theorem dL_law_966 : decode cL_law 966 = .ok (.aload_n 0, 1) := by decide +kernel
theorem dL_law_967 : decode cL_law 967 = .ok (.iload_n 3, 1) := by decide +kernel
theorem dL_law_968 : decode cL_law 968 = .ok (.iconst 2, 1) := by decide +kernel
theorem dL_law_969 : decode cL_law 969 = .ok (.iadd, 1) := by decide +kernel
theorem dL_law_970 : decode cL_law 970 = .ok (.iaload, 1) := by decide +kernel
theorem dL_law_971 : decode cL_law 971 = .ok (.aload_n 0, 1) := by decide +kernel
theorem dL_law_972 : decode cL_law 972 = .ok (.iload_n 3, 1) := by decide +kernel
theorem dL_law_973 : decode cL_law 973 = .ok (.iconst 3, 1) := by decide +kernel
theorem dL_law_974 : decode cL_law 974 = .ok (.iadd, 1) := by decide +kernel
theorem dL_law_975 : decode cL_law 975 = .ok (.iaload, 1) := by decide +kernel
theorem dL_law_976 : decode cL_law 976 = .ok (.aload_n 0, 1) := by decide +kernel
theorem dL_law_977 : decode cL_law 977 = .ok (.iload_n 3, 1) := by decide +kernel
theorem dL_law_978 : decode cL_law 978 = .ok (.iconst 4, 1) := by decide +kernel
theorem dL_law_979 : decode cL_law 979 = .ok (.iadd, 1) := by decide +kernel
theorem dL_law_980 : decode cL_law 980 = .ok (.iaload, 1) := by decide +kernel
theorem dL_law_981 : decode cL_law 981 = .ok (.aload_n 0, 1) := by decide +kernel
theorem dL_law_982 : decode cL_law 982 = .ok (.iload_n 3, 1) := by decide +kernel
theorem dL_law_983 : decode cL_law 983 = .ok (.iconst 5, 1) := by decide +kernel
theorem dL_law_984 : decode cL_law 984 = .ok (.iadd, 1) := by decide +kernel
theorem dL_law_985 : decode cL_law 985 = .ok (.iaload, 1) := by decide +kernel
theorem dL_law_986 : decode cL_law 986 = .ok (.aload_n 0, 1) := by decide +kernel
theorem dL_law_987 : decode cL_law 987 = .ok (.iload_n 3, 1) := by decide +kernel
theorem dL_law_988 : decode cL_law 988 = .ok (.bipush 6, 2) := by decide +kernel
theorem dL_law_990 : decode cL_law 990 = .ok (.iadd, 1) := by decide +kernel
theorem dL_law_991 : decode cL_law 991 = .ok (.iaload, 1) := by decide +kernel
theorem dL_law_992 : decode cL_law 992 = .ok (.invokevirtual 107, 3) := by decide +kernel
theorem dL_law_995 : decode cL_law 995 = .ok (.if_icmp .eq 341, 3) := by decide +kernel
theorem dL_law_998 : decode cL_law 998 = .ok (.iconst 0, 1) := by decide +kernel
theorem dL_law_999 : decode cL_law 999 = .ok (.ireturn, 1) := by decide +kernel
theorem dL_law_1000 : decode cL_law 1000 = .ok (.aload_n 1, 1) := by decide +kernel
theorem dL_law_1001 : decode cL_law 1001 = .ok (.aload_n 0, 1) := by decide +kernel
theorem dL_law_1002 : decode cL_law 1002 = .ok (.iload_n 3, 1) := by decide +kernel
theorem dL_law_1003 : decode cL_law 1003 = .ok (.iconst 1, 1) := by decide +kernel
theorem dL_law_1004 : decode cL_law 1004 = .ok (.iadd, 1) := by decide +kernel
theorem dL_law_1005 : decode cL_law 1005 = .ok (.iaload, 1) := by decide +kernel
theorem dL_law_1006 : decode cL_law 1006 = .ok (.invokevirtual 108, 3) := by decide +kernel
theorem dL_law_1009 : decode cL_law 1009 = .ok (.aload_n 2, 1) := by decide +kernel
theorem dL_law_1010 : decode cL_law 1010 = .ok (.aload_n 0, 1) := by decide +kernel
theorem dL_law_1011 : decode cL_law 1011 = .ok (.iload_n 3, 1) := by decide +kernel
theorem dL_law_1012 : decode cL_law 1012 = .ok (.iconst 1, 1) := by decide +kernel
theorem dL_law_1013 : decode cL_law 1013 = .ok (.iadd, 1) := by decide +kernel
theorem dL_law_1014 : decode cL_law 1014 = .ok (.iaload, 1) := by decide +kernel
theorem dL_law_1015 : decode cL_law 1015 = .ok (.invokevirtual 111, 3) := by decide +kernel
theorem dL_law_1018 : decode cL_law 1018 = .ok (.if_icmp .eq 318, 3) := by decide +kernel
theorem dL_law_1021 : decode cL_law 1021 = .ok (.iconst 0, 1) := by decide +kernel
theorem dL_law_1022 : decode cL_law 1022 = .ok (.ireturn, 1) := by decide +kernel
theorem dL_law_1023 : decode cL_law 1023 = .ok (.aload_n 1, 1) := by decide +kernel
theorem dL_law_1024 : decode cL_law 1024 = .ok (.invokevirtual 112, 3) := by decide +kernel
theorem dL_law_1027 : decode cL_law 1027 = .ok (.aload_n 2, 1) := by decide +kernel
theorem dL_law_1028 : decode cL_law 1028 = .ok (.invokevirtual 115, 3) := by decide +kernel
theorem dL_law_1031 : decode cL_law 1031 = .ok (.if_icmp .eq 305, 3) := by decide +kernel
theorem dL_law_1034 : decode cL_law 1034 = .ok (.iconst 0, 1) := by decide +kernel
theorem dL_law_1035 : decode cL_law 1035 = .ok (.ireturn, 1) := by decide +kernel
theorem dL_law_1036 : decode cL_law 1036 = .ok (.aload_n 1, 1) := by decide +kernel
theorem dL_law_1037 : decode cL_law 1037 = .ok (.invokevirtual 116, 3) := by decide +kernel
theorem dL_law_1040 : decode cL_law 1040 = .ok (.aload_n 2, 1) := by decide +kernel
theorem dL_law_1041 : decode cL_law 1041 = .ok (.invokevirtual 119, 3) := by decide +kernel
theorem dL_law_1044 : decode cL_law 1044 = .ok (.if_icmp .eq 292, 3) := by decide +kernel
theorem dL_law_1047 : decode cL_law 1047 = .ok (.iconst 0, 1) := by decide +kernel
theorem dL_law_1048 : decode cL_law 1048 = .ok (.ireturn, 1) := by decide +kernel
theorem dL_law_1049 : decode cL_law 1049 = .ok (.aload_n 1, 1) := by decide +kernel
theorem dL_law_1050 : decode cL_law 1050 = .ok (.invokevirtual 120, 3) := by decide +kernel
theorem dL_law_1053 : decode cL_law 1053 = .ok (.aload_n 2, 1) := by decide +kernel
theorem dL_law_1054 : decode cL_law 1054 = .ok (.invokevirtual 123, 3) := by decide +kernel
theorem dL_law_1057 : decode cL_law 1057 = .ok (.if_icmp .eq 279, 3) := by decide +kernel
theorem dL_law_1060 : decode cL_law 1060 = .ok (.iconst 0, 1) := by decide +kernel
theorem dL_law_1061 : decode cL_law 1061 = .ok (.ireturn, 1) := by decide +kernel
theorem dL_law_1062 : decode cL_law 1062 = .ok (.aload_n 1, 1) := by decide +kernel
theorem dL_law_1063 : decode cL_law 1063 = .ok (.aload_n 0, 1) := by decide +kernel
theorem dL_law_1064 : decode cL_law 1064 = .ok (.iload_n 3, 1) := by decide +kernel
theorem dL_law_1065 : decode cL_law 1065 = .ok (.iconst 1, 1) := by decide +kernel
theorem dL_law_1066 : decode cL_law 1066 = .ok (.iadd, 1) := by decide +kernel
theorem dL_law_1067 : decode cL_law 1067 = .ok (.iaload, 1) := by decide +kernel
theorem dL_law_1068 : decode cL_law 1068 = .ok (.aload_n 0, 1) := by decide +kernel
theorem dL_law_1069 : decode cL_law 1069 = .ok (.iload_n 3, 1) := by decide +kernel
theorem dL_law_1070 : decode cL_law 1070 = .ok (.iconst 2, 1) := by decide +kernel
theorem dL_law_1071 : decode cL_law 1071 = .ok (.iadd, 1) := by decide +kernel
theorem dL_law_1072 : decode cL_law 1072 = .ok (.iaload, 1) := by decide +kernel
theorem dL_law_1073 : decode cL_law 1073 = .ok (.invokevirtual 124, 3) := by decide +kernel
theorem dL_law_1076 : decode cL_law 1076 = .ok (.aload_n 2, 1) := by decide +kernel
theorem dL_law_1077 : decode cL_law 1077 = .ok (.aload_n 0, 1) := by decide +kernel
theorem dL_law_1078 : decode cL_law 1078 = .ok (.iload_n 3, 1) := by decide +kernel
theorem dL_law_1079 : decode cL_law 1079 = .ok (.iconst 1, 1) := by decide +kernel
theorem dL_law_1080 : decode cL_law 1080 = .ok (.iadd, 1) := by decide +kernel
theorem dL_law_1081 : decode cL_law 1081 = .ok (.iaload, 1) := by decide +kernel
theorem dL_law_1082 : decode cL_law 1082 = .ok (.aload_n 0, 1) := by decide +kernel
theorem dL_law_1083 : decode cL_law 1083 = .ok (.iload_n 3, 1) := by decide +kernel
theorem dL_law_1084 : decode cL_law 1084 = .ok (.iconst 2, 1) := by decide +kernel
theorem dL_law_1085 : decode cL_law 1085 = .ok (.iadd, 1) := by decide +kernel
theorem dL_law_1086 : decode cL_law 1086 = .ok (.iaload, 1) := by decide +kernel
theorem dL_law_1087 : decode cL_law 1087 = .ok (.invokevirtual 127, 3) := by decide +kernel
theorem dL_law_1090 : decode cL_law 1090 = .ok (.if_icmp .eq 246, 3) := by decide +kernel
theorem dL_law_1093 : decode cL_law 1093 = .ok (.iconst 0, 1) := by decide +kernel
theorem dL_law_1094 : decode cL_law 1094 = .ok (.ireturn, 1) := by decide +kernel
theorem dL_law_1095 : decode cL_law 1095 = .ok (.aload_n 1, 1) := by decide +kernel
theorem dL_law_1096 : decode cL_law 1096 = .ok (.aload_n 0, 1) := by decide +kernel
theorem dL_law_1097 : decode cL_law 1097 = .ok (.iload_n 3, 1) := by decide +kernel
theorem dL_law_1098 : decode cL_law 1098 = .ok (.iconst 1, 1) := by decide +kernel
theorem dL_law_1099 : decode cL_law 1099 = .ok (.iadd, 1) := by decide +kernel
theorem dL_law_1100 : decode cL_law 1100 = .ok (.iaload, 1) := by decide +kernel
theorem dL_law_1101 : decode cL_law 1101 = .ok (.invokevirtual 128, 3) := by decide +kernel
theorem dL_law_1104 : decode cL_law 1104 = .ok (.aload_n 2, 1) := by decide +kernel
theorem dL_law_1105 : decode cL_law 1105 = .ok (.aload_n 0, 1) := by decide +kernel
theorem dL_law_1106 : decode cL_law 1106 = .ok (.iload_n 3, 1) := by decide +kernel
theorem dL_law_1107 : decode cL_law 1107 = .ok (.iconst 1, 1) := by decide +kernel
theorem dL_law_1108 : decode cL_law 1108 = .ok (.iadd, 1) := by decide +kernel
theorem dL_law_1109 : decode cL_law 1109 = .ok (.iaload, 1) := by decide +kernel
theorem dL_law_1110 : decode cL_law 1110 = .ok (.invokevirtual 131, 3) := by decide +kernel
theorem dL_law_1113 : decode cL_law 1113 = .ok (.if_icmp .eq 223, 3) := by decide +kernel
theorem dL_law_1116 : decode cL_law 1116 = .ok (.iconst 0, 1) := by decide +kernel
theorem dL_law_1117 : decode cL_law 1117 = .ok (.ireturn, 1) := by decide +kernel
theorem dL_law_1118 : decode cL_law 1118 = .ok (.aload_n 1, 1) := by decide +kernel
theorem dL_law_1119 : decode cL_law 1119 = .ok (.invokevirtual 132, 3) := by decide +kernel
theorem dL_law_1122 : decode cL_law 1122 = .ok (.aload_n 2, 1) := by decide +kernel
theorem dL_law_1123 : decode cL_law 1123 = .ok (.invokevirtual 135, 3) := by decide +kernel
theorem dL_law_1126 : decode cL_law 1126 = .ok (.if_icmp .eq 210, 3) := by decide +kernel
theorem dL_law_1129 : decode cL_law 1129 = .ok (.iconst 0, 1) := by decide +kernel
theorem dL_law_1130 : decode cL_law 1130 = .ok (.ireturn, 1) := by decide +kernel
theorem dL_law_1131 : decode cL_law 1131 = .ok (.aload_n 1, 1) := by decide +kernel
theorem dL_law_1132 : decode cL_law 1132 = .ok (.aload_n 0, 1) := by decide +kernel
theorem dL_law_1133 : decode cL_law 1133 = .ok (.iload_n 3, 1) := by decide +kernel
theorem dL_law_1134 : decode cL_law 1134 = .ok (.iconst 1, 1) := by decide +kernel
theorem dL_law_1135 : decode cL_law 1135 = .ok (.iadd, 1) := by decide +kernel
theorem dL_law_1136 : decode cL_law 1136 = .ok (.iaload, 1) := by decide +kernel
theorem dL_law_1137 : decode cL_law 1137 = .ok (.aload_n 0, 1) := by decide +kernel
theorem dL_law_1138 : decode cL_law 1138 = .ok (.iload_n 3, 1) := by decide +kernel
theorem dL_law_1139 : decode cL_law 1139 = .ok (.iconst 2, 1) := by decide +kernel
theorem dL_law_1140 : decode cL_law 1140 = .ok (.iadd, 1) := by decide +kernel
theorem dL_law_1141 : decode cL_law 1141 = .ok (.iaload, 1) := by decide +kernel
theorem dL_law_1142 : decode cL_law 1142 = .ok (.aload_n 0, 1) := by decide +kernel
theorem dL_law_1143 : decode cL_law 1143 = .ok (.iload_n 3, 1) := by decide +kernel
theorem dL_law_1144 : decode cL_law 1144 = .ok (.iconst 3, 1) := by decide +kernel
theorem dL_law_1145 : decode cL_law 1145 = .ok (.iadd, 1) := by decide +kernel
theorem dL_law_1146 : decode cL_law 1146 = .ok (.iaload, 1) := by decide +kernel
theorem dL_law_1147 : decode cL_law 1147 = .ok (.aload_n 0, 1) := by decide +kernel
theorem dL_law_1148 : decode cL_law 1148 = .ok (.iload_n 3, 1) := by decide +kernel
theorem dL_law_1149 : decode cL_law 1149 = .ok (.iconst 4, 1) := by decide +kernel
theorem dL_law_1150 : decode cL_law 1150 = .ok (.iadd, 1) := by decide +kernel
theorem dL_law_1151 : decode cL_law 1151 = .ok (.iaload, 1) := by decide +kernel
theorem dL_law_1152 : decode cL_law 1152 = .ok (.aload_n 0, 1) := by decide +kernel
theorem dL_law_1153 : decode cL_law 1153 = .ok (.iload_n 3, 1) := by decide +kernel
theorem dL_law_1154 : decode cL_law 1154 = .ok (.iconst 5, 1) := by decide +kernel
theorem dL_law_1155 : decode cL_law 1155 = .ok (.iadd, 1) := by decide +kernel
theorem dL_law_1156 : decode cL_law 1156 = .ok (.iaload, 1) := by decide +kernel
theorem dL_law_1157 : decode cL_law 1157 = .ok (.aload_n 0, 1) := by decide +kernel
theorem dL_law_1158 : decode cL_law 1158 = .ok (.iload_n 3, 1) := by decide +kernel
theorem dL_law_1159 : decode cL_law 1159 = .ok (.bipush 6, 2) := by decide +kernel
theorem dL_law_1161 : decode cL_law 1161 = .ok (.iadd, 1) := by decide +kernel
theorem dL_law_1162 : decode cL_law 1162 = .ok (.iaload, 1) := by decide +kernel
theorem dL_law_1163 : decode cL_law 1163 = .ok (.invokevirtual 136, 3) := by decide +kernel
theorem dL_law_1166 : decode cL_law 1166 = .ok (.aload_n 2, 1) := by decide +kernel
theorem dL_law_1167 : decode cL_law 1167 = .ok (.aload_n 0, 1) := by decide +kernel
theorem dL_law_1168 : decode cL_law 1168 = .ok (.iload_n 3, 1) := by decide +kernel
theorem dL_law_1169 : decode cL_law 1169 = .ok (.iconst 1, 1) := by decide +kernel
theorem dL_law_1170 : decode cL_law 1170 = .ok (.iadd, 1) := by decide +kernel
theorem dL_law_1171 : decode cL_law 1171 = .ok (.iaload, 1) := by decide +kernel
theorem dL_law_1172 : decode cL_law 1172 = .ok (.aload_n 0, 1) := by decide +kernel
theorem dL_law_1173 : decode cL_law 1173 = .ok (.iload_n 3, 1) := by decide +kernel
theorem dL_law_1174 : decode cL_law 1174 = .ok (.iconst 2, 1) := by decide +kernel
theorem dL_law_1175 : decode cL_law 1175 = .ok (.iadd, 1) := by decide +kernel
theorem dL_law_1176 : decode cL_law 1176 = .ok (.iaload, 1) := by decide +kernel
theorem dL_law_1177 : decode cL_law 1177 = .ok (.aload_n 0, 1) := by decide +kernel
theorem dL_law_1178 : decode cL_law 1178 = .ok (.iload_n 3, 1) := by decide +kernel
theorem dL_law_1179 : decode cL_law 1179 = .ok (.iconst 3, 1) := by decide +kernel
theorem dL_law_1180 : decode cL_law 1180 = .ok (.iadd, 1) := by decide +kernel
theorem dL_law_1181 : decode cL_law 1181 = .ok (.iaload, 1) := by decide +kernel
theorem dL_law_1182 : decode cL_law 1182 = .ok (.aload_n 0, 1) := by decide +kernel
theorem dL_law_1183 : decode cL_law 1183 = .ok (.iload_n 3, 1) := by decide +kernel
theorem dL_law_1184 : decode cL_law 1184 = .ok (.iconst 4, 1) := by decide +kernel
theorem dL_law_1185 : decode cL_law 1185 = .ok (.iadd, 1) := by decide +kernel
theorem dL_law_1186 : decode cL_law 1186 = .ok (.iaload, 1) := by decide +kernel
theorem dL_law_1187 : decode cL_law 1187 = .ok (.aload_n 0, 1) := by decide +kernel
theorem dL_law_1188 : decode cL_law 1188 = .ok (.iload_n 3, 1) := by decide +kernel
theorem dL_law_1189 : decode cL_law 1189 = .ok (.iconst 5, 1) := by decide +kernel
theorem dL_law_1190 : decode cL_law 1190 = .ok (.iadd, 1) := by decide +kernel
theorem dL_law_1191 : decode cL_law 1191 = .ok (.iaload, 1) := by decide +kernel
theorem dL_law_1192 : decode cL_law 1192 = .ok (.aload_n 0, 1) := by decide +kernel
theorem dL_law_1193 : decode cL_law 1193 = .ok (.iload_n 3, 1) := by decide +kernel
theorem dL_law_1194 : decode cL_law 1194 = .ok (.bipush 6, 2) := by decide +kernel
theorem dL_law_1196 : decode cL_law 1196 = .ok (.iadd, 1) := by decide +kernel
theorem dL_law_1197 : decode cL_law 1197 = .ok (.iaload, 1) := by decide +kernel
theorem dL_law_1198 : decode cL_law 1198 = .ok (.invokevirtual 139, 3) := by decide +kernel
theorem dL_law_1201 : decode cL_law 1201 = .ok (.if_icmp .eq 135, 3) := by decide +kernel
theorem dL_law_1204 : decode cL_law 1204 = .ok (.iconst 0, 1) := by decide +kernel
theorem dL_law_1205 : decode cL_law 1205 = .ok (.ireturn, 1) := by decide +kernel
theorem dL_law_1206 : decode cL_law 1206 = .ok (.aload_n 1, 1) := by decide +kernel
theorem dL_law_1207 : decode cL_law 1207 = .ok (.aload_n 0, 1) := by decide +kernel
theorem dL_law_1208 : decode cL_law 1208 = .ok (.iload_n 3, 1) := by decide +kernel
theorem dL_law_1209 : decode cL_law 1209 = .ok (.iconst 1, 1) := by decide +kernel
theorem dL_law_1210 : decode cL_law 1210 = .ok (.iadd, 1) := by decide +kernel
theorem dL_law_1211 : decode cL_law 1211 = .ok (.iaload, 1) := by decide +kernel
theorem dL_law_1212 : decode cL_law 1212 = .ok (.invokevirtual 140, 3) := by decide +kernel
theorem dL_law_1215 : decode cL_law 1215 = .ok (.aload_n 2, 1) := by decide +kernel
theorem dL_law_1216 : decode cL_law 1216 = .ok (.aload_n 0, 1) := by decide +kernel
theorem dL_law_1217 : decode cL_law 1217 = .ok (.iload_n 3, 1) := by decide +kernel
theorem dL_law_1218 : decode cL_law 1218 = .ok (.iconst 1, 1) := by decide +kernel
theorem dL_law_1219 : decode cL_law 1219 = .ok (.iadd, 1) := by decide +kernel
theorem dL_law_1220 : decode cL_law 1220 = .ok (.iaload, 1) := by decide +kernel
theorem dL_law_1221 : decode cL_law 1221 = .ok (.invokevirtual 144, 3) := by decide +kernel
theorem dL_law_1224 : decode cL_law 1224 = .ok (.lcmp, 1) := by decide +kernel
theorem dL_law_1225 : decode cL_law 1225 = .ok (.ifCond .eq 111, 3) := by decide +kernel
theorem dL_law_1228 : decode cL_law 1228 = .ok (.iconst 0, 1) := by decide +kernel
theorem dL_law_1229 : decode cL_law 1229 = .ok (.ireturn, 1) := by decide +kernel
theorem dL_law_1230 : decode cL_law 1230 = .ok (.aload_n 1, 1) := by decide +kernel
theorem dL_law_1231 : decode cL_law 1231 = .ok (.aload_n 0, 1) := by decide +kernel
theorem dL_law_1232 : decode cL_law 1232 = .ok (.iload_n 3, 1) := by decide +kernel
theorem dL_law_1233 : decode cL_law 1233 = .ok (.iconst 1, 1) := by decide +kernel
theorem dL_law_1234 : decode cL_law 1234 = .ok (.iadd, 1) := by decide +kernel
theorem dL_law_1235 : decode cL_law 1235 = .ok (.iaload, 1) := by decide +kernel
theorem dL_law_1236 : decode cL_law 1236 = .ok (.invokevirtual 145, 3) := by decide +kernel
theorem dL_law_1239 : decode cL_law 1239 = .ok (.aload_n 2, 1) := by decide +kernel
theorem dL_law_1240 : decode cL_law 1240 = .ok (.aload_n 0, 1) := by decide +kernel
theorem dL_law_1241 : decode cL_law 1241 = .ok (.iload_n 3, 1) := by decide +kernel
theorem dL_law_1242 : decode cL_law 1242 = .ok (.iconst 1, 1) := by decide +kernel
theorem dL_law_1243 : decode cL_law 1243 = .ok (.iadd, 1) := by decide +kernel
theorem dL_law_1244 : decode cL_law 1244 = .ok (.iaload, 1) := by decide +kernel
theorem dL_law_1245 : decode cL_law 1245 = .ok (.invokevirtual 148, 3) := by decide +kernel
theorem dL_law_1248 : decode cL_law 1248 = .ok (.if_icmp .eq 88, 3) := by decide +kernel
theorem dL_law_1251 : decode cL_law 1251 = .ok (.iconst 0, 1) := by decide +kernel
theorem dL_law_1252 : decode cL_law 1252 = .ok (.ireturn, 1) := by decide +kernel
theorem dL_law_1253 : decode cL_law 1253 = .ok (.aload_n 1, 1) := by decide +kernel
theorem dL_law_1254 : decode cL_law 1254 = .ok (.aload_n 0, 1) := by decide +kernel
theorem dL_law_1255 : decode cL_law 1255 = .ok (.iload_n 3, 1) := by decide +kernel
theorem dL_law_1256 : decode cL_law 1256 = .ok (.iconst 1, 1) := by decide +kernel
theorem dL_law_1257 : decode cL_law 1257 = .ok (.iadd, 1) := by decide +kernel
theorem dL_law_1258 : decode cL_law 1258 = .ok (.iaload, 1) := by decide +kernel
theorem dL_law_1259 : decode cL_law 1259 = .ok (.invokevirtual 149, 3) := by decide +kernel
theorem dL_law_1262 : decode cL_law 1262 = .ok (.aload_n 2, 1) := by decide +kernel
theorem dL_law_1263 : decode cL_law 1263 = .ok (.aload_n 0, 1) := by decide +kernel
theorem dL_law_1264 : decode cL_law 1264 = .ok (.iload_n 3, 1) := by decide +kernel
theorem dL_law_1265 : decode cL_law 1265 = .ok (.iconst 1, 1) := by decide +kernel
theorem dL_law_1266 : decode cL_law 1266 = .ok (.iadd, 1) := by decide +kernel
theorem dL_law_1267 : decode cL_law 1267 = .ok (.iaload, 1) := by decide +kernel
theorem dL_law_1268 : decode cL_law 1268 = .ok (.invokevirtual 152, 3) := by decide +kernel
theorem dL_law_1271 : decode cL_law 1271 = .ok (.if_icmp .eq 65, 3) := by decide +kernel
theorem dL_law_1274 : decode cL_law 1274 = .ok (.iconst 0, 1) := by decide +kernel
theorem dL_law_1275 : decode cL_law 1275 = .ok (.ireturn, 1) := by decide +kernel
theorem dL_law_1276 : decode cL_law 1276 = .ok (.aload_n 1, 1) := by decide +kernel
theorem dL_law_1277 : decode cL_law 1277 = .ok (.aload_n 0, 1) := by decide +kernel
theorem dL_law_1278 : decode cL_law 1278 = .ok (.iload_n 3, 1) := by decide +kernel
theorem dL_law_1279 : decode cL_law 1279 = .ok (.iconst 1, 1) := by decide +kernel
theorem dL_law_1280 : decode cL_law 1280 = .ok (.iadd, 1) := by decide +kernel
theorem dL_law_1281 : decode cL_law 1281 = .ok (.iaload, 1) := by decide +kernel
theorem dL_law_1282 : decode cL_law 1282 = .ok (.invokevirtual 153, 3) := by decide +kernel
theorem dL_law_1285 : decode cL_law 1285 = .ok (.aload_n 2, 1) := by decide +kernel
theorem dL_law_1286 : decode cL_law 1286 = .ok (.aload_n 0, 1) := by decide +kernel
theorem dL_law_1287 : decode cL_law 1287 = .ok (.iload_n 3, 1) := by decide +kernel
theorem dL_law_1288 : decode cL_law 1288 = .ok (.iconst 1, 1) := by decide +kernel
theorem dL_law_1289 : decode cL_law 1289 = .ok (.iadd, 1) := by decide +kernel
theorem dL_law_1290 : decode cL_law 1290 = .ok (.iaload, 1) := by decide +kernel
theorem dL_law_1291 : decode cL_law 1291 = .ok (.invokevirtual 156, 3) := by decide +kernel
theorem dL_law_1294 : decode cL_law 1294 = .ok (.if_icmp .eq 42, 3) := by decide +kernel
theorem dL_law_1297 : decode cL_law 1297 = .ok (.iconst 0, 1) := by decide +kernel
theorem dL_law_1298 : decode cL_law 1298 = .ok (.ireturn, 1) := by decide +kernel
theorem dL_law_1299 : decode cL_law 1299 = .ok (.aload_n 1, 1) := by decide +kernel
theorem dL_law_1300 : decode cL_law 1300 = .ok (.aload_n 0, 1) := by decide +kernel
theorem dL_law_1301 : decode cL_law 1301 = .ok (.iload_n 3, 1) := by decide +kernel
theorem dL_law_1302 : decode cL_law 1302 = .ok (.iconst 1, 1) := by decide +kernel
theorem dL_law_1303 : decode cL_law 1303 = .ok (.iadd, 1) := by decide +kernel
theorem dL_law_1304 : decode cL_law 1304 = .ok (.iaload, 1) := by decide +kernel
theorem dL_law_1305 : decode cL_law 1305 = .ok (.invokevirtual 157, 3) := by decide +kernel
theorem dL_law_1308 : decode cL_law 1308 = .ok (.aload_n 2, 1) := by decide +kernel
theorem dL_law_1309 : decode cL_law 1309 = .ok (.aload_n 0, 1) := by decide +kernel
theorem dL_law_1310 : decode cL_law 1310 = .ok (.iload_n 3, 1) := by decide +kernel
theorem dL_law_1311 : decode cL_law 1311 = .ok (.iconst 1, 1) := by decide +kernel
theorem dL_law_1312 : decode cL_law 1312 = .ok (.iadd, 1) := by decide +kernel
theorem dL_law_1313 : decode cL_law 1313 = .ok (.iaload, 1) := by decide +kernel
theorem dL_law_1314 : decode cL_law 1314 = .ok (.invokevirtual 160, 3) := by decide +kernel
theorem dL_law_1317 : decode cL_law 1317 = .ok (.if_icmp .eq 19, 3) := by decide +kernel
theorem dL_law_1320 : decode cL_law 1320 = .ok (.iconst 0, 1) := by decide +kernel
theorem dL_law_1321 : decode cL_law 1321 = .ok (.ireturn, 1) := by decide +kernel
theorem dL_law_1322 : decode cL_law 1322 = .ok (.aload_n 1, 1) := by decide +kernel
theorem dL_law_1323 : decode cL_law 1323 = .ok (.invokevirtual 161, 3) := by decide +kernel
theorem dL_law_1326 : decode cL_law 1326 = .ok (.aload_n 2, 1) := by decide +kernel
theorem dL_law_1327 : decode cL_law 1327 = .ok (.invokevirtual 165, 3) := by decide +kernel
theorem dL_law_1330 : decode cL_law 1330 = .ok (.lcmp, 1) := by decide +kernel
theorem dL_law_1331 : decode cL_law 1331 = .ok (.ifCond .eq 5, 3) := by decide +kernel
theorem dL_law_1334 : decode cL_law 1334 = .ok (.iconst 0, 1) := by decide +kernel
theorem dL_law_1335 : decode cL_law 1335 = .ok (.ireturn, 1) := by decide +kernel
theorem dL_law_1336 : decode cL_law 1336 = .ok (.iinc 3 7, 3) := by decide +kernel
theorem dL_law_1339 : decode cL_law 1339 = .ok (.goto (-1321), 3) := by decide +kernel
theorem dL_law_1342 : decode cL_law 1342 = .ok (.iconst 1, 1) := by decide +kernel
theorem dL_law_1343 : decode cL_law 1343 = .ok (.ireturn, 1) := by decide +kernel
end
section
/-! The machine layer: a world of 103 cells whose shape never changes (logical ids), memory as two functions, one judgement X for a method's body. -/
/-- the words of the tables that a call hands on -/
def lwG : List Cond := lw_tbl.filter goodWord
def isNst : Cond → Bool
  | .fieldLinkNest _ _ _ _ _ _ => true
  | _ => false
/-- links of nest mates' private fields -/
def nstL : List Cond := tables_1.filter isNst
abbrev Mem : Type := (Nat → Nat → Int32) × (Nat → Nat → Int64)
abbrev WC : Type := (Nat → Nat) × va_G × ClassId × ClassId × ClassId × ClassId
abbrev Mt : Type := MethodName × ByteArray × Nat × Option FieldType
def kdL : List Nat := [7, 0, 9, 9, 9, 9, 9, 2, 11, 0, 9, 9, 9, 9, 9, 0, 9, 9, 9, 9, 9, 0, 9, 9, 9, 9, 9, 0, 9, 9, 9, 9, 9, 0, 9, 9, 9, 9, 9, 0, 9, 9, 9, 9, 9, 0, 9, 9, 9, 9, 9, 0, 9, 9, 9, 9, 9, 4, 9, 4, 9, 6, 9, 9, 6, 9, 9, 5, 9, 6, 9, 9, 1, 12, 3, 0, 9, 9, 9, 9, 9, 6, 9, 9, 3, 0, 9, 9, 9, 9, 9, 6, 9, 9, 8, 9, 9, 10, 9, 9, 9, 9, 10]
def lnL : List Nat := [0, 0, 121, 121, 121, 121, 121, 0, 8, 0, 121, 121, 121, 121, 121, 0, 121, 121, 121, 121, 121, 0, 121, 121, 121, 121, 121, 0, 121, 121, 121, 121, 121, 0, 121, 121, 121, 121, 121, 0, 121, 121, 121, 121, 121, 0, 121, 121, 121, 121, 121, 0, 121, 121, 121, 121, 121, 0, 60, 0, 60, 0, 120, 48, 0, 120, 48, 0, 120, 0, 120, 48, 0, 2, 0, 0, 121, 121, 121, 121, 121, 0, 120, 48, 0, 0, 121, 121, 121, 121, 121, 0, 120, 48, 0, 7458, 728, 2, 120, 3, 60, 128, 64]
def rfL : List (List Nat) := [[1, 7, 57, 59, 61, 64, 67, 72, 73], [2, 3, 4, 5, 6], [], [], [], [], [], [8], [9, 15, 21, 27, 33, 39, 45, 51], [10, 11, 12, 13, 14], [], [], [], [], [], [16, 17, 18, 19, 20], [], [], [], [], [], [22, 23, 24, 25, 26], [], [], [], [], [], [28, 29, 30, 31, 32], [], [], [], [], [], [34, 35, 36, 37, 38], [], [], [], [], [], [40, 41, 42, 43, 44], [], [], [], [], [], [46, 47, 48, 49, 50], [], [], [], [], [], [52, 53, 54, 55, 56], [], [], [], [], [], [58], [], [60], [], [62, 63], [], [], [65, 66], [], [], [68, 69], [], [70, 71], [], [], [], [74, 84], [75, 81], [76, 77, 78, 79, 80], [], [], [], [], [], [82, 83], [], [], [85, 91], [86, 87, 88, 89, 90], [], [], [], [], [], [92, 93], [], [], [95, 96, 0, 0, 97, 98, 0, 0, 0, 99, 0, 100, 0, 0, 0, 101, 0, 0, 102], [], [], [], [], [], [], [], []]
def nfL : List Nat := [11, 2, 3, 3, 2, 5, 4, 13, 20]
def fkL : List (List Nat) := [[2, 2, 2, 2, 2, 0, 0, 0, 0, 0, 0], [1, 1], [2, 0, 0], [2, 2, 0], [2, 0], [2, 2, 0, 0, 0], [2, 2, 0, 0], [2, 2, 2, 2, 2, 2, 2, 2, 2, 0, 0, 0, 0], [2, 2, 0, 0, 2, 2, 0, 1, 1, 2, 0, 2, 0, 0, 0, 2, 0, 0, 2, 1]]
def kd (i : Nat) : Nat := kdL.getD i 99
def ln (i : Nat) : Nat := lnL.getD i 0
def rf (i k : Nat) : Nat := (rfL.getD i []).getD k 0
def nf (c : Nat) : Nat := nfL.getD c 0
def fk (c k : Nat) : Nat := (fkL.getD c []).getD k 9
theorem kd_lt {i : Nat} (h : kd i < 13) : i < 103 := by
  rcases Nat.lt_or_ge i 103 with q | q
  · exact q
  · have e : kd i = 99 := by
      unfold kd
      rw [List.getD_eq_getElem?_getD, List.getElem?_eq_none (by exact q)]
      rfl
    rw [e] at h
    exact absurd h (by decide)
def w1 (σ : Mem) (a k : Nat) (v : Int32) : Mem := (fun i j => if i = a ∧ j = k then v else σ.1 i j, σ.2)
def w2 (σ : Mem) (a k : Nat) (v : Int64) : Mem := (σ.1, fun i j => if i = a ∧ j = k then v else σ.2 i j)
/-- System.arraycopy of ints from array a to array b -/
def wc (σ : Mem) (a b sp dp n : Nat) : Mem := (fun i j => if i = b ∧ dp ≤ j ∧ j < dp + n then σ.1 a (sp + (j - dp)) else σ.1 i j, σ.2)
def cv (ad : Nat → Nat) : Value → Value
  | .ref i => .ref (ad i)
  | v => v
def fv (w : WC) (σ : Mem) (i k : Nat) : Value := if fk (kd i) k = 0 then .int (σ.1 i k) else if fk (kd i) k = 1 then .long (σ.2 i k) else .ref (w.1 (rf i k))
def fvs (w : WC) (σ : Mem) (i : Nat) : List Value := (List.range (nf (kd i))).map (fv w σ i)
def cel (w : WC) (σ : Mem) (i : Nat) : va_E :=
  if kd i = 9 then .inl (w.2.2.1, ln i, .inl (σ.1 i)) else if kd i = 10 then .inl (w.2.2.2.1, ln i, .inl (σ.1 i))
  else if kd i = 11 then .inl (w.2.2.2.2.1, ln i, .inr (.inr (.inr (.inr (fun k => some (w.1 (rf i k)))))))
  else if kd i = 12 then .inl (w.2.2.2.2.2, ln i, .inr (.inr (.inr (.inr (fun k => some (w.1 (rf i k)))))))
  else .inr (kd i, fvs w σ i)
def wsM (w : WC) (σ : Mem) : va_W := (List.range 103).map (fun i => (w.1 i, cel w σ i))
theorem ws_get {w : WC} {σ : Mem} {i : Nat} (h : i < 103) : (wsM w σ)[i]? = some (w.1 i, cel w σ i) := by
  unfold wsM
  rw [List.getElem?_map, List.getElem?_range h]
  rfl
theorem ws_set {w : WC} {σ σ' : Mem} {i : Nat} {e : va_E} (he : e = cel w σ' i) (ho : ∀ j, j ≠ i → cel w σ' j = cel w σ j) : (wsM w σ).set i (w.1 i, e) = wsM w σ' := by
  subst he
  apply List.ext_getElem?
  intro k
  by_cases hk : k = i
  · subst hk
    by_cases hl : k < 103
    · rw [ws_get hl, List.getElem?_set_self (by simpa [wsM] using hl)]
    · rw [List.getElem?_eq_none (by simpa [wsM] using hl), List.getElem?_eq_none (by simpa [wsM] using hl)]
  · rw [List.getElem?_set_ne (Ne.symm hk)]
    by_cases hl : k < 103
    · rw [ws_get hl, ws_get hl, ho k hk]
    · rw [List.getElem?_eq_none (by simpa [wsM] using hl), List.getElem?_eq_none (by simpa [wsM] using hl)]
theorem cel_9 {w : WC} {σ : Mem} {i : Nat} (h : kd i = 9) : cel w σ i = .inl (w.2.2.1, ln i, .inl (σ.1 i)) := by simp [cel, h]
theorem cel_10 {w : WC} {σ : Mem} {i : Nat} (h : kd i = 10) : cel w σ i = .inl (w.2.2.2.1, ln i, .inl (σ.1 i)) := by simp [cel, h]
theorem cel_11 {w : WC} {σ : Mem} {i : Nat} (h : kd i = 11) : cel w σ i = .inl (w.2.2.2.2.1, ln i, .inr (.inr (.inr (.inr (fun k => some (w.1 (rf i k))))))) := by simp [cel, h]
theorem cel_12 {w : WC} {σ : Mem} {i : Nat} (h : kd i = 12) : cel w σ i = .inl (w.2.2.2.2.2, ln i, .inr (.inr (.inr (.inr (fun k => some (w.1 (rf i k))))))) := by simp [cel, h]
theorem cel_o {w : WC} {σ : Mem} {i c : Nat} (h : kd i = c) (hc : c < 9) : cel w σ i = .inr (c, fvs w σ i) := by
  subst h
  have h1 : kd i ≠ 9 := by omega
  have h2 : kd i ≠ 10 := by omega
  have h3 : kd i ≠ 11 := by omega
  have h4 : kd i ≠ 12 := by omega
  simp [cel, h1, h2, h3, h4]
theorem fvs_get {w : WC} {σ : Mem} {i k : Nat} (h : k < nf (kd i)) : (fvs w σ i)[k]? = some (fv w σ i k) := by
  unfold fvs
  rw [List.getElem?_map, List.getElem?_range h]
  rfl
theorem fvs_set {w : WC} {σ σ' : Mem} {i k : Nat} {v : Value} (hv : v = fv w σ' i k) (ho : ∀ j, j ≠ k → fv w σ' i j = fv w σ i j) : (fvs w σ i).set k v = fvs w σ' i := by
  subst hv
  apply List.ext_getElem?
  intro j
  have e1 : ∀ σ : Mem, (fvs w σ i).length = nf (kd i) := fun σ => by simp [fvs]
  by_cases hl : j < nf (kd i)
  · by_cases hj : j = k
    · subst hj
      rw [List.getElem?_set_self (by rw [e1]; exact hl), fvs_get hl]
    · rw [List.getElem?_set_ne (Ne.symm hj), fvs_get hl, fvs_get hl, ho j hj]
  · rw [List.getElem?_eq_none (by rw [List.length_set, e1]; omega), List.getElem?_eq_none (by rw [e1]; omega)]
theorem cel_congr {w : WC} {σ σ' : Mem} {i : Nat} (h1 : σ'.1 i = σ.1 i) (h2 : σ'.2 i = σ.2 i) : cel w σ' i = cel w σ i := by
  have hf : fvs w σ' i = fvs w σ i := by
    unfold fvs
    congr 1
    funext k
    unfold fv
    rw [h1, h2]
  unfold cel
  rw [h1, hf]
theorem w1_off {σ : Mem} {a k j : Nat} {v : Int32} (h : j ≠ a) : (w1 σ a k v).1 j = σ.1 j := by
  funext l
  simp [w1, h]
theorem w1_at {σ : Mem} {a k : Nat} {v : Int32} : (w1 σ a k v).1 a = upd (σ.1 a) k v := by
  funext l
  simp [w1, upd]
theorem w2_off {σ : Mem} {a k j : Nat} {v : Int64} (h : j ≠ a) : (w2 σ a k v).2 j = σ.2 j := by
  funext l
  simp [w2, h]
theorem wc_off {σ : Mem} {a b sp dp n j : Nat} (h : j ≠ b) : (wc σ a b sp dp n).1 j = σ.1 j := by
  funext l
  simp [wc, h]
theorem wc_at {σ : Mem} {a b sp dp n : Nat} : (wc σ a b sp dp n).1 b = va_cpy (σ.1 a) (σ.1 b) sp dp n := by
  funext l
  simp [wc, va_cpy]
def tysW (w : WC) : List (ClassId × FieldType) := [(w.2.2.1, .int), (w.2.2.2.1, .boolean), (w.2.2.2.2.1, .object RX0), (w.2.2.2.2.2, .object RX3)]
abbrev Unk : Value := .retAddr 0
/-- locals: what the list says, places with Unk apart -/
def LH (ad : Nat → Nat) (n : Nat) (L : Array Slot) (ls : List Value) : Prop := L.size = n ∧ ls.length ≤ n ∧ lv_wf L ∧ ∀ (i : Nat) (v : Value), ls[i]? = some v → v ≠ Unk → L[i]? = some (.val (cv ad v))
def Rep (w : WC) (A : Nat → Prop) (σ : Mem) (H : Heap) : Prop := va_P w.2.1 vwCl (wsM w σ) H ∧ va_D A (wsM w σ)
def Cx (w : WC) (sc : Option (Nat × (Nat → Int32))) (d : Nat) (mt : Mt) (p : Program) (R : Room) (s : State) (m : MethodId) (args : Array Value) (meth : Method) (c : Code) (cells slots : Nat) (A : Nat → Prop) : Prop :=
  p.tables.exec = Jvm.exec ∧ c.code = mt.2.1 ∧ c.maxLocals = mt.2.2.1 ∧ s.vm.findClass mt.1.cls = some m.cls ∧ meth.sig.returnType = mt.2.2.2 ∧ meth.locks = false ∧ (∀ q ∈ lwG, q.before args s = true) ∧ va_K w.2.1 vwCl (tysW w) s ∧ (d ≤ R.frames ∧ 40 * d ≤ R.locals) ∧ (cells ≤ R.cells ∧ slots ≤ R.slots) ∧
  (∀ (n : Nat) (xs : Nat → Int32), sc = some (n, xs) → va_X (w.1 200) n xs s s.heap ∧ w.1 200 < s.heap.size ∧ ¬ A (w.1 200)) ∧ ∀ q ∈ nstL, va_Nw q s
def RI (mt : Mt) (r : Option Value) (pc : Nat) : Prop :=
  (∃ (v : Int32) (ty : FieldType), r = some (.int v) ∧ decode mt.2.1 pc = .ok (.ireturn, 1) ∧ mt.2.2.2 = some ty ∧ narrow ty (.int v) = .int v) ∨ (∃ v : Int64, r = some (.long v) ∧ decode mt.2.1 pc = .ok (.lreturn, 1) ∧ mt.2.2.2 = some .long) ∨ (r = none ∧ decode mt.2.1 pc = .ok (.return_, 1) ∧ mt.2.2.2 = none)
def RetOK (w : WC) (mt : Mt) (p : Program) (l : Launch) (e : Env) (R : Room) (s : State) (m : MethodId) (args : Array Value) (below : List Frame) (meth : Method) (c : Code) (cells slots : Nat) (A : Nat → Prop) (Q : Option Value → Mem → Prop) (Z : State → Prop) : Prop :=
  ∀ (r : Option Value) (σ : Mem) (H : Heap) (locs : List Loc), Q r σ → Rep w A σ H → va_S A s.heap H locs → ∀ (pc : Nat) (L : Array Slot), RI mt r pc → W p l e R s m args below meth c H locs cells slots Z (F0 m pc L ((r.map (cv w.1)).toList))
/-- the judgement: from this place of the method's body, with these locals and this stack, over the memory σ, the method returns with Q -/
def X (sc : Option (Nat × (Nat → Int32))) (d : Nat) (mt : Mt) (pc : Nat) (ls st : List Value) (σ : Mem) (Q : Option Value → Mem → Prop) : Prop :=
  ∀ (w : WC) (p : Program) (l : Launch) (e : Env) (R : Room) (s : State) (m : MethodId) (args : Array Value) (below : List Frame) (meth : Method) (c : Code) (cells slots : Nat) (A : Nat → Prop) (Z : State → Prop) (H : Heap) (locs : List Loc) (L : Array Slot),
    Cx w sc d mt p R s m args meth c cells slots A → RetOK w mt p l e R s m args below meth c cells slots A Q Z → Rep w A σ H → va_S A s.heap H locs → LH w.1 mt.2.2.1 L ls → W p l e R s m args below meth c H locs cells slots Z (F0 m pc L (st.map (cv w.1)))
section STEPS
variable {sc : Option (Nat × (Nat → Int32))} {d : Nat} {mt : Mt} {pc pc' : Nat} {ls st : List Value} {σ : Mem} {Q : Option Value → Mem → Prop}
theorem x_iconst {n : Int} {v : Int32} (hd : decode mt.2.1 pc = .ok (.iconst n, 1)) (hp : pc + 1 = pc') (hv : Int32.ofInt n = v) (k : X sc d mt pc' ls (.int v :: st) σ Q) : X sc d mt pc ls (st) σ Q := by
  intro w p l e R s m args below meth c cells slots A Z H locs L C rt P S hl
  subst hp
  exact lv_iconst C.1 C.2.1 hd hv (k w p l e R s m args below meth c cells slots A Z H locs L C rt P S hl)
theorem x_bipush {n : Int} {v : Int32} (hd : decode mt.2.1 pc = .ok (.bipush n, 2)) (hp : pc + 2 = pc') (hv : (Int8.ofInt n).toInt32 = v) (k : X sc d mt pc' ls (.int v :: st) σ Q) : X sc d mt pc ls (st) σ Q := by
  intro w p l e R s m args below meth c cells slots A Z H locs L C rt P S hl
  subst hp
  exact lv_bipush C.1 C.2.1 hd hv (k w p l e R s m args below meth c cells slots A Z H locs L C rt P S hl)
theorem x_sipush {n : Int} {v : Int32} (hd : decode mt.2.1 pc = .ok (.sipush n, 3)) (hp : pc + 3 = pc') (hv : (Int16.ofInt n).toInt32 = v) (k : X sc d mt pc' ls (.int v :: st) σ Q) : X sc d mt pc ls (st) σ Q := by
  intro w p l e R s m args below meth c cells slots A Z H locs L C rt P S hl
  subst hp
  exact lv_sipush C.1 C.2.1 hd hv (k w p l e R s m args below meth c cells slots A Z H locs L C rt P S hl)
theorem x_lconst {n : Fin 2} {v : Int64} (hd : decode mt.2.1 pc = .ok (.lconst n, 1)) (hp : pc + 1 = pc') (hv : Int64.ofNat (n : Nat) = v) (k : X sc d mt pc' ls (.long v :: st) σ Q) : X sc d mt pc ls (st) σ Q := by
  intro w p l e R s m args below meth c cells slots A Z H locs L C rt P S hl
  subst hp
  exact lv_lconst C.1 C.2.1 hd hv (k w p l e R s m args below meth c cells slots A Z H locs L C rt P S hl)
theorem x_iadd {x y : Int32} (hd : decode mt.2.1 pc = .ok (.iadd, 1)) (hp : pc + 1 = pc')  (k : X sc d mt pc' ls (.int (x + y) :: st) σ Q) : X sc d mt pc ls (.int y :: .int x :: st) σ Q := by
  intro w p l e R s m args below meth c cells slots A Z H locs L C rt P S hl
  subst hp
  exact lv_iadd C.1 C.2.1 hd  (k w p l e R s m args below meth c cells slots A Z H locs L C rt P S hl)
theorem x_isub {x y : Int32} (hd : decode mt.2.1 pc = .ok (.isub, 1)) (hp : pc + 1 = pc')  (k : X sc d mt pc' ls (.int (x - y) :: st) σ Q) : X sc d mt pc ls (.int y :: .int x :: st) σ Q := by
  intro w p l e R s m args below meth c cells slots A Z H locs L C rt P S hl
  subst hp
  exact lv_isub C.1 C.2.1 hd  (k w p l e R s m args below meth c cells slots A Z H locs L C rt P S hl)
theorem x_imul {x y : Int32} (hd : decode mt.2.1 pc = .ok (.imul, 1)) (hp : pc + 1 = pc')  (k : X sc d mt pc' ls (.int (x * y) :: st) σ Q) : X sc d mt pc ls (.int y :: .int x :: st) σ Q := by
  intro w p l e R s m args below meth c cells slots A Z H locs L C rt P S hl
  subst hp
  exact lv_imul C.1 C.2.1 hd  (k w p l e R s m args below meth c cells slots A Z H locs L C rt P S hl)
theorem x_iand {x y : Int32} (hd : decode mt.2.1 pc = .ok (.iand, 1)) (hp : pc + 1 = pc')  (k : X sc d mt pc' ls (.int (x &&& y) :: st) σ Q) : X sc d mt pc ls (.int y :: .int x :: st) σ Q := by
  intro w p l e R s m args below meth c cells slots A Z H locs L C rt P S hl
  subst hp
  exact lv_iand C.1 C.2.1 hd  (k w p l e R s m args below meth c cells slots A Z H locs L C rt P S hl)
theorem x_ior {x y : Int32} (hd : decode mt.2.1 pc = .ok (.ior, 1)) (hp : pc + 1 = pc')  (k : X sc d mt pc' ls (.int (x ||| y) :: st) σ Q) : X sc d mt pc ls (.int y :: .int x :: st) σ Q := by
  intro w p l e R s m args below meth c cells slots A Z H locs L C rt P S hl
  subst hp
  exact lv_ior C.1 C.2.1 hd  (k w p l e R s m args below meth c cells slots A Z H locs L C rt P S hl)
theorem x_ixor {x y : Int32} (hd : decode mt.2.1 pc = .ok (.ixor, 1)) (hp : pc + 1 = pc')  (k : X sc d mt pc' ls (.int (x ^^^ y) :: st) σ Q) : X sc d mt pc ls (.int y :: .int x :: st) σ Q := by
  intro w p l e R s m args below meth c cells slots A Z H locs L C rt P S hl
  subst hp
  exact lv_ixor C.1 C.2.1 hd  (k w p l e R s m args below meth c cells slots A Z H locs L C rt P S hl)
theorem x_ishl {x y : Int32} (hd : decode mt.2.1 pc = .ok (.ishl, 1)) (hp : pc + 1 = pc')  (k : X sc d mt pc' ls (.int (x <<< (y &&& 31)) :: st) σ Q) : X sc d mt pc ls (.int y :: .int x :: st) σ Q := by
  intro w p l e R s m args below meth c cells slots A Z H locs L C rt P S hl
  subst hp
  exact lv_ishl C.1 C.2.1 hd  (k w p l e R s m args below meth c cells slots A Z H locs L C rt P S hl)
theorem x_ishr {x y : Int32} (hd : decode mt.2.1 pc = .ok (.ishr, 1)) (hp : pc + 1 = pc')  (k : X sc d mt pc' ls (.int (x >>> (y &&& 31)) :: st) σ Q) : X sc d mt pc ls (.int y :: .int x :: st) σ Q := by
  intro w p l e R s m args below meth c cells slots A Z H locs L C rt P S hl
  subst hp
  exact lv_ishr C.1 C.2.1 hd  (k w p l e R s m args below meth c cells slots A Z H locs L C rt P S hl)
theorem x_iushr {x y : Int32} (hd : decode mt.2.1 pc = .ok (.iushr, 1)) (hp : pc + 1 = pc')  (k : X sc d mt pc' ls (.int ((x.toUInt32 >>> (y.toUInt32 &&& Int32.toUInt32 31)).toInt32) :: st) σ Q) : X sc d mt pc ls (.int y :: .int x :: st) σ Q := by
  intro w p l e R s m args below meth c cells slots A Z H locs L C rt P S hl
  subst hp
  exact lv_iushr C.1 C.2.1 hd rfl (k w p l e R s m args below meth c cells slots A Z H locs L C rt P S hl)
theorem x_idiv {x y : Int32} (hd : decode mt.2.1 pc = .ok (.idiv, 1)) (hp : pc + 1 = pc') (hne : ¬ y = 0) (k : X sc d mt pc' ls (.int (x / y) :: st) σ Q) : X sc d mt pc ls (.int y :: .int x :: st) σ Q := by
  intro w p l e R s m args below meth c cells slots A Z H locs L C rt P S hl
  subst hp
  exact lv_idiv C.1 C.2.1 hd hne (k w p l e R s m args below meth c cells slots A Z H locs L C rt P S hl)
theorem x_irem {x y : Int32} (hd : decode mt.2.1 pc = .ok (.irem, 1)) (hp : pc + 1 = pc') (hne : ¬ y = 0) (k : X sc d mt pc' ls (.int (x - x / y * y) :: st) σ Q) : X sc d mt pc ls (.int y :: .int x :: st) σ Q := by
  intro w p l e R s m args below meth c cells slots A Z H locs L C rt P S hl
  subst hp
  exact lv_irem C.1 C.2.1 hd hne (k w p l e R s m args below meth c cells slots A Z H locs L C rt P S hl)
theorem x_ineg {x : Int32} (hd : decode mt.2.1 pc = .ok (.ineg, 1)) (hp : pc + 1 = pc')  (k : X sc d mt pc' ls (.int (-x) :: st) σ Q) : X sc d mt pc ls (.int x :: st) σ Q := by
  intro w p l e R s m args below meth c cells slots A Z H locs L C rt P S hl
  subst hp
  exact lv_ineg C.1 C.2.1 hd  (k w p l e R s m args below meth c cells slots A Z H locs L C rt P S hl)
theorem x_ladd {x y : Int64} (hd : decode mt.2.1 pc = .ok (.ladd, 1)) (hp : pc + 1 = pc')  (k : X sc d mt pc' ls (.long (x + y) :: st) σ Q) : X sc d mt pc ls (.long y :: .long x :: st) σ Q := by
  intro w p l e R s m args below meth c cells slots A Z H locs L C rt P S hl
  subst hp
  exact lv_ladd C.1 C.2.1 hd  (k w p l e R s m args below meth c cells slots A Z H locs L C rt P S hl)
theorem x_lsub {x y : Int64} (hd : decode mt.2.1 pc = .ok (.lsub, 1)) (hp : pc + 1 = pc')  (k : X sc d mt pc' ls (.long (x - y) :: st) σ Q) : X sc d mt pc ls (.long y :: .long x :: st) σ Q := by
  intro w p l e R s m args below meth c cells slots A Z H locs L C rt P S hl
  subst hp
  exact lv_lsub C.1 C.2.1 hd  (k w p l e R s m args below meth c cells slots A Z H locs L C rt P S hl)
theorem x_lmul {x y : Int64} (hd : decode mt.2.1 pc = .ok (.lmul, 1)) (hp : pc + 1 = pc')  (k : X sc d mt pc' ls (.long (x * y) :: st) σ Q) : X sc d mt pc ls (.long y :: .long x :: st) σ Q := by
  intro w p l e R s m args below meth c cells slots A Z H locs L C rt P S hl
  subst hp
  exact lv_lmul C.1 C.2.1 hd  (k w p l e R s m args below meth c cells slots A Z H locs L C rt P S hl)
theorem x_ldiv {x y : Int64} (hd : decode mt.2.1 pc = .ok (.ldiv, 1)) (hp : pc + 1 = pc') (hne : ¬ y = 0) (k : X sc d mt pc' ls (.long (x / y) :: st) σ Q) : X sc d mt pc ls (.long y :: .long x :: st) σ Q := by
  intro w p l e R s m args below meth c cells slots A Z H locs L C rt P S hl
  subst hp
  exact lv_ldiv C.1 C.2.1 hd hne (k w p l e R s m args below meth c cells slots A Z H locs L C rt P S hl)
theorem x_lrem {x y : Int64} (hd : decode mt.2.1 pc = .ok (.lrem, 1)) (hp : pc + 1 = pc') (hne : ¬ y = 0) (k : X sc d mt pc' ls (.long (x - x / y * y) :: st) σ Q) : X sc d mt pc ls (.long y :: .long x :: st) σ Q := by
  intro w p l e R s m args below meth c cells slots A Z H locs L C rt P S hl
  subst hp
  exact lv_lrem C.1 C.2.1 hd hne (k w p l e R s m args below meth c cells slots A Z H locs L C rt P S hl)
theorem x_lcmp {x y : Int64} (hd : decode mt.2.1 pc = .ok (.lcmp, 1)) (hp : pc + 1 = pc')  (k : X sc d mt pc' ls (.int (lg_cmp x y) :: st) σ Q) : X sc d mt pc ls (.long y :: .long x :: st) σ Q := by
  intro w p l e R s m args below meth c cells slots A Z H locs L C rt P S hl
  subst hp
  exact W.lcmp C.1 C.2.1 hd  (k w p l e R s m args below meth c cells slots A Z H locs L C rt P S hl)
theorem x_i2l {x : Int32} (hd : decode mt.2.1 pc = .ok (.i2l, 1)) (hp : pc + 1 = pc')  (k : X sc d mt pc' ls (.long x.toInt64 :: st) σ Q) : X sc d mt pc ls (.int x :: st) σ Q := by
  intro w p l e R s m args below meth c cells slots A Z H locs L C rt P S hl
  subst hp
  exact lv_i2l C.1 C.2.1 hd rfl (k w p l e R s m args below meth c cells slots A Z H locs L C rt P S hl)
theorem x_l2i {x : Int64} (hd : decode mt.2.1 pc = .ok (.l2i, 1)) (hp : pc + 1 = pc')  (k : X sc d mt pc' ls (.int x.toInt32 :: st) σ Q) : X sc d mt pc ls (.long x :: st) σ Q := by
  intro w p l e R s m args below meth c cells slots A Z H locs L C rt P S hl
  subst hp
  exact lv_l2i C.1 C.2.1 hd rfl (k w p l e R s m args below meth c cells slots A Z H locs L C rt P S hl)
theorem cv_cat (ad : Nat → Nat) (v : Value) : (cv ad v).category = v.category := by cases v <;> rfl
theorem x_dup {v : Value} (hd : decode mt.2.1 pc = .ok (.dup, 1)) (hp : pc + 1 = pc') (hc : v.category = 1) (k : X sc d mt pc' ls (v :: v :: st) σ Q) : X sc d mt pc ls (v :: st) σ Q := by
  intro w p l e R s m args below meth c cells slots A Z H locs L C rt P S hl
  subst hp
  exact lv_dup C.1 C.2.1 hd ((cv_cat w.1 v).trans hc) (k w p l e R s m args below meth c cells slots A Z H locs L C rt P S hl)
theorem x_pop {v : Value} (hd : decode mt.2.1 pc = .ok (.pop, 1)) (hp : pc + 1 = pc') (hc : v.category = 1) (k : X sc d mt pc' ls (st) σ Q) : X sc d mt pc ls (v :: st) σ Q := by
  intro w p l e R s m args below meth c cells slots A Z H locs L C rt P S hl
  subst hp
  exact lv_pop C.1 C.2.1 hd ((cv_cat w.1 v).trans hc) (k w p l e R s m args below meth c cells slots A Z H locs L C rt P S hl)
theorem x_dup_x1 {v u : Value} (hd : decode mt.2.1 pc = .ok (.dup_x1, 1)) (hp : pc + 1 = pc') (hc : v.category = 1) (hu : u.category = 1) (k : X sc d mt pc' ls (v :: u :: v :: st) σ Q) : X sc d mt pc ls (v :: u :: st) σ Q := by
  intro w p l e R s m args below meth c cells slots A Z H locs L C rt P S hl
  subst hp
  exact lv_dup_x1 C.1 C.2.1 hd ((cv_cat w.1 v).trans hc) ((cv_cat w.1 u).trans hu) (k w p l e R s m args below meth c cells slots A Z H locs L C rt P S hl)
theorem x_dup2 {v u : Value} (hd : decode mt.2.1 pc = .ok (.dup2, 1)) (hp : pc + 1 = pc') (hc : v.category = 1) (hu : u.category = 1) (k : X sc d mt pc' ls (v :: u :: v :: u :: st) σ Q) : X sc d mt pc ls (v :: u :: st) σ Q := by
  intro w p l e R s m args below meth c cells slots A Z H locs L C rt P S hl
  subst hp
  exact lv_dup2_11 C.1 C.2.1 hd ((cv_cat w.1 v).trans hc) ((cv_cat w.1 u).trans hu) (k w p l e R s m args below meth c cells slots A Z H locs L C rt P S hl)
theorem x_iload_n {i : Nat} {j : Fin 4} {x : Int32} (hd : decode mt.2.1 pc = .ok (.iload_n j, 1)) (hp : pc + 1 = pc') (hj : (j : Nat) = i) (hi : ls[i]? = some (.int x)) (k : X sc d mt pc' ls (.int x :: st) σ Q) : X sc d mt pc ls st σ Q := by
  intro w p l e R s m args below meth c cells slots A Z H locs L C rt P S hl
  subst hp
  have h9 := hl.2.2.2 i _ hi (by intro q; cases q)
  exact lv_iload_n C.1 C.2.1 hd hj h9 (k w p l e R s m args below meth c cells slots A Z H locs L C rt P S hl)
theorem x_iload {i : Nat}  {x : Int32} (hd : decode mt.2.1 pc = .ok (.iload i, 2)) (hp : pc + 2 = pc')  (hi : ls[i]? = some (.int x)) (k : X sc d mt pc' ls (.int x :: st) σ Q) : X sc d mt pc ls st σ Q := by
  intro w p l e R s m args below meth c cells slots A Z H locs L C rt P S hl
  subst hp
  have h9 := hl.2.2.2 i _ hi (by intro q; cases q)
  exact lv_iload C.1 C.2.1 hd  h9 (k w p l e R s m args below meth c cells slots A Z H locs L C rt P S hl)
theorem x_lload_n {i : Nat} {j : Fin 4} {x : Int64} (hd : decode mt.2.1 pc = .ok (.lload_n j, 1)) (hp : pc + 1 = pc') (hj : (j : Nat) = i) (hi : ls[i]? = some (.long x)) (k : X sc d mt pc' ls (.long x :: st) σ Q) : X sc d mt pc ls st σ Q := by
  intro w p l e R s m args below meth c cells slots A Z H locs L C rt P S hl
  subst hp
  have h9 := hl.2.2.2 i _ hi (by intro q; cases q)
  exact lv_lload_n C.1 C.2.1 hd hj h9 (k w p l e R s m args below meth c cells slots A Z H locs L C rt P S hl)
theorem x_lload {i : Nat}  {x : Int64} (hd : decode mt.2.1 pc = .ok (.lload i, 2)) (hp : pc + 2 = pc')  (hi : ls[i]? = some (.long x)) (k : X sc d mt pc' ls (.long x :: st) σ Q) : X sc d mt pc ls st σ Q := by
  intro w p l e R s m args below meth c cells slots A Z H locs L C rt P S hl
  subst hp
  have h9 := hl.2.2.2 i _ hi (by intro q; cases q)
  exact lv_lload C.1 C.2.1 hd  h9 (k w p l e R s m args below meth c cells slots A Z H locs L C rt P S hl)
theorem x_aload_n {i : Nat} {j : Fin 4} {x : Nat} (hd : decode mt.2.1 pc = .ok (.aload_n j, 1)) (hp : pc + 1 = pc') (hj : (j : Nat) = i) (hi : ls[i]? = some (.ref x)) (k : X sc d mt pc' ls (.ref x :: st) σ Q) : X sc d mt pc ls st σ Q := by
  intro w p l e R s m args below meth c cells slots A Z H locs L C rt P S hl
  subst hp
  have h9 := hl.2.2.2 i _ hi (by intro q; cases q)
  exact lv_aload_n C.1 C.2.1 hd hj h9 (k w p l e R s m args below meth c cells slots A Z H locs L C rt P S hl)
theorem x_aload {i : Nat}  {x : Nat} (hd : decode mt.2.1 pc = .ok (.aload i, 2)) (hp : pc + 2 = pc')  (hi : ls[i]? = some (.ref x)) (k : X sc d mt pc' ls (.ref x :: st) σ Q) : X sc d mt pc ls st σ Q := by
  intro w p l e R s m args below meth c cells slots A Z H locs L C rt P S hl
  subst hp
  have h9 := hl.2.2.2 i _ hi (by intro q; cases q)
  exact lv_aload C.1 C.2.1 hd  h9 (k w p l e R s m args below meth c cells slots A Z H locs L C rt P S hl)
/-- a place may be written if the one ahead of it holds no long -/
def okst (ls : List Value) : Nat → Bool
  | 0 => true
  | i + 1 => match ls[i]? with
    | some (.long _) => false
    | _ => true
theorem okst_spec {ls : List Value} {i j : Nat} {v : Value} (h : okst ls i = true) (hj : j + 1 = i) (hv : ls[j]? = some v) (hq : v.category = 2) (hd : ∀ b, v ≠ .double b) : False := by
  subst hj
  simp only [okst, hv] at h
  cases v <;> first | (simp at h; done) | (exact hd _ rfl) | (simp [Value.category] at hq; done)
def prL (ad : Nat → Nat) (ls : List Value) : List (Nat × Value) := (List.range ls.length).filterMap (fun i => match ls[i]? with
  | some v => if v = Unk then none else some (i, cv ad v)
  | none => none)
theorem prL_mem {ad : Nat → Nat} {ls : List Value} {q : Nat × Value} : q ∈ prL ad ls ↔ ∃ v, ls[q.1]? = some v ∧ v ≠ Unk ∧ q.2 = cv ad v := by
  unfold prL
  rw [List.mem_filterMap]
  constructor
  · rintro ⟨i, hi, h⟩
    cases hv : ls[i]? with
    | none => rw [hv] at h; cases h
    | some v =>
      rw [hv] at h
      by_cases hu : v = Unk
      · simp [hu] at h
      · simp only [hu, if_false, Option.some.injEq] at h
        subst h
        exact ⟨v, hv, hu, rfl⟩
  · rintro ⟨v, hv, hu, h2⟩
    refine ⟨q.1, List.mem_range.mpr (List.getElem?_eq_some_iff.mp hv).1, ?_⟩
    rw [hv]
    simp only [hu, if_false, ← h2]
theorem LH.has {ad : Nat → Nat} {n : Nat} {L : Array Slot} {ls : List Value} (h : LH ad n L ls) : lv_has L n (prL ad ls) := by
  refine ⟨h.1, h.2.2.1, fun q hq => ?_⟩
  obtain ⟨v, h1, h2, h3⟩ := prL_mem.mp hq
  rw [h3]
  exact h.2.2.2 q.1 v h1 h2
def nod (ls : List Value) : Prop := ∀ (i : Nat) (b : UInt64), ls[i]? ≠ some (.double b)
theorem LH.set1 {ad : Nat → Nat} {n i : Nat} {L L' : Array Slot} {ls : List Value} {v : Value} (h0 : LH ad n L' ls) (hk : okst ls i = true) (hnd : ∀ j b, j + 1 = i → ls[j]? ≠ some (.double b)) (h : lv_has L n ((i, cv ad v) :: (prL ad ls).filter (fun q => !(q.1 == i) && !(q.1 + 1 == i && q.2.category == 2)))) : LH ad n L (ls.set i v) := by
  refine ⟨h.1, by rw [List.length_set]; exact h0.2.1, h.2.1, fun j u hj hu => ?_⟩
  by_cases hji : j = i
  · subst hji
    have hlt : j < ls.length := by
      have := (List.getElem?_eq_some_iff.mp hj).1
      rwa [List.length_set] at this
    rw [List.getElem?_set_self hlt] at hj
    cases hj
    exact h.2.2 (j, cv ad v) List.mem_cons_self
  · rw [List.getElem?_set_ne (Ne.symm hji)] at hj
    refine h.2.2 (j, cv ad u) (List.mem_cons_of_mem _ (List.mem_filter.mpr ⟨prL_mem.mpr ⟨u, hj, hu, rfl⟩, ?_⟩))
    have e1 : (j == i) = false := by simp [hji]
    simp only [e1, Bool.not_false, Bool.true_and, cv_cat]
    by_cases hc : j + 1 = i
    · by_cases hq : u.category = 2
      · exact (okst_spec hk hc hj hq (fun b hb => hnd j b hc (by rw [hj, hb]))).elim
      · simp [hq]
    · simp [hc]
theorem LH.set2 {ad : Nat → Nat} {n i : Nat} {L L' : Array Slot} {ls : List Value} {v : Value} (h0 : LH ad n L' ls) (hk : okst ls i = true) (hnd : ∀ j b, j + 1 = i → ls[j]? ≠ some (.double b)) (h : lv_has L n ((i, cv ad v) :: (prL ad ls).filter (fun q => !(q.1 == i) && (!(q.1 == i + 1) && !(q.1 + 1 == i && q.2.category == 2))))) : LH ad n L ((ls.set i v).set (i + 1) Unk) := by
  refine ⟨h.1, by rw [List.length_set, List.length_set]; exact h0.2.1, h.2.1, fun j u hj hu => ?_⟩
  by_cases hj1 : j = i + 1
  · subst hj1
    have hlt : i + 1 < (ls.set i v).length := by
      have := (List.getElem?_eq_some_iff.mp hj).1
      rwa [List.length_set] at this
    rw [List.getElem?_set_self hlt] at hj
    cases hj
    exact absurd rfl hu
  · rw [List.getElem?_set_ne (Ne.symm hj1)] at hj
    by_cases hji : j = i
    · subst hji
      have hlt : j < ls.length := by
        have := (List.getElem?_eq_some_iff.mp hj).1
        rwa [List.length_set] at this
      rw [List.getElem?_set_self hlt] at hj
      cases hj
      exact h.2.2 (j, cv ad v) List.mem_cons_self
    · rw [List.getElem?_set_ne (Ne.symm hji)] at hj
      refine h.2.2 (j, cv ad u) (List.mem_cons_of_mem _ (List.mem_filter.mpr ⟨prL_mem.mpr ⟨u, hj, hu, rfl⟩, ?_⟩))
      have e1 : (j == i) = false := by simp [hji]
      have e2 : (j == i + 1) = false := by simp [hj1]
      simp only [e1, e2, Bool.not_false, Bool.true_and, cv_cat]
      by_cases hc : j + 1 = i
      · by_cases hq : u.category = 2
        · exact (okst_spec hk hc hj hq (fun b hb => hnd j b hc (by rw [hj, hb]))).elim
        · simp [hq]
      · simp [hc]
theorem okst_nd {ls : List Value} {i : Nat} (h : (match i with
    | 0 => true
    | j + 1 => match ls[j]? with
      | some (.long _) => false
      | some (.double _) => false
      | _ => true) = true) : okst ls i = true ∧ ∀ j b, j + 1 = i → ls[j]? ≠ some (.double b) := by
  cases i with
  | zero => exact ⟨rfl, fun j b hj => by omega⟩
  | succ j =>
    simp only at h
    refine ⟨?_, fun j' b hj he => ?_⟩
    · simp only [okst]
      split <;> rename_i hq <;> simp_all
    · obtain rfl : j' = j := by omega
      rw [he] at h
      simp at h
def okS (ls : List Value) (i : Nat) : Bool := (match i with
    | 0 => true
    | j + 1 => match ls[j]? with
      | some (.long _) => false
      | some (.double _) => false
      | _ => true)
theorem x_istore_n {i : Nat} {j : Fin 4} {x : Int32} (hd : decode mt.2.1 pc = .ok (.istore_n j, 1)) (hp : pc + 1 = pc') (hj : (j : Nat) = i) (hn : i < mt.2.2.1) (hk : okS ls i = true) {ls' : List Value} (hs : ls.set i (.int x) = ls') (k : X sc d mt pc' ls' st σ Q) : X sc d mt pc ls (.int x :: st) σ Q := by
  intro w p l e R s m args below meth c cells slots A Z H locs L C rt P S hl
  subst hp
  subst hs
  refine lv_istore_n C.1 C.2.1 hd hj hl.has hn rfl (fun L1 h1 => ?_)
  exact k w p l e R s m args below meth c cells slots A Z H locs L1 C rt P S (LH.set1 hl (okst_nd hk).1 (okst_nd hk).2 h1)
theorem x_istore {i : Nat}  {x : Int32} (hd : decode mt.2.1 pc = .ok (.istore i, 2)) (hp : pc + 2 = pc')  (hn : i < mt.2.2.1) (hk : okS ls i = true) {ls' : List Value} (hs : ls.set i (.int x) = ls') (k : X sc d mt pc' ls' st σ Q) : X sc d mt pc ls (.int x :: st) σ Q := by
  intro w p l e R s m args below meth c cells slots A Z H locs L C rt P S hl
  subst hp
  subst hs
  refine lv_istore C.1 C.2.1 hd  hl.has hn rfl (fun L1 h1 => ?_)
  exact k w p l e R s m args below meth c cells slots A Z H locs L1 C rt P S (LH.set1 hl (okst_nd hk).1 (okst_nd hk).2 h1)
theorem x_astore_n {i : Nat} {j : Fin 4} {x : Nat} (hd : decode mt.2.1 pc = .ok (.astore_n j, 1)) (hp : pc + 1 = pc') (hj : (j : Nat) = i) (hn : i < mt.2.2.1) (hk : okS ls i = true) {ls' : List Value} (hs : ls.set i (.ref x) = ls') (k : X sc d mt pc' ls' st σ Q) : X sc d mt pc ls (.ref x :: st) σ Q := by
  intro w p l e R s m args below meth c cells slots A Z H locs L C rt P S hl
  subst hp
  subst hs
  refine lv_astore_n C.1 C.2.1 hd hj hl.has hn rfl (fun L1 h1 => ?_)
  exact k w p l e R s m args below meth c cells slots A Z H locs L1 C rt P S (LH.set1 hl (okst_nd hk).1 (okst_nd hk).2 h1)
theorem x_lstore_n {i : Nat} {j : Fin 4} {x : Int64} (hd : decode mt.2.1 pc = .ok (.lstore_n j, 1)) (hp : pc + 1 = pc') (hj : (j : Nat) = i) (hn : i + 1 < mt.2.2.1) (hk : okS ls i = true) {ls' : List Value} (hs : (ls.set i (.long x)).set (i + 1) Unk = ls') (k : X sc d mt pc' ls' st σ Q) : X sc d mt pc ls (.long x :: st) σ Q := by
  intro w p l e R s m args below meth c cells slots A Z H locs L C rt P S hl
  subst hp
  subst hs
  refine lv_lstore_n C.1 C.2.1 hd hj hl.has hn rfl (fun L1 h1 => ?_)
  exact k w p l e R s m args below meth c cells slots A Z H locs L1 C rt P S (LH.set2 hl (okst_nd hk).1 (okst_nd hk).2 h1)
theorem x_lstore {i : Nat}  {x : Int64} (hd : decode mt.2.1 pc = .ok (.lstore i, 2)) (hp : pc + 2 = pc')  (hn : i + 1 < mt.2.2.1) (hk : okS ls i = true) {ls' : List Value} (hs : (ls.set i (.long x)).set (i + 1) Unk = ls') (k : X sc d mt pc' ls' st σ Q) : X sc d mt pc ls (.long x :: st) σ Q := by
  intro w p l e R s m args below meth c cells slots A Z H locs L C rt P S hl
  subst hp
  subst hs
  refine lv_lstore C.1 C.2.1 hd  hl.has hn rfl (fun L1 h1 => ?_)
  exact k w p l e R s m args below meth c cells slots A Z H locs L1 C rt P S (LH.set2 hl (okst_nd hk).1 (okst_nd hk).2 h1)
theorem prL_at {ad : Nat → Nat} {ls : List Value} {i : Nat} {v : Value} (h : ls[i]? = some v) (hu : v ≠ Unk) : ∃ k : Nat, (prL ad ls)[k]? = some (i, cv ad v) :=
  List.getElem?_of_mem (prL_mem.mpr ⟨v, h, hu, rfl⟩)
theorem x_iinc {i : Nat} {n : Int} {x v : Int32} (hd : decode mt.2.1 pc = .ok (.iinc i n, 3)) (hp : pc + 3 = pc') (hn : i < mt.2.2.1) (hi : ls[i]? = some (.int x)) (hk : okS ls i = true) (hv : Int32.ofInt n = v) {ls' : List Value} (hs : ls.set i (.int (x + v)) = ls') (k : X sc d mt pc' ls' st σ Q) : X sc d mt pc ls st σ Q := by
  intro w p l e R s m args below meth c cells slots A Z H locs L C rt P S hl
  subst hp
  subst hs
  subst hv
  obtain ⟨k9, h9⟩ := prL_at (ad := w.1) hi (by intro q; cases q)
  refine lv_iinc C.1 C.2.1 hd hl.has h9 rfl hn rfl (fun L1 h1 => ?_)
  exact k w p l e R s m args below meth c cells slots A Z H locs L1 C rt P S (LH.set1 (v := .int (x + Int32.ofInt n)) hl (okst_nd hk).1 (okst_nd hk).2 h1)
theorem x_forget (i : Nat) {ls' : List Value} (hs : ls.set i Unk = ls') (k : X sc d mt pc ls' st σ Q) : X sc d mt pc ls st σ Q := by
  intro w p l e R s m args below meth c cells slots A Z H locs L C rt P S hl
  subst hs
  refine k w p l e R s m args below meth c cells slots A Z H locs L C rt P S ⟨hl.1, by rw [List.length_set]; exact hl.2.1, hl.2.2.1, fun j v hj hu => ?_⟩
  by_cases hji : j = i
  · subst hji
    have hlt : j < ls.length := by
      have := (List.getElem?_eq_some_iff.mp hj).1
      rwa [List.length_set] at this
    rw [List.getElem?_set_self hlt] at hj
    cases hj
    exact absurd rfl hu
  · rw [List.getElem?_set_ne (Ne.symm hji)] at hj
    exact hl.2.2.2 j v hj hu
theorem x_goto {off : Int} (hd : decode mt.2.1 pc = .ok (.goto off, 3)) (ht : (pc : Int) + off = (pc' : Int)) (k : X sc d mt pc' ls st σ Q) : X sc d mt pc ls st σ Q := by
  intro w p l e R s m args below meth c cells slots A Z H locs L C rt P S hl
  exact lv_goto C.1 C.2.1 hd ht (k w p l e R s m args below meth c cells slots A Z H locs L C rt P S hl)
theorem x_if_eq {x : Int32} {off : Int} {tgt : Nat} (hd : decode mt.2.1 pc = .ok (.ifCond .eq off, 3)) (ht : (pc : Int) + off = (tgt : Int)) (hp : pc + 3 = pc') (kt : x = 0 → X sc d mt tgt ls st σ Q) (kf : ¬ x = 0 → X sc d mt pc' ls st σ Q) : X sc d mt pc ls (.int x :: st) σ Q := by
  intro w p l e R s m args below meth c cells slots A Z H locs L C rt P S hl
  subst hp
  exact lv_if_eq C.1 C.2.1 hd ht (fun hc => kt hc w p l e R s m args below meth c cells slots A Z H locs L C rt P S hl) (fun hc => kf hc w p l e R s m args below meth c cells slots A Z H locs L C rt P S hl)
theorem x_if_ne {x : Int32} {off : Int} {tgt : Nat} (hd : decode mt.2.1 pc = .ok (.ifCond .ne off, 3)) (ht : (pc : Int) + off = (tgt : Int)) (hp : pc + 3 = pc') (kt : ¬ x = 0 → X sc d mt tgt ls st σ Q) (kf : x = 0 → X sc d mt pc' ls st σ Q) : X sc d mt pc ls (.int x :: st) σ Q := by
  intro w p l e R s m args below meth c cells slots A Z H locs L C rt P S hl
  subst hp
  exact lv_if_ne C.1 C.2.1 hd ht (fun hc => kt hc w p l e R s m args below meth c cells slots A Z H locs L C rt P S hl) (fun hc => kf hc w p l e R s m args below meth c cells slots A Z H locs L C rt P S hl)
theorem x_if_lt {x : Int32} {off : Int} {tgt : Nat} (hd : decode mt.2.1 pc = .ok (.ifCond .lt off, 3)) (ht : (pc : Int) + off = (tgt : Int)) (hp : pc + 3 = pc') (kt : x < 0 → X sc d mt tgt ls st σ Q) (kf : ¬ x < 0 → X sc d mt pc' ls st σ Q) : X sc d mt pc ls (.int x :: st) σ Q := by
  intro w p l e R s m args below meth c cells slots A Z H locs L C rt P S hl
  subst hp
  exact lv_if_lt C.1 C.2.1 hd ht (fun hc => kt hc w p l e R s m args below meth c cells slots A Z H locs L C rt P S hl) (fun hc => kf hc w p l e R s m args below meth c cells slots A Z H locs L C rt P S hl)
theorem x_if_ge {x : Int32} {off : Int} {tgt : Nat} (hd : decode mt.2.1 pc = .ok (.ifCond .ge off, 3)) (ht : (pc : Int) + off = (tgt : Int)) (hp : pc + 3 = pc') (kt : 0 ≤ x → X sc d mt tgt ls st σ Q) (kf : ¬ 0 ≤ x → X sc d mt pc' ls st σ Q) : X sc d mt pc ls (.int x :: st) σ Q := by
  intro w p l e R s m args below meth c cells slots A Z H locs L C rt P S hl
  subst hp
  exact lv_if_ge C.1 C.2.1 hd ht (fun hc => kt hc w p l e R s m args below meth c cells slots A Z H locs L C rt P S hl) (fun hc => kf hc w p l e R s m args below meth c cells slots A Z H locs L C rt P S hl)
theorem x_if_gt {x : Int32} {off : Int} {tgt : Nat} (hd : decode mt.2.1 pc = .ok (.ifCond .gt off, 3)) (ht : (pc : Int) + off = (tgt : Int)) (hp : pc + 3 = pc') (kt : 0 < x → X sc d mt tgt ls st σ Q) (kf : ¬ 0 < x → X sc d mt pc' ls st σ Q) : X sc d mt pc ls (.int x :: st) σ Q := by
  intro w p l e R s m args below meth c cells slots A Z H locs L C rt P S hl
  subst hp
  exact lv_if_gt C.1 C.2.1 hd ht (fun hc => kt hc w p l e R s m args below meth c cells slots A Z H locs L C rt P S hl) (fun hc => kf hc w p l e R s m args below meth c cells slots A Z H locs L C rt P S hl)
theorem x_if_le {x : Int32} {off : Int} {tgt : Nat} (hd : decode mt.2.1 pc = .ok (.ifCond .le off, 3)) (ht : (pc : Int) + off = (tgt : Int)) (hp : pc + 3 = pc') (kt : x ≤ 0 → X sc d mt tgt ls st σ Q) (kf : ¬ x ≤ 0 → X sc d mt pc' ls st σ Q) : X sc d mt pc ls (.int x :: st) σ Q := by
  intro w p l e R s m args below meth c cells slots A Z H locs L C rt P S hl
  subst hp
  exact lv_if_le C.1 C.2.1 hd ht (fun hc => kt hc w p l e R s m args below meth c cells slots A Z H locs L C rt P S hl) (fun hc => kf hc w p l e R s m args below meth c cells slots A Z H locs L C rt P S hl)
theorem x_icmp_eq {x y : Int32} {off : Int} {tgt : Nat} (hd : decode mt.2.1 pc = .ok (.if_icmp .eq off, 3)) (ht : (pc : Int) + off = (tgt : Int)) (hp : pc + 3 = pc') (kt : x = y → X sc d mt tgt ls st σ Q) (kf : ¬ x = y → X sc d mt pc' ls st σ Q) : X sc d mt pc ls (.int y :: .int x :: st) σ Q := by
  intro w p l e R s m args below meth c cells slots A Z H locs L C rt P S hl
  subst hp
  exact lv_icmp_eq C.1 C.2.1 hd ht (fun hc => kt hc w p l e R s m args below meth c cells slots A Z H locs L C rt P S hl) (fun hc => kf hc w p l e R s m args below meth c cells slots A Z H locs L C rt P S hl)
theorem x_icmp_ne {x y : Int32} {off : Int} {tgt : Nat} (hd : decode mt.2.1 pc = .ok (.if_icmp .ne off, 3)) (ht : (pc : Int) + off = (tgt : Int)) (hp : pc + 3 = pc') (kt : ¬ x = y → X sc d mt tgt ls st σ Q) (kf : x = y → X sc d mt pc' ls st σ Q) : X sc d mt pc ls (.int y :: .int x :: st) σ Q := by
  intro w p l e R s m args below meth c cells slots A Z H locs L C rt P S hl
  subst hp
  exact lv_icmp_ne C.1 C.2.1 hd ht (fun hc => kt hc w p l e R s m args below meth c cells slots A Z H locs L C rt P S hl) (fun hc => kf hc w p l e R s m args below meth c cells slots A Z H locs L C rt P S hl)
theorem x_icmp_lt {x y : Int32} {off : Int} {tgt : Nat} (hd : decode mt.2.1 pc = .ok (.if_icmp .lt off, 3)) (ht : (pc : Int) + off = (tgt : Int)) (hp : pc + 3 = pc') (kt : x < y → X sc d mt tgt ls st σ Q) (kf : ¬ x < y → X sc d mt pc' ls st σ Q) : X sc d mt pc ls (.int y :: .int x :: st) σ Q := by
  intro w p l e R s m args below meth c cells slots A Z H locs L C rt P S hl
  subst hp
  exact lv_icmp_lt C.1 C.2.1 hd ht (fun hc => kt hc w p l e R s m args below meth c cells slots A Z H locs L C rt P S hl) (fun hc => kf hc w p l e R s m args below meth c cells slots A Z H locs L C rt P S hl)
theorem x_icmp_ge {x y : Int32} {off : Int} {tgt : Nat} (hd : decode mt.2.1 pc = .ok (.if_icmp .ge off, 3)) (ht : (pc : Int) + off = (tgt : Int)) (hp : pc + 3 = pc') (kt : y ≤ x → X sc d mt tgt ls st σ Q) (kf : ¬ y ≤ x → X sc d mt pc' ls st σ Q) : X sc d mt pc ls (.int y :: .int x :: st) σ Q := by
  intro w p l e R s m args below meth c cells slots A Z H locs L C rt P S hl
  subst hp
  exact lv_icmp_ge C.1 C.2.1 hd ht (fun hc => kt hc w p l e R s m args below meth c cells slots A Z H locs L C rt P S hl) (fun hc => kf hc w p l e R s m args below meth c cells slots A Z H locs L C rt P S hl)
theorem x_icmp_gt {x y : Int32} {off : Int} {tgt : Nat} (hd : decode mt.2.1 pc = .ok (.if_icmp .gt off, 3)) (ht : (pc : Int) + off = (tgt : Int)) (hp : pc + 3 = pc') (kt : y < x → X sc d mt tgt ls st σ Q) (kf : ¬ y < x → X sc d mt pc' ls st σ Q) : X sc d mt pc ls (.int y :: .int x :: st) σ Q := by
  intro w p l e R s m args below meth c cells slots A Z H locs L C rt P S hl
  subst hp
  exact lv_icmp_gt C.1 C.2.1 hd ht (fun hc => kt hc w p l e R s m args below meth c cells slots A Z H locs L C rt P S hl) (fun hc => kf hc w p l e R s m args below meth c cells slots A Z H locs L C rt P S hl)
theorem x_icmp_le {x y : Int32} {off : Int} {tgt : Nat} (hd : decode mt.2.1 pc = .ok (.if_icmp .le off, 3)) (ht : (pc : Int) + off = (tgt : Int)) (hp : pc + 3 = pc') (kt : x ≤ y → X sc d mt tgt ls st σ Q) (kf : ¬ x ≤ y → X sc d mt pc' ls st σ Q) : X sc d mt pc ls (.int y :: .int x :: st) σ Q := by
  intro w p l e R s m args below meth c cells slots A Z H locs L C rt P S hl
  subst hp
  exact lv_icmp_le C.1 C.2.1 hd ht (fun hc => kt hc w p l e R s m args below meth c cells slots A Z H locs L C rt P S hl) (fun hc => kf hc w p l e R s m args below meth c cells slots A Z H locs L C rt P S hl)
theorem x_tblIn {dflt lo hi : Int} {offs : Array Int} {len : Nat} {x : Int32} {off : Int} (hd : decode mt.2.1 pc = .ok (.tableswitch dflt lo hi offs, len)) (h1 : ¬ x.toInt < lo) (h2 : ¬ hi < x.toInt) (ho : offs[(x.toInt - lo).toNat]? = some off) (ht : (pc : Int) + off = (pc' : Int)) (k : X sc d mt pc' ls st σ Q) : X sc d mt pc ls (.int x :: st) σ Q := by
  intro w p l e R s m args below meth c cells slots A Z H locs L C rt P S hl
  exact lv_tableIn C.1 C.2.1 hd h1 h2 ho ht (k w p l e R s m args below meth c cells slots A Z H locs L C rt P S hl)
theorem x_tblOut {dflt lo hi : Int} {offs : Array Int} {len : Nat} {x : Int32} (hd : decode mt.2.1 pc = .ok (.tableswitch dflt lo hi offs, len)) (h : x.toInt < lo ∨ hi < x.toInt) (ht : (pc : Int) + dflt = (pc' : Int)) (k : X sc d mt pc' ls st σ Q) : X sc d mt pc ls (.int x :: st) σ Q := by
  intro w p l e R s m args below meth c cells slots A Z H locs L C rt P S hl
  exact lv_tableOut C.1 C.2.1 hd h ht (k w p l e R s m args below meth c cells slots A Z H locs L C rt P S hl)
theorem x_lookup {dflt : Int} {ps : Array (Int × Int)} {len : Nat} {x : Int32} {off : Int} (hd : decode mt.2.1 pc = .ok (.lookupswitch dflt ps, len)) (hp : (ps.toList.zip (ps.toList.drop 1)).all (fun (a, next) => a.1 < next.1) = true) (ho : Op.lookupswitch.offset ps.toList dflt x.toInt = off) (ht : (pc : Int) + off = (pc' : Int)) (k : X sc d mt pc' ls st σ Q) : X sc d mt pc ls (.int x :: st) σ Q := by
  intro w p l e R s m args below meth c cells slots A Z H locs L C rt P S hl
  exact lv_lookup C.1 C.2.1 hd hp ho ht (k w p l e R s m args below meth c cells slots A Z H locs L C rt P S hl)
theorem x_ldc {index : Nat} {v : Int32} (hd : decode mt.2.1 pc = .ok (.ldc index, 2)) (hp : pc + 2 = pc') (hc : Cond.constant mt.1.cls index v ∈ lwG) (k : X sc d mt pc' ls (.int v :: st) σ Q) : X sc d mt pc ls st σ Q := by
  intro w p l e R s m args below meth c cells slots A Z H locs L C rt P S hl
  subst hp
  exact lv_ldc C.1 C.2.1 C.2.2.2.1 (C.2.2.2.2.2.2.1 _ hc) hd (k w p l e R s m args below meth c cells slots A Z H locs L C rt P S hl)
theorem x_ldcw {index : Nat} {v : Int32} (hd : decode mt.2.1 pc = .ok (.ldc_w index, 3)) (hp : pc + 3 = pc') (hc : Cond.constant mt.1.cls index v ∈ lwG) (k : X sc d mt pc' ls (.int v :: st) σ Q) : X sc d mt pc ls st σ Q := by
  intro w p l e R s m args below meth c cells slots A Z H locs L C rt P S hl
  subst hp
  exact lv_ldcw C.1 C.2.1 C.2.2.2.1 (C.2.2.2.2.2.2.1 _ hc) hd (k w p l e R s m args below meth c cells slots A Z H locs L C rt P S hl)
theorem x_ldc2 {index : Nat} {v : Int64} (hd : decode mt.2.1 pc = .ok (.ldc2_w index, 3)) (hp : pc + 3 = pc') (hc : Cond.constantLong mt.1.cls index v ∈ lwG) (k : X sc d mt pc' ls (.long v :: st) σ Q) : X sc d mt pc ls st σ Q := by
  intro w p l e R s m args below meth c cells slots A Z H locs L C rt P S hl
  subst hp
  exact lv_ldc2 C.1 C.2.1 C.2.2.2.1 (C.2.2.2.2.2.2.1 _ hc) hd (k w p l e R s m args below meth c cells slots A Z H locs L C rt P S hl)
end STEPS
end
section
/-! Steps that read or write the memory, returns, calls. -/
theorem gd_in {ws : List Cond} (h : ∀ w ∈ ws, w ∈ lwG) : GoodIn lwG ws := fun w hw => ⟨h w hw, good_of_word (List.mem_filter.mp (h w hw)).2⟩
theorem nst_on {w : Cond} (h : w ∈ nstL) : w.onTables = true := by
  have h1 := (List.mem_filter.mp h).2
  cases w <;> first | rfl | (simp [isNst] at h1; done)
theorem nst_warm {w : Cond} (h : w ∈ nstL) {s U : State} (hW : s.WarmedH U.vm) (hZ : va_Nw w s) : va_Nw w U := by
  have h1 := (List.mem_filter.mp h).2
  cases w <;> first | exact va_Nw.warmF hW hZ | (simp [isNst] at h1; done)
/-- what links a field's place in a class file: class number, slot, final or not, its type -/
def LkF (own : String) (idx ci k : Nat) (fin : Bool) (ty : FieldType) : Prop := ∃ (C : String) (T : u_T) (N : Nat) (ty0 : Nat → FieldType), vwCl[ci]? = some (C, T, N) ∧ k < N ∧ N = nf ci ∧ (∀ w ∈ u_ws C T N, w ∈ lwG) ∧ (∀ j, j < N → parseFieldDescriptor (T j).2.2.1 = some (ty0 j)) ∧ (∀ a, a < N → ∀ b, b < N → a ≠ b → (T a).2.1 ≠ (T b).2.1) ∧
  (Cond.fieldLink own idx (T k).1 (T k).2.1 (T k).2.2.1 ∈ lwG ∨ ∃ host, Cond.fieldLinkNest own idx (T k).1 (T k).2.1 (T k).2.2.1 host ∈ nstL) ∧ (T k).2.2.2 = fin ∧ ty0 k = ty
theorem vwCl_lt {ci : Nat} {q : vw_C} (h : vwCl[ci]? = some q) : ci < 9 := (List.getElem?_eq_some_iff.mp h).1
def LkV (own : String) (idx : Nat) (mj : Mt) (ci n : Nat) : Prop := ∃ (C : String) (T : u_T) (N : Nat), vwCl[ci]? = some (C, T, N) ∧ mj.1.cls = C ∧ Cond.methodLink own idx mj.1 ∈ lwG ∧ Cond.instanceMethod mj.1 ∈ lwG ∧ Cond.selects C mj.1 mj.1 ∈ lwG ∧ Cond.initialized C ∈ lwG ∧ Cond.code mj.1 mj.2.1 mj.2.2.1 mj.2.2.2 ∈ lwG ∧ plainName mj.1.cls = true ∧
  (mj.1.cls ≠ "java/lang/invoke/MethodHandle" ∧ mj.1.cls ≠ "java/lang/invoke/VarHandle" ∧ (parseMethodDescriptor mj.1.desc).map (fun d => d.parameters.length) = some n) ∧ mj.2.2.1 ≤ 21
def LkS (own : String) (idx : Nat) (mj : Mt) (n : Nat) : Prop := Cond.methodLink own idx mj.1 ∈ lwG ∧ Cond.static mj.1 ∈ lwG ∧ Cond.initialized mj.1.cls ∈ lwG ∧ Cond.code mj.1 mj.2.1 mj.2.2.1 mj.2.2.2 ∈ lwG ∧ plainName mj.1.cls = true ∧
  (mj.1.cls ≠ "java/lang/invoke/MethodHandle" ∧ mj.1.cls ≠ "java/lang/invoke/VarHandle" ∧ (parseMethodDescriptor mj.1.desc).map (fun d => d.parameters.length) = some n) ∧ mj.2.2.1 ≤ 21
section MSTEPS
variable {sc : Option (Nat × (Nat → Int32))} {d : Nat} {mt : Mt} {pc pc' : Nat} {ls st : List Value} {σ : Mem} {Q : Option Value → Mem → Prop}
theorem x_getf {idx ci k a : Nat} {fin : Bool} {ty : FieldType} (hd : decode mt.2.1 pc = .ok (.getfield idx, 3)) (hp : pc + 3 = pc') (lk : LkF mt.1.cls idx ci k fin ty) (ha : kd a = ci) {v : Value} (hv : ∀ w : WC, cv w.1 v = fv w σ a k) (kk : X sc d mt pc' ls (v :: st) σ Q) : X sc d mt pc ls (.ref a :: st) σ Q := by
  intro w p l e R s m args below meth c cells slots A Z H locs L C rt P S hl
  subst hp
  obtain ⟨C', T, N, ty0, hc, hk, hN, hin, hty, hnm, hlk, hfin, hty1⟩ := lk
  have hci := vwCl_lt hc
  have hi := kd_lt (i := a) (by rw [ha]; omega)
  have he : (wsM w σ)[a]? = some (w.1 a, .inr (ci, fvs w σ a)) := by rw [ws_get hi, cel_o ha hci]
  have hv1 : (fvs w σ a)[k]? = some (cv w.1 v) := by rw [fvs_get (by rw [ha, ← hN]; exact hk), hv w]
  have kk' := kk w p l e R s m args below meth c cells slots A Z H locs L C rt P S hl
  rcases hlk with hlk | ⟨host, hlk⟩
  · exact va_get (D := w.2.1) (ci := ci) (C := C') (T := T) (N := N) C.1 C.2.1 C.2.2.2.2.2.2.1 hin C.2.2.2.1 C.2.2.2.2.2.2.2.1 P.1 a he hc k hk (C.2.2.2.2.2.2.1 _ hlk) (fun _ h => h) hv1 hd kk'
  · exact va_getN (D := w.2.1) (ci := ci) (C := C') (T := T) (N := N) C.1 C.2.1 C.2.2.2.2.2.2.1 hin C.2.2.2.1 C.2.2.2.2.2.2.2.1 P.1 a he hc k hk (va_Nw.use rfl (C.2.2.2.2.2.2.2.2.2.2.2 _ hlk)) (fun _ h => h) hv1 hd kk'
theorem x_geti {idx ci k a : Nat} {fin : Bool} {ty : FieldType} (hd : decode mt.2.1 pc = .ok (.getfield idx, 3)) (hp : pc + 3 = pc') (lk : LkF mt.1.cls idx ci k fin ty) (ha : kd a = ci) (hf : fk ci k = 0) (kk : X sc d mt pc' ls (.int (σ.1 a k) :: st) σ Q) : X sc d mt pc ls (.ref a :: st) σ Q :=
  x_getf hd hp lk ha (v := .int (σ.1 a k)) (fun w => by simp [fv, ha, hf, cv]) kk
theorem x_getl {idx ci k a : Nat} {fin : Bool} {ty : FieldType} (hd : decode mt.2.1 pc = .ok (.getfield idx, 3)) (hp : pc + 3 = pc') (lk : LkF mt.1.cls idx ci k fin ty) (ha : kd a = ci) (hf : fk ci k = 1) (kk : X sc d mt pc' ls (.long (σ.2 a k) :: st) σ Q) : X sc d mt pc ls (.ref a :: st) σ Q :=
  x_getf hd hp lk ha (v := .long (σ.2 a k)) (fun w => by simp [fv, ha, hf, cv]) kk
theorem x_getr {idx ci k a b : Nat} {fin : Bool} {ty : FieldType} (hd : decode mt.2.1 pc = .ok (.getfield idx, 3)) (hp : pc + 3 = pc') (lk : LkF mt.1.cls idx ci k fin ty) (ha : kd a = ci) (hf : fk ci k = 2) (hr : rf a k = b) (kk : X sc d mt pc' ls (.ref b :: st) σ Q) : X sc d mt pc ls (.ref a :: st) σ Q :=
  x_getf hd hp lk ha (v := .ref b) (fun w => by simp [fv, ha, hf, cv, hr]) kk
theorem x_put {idx ci k a : Nat} {ty : FieldType} {v : Value} {σ' : Mem} (hd : decode mt.2.1 pc = .ok (.putfield idx, 3)) (hp : pc + 3 = pc') (lk : LkF mt.1.cls idx ci k false ty) (ha : kd a = ci) (hn : ∀ w : WC, narrow ty (cv w.1 v) = cv w.1 v) (hft : ∀ w : WC, fits ty (cv w.1 v) = true) (h1 : ∀ w : WC, cv w.1 v = fv w σ' a k) (h2 : ∀ (w : WC) (j : Nat), j ≠ k → fv w σ' a j = fv w σ a j) (h3 : ∀ j, j ≠ a → σ'.1 j = σ.1 j ∧ σ'.2 j = σ.2 j) (kk : X sc d mt pc' ls st σ' Q) : X sc d mt pc ls (v :: .ref a :: st) σ Q := by
  intro w p l e R s m args below meth c cells slots A Z H locs L C rt P S hl
  subst hp
  obtain ⟨C', T, N, ty0, hc, hk, hN, hin, hty, hnm, hlk, hfin, hty1⟩ := lk
  have hci := vwCl_lt hc
  have hi := kd_lt (i := a) (by rw [ha]; omega)
  have he : (wsM w σ)[a]? = some (w.1 a, .inr (ci, fvs w σ a)) := by rw [ws_get hi, cel_o ha hci]
  have hlen : k < (fvs w σ a).length := by simp only [fvs, List.length_map, List.length_range]; rw [ha, ← hN]; exact hk
  have hpd : parseFieldDescriptor (T k).2.2.1 = some ty := by rw [hty k hk, hty1]
  have hset : (wsM w σ).set a (w.1 a, .inr (ci, (fvs w σ a).set k (cv w.1 v))) = wsM w σ' := ws_set (by rw [cel_o ha hci, fvs_set (h1 w) (h2 w)]) (fun j hj => cel_congr (h3 j hj).1 (h3 j hj).2)
  have kk' : ∀ (H1 : Heap) (locs1 : List Loc), va_P w.2.1 vwCl ((wsM w σ).set a (w.1 a, .inr (ci, (fvs w σ a).set k (cv w.1 v)))) H1 → va_D A ((wsM w σ).set a (w.1 a, .inr (ci, (fvs w σ a).set k (cv w.1 v)))) → va_S A s.heap H1 locs1 → W p l e R s m args below meth c H1 locs1 cells slots Z (F0 m (pc + 3) L (st.map (cv w.1))) := by
    rw [hset]
    intro H1 locs1 q1 q2 q3
    exact kk w p l e R s m args below meth c cells slots A Z H1 locs1 L C rt ⟨q1, q2⟩ q3 hl
  rcases hlk with hlk | ⟨host, hlk⟩
  · exact va_put (D := w.2.1) (ci := ci) (C := C') (T := T) (N := N) C.1 C.2.1 C.2.2.2.2.2.2.1 hin ty0 hty hnm C.2.2.2.1 C.2.2.2.2.2.2.2.1 P.1 P.2 S a he hc k hk (C.2.2.2.2.2.2.1 _ hlk) (fun _ h => h) hfin hpd (hn w) (hft w) hlen hd kk'
  · exact va_putN (D := w.2.1) (ci := ci) (C := C') (T := T) (N := N) C.1 C.2.1 C.2.2.2.2.2.2.1 hin ty0 hty hnm C.2.2.2.1 C.2.2.2.2.2.2.2.1 P.1 P.2 S a he hc k hk (va_Nw.use rfl (C.2.2.2.2.2.2.2.2.2.2.2 _ hlk)) (fun _ h => h) hfin hpd (hn w) (hft w) hlen hd kk'
theorem x_puti {idx ci k a : Nat} {ty : FieldType} {v : Int32} (hd : decode mt.2.1 pc = .ok (.putfield idx, 3)) (hp : pc + 3 = pc') (lk : LkF mt.1.cls idx ci k false ty) (ha : kd a = ci) (hf : fk ci k = 0) (hn : narrow ty (.int v) = .int v) (hft : fits ty (.int v) = true) (kk : X sc d mt pc' ls st (w1 σ a k v) Q) : X sc d mt pc ls (.int v :: .ref a :: st) σ Q := by
  refine x_put hd hp lk ha (fun _ => hn) (fun _ => hft) (σ' := w1 σ a k v) (fun w => ?_) (fun w j hj => ?_) (fun j hj => ⟨w1_off hj, rfl⟩) kk
  · simp [fv, ha, hf, cv, w1]
  · simp [fv, w1, hj]
theorem x_putl {idx ci k a : Nat} {v : Int64} (hd : decode mt.2.1 pc = .ok (.putfield idx, 3)) (hp : pc + 3 = pc') (lk : LkF mt.1.cls idx ci k false .long) (ha : kd a = ci) (hf : fk ci k = 1) (kk : X sc d mt pc' ls st (w2 σ a k v) Q) : X sc d mt pc ls (.long v :: .ref a :: st) σ Q := by
  refine x_put hd hp lk ha (fun _ => rfl) (fun _ => rfl) (σ' := w2 σ a k v) (fun w => ?_) (fun w j hj => ?_) (fun j hj => ⟨rfl, w2_off hj⟩) kk
  · simp [fv, ha, hf, cv, w2]
  · simp [fv, w2, hj]
theorem x_iald {a : Nat} {i : Int32} (hd : decode mt.2.1 pc = .ok (.iaload, 1)) (hp : pc + 1 = pc') (ha : kd a = 9) (hi : vp_in i (ln a)) (kk : X sc d mt pc' ls (.int (σ.1 a i.toNatClampNeg) :: st) σ Q) : X sc d mt pc ls (.int i :: .ref a :: st) σ Q := by
  intro w p l e R s m args below meth c cells slots A Z H locs L C rt P S hl
  subst hp
  have hlt := kd_lt (i := a) (by rw [ha]; decide)
  exact va_iald C.1 C.2.1 C.2.2.2.2.2.2.2.1 P.1 a 0 (by rw [ws_get hlt, cel_9 ha]) rfl hi hd (kk w p l e R s m args below meth c cells slots A Z H locs L C rt P S hl)
theorem x_iast {a : Nat} {i x : Int32} (hd : decode mt.2.1 pc = .ok (.iastore, 1)) (hp : pc + 1 = pc') (ha : kd a = 9) (hi : vp_in i (ln a)) (kk : X sc d mt pc' ls st (w1 σ a i.toNatClampNeg x) Q) : X sc d mt pc ls (.int x :: .int i :: .ref a :: st) σ Q := by
  intro w p l e R s m args below meth c cells slots A Z H locs L C rt P S hl
  subst hp
  have hlt := kd_lt (i := a) (by rw [ha]; decide)
  have hset : (wsM w σ).set a (w.1 a, .inl (w.2.2.1, ln a, .inl (upd (σ.1 a) i.toNatClampNeg x))) = wsM w (w1 σ a i.toNatClampNeg x) := ws_set (by rw [cel_9 ha, w1_at]) (fun j hj => cel_congr (w1_off hj) rfl)
  refine va_iast C.1 C.2.1 C.2.2.2.2.2.2.2.1 P.1 P.2 S a 0 (by rw [ws_get hlt, cel_9 ha]) rfl hi hd ?_
  rw [hset]
  intro H1 locs1 q1 q2 q3
  exact kk w p l e R s m args below meth c cells slots A Z H1 locs1 L C rt ⟨q1, q2⟩ q3 hl
theorem x_zald {a : Nat} {i : Int32} (hd : decode mt.2.1 pc = .ok (.baload, 1)) (hp : pc + 1 = pc') (ha : kd a = 10) (hi : vp_in i (ln a)) (kk : X sc d mt pc' ls (.int (σ.1 a i.toNatClampNeg) :: st) σ Q) : X sc d mt pc ls (.int i :: .ref a :: st) σ Q := by
  intro w p l e R s m args below meth c cells slots A Z H locs L C rt P S hl
  subst hp
  have hlt := kd_lt (i := a) (by rw [ha]; decide)
  exact va_zald C.1 C.2.1 C.2.2.2.2.2.2.2.1 P.1 a 1 (by rw [ws_get hlt, cel_10 ha]) rfl hi hd (kk w p l e R s m args below meth c cells slots A Z H locs L C rt P S hl)
theorem x_zast {a : Nat} {i x : Int32} (hd : decode mt.2.1 pc = .ok (.bastore, 1)) (hp : pc + 1 = pc') (ha : kd a = 10) (hi : vp_in i (ln a)) (hx : vp_nar .boolean x = x) (kk : X sc d mt pc' ls st (w1 σ a i.toNatClampNeg x) Q) : X sc d mt pc ls (.int x :: .int i :: .ref a :: st) σ Q := by
  intro w p l e R s m args below meth c cells slots A Z H locs L C rt P S hl
  subst hp
  have hlt := kd_lt (i := a) (by rw [ha]; decide)
  have hset : (wsM w σ).set a (w.1 a, .inl (w.2.2.2.1, ln a, .inl (upd (σ.1 a) i.toNatClampNeg (vp_nar .boolean x)))) = wsM w (w1 σ a i.toNatClampNeg x) := ws_set (by rw [cel_10 ha, w1_at, hx]) (fun j hj => cel_congr (w1_off hj) rfl)
  refine va_zast C.1 C.2.1 C.2.2.2.2.2.2.2.1 P.1 P.2 S a 1 (by rw [ws_get hlt, cel_10 ha]) rfl hi hd ?_
  rw [hset]
  intro H1 locs1 q1 q2 q3
  exact kk w p l e R s m args below meth c cells slots A Z H1 locs1 L C rt ⟨q1, q2⟩ q3 hl
theorem x_aald {a b : Nat} {i : Int32} (hd : decode mt.2.1 pc = .ok (.aaload, 1)) (hp : pc + 1 = pc') (ha : kd a = 11 ∨ kd a = 12) (hi : vp_in i (ln a)) (hr : rf a i.toNatClampNeg = b) (kk : X sc d mt pc' ls (.ref b :: st) σ Q) : X sc d mt pc ls (.int i :: .ref a :: st) σ Q := by
  intro w p l e R s m args below meth c cells slots A Z H locs L C rt P S hl
  subst hp
  subst hr
  have kk' := kk w p l e R s m args below meth c cells slots A Z H locs L C rt P S hl
  rcases ha with ha | ha
  · have hlt := kd_lt (i := a) (by rw [ha]; decide)
    exact va_aldq (f := fun k => some (w.1 (rf a k))) C.1 C.2.1 C.2.2.2.2.2.2.2.1 P.1 a 2 (by rw [ws_get hlt, cel_11 ha]) rfl hi hd kk'
  · have hlt := kd_lt (i := a) (by rw [ha]; decide)
    exact va_aldq (f := fun k => some (w.1 (rf a k))) C.1 C.2.1 C.2.2.2.2.2.2.2.1 P.1 a 3 (by rw [ws_get hlt, cel_12 ha]) rfl hi hd kk'
theorem x_copy {idx a b : Nat} {sp dp n : Int32} (hd : decode mt.2.1 pc = .ok (.invokestatic idx, 3)) (hp : pc + 3 = pc') (hlk : Cond.methodLink mt.1.cls idx arraycopyName ∈ lwG ∧ Cond.native arraycopyName ∈ lwG ∧ Cond.static arraycopyName ∈ lwG ∧ Cond.initialized "java/lang/System" ∈ lwG) (ha : kd a = 9) (hb : kd b = 9)
    (h1 : ¬ sp < 0) (h2 : ¬ dp < 0) (h3 : ¬ n < 0) (h4 : sp.toNatClampNeg + n.toNatClampNeg ≤ ln a) (h5 : dp.toNatClampNeg + n.toNatClampNeg ≤ ln b) (kk : X sc (d + 1) mt pc' ls [] (wc σ a b sp.toNatClampNeg dp.toNatClampNeg n.toNatClampNeg) Q) : X sc (d + 1) mt pc ls [.int n, .int dp, .ref b, .int sp, .ref a] σ Q := by
  intro w p l e R s m args below meth c cells slots A Z H locs L C rt P S hl
  subst hp
  have hlta := kd_lt (i := a) (by rw [ha]; decide)
  have hltb := kd_lt (i := b) (by rw [hb]; decide)
  have hset : (wsM w σ).set b (w.1 b, .inl (w.2.2.1, ln b, .inl (va_cpy (σ.1 a) (σ.1 b) sp.toNatClampNeg dp.toNatClampNeg n.toNatClampNeg))) = wsM w (wc σ a b sp.toNatClampNeg dp.toNatClampNeg n.toNatClampNeg) := ws_set (by rw [cel_9 hb, wc_at]) (fun j hj => cel_congr (wc_off hj) rfl)
  have hR := C.2.2.2.2.2.2.2.2.1
  refine va_copyi (rest := []) C.1 C.2.1 (C.2.2.1.trans hl.1.symm) C.2.2.2.1 (C.2.2.2.2.2.2.1 _ hlk.1) (C.2.2.2.2.2.2.1 _ hlk.2.1) (C.2.2.2.2.2.2.1 _ hlk.2.2.1) (C.2.2.2.2.2.2.1 _ hlk.2.2.2) C.2.2.2.2.2.2.2.1 P.1 P.2 S a b 0 0 (by rw [ws_get hlta, cel_9 ha]) (by rw [ws_get hltb, cel_9 hb]) rfl rfl rfl h1 h2 h3 h4 h5 (fun _ _ => rfl) (by omega) (Nat.le_trans (by decide) (Nat.le_trans (Nat.mul_le_mul_left 40 (Nat.succ_le_succ (Nat.zero_le d))) hR.2)) hd ?_
  rw [hset]
  intro H1 locs1 q1 q2 q3
  exact kk w p l e R s m args below meth c cells slots A Z H1 locs1 L C rt ⟨q1, q2⟩ q3 hl
theorem x_mmax {idx : Nat} {x y : Int32} (hd : decode mt.2.1 pc = .ok (.invokestatic idx, 3)) (hp : pc + 3 = pc') (hlk : Cond.methodLink mt.1.cls idx Lib.Math.max.name ∈ lwG ∧ Cond.static Lib.Math.max.name ∈ lwG ∧ Cond.initialized "java/lang/Math" ∈ lwG ∧ Cond.code Lib.Math.max.name Lib.Math.max.code 2 (some .int) ∈ lwG) (hw : (st.map Value.category).sum ≤ 8) (kk : X sc (d + 1) mt pc' ls (.int (if x < y then y else x) :: st) σ Q) : X sc (d + 1) mt pc ls (.int y :: .int x :: st) σ Q := by
  intro w p l e R s m args below meth c cells slots A Z H locs L C rt P S hl
  subst hp
  have hR := C.2.2.2.2.2.2.2.2.1
  have hcs := C.2.2.2.2.2.2.2.2.2.1
  have hts := C.2.2.2.2.2.2.1
  have hw2 : ((st.map (cv w.1)).map fun v => v.category).sum ≤ 8 := by simpa [List.map_map, Function.comp_def, cv_cat] using hw
  exact va_mmax C.1 C.2.1 (C.2.2.1.trans hl.1.symm) C.2.2.2.1 (hts _ hlk.1) (hts _ hlk.2.1) (hts _ hlk.2.2.1) (hts _ hlk.2.2.2) (by omega) (by omega) hcs.1 hcs.2 hd (kk w p l e R s m args below meth c cells slots A Z H locs L C rt P S hl)
theorem x_mabs {idx : Nat} {x : Int32} (hd : decode mt.2.1 pc = .ok (.invokestatic idx, 3)) (hp : pc + 3 = pc') (hlk : Cond.methodLink mt.1.cls idx Lib.Math.abs.name ∈ lwG ∧ Cond.static Lib.Math.abs.name ∈ lwG ∧ Cond.initialized "java/lang/Math" ∈ lwG ∧ Cond.code Lib.Math.abs.name Lib.Math.abs.code 1 (some .int) ∈ lwG) (hw : (st.map Value.category).sum ≤ 8) (kk : X sc (d + 1) mt pc' ls (.int (if 0 ≤ x then x else 0 - x) :: st) σ Q) : X sc (d + 1) mt pc ls (.int x :: st) σ Q := by
  intro w p l e R s m args below meth c cells slots A Z H locs L C rt P S hl
  subst hp
  have hR := C.2.2.2.2.2.2.2.2.1
  have hcs := C.2.2.2.2.2.2.2.2.2.1
  have hts := C.2.2.2.2.2.2.1
  have hw2 : ((st.map (cv w.1)).map fun v => v.category).sum ≤ 8 := by simpa [List.map_map, Function.comp_def, cv_cat] using hw
  exact va_mabs C.1 C.2.1 (C.2.2.1.trans hl.1.symm) C.2.2.2.1 (hts _ hlk.1) (hts _ hlk.2.1) (hts _ hlk.2.2.1) (hts _ hlk.2.2.2) (by omega) (by omega) hcs.1 hcs.2 hd (kk w p l e R s m args below meth c cells slots A Z H locs L C rt P S hl)
theorem x_sld {n : Nat} {xs : Nat → Int32} {i : Int32} (hd : decode mt.2.1 pc = .ok (.iaload, 1)) (hp : pc + 1 = pc') (hi : vp_in i n) (kk : X (some (n, xs)) d mt pc' ls (.int (xs i.toNatClampNeg) :: st) σ Q) : X (some (n, xs)) d mt pc ls (.int i :: .ref 200 :: st) σ Q := by
  intro w p l e R s m args below meth c cells slots A Z H locs L C rt P S hl
  subst hp
  obtain ⟨hX, hb, hA⟩ := C.2.2.2.2.2.2.2.2.2.2.1 n xs rfl
  exact va_sld C.1 C.2.1 hX hb hA S hi hd (kk w p l e R s m args below meth c cells slots A Z H locs L C rt P S hl)
theorem x_slen {n : Nat} {xs : Nat → Int32} (hd : decode mt.2.1 pc = .ok (.arraylength, 1)) (hp : pc + 1 = pc') (kk : X (some (n, xs)) d mt pc' ls (.int (nI n) :: st) σ Q) : X (some (n, xs)) d mt pc ls (.ref 200 :: st) σ Q := by
  intro w p l e R s m args below meth c cells slots A Z H locs L C rt P S hl
  subst hp
  obtain ⟨hX, hb, hA⟩ := C.2.2.2.2.2.2.2.2.2.2.1 n xs rfl
  exact va_slen C.1 C.2.1 hX hb hA S hd (kk w p l e R s m args below meth c cells slots A Z H locs L C rt P S hl)
theorem x_iret {v : Int32} {ty : FieldType} (hd : decode mt.2.1 pc = .ok (.ireturn, 1)) (ht : mt.2.2.2 = some ty) (hn : narrow ty (.int v) = .int v) (hq : Q (some (.int v)) σ) : X sc d mt pc ls [.int v] σ Q := by
  intro w p l e R s m args below meth c cells slots A Z H locs L C rt P S hl
  exact rt (some (.int v)) σ H locs hq P S pc L (Or.inl ⟨v, ty, rfl, hd, ht, hn⟩)
theorem x_lret {v : Int64} (hd : decode mt.2.1 pc = .ok (.lreturn, 1)) (ht : mt.2.2.2 = some .long) (hq : Q (some (.long v)) σ) : X sc d mt pc ls [.long v] σ Q := by
  intro w p l e R s m args below meth c cells slots A Z H locs L C rt P S hl
  exact rt (some (.long v)) σ H locs hq P S pc L (Or.inr (Or.inl ⟨v, rfl, hd, ht⟩))
theorem x_vret (hd : decode mt.2.1 pc = .ok (.return_, 1)) (ht : mt.2.2.2 = none) (hq : Q none σ) : X sc d mt pc ls [] σ Q := by
  intro w p l e R s m args below meth c cells slots A Z H locs L C rt P S hl
  exact rt none σ H locs hq P S pc L (Or.inr (Or.inr ⟨rfl, hd, ht⟩))
end MSTEPS
def flt (As : List Value) : List Value := As.flatMap (fun v => if v.category = 2 then [v, Unk] else [v])
/-- the locals at a method's entry -/
def ent (As : List Value) (n : Nat) : List Value := flt As ++ List.replicate (n - (flt As).length) Unk
theorem flt_len (ad : Nat → Nat) (As : List Value) : (lg_sl (As.map (cv ad))).length = (flt As).length := by
  induction As with
  | nil => rfl
  | cons v t ih =>
    simp only [lg_sl, flt, List.map_cons, List.flatMap_cons, List.length_append, cv_cat] at *
    rw [ih]
    split <;> rfl
theorem flt_mem (ad : Nat → Nat) : ∀ (As : List Value) (k i : Nat) (v : Value), (flt As)[i]? = some v → v ≠ Unk → (k + i, cv ad v) ∈ lv_args k (As.map (cv ad)) := by
  intro As
  induction As with
  | nil => intro k i v h; simp [flt] at h
  | cons u t ih =>
    intro k i v h hu
    have e1 : flt (u :: t) = (if u.category = 2 then [u, Unk] else [u]) ++ flt t := rfl
    rw [e1] at h
    simp only [List.map_cons, lv_args, cv_cat]
    by_cases hc : u.category = 2
    · rw [if_pos hc] at h ⊢
      match i, h with
      | 0, h => simp at h; subst h; exact List.mem_cons_self
      | 1, h => simp at h; exact absurd h.symm hu
      | i + 2, h =>
        simp only [List.cons_append, List.nil_append, List.getElem?_cons_succ] at h
        have := ih (k + 2) i v h hu
        rw [show k + (i + 2) = k + 2 + i by omega]
        exact List.mem_cons_of_mem _ this
    · rw [if_neg hc] at h ⊢
      match i, h with
      | 0, h => simp at h; subst h; exact List.mem_cons_self
      | i + 1, h =>
        simp only [List.cons_append, List.nil_append, List.getElem?_cons_succ] at h
        have := ih (k + 1) i v h hu
        rw [show k + (i + 1) = k + 1 + i by omega]
        exact List.mem_cons_of_mem _ this
theorem ent_LH {ad : Nat → Nat} {As : List Value} {n : Nat} {L : Array Slot} (hlen : (flt As).length ≤ n) (h : lv_has L n (lv_args 0 (As.map (cv ad)))) : LH ad n L (ent As n) := by
  refine ⟨h.1, ?_, h.2.1, fun i v hi hu => ?_⟩
  · simp only [ent, List.length_append, List.length_replicate]
    omega
  · have h1 : (flt As)[i]? = some v := by
      unfold ent at hi
      by_cases hl : i < (flt As).length
      · rwa [List.getElem?_append_left hl] at hi
      · rw [List.getElem?_append_right (by omega)] at hi
        have := List.mem_of_getElem? hi
        exact absurd (List.eq_of_mem_replicate this) hu
    have h2 := flt_mem ad As 0 i v h1 hu
    rw [Nat.zero_add] at h2
    exact h.2.2 _ h2
def Aw (w : WC) : Nat → Prop := fun q => ∃ i, i < 103 ∧ q = w.1 i
def QcM (w : WC) (Q : Option Value → Mem → Prop) : Array Value → State → Outcome → State → Prop := fun _ st o t => ∃ (r : Option Value) (σ' : Mem), o = .returned (r.map (cv w.1)) ∧ Q r σ' ∧ Rep w (Aw w) σ' t.heap ∧ va_F (Aw w) st t
def PcM (w : WC) (As : List Value) (σ : Mem) : Array Value → State → Prop := fun v U => v = (As.map (cv w.1)).toArray ∧ Rep w (Aw w) σ U.heap ∧ va_K w.2.1 vwCl (tysW w) U ∧ ∀ q ∈ nstL, va_Nw q U
abbrev rmM (d : Nat) : Room := { frames := d, cells := 0, slots := 0, locals := 40 * d }
theorem met_of_X {l : Launch} {d : Nat} {mj : Mt} {As : List Value} {σ : Mem} {Q : Option Value → Mem → Prop} (w : WC) (hm : plainName mj.1.cls = true) (hlen : (flt As).length ≤ mj.2.2.1) (k : X none d mj 0 (ent As mj.2.2.1) [] σ Q) : Met l mj.1 (Cond.code mj.1 mj.2.1 mj.2.2.1 mj.2.2.2 :: lwG) (rmM d) (PcM w As σ) (QcM w Q) 0 0 (Aw w) := by
  refine Met.ofW (cc := mj.2.1) (maxL := mj.2.2.1) (ret := mj.2.2.2) hm rfl ?_
  intro p e s m args below meth c s₁ B hml hv
  obtain ⟨rfl, hP, hK, hNs⟩ := hv
  have hts0 := atoms_spec (ws := Cond.code mj.1 mj.2.1 mj.2.2.1 mj.2.2.2 :: lwG) B.pre
  have hl := lv_entry (As.map (cv w.1)) (n := mj.2.2.1) (by rw [flt_len]; exact hlen)
  rw [lg_entry_eq]
  have C : Cx w none d mj p (headSpec (Cond.code mj.1 mj.2.1 mj.2.2.1 mj.2.2.2 :: lwG) (rmM d)).room s m (As.map (cv w.1)).toArray meth c 0 0 (Aw w) := ⟨B.exec, B.bytes, hml, findClass_of_methodNamed B.named, B.returns, B.notSynchronized, fun q hq => hts0 q (List.mem_cons_of_mem _ hq), hK, ⟨Nat.le_refl _, Nat.le_refl _⟩, ⟨Nat.zero_le _, Nat.zero_le _⟩, fun n xs h => (by cases h), hNs⟩
  refine k w p l e _ s m _ below meth c 0 0 (Aw w) _ s.heap [] _ C ?_ hP va_S.rf (ent_LH hlen hl)
  intro r σ' H locs hq hR hS pc L hri
  rcases hri with ⟨v, ty, rfl, hd, ht, hn⟩ | ⟨v, rfl, hd, ht⟩ | ⟨rfl, hd, ht⟩
  · exact W.zret B.exec B.bytes (B.returns.trans ht) hn (fun t ht' hW => ⟨some (.int v), σ', rfl, hq, by rw [ht']; exact hR, hS.F ht'⟩) hS.2.2 hd B.notSynchronized
  · exact W.lret B.exec B.bytes (B.returns.trans ht) (fun t ht' hW => ⟨some (.long v), σ', rfl, hq, by rw [ht']; exact hR, hS.F ht'⟩) hS.2.2 hd B.notSynchronized
  · exact W.vret B.exec B.bytes (B.returns.trans ht) (fun t ht' hW => ⟨none, σ', rfl, hq, by rw [ht']; exact hR, hS.F ht'⟩) hS.2.2 hd B.notSynchronized
theorem D_Aw {w : WC} {A : Nat → Prop} {σ : Mem} (h : va_D A (wsM w σ)) : va_D (Aw w) (wsM w σ) := by
  refine h.weaken (fun k q hk _ => ?_)
  have hl := (List.getElem?_eq_some_iff.mp hk).1
  simp only [wsM, List.length_map, List.length_range] at hl
  rw [ws_get hl] at hk
  cases hk
  exact ⟨k, hl, rfl⟩
theorem A_of {w : WC} {A : Nat → Prop} {σ : Mem} (h : va_D A (wsM w σ)) : ∀ q, Aw w q → A q := by
  rintro q ⟨i, hi, rfl⟩
  exact h.2 i _ (ws_get hi)
theorem FB_PcM {w : WC} {As : List Value} {σ : Mem} : FrameBlind (PcM w As σ) := fun a U g mk q => ⟨q.1, q.2.1, va_K.moved (u := U) (U := U.calling g mk a) (Vm.Alike.refl U.vm) q.2.2.1, fun c hc => va_Nw.same (nst_on hc) (u := U) (U := U.calling g mk a) rfl (q.2.2.2 c hc)⟩
section CALLS
variable {sc : Option (Nat × (Nat → Int32))} {d : Nat} {mt mj : Mt} {pc pc' idx n : Nat} {ls st As : List Value} {σ : Mem} {Q : Option Value → Mem → Prop}
/-- behind a call -/
theorem x_back {w : WC} {p : Program} {l : Launch} {e : Env} {R : Room} {s : State} {m : MethodId} {args : Array Value} {below : List Frame} {meth : Method} {c : Code} {cells slots : Nat} {A : Nat → Prop} {Z : State → Prop} {H : Heap} {locs : List Loc} {L : Array Slot} {g0 : List Value} {a : Array Value}
    (C : Cx w sc d mt p R s m args meth c cells slots A) (rt : RetOK w mt p l e R s m args below meth c cells slots A Q Z) (P : Rep w A σ H) (S : va_S A s.heap H locs) (hl : LH w.1 mt.2.2.1 L ls)
    (hr : va_Run p l e R s m args below meth c H locs cells slots 0 0 (F0 m pc L g0) (st.map (cv w.1)) (QcM w (fun r σ' => X sc d mt (pc + 3) ls (r.toList ++ st) σ' Q) a) (Aw w)) : W p l e R s m args below meth c H locs cells slots Z (F0 m pc L g0) := by
  intro T hT X0
  obtain ⟨v, st₀, t, T', Lc, h0, X', hL, e1, e2, ⟨r, σ', ho, hq, hR, hF⟩, stp⟩ := hr T hT X0
  obtain ⟨hz, hk⟩ := hF
  rw [h0] at hz hk
  have ho' : v = r.map (cv w.1) := by cases ho; rfl
  subst ho'
  have hS' : va_S A s.heap T'.heap (locs ++ Lc) := ⟨Nat.le_trans S.1 (by rw [e1]; exact hz), fun q q1 q2 => by rw [e1, hk q (Nat.lt_of_lt_of_le q1 S.1) (fun z => q2 (A_of P.2 q z))]; exact S.2.1 q q1 q2, fun q hq => by
      rcases List.mem_append.mp hq with h | h
      · exact S.2.2 q h
      · exact A_of P.2 _ (hL q h)⟩
  have hR' : Rep w A σ' T'.heap := ⟨by rw [e1]; exact hR.1, hR.2.weaken (fun k q _ hq => A_of P.2 q.1 hq)⟩
  have est : (r.toList ++ st).map (cv w.1) = (r.map (cv w.1)).toList ++ st.map (cv w.1) := by cases r <;> simp
  obtain ⟨t2, a1, b1⟩ := hq w p l e R s m args below meth c cells slots A Z T'.heap (locs ++ Lc) L C rt hR' hS' hl T' rfl X'
  rw [est] at a1
  exact ⟨t2, stp t2 a1, b1⟩
theorem x_callV {ci b : Nat} (hd : decode mt.2.1 pc = .ok (.invokevirtual idx, 3)) (hp : pc + 3 = pc') (lk : LkV mt.1.cls idx mj ci n) (hb : kd b = ci) (hn : As.length = n) {stk : List Value} (hs : As.reverse ++ .ref b :: st = stk) (hw : (st.map Value.category).sum ≤ 8) (hfl : (flt (.ref b :: As)).length ≤ mj.2.2.1) (k : X none d mj 0 (ent (.ref b :: As) mj.2.2.1) [] σ (fun r σ' => X sc (d + 1) mt pc' ls (r.toList ++ st) σ' Q)) : X sc (d + 1) mt pc ls stk σ Q := by
  intro w p l e R s m args below meth c cells slots A Z H locs L C rt P S hl
  subst hp
  subst hs
  obtain ⟨C', T', N', hc, hC, k1, k2, k3, k4, k5, k6, k7, k8⟩ := lk
  have hM := met_of_X (l := l) w k6 hfl k
  have hts := C.2.2.2.2.2.2.1
  have hci := vwCl_lt hc
  have hlt := kd_lt (i := b) (by rw [hb]; omega)
  have hG : GoodIn lwG (wsV mt.1.cls idx C' mj.1 (Cond.code mj.1 mj.2.1 mj.2.2.1 mj.2.2.2 :: lwG)) := gd_in (fun q hq => by
    simp only [wsV, List.mem_append, List.mem_cons, List.not_mem_nil, or_false] at hq
    rcases hq with (h | h | h | h) | (h | h)
    · rw [h]; exact k1
    · rw [h]; exact k2
    · rw [h]; exact k3
    · rw [h]; exact k4
    · rw [h]; exact k5
    · exact h)
  have hR := C.2.2.2.2.2.2.2.2.1
  have hcs := C.2.2.2.2.2.2.2.2.2.1
  have est : (As.reverse ++ .ref b :: st).map (cv w.1) = (As.map (cv w.1)).reverse ++ .ref (w.1 b) :: st.map (cv w.1) := by simp [cv]
  rw [est]
  refine x_back C rt P S hl (va_runV (C := C') (As := As.map (cv w.1)) (rest := st.map (cv w.1)) ⟨C.1, C.2.1, C.2.2.1, C.2.2.2.1, hts⟩ hM (cwV n hts hG rfl rfl rfl ⟨hC, k7.1, k7.2.1, k7.2.2⟩ ⟨hR.1, show 8 + (mj.2.2.1 + 11) + 40 * d ≤ R.locals by omega⟩) ⟨FB_PcM, va_recv C.2.2.2.2.2.2.2.1 P.1 (ci := ci) (q0 := b) hc (by rw [ws_get hlt, cel_o hb hci]), fun U hU hW => ⟨by simp [cv], by rw [hU]; exact ⟨P.1, D_Aw P.2⟩, va_K.moved hW.alike C.2.2.2.2.2.2.2.1, fun c hc => nst_warm hc hW (C.2.2.2.2.2.2.2.2.2.2.2 c hc)⟩⟩ rfl (by rw [List.length_map]; exact hn) hl.1 rfl (lv_room (by simpa [List.map_map, Function.comp_def, cv_cat] using hw)) hd ⟨hcs.1, hcs.2⟩)
theorem x_callS (hd : decode mt.2.1 pc = .ok (.invokestatic idx, 3)) (hp : pc + 3 = pc') (lk : LkS mt.1.cls idx mj n) (hn : As.length = n) {stk : List Value} (hs : As.reverse ++ st = stk) (hw : (st.map Value.category).sum ≤ 8) (hfl : (flt As).length ≤ mj.2.2.1) (k : X none d mj 0 (ent As mj.2.2.1) [] σ (fun r σ' => X sc (d + 1) mt pc' ls (r.toList ++ st) σ' Q)) : X sc (d + 1) mt pc ls stk σ Q := by
  intro w p l e R s m args below meth c cells slots A Z H locs L C rt P S hl
  subst hp
  subst hs
  obtain ⟨k1, k2, k4, k5, k6, k7, k8⟩ := lk
  have hM := met_of_X (l := l) w k6 hfl k
  have hts := C.2.2.2.2.2.2.1
  have hG : GoodIn lwG (va_wsS mt.1.cls idx mj.1 (Cond.code mj.1 mj.2.1 mj.2.2.1 mj.2.2.2 :: lwG)) := gd_in (fun q hq => by
    simp only [va_wsS, List.mem_append, List.mem_cons, List.not_mem_nil, or_false] at hq
    rcases hq with (h | h | h) | (h | h)
    · rw [h]; exact k1
    · rw [h]; exact k2
    · rw [h]; exact k4
    · rw [h]; exact k5
    · exact h)
  have hR := C.2.2.2.2.2.2.2.2.1
  have hcs := C.2.2.2.2.2.2.2.2.2.1
  have est : (As.reverse ++ st).map (cv w.1) = (As.map (cv w.1)).reverse ++ st.map (cv w.1) := by simp
  rw [est]
  refine x_back C rt P S hl (va_runS (As := As.map (cv w.1)) (rest := st.map (cv w.1)) ⟨C.1, C.2.1, C.2.2.1, C.2.2.2.1, hts⟩ hM (va_cwS n hts hG rfl rfl rfl ⟨k7.1, k7.2.1, k7.2.2⟩ ⟨hR.1, show 8 + (mj.2.2.1 + 11) + 40 * d ≤ R.locals by omega⟩) ⟨FB_PcM, fun U hU hW => ⟨rfl, by rw [hU]; exact ⟨P.1, D_Aw P.2⟩, va_K.moved hW.alike C.2.2.2.2.2.2.2.1, fun c hc => nst_warm hc hW (C.2.2.2.2.2.2.2.2.2.2.2 c hc)⟩⟩ rfl (by rw [List.length_map]; exact hn) hl.1 rfl (lv_room (by simpa [List.map_map, Function.comp_def, cv_cat] using hw)) hd ⟨hcs.1, hcs.2⟩)
/-- weaker ends -/
theorem X.mono {Q' : Option Value → Mem → Prop} (h : X sc d mt pc ls st σ Q) (hq : ∀ r σ', Q r σ' → Q' r σ') : X sc d mt pc ls st σ Q' := by
  intro w p l e R s m args below meth c cells slots A Z H locs L C rt P S hl
  exact h w p l e R s m args below meth c cells slots A Z H locs L C (fun r σ' H' locs' h1 => rt r σ' H' locs' (hq r σ' h1)) P S hl
end CALLS
end
section
/-! The links of fields, methods and constants, and the methods as tuples. -/
theorem tG (i : Nat) {w : Cond} (h : tables_1[i]? = some w) (g : goodWord w = true) : w ∈ lwG := List.mem_filter.mpr ⟨List.mem_append_right _ (List.mem_of_getElem? h), g⟩
theorem tS (i : Nat) {w : Cond} (h : (k2_sels lw_privs)[i]? = some w) (g : goodWord w = true) : w ∈ lwG := List.mem_filter.mpr ⟨List.mem_append_left _ (List.mem_of_getElem? h), g⟩
theorem tN (i : Nat) {w : Cond} (h : tables_1[i]? = some w) (g : isNst w = true) : w ∈ nstL := List.mem_filter.mpr ⟨List.mem_of_getElem? h, g⟩
def mX7_init : Mt := (yX7_init, cX7_init, 2, none)
def mX0_init : Mt := (yX0_init, cX0_init, 1, none)
def mX2_init : Mt := (yX2_init, cX2_init, 2, none)
def mX4_init : Mt := (yX4_init, cX4_init, 1, none)
def mX6_init : Mt := (yX6_init, cX6_init, 1, none)
def mX5_init : Mt := (yX5_init, cX5_init, 1, none)
def mX1_init : Mt := (yX1_init, cX1_init, 1, none)
def mX3_init : Mt := (yX3_init, cX3_init, 1, none)
def mX7_put : Mt := (yX7_put, cX7_put, 4, (some .int))
def mX7_isPlace : Mt := (yX7_isPlace, cX7_isPlace, 2, (some .boolean))
def mX7_isOnAxis : Mt := (yX7_isOnAxis, cX7_isOnAxis, 1, (some .boolean))
def mX7_refuse : Mt := (yX7_refuse, cX7_refuse, 2, (some .int))
def mX0_there : Mt := (yX0_there, cX0_there, 1, (some .int))
def mX0_hasNumbers : Mt := (yX0_hasNumbers, cX0_hasNumbers, 2, (some .boolean))
def mX2_keep : Mt := (yX2_keep, cX2_keep, 2, none)
def mX0_copyFrom : Mt := (yX0_copyFrom, cX0_copyFrom, 3, none)
def mX0_come : Mt := (yX0_come, cX0_come, 4, (some .int))
def mX0_newestLayer : Mt := (yX0_newestLayer, cX0_newestLayer, 1, (some .int))
def mX7_take : Mt := (yX7_take, cX7_take, 3, (some .int))
def mX0_find : Mt := (yX0_find, cX0_find, 3, (some .int))
def mX0_isThere : Mt := (yX0_isThere, cX0_isThere, 2, (some .boolean))
def mX0_goAway : Mt := (yX0_goAway, cX0_goAway, 3, (some .int))
def mX0_layAnew : Mt := (yX0_layAnew, cX0_layAnew, 3, none)
def mX7_move : Mt := (yX7_move, cX7_move, 6, (some .int))
def mX7_scatter : Mt := (yX7_scatter, cX7_scatter, 8, (some .int))
def mX7_draw : Mt := (yX7_draw, cX7_draw, 2, (some .long))
def mX7_leftOver : Mt := (yX7_leftOver, cX7_leftOver, 3, (some .int))
def mX7_sweep : Mt := (yX7_sweep, cX7_sweep, 5, (some .int))
def mX7_isRectangle : Mt := (yX7_isRectangle, cX7_isRectangle, 4, (some .boolean))
def mX7_pickRectangle : Mt := (yX7_pickRectangle, cX7_pickRectangle, 5, none)
def mX6_becomeRectangle : Mt := (yX6_becomeRectangle, cX6_becomeRectangle, 5, none)
def mX6_empty : Mt := (yX6_empty, cX6_empty, 1, none)
def mX6_addRectangle : Mt := (yX6_addRectangle, cX6_addRectangle, 6, none)
def mX6_addStep : Mt := (yX6_addStep, cX6_addStep, 2, none)
def mX4_pickShape : Mt := (yX4_pickShape, cX4_pickShape, 4, none)
def mX6_holds : Mt := (yX6_holds, cX6_holds, 6, (some .boolean))
def mX6_inRectangle : Mt := (yX6_inRectangle, cX6_inRectangle, 5, (some .boolean))
def mX6_join : Mt := (yX6_join, cX6_join, 4, (some .int))
def mX4_add : Mt := (yX4_add, cX4_add, 2, none)
def mX7_takePicked : Mt := (yX7_takePicked, cX7_takePicked, 3, (some .int))
def mX4_sortByPlace : Mt := (yX4_sortByPlace, cX4_sortByPlace, 2, none)
def mX4_sort : Mt := (yX4_sort, cX4_sort, 6, none)
def mX4_isBefore : Mt := (yX4_isBefore, cX4_isBefore, 4, (some .boolean))
def mX0_isBeforeByPlace : Mt := (yX0_isBeforeByPlace, cX0_isBeforeByPlace, 3, (some .boolean))
def mX4_turnToNumbers : Mt := (yX4_turnToNumbers, cX4_turnToNumbers, 3, none)
def mX7_counter : Mt := (yX7_counter, cX7_counter, 3, (some .int))
def mX7_undo : Mt := (yX7_undo, cX7_undo, 1, (some .int))
def mX2_bringBack : Mt := (yX2_bringBack, cX2_bringBack, 2, none)
def mX7_of : Mt := (yX7_of, cX7_of, 4, (some .int))
def mX0_worth : Mt := (yX0_worth, cX0_worth, 2, (some .int))
def mX0_north : Mt := (yX0_north, cX0_north, 2, (some .int))
def mX7_nth : Mt := (yX7_nth, cX7_nth, 2, (some .int))
def mX4_pickAll : Mt := (yX4_pickAll, cX4_pickAll, 3, none)
def mX4_numberOf : Mt := (yX4_numberOf, cX4_numberOf, 3, (some .int))
def mX7_count : Mt := (yX7_count, cX7_count, 5, (some .int))
def mX0_layersThere : Mt := (yX0_layersThere, cX0_layersThere, 1, (some .int))
def mJ6_bitCount_0f7a4 : Mt := (yJ6_bitCount_0f7a4, cJ6_bitCount_0f7a4, 1, (some .int))
def mX4_worthOfAll : Mt := (yX4_worthOfAll, cX4_worthOfAll, 4, (some .int))
def mX7_many : Mt := (yX7_many, cX7_many, 5, (some .int))
def mX7_kth : Mt := (yX7_kth, cX7_kth, 6, (some .int))
def mX7_half : Mt := (yX7_half, cX7_half, 6, (some .int))
def mX7_below : Mt := (yX7_below, cX7_below, 3, (some .int))
def mX7_ring : Mt := (yX7_ring, cX7_ring, 7, (some .int))
def mX0_distance : Mt := (yX0_distance, cX0_distance, 4, (some .int))
def mJ9_abs_0f7a4 : Mt := (yJ9_abs_0f7a4, cJ9_abs_0f7a4, 1, (some .int))
def mJ9_max_7cf53 : Mt := (yJ9_max_7cf53, cJ9_max_7cf53, 2, (some .int))
def mX4_within : Mt := (yX4_within, cX4_within, 7, (some .int))
def mX7_near : Mt := (yX7_near, cX7_near, 7, (some .int))
def mX7_strip : Mt := (yX7_strip, cX7_strip, 7, (some .int))
def mX7_square : Mt := (yX7_square, cX7_square, 10, (some .int))
def mX4_sortByHeight : Mt := (yX4_sortByHeight, cX4_sortByHeight, 2, none)
def mX4_fullestFrom : Mt := (yX4_fullestFrom, cX4_fullestFrom, 11, (some .int))
def mX4_inColumn : Mt := (yX4_inColumn, cX4_inColumn, 6, (some .int))
def mX4_inSquare : Mt := (yX4_inSquare, cX4_inSquare, 9, (some .int))
def mX7_pairs : Mt := (yX7_pairs, cX7_pairs, 4, (some .int))
def mX0_isLess : Mt := (yX0_isLess, cX0_isLess, 3, (some .boolean))
def mX7_stair : Mt := (yX7_stair, cX7_stair, 2, (some .int))
def mX4_pickStairs : Mt := (yX4_pickStairs, cX4_pickStairs, 4, none)
def mX4_tops : Mt := (yX4_tops, cX4_tops, 4, (some .boolean))
def mX0_isTopped : Mt := (yX0_isTopped, cX0_isTopped, 3, (some .boolean))
def mX7_layers : Mt := (yX7_layers, cX7_layers, 2, (some .int))
def mX7_inLayer : Mt := (yX7_inLayer, cX7_inLayer, 8, (some .int))
def mX0_hasInLayer : Mt := (yX0_hasInLayer, cX0_hasInLayer, 9, (some .int))
def mX0_layerStart : Mt := (yX0_layerStart, cX0_layerStart, 2, (some .int))
def mX7_type : Mt := (yX7_type, cX7_type, 2, (some .int))
def mX5_append : Mt := (yX5_append, cX5_append, 2, none)
def mX7_clear : Mt := (yX7_clear, cX7_clear, 2, (some .int))
def mX7_area : Mt := (yX7_area, cX7_area, 2, (some .int))
def mX5_read : Mt := (yX5_read, cX5_read, 1, (some .int))
def mX5_readArea : Mt := (yX5_readArea, cX5_readArea, 4, none)
def mX5_readPart : Mt := (yX5_readPart, cX5_readPart, 3, none)
def mX5_readSpot : Mt := (yX5_readSpot, cX5_readSpot, 3, none)
def mX5_nextSign : Mt := (yX5_nextSign, cX5_nextSign, 1, (some .int))
def mX5_readRectangle : Mt := (yX5_readRectangle, cX5_readRectangle, 5, none)
def mX5_expect : Mt := (yX5_expect, cX5_expect, 2, none)
def mX5_fail : Mt := (yX5_fail, cX5_fail, 2, none)
def mX5_readNumber : Mt := (yX5_readNumber, cX5_readNumber, 7, (some .int))
def mX5_isFigure : Mt := (yX5_isFigure, cX5_isFigure, 1, (some .boolean))
def mX6_copyFrom : Mt := (yX6_copyFrom, cX6_copyFrom, 2, none)
def mX7_inside : Mt := (yX7_inside, cX7_inside, 1, (some .int))
def mX7_covers : Mt := (yX7_covers, cX7_covers, 3, (some .int))
def mX7_found : Mt := (yX7_found, cX7_found, 2, (some .int))
def mX7_mow : Mt := (yX7_mow, cX7_mow, 1, (some .int))
def mX7_odds : Mt := (yX7_odds, cX7_odds, 7, (some .int))
def mX1_becomeOdds : Mt := (yX1_becomeOdds, cX1_becomeOdds, 12, none)
def mX1_power : Mt := (yX1_power, cX1_power, 6, (some .long))
def mX1_divisorOf : Mt := (yX1_divisorOf, cX1_divisorOf, 11, (some .long))
def mX7_part : Mt := (yX7_part, cX7_part, 2, (some .long))
def mX7_image : Mt := (yX7_image, cX7_image, 2, (some .int))
def mX3_keep : Mt := (yX3_keep, cX3_keep, 3, none)
def mX7_from : Mt := (yX7_from, cX7_from, 2, (some .int))
def mX3_bringBack : Mt := (yX3_bringBack, cX3_bringBack, 3, none)
def mX2_forget : Mt := (yX2_forget, cX2_forget, 1, none)
def mX7_status : Mt := (yX7_status, cX7_status, 2, (some .int))
def mX7_size : Mt := (yX7_size, cX7_size, 2, (some .int))
def mX0_weightOfAll : Mt := (yX0_weightOfAll, cX0_weightOfAll, 3, (some .int))
def mX7_digest : Mt := (yX7_digest, cX7_digest, 4, (some .long))
def mX8_init : Mt := (yX8_init, cX8_init, 1, none)
def mX8_put : Mt := (yX8_put, cX8_put, 4, (some .int))
def mX8_isPlace : Mt := (yX8_isPlace, cX8_isPlace, 1, (some .boolean))
def mX8_in : Mt := (yX8_in, cX8_in, 6, (some .boolean))
def mX8_bad : Mt := (yX8_bad, cX8_bad, 1, (some .int))
def mX8_points : Mt := (yX8_points, cX8_points, 1, (some .int))
def mX8_full : Mt := (yX8_full, cX8_full, 1, (some .int))
def mX8_minds : Mt := (yX8_minds, cX8_minds, 2, none)
def mX8_copy : Mt := (yX8_copy, cX8_copy, 4, none)
def mX8_comes : Mt := (yX8_comes, cX8_comes, 5, none)
def mX8_carriedBy : Mt := (yX8_carriedBy, cX8_carriedBy, 3, (some .int))
def mX8_take : Mt := (yX8_take, cX8_take, 4, (some .int))
def mX8_find : Mt := (yX8_find, cX8_find, 3, (some .int))
def mX8_isThere : Mt := (yX8_isThere, cX8_isThere, 2, (some .boolean))
def mX8_goes : Mt := (yX8_goes, cX8_goes, 2, none)
def mX8_laysAnew : Mt := (yX8_laysAnew, cX8_laysAnew, 3, none)
def mX8_move : Mt := (yX8_move, cX8_move, 6, (some .int))
def mX8_scatter : Mt := (yX8_scatter, cX8_scatter, 6, (some .int))
def mX8_draws : Mt := (yX8_draws, cX8_draws, 2, (some .int))
def mX8_sweep : Mt := (yX8_sweep, cX8_sweep, 5, (some .int))
def mX8_isRect : Mt := (yX8_isRect, cX8_isRect, 4, (some .boolean))
def mX8_lines : Mt := (yX8_lines, cX8_lines, 6, none)
def mX8_isIn : Mt := (yX8_isIn, cX8_isIn, 6, (some .boolean))
def mX8_insert : Mt := (yX8_insert, cX8_insert, 3, none)
def mX8_isAhead : Mt := (yX8_isAhead, cX8_isAhead, 4, (some .boolean))
def mX8_takesLine : Mt := (yX8_takesLine, cX8_takesLine, 3, (some .int))
def mX8_counter : Mt := (yX8_counter, cX8_counter, 3, (some .int))
def mX8_undo : Mt := (yX8_undo, cX8_undo, 1, (some .int))
def mX8_no : Mt := (yX8_no, cX8_no, 1, (some .int))
def mX8_of : Mt := (yX8_of, cX8_of, 4, (some .int))
def mX8_ofPoint : Mt := (yX8_ofPoint, cX8_ofPoint, 3, (some .int))
def mX8_counts : Mt := (yX8_counts, cX8_counts, 4, (some .int))
def mX8_nth : Mt := (yX8_nth, cX8_nth, 4, (some .int))
def mX8_count : Mt := (yX8_count, cX8_count, 7, (some .int))
def mX8_bits : Mt := (yX8_bits, cX8_bits, 3, (some .int))
def mX8_many : Mt := (yX8_many, cX8_many, 5, (some .int))
def mX8_manyIn : Mt := (yX8_manyIn, cX8_manyIn, 7, (some .int))
def mX8_kth : Mt := (yX8_kth, cX8_kth, 6, (some .int))
def mX8_half : Mt := (yX8_half, cX8_half, 5, (some .int))
def mX8_below : Mt := (yX8_below, cX8_below, 3, (some .int))
def mX8_ring : Mt := (yX8_ring, cX8_ring, 5, (some .int))
def mX8_near : Mt := (yX8_near, cX8_near, 7, (some .int))
def mX8_apart : Mt := (yX8_apart, cX8_apart, 6, (some .int))
def mX8_abs : Mt := (yX8_abs, cX8_abs, 1, (some .int))
def mX8_strip : Mt := (yX8_strip, cX8_strip, 6, (some .int))
def mX8_square : Mt := (yX8_square, cX8_square, 12, (some .int))
def mX8_pairs : Mt := (yX8_pairs, cX8_pairs, 4, (some .int))
def mX8_stair : Mt := (yX8_stair, cX8_stair, 3, (some .int))
def mX8_isStair : Mt := (yX8_isStair, cX8_isStair, 4, (some .boolean))
def mX8_layers : Mt := (yX8_layers, cX8_layers, 2, (some .int))
def mX8_layersOf : Mt := (yX8_layersOf, cX8_layersOf, 2, (some .int))
def mX8_inLayer : Mt := (yX8_inLayer, cX8_inLayer, 11, (some .int))
def mX8_type : Mt := (yX8_type, cX8_type, 2, (some .int))
def mX8_clear : Mt := (yX8_clear, cX8_clear, 2, (some .int))
def mX8_area : Mt := (yX8_area, cX8_area, 2, (some .int))
def mX8_spot : Mt := (yX8_spot, cX8_spot, 2, (some .int))
def mX8_next : Mt := (yX8_next, cX8_next, 1, (some .int))
def mX8_here : Mt := (yX8_here, cX8_here, 1, (some .int))
def mX8_takesRect : Mt := (yX8_takesRect, cX8_takesRect, 4, (some .boolean))
def mX8_takes : Mt := (yX8_takes, cX8_takes, 3, (some .boolean))
def mX8_takesNumber : Mt := (yX8_takesNumber, cX8_takesNumber, 5, (some .boolean))
def mX8_puts : Mt := (yX8_puts, cX8_puts, 2, none)
def mX8_notes : Mt := (yX8_notes, cX8_notes, 1, none)
def mX8_deep : Mt := (yX8_deep, cX8_deep, 3, (some .int))
def mX8_opens : Mt := (yX8_opens, cX8_opens, 2, none)
def mX8_behind : Mt := (yX8_behind, cX8_behind, 2, (some .int))
def mX8_does : Mt := (yX8_does, cX8_does, 2, none)
def mX8_copyArea : Mt := (yX8_copyArea, cX8_copyArea, 4, none)
def mX8_inside : Mt := (yX8_inside, cX8_inside, 3, (some .int))
def mX8_linesArea : Mt := (yX8_linesArea, cX8_linesArea, 2, none)
def mX8_isCovered : Mt := (yX8_isCovered, cX8_isCovered, 8, (some .boolean))
def mX8_covers : Mt := (yX8_covers, cX8_covers, 3, (some .int))
def mX8_found : Mt := (yX8_found, cX8_found, 2, (some .int))
def mX8_mow : Mt := (yX8_mow, cX8_mow, 1, (some .int))
def mX8_odds : Mt := (yX8_odds, cX8_odds, 18, (some .int))
def mX8_tells : Mt := (yX8_tells, cX8_tells, 11, (some .int))
def mX8_part : Mt := (yX8_part, cX8_part, 2, (some .long))
def mX8_image : Mt := (yX8_image, cX8_image, 2, (some .int))
def mX8_from : Mt := (yX8_from, cX8_from, 2, (some .int))
def mX8_status : Mt := (yX8_status, cX8_status, 2, (some .int))
def mX8_size : Mt := (yX8_size, cX8_size, 2, (some .int))
def mX8_sizeOf : Mt := (yX8_sizeOf, cX8_sizeOf, 2, (some .int))
def mX8_weights : Mt := (yX8_weights, cX8_weights, 3, (some .int))
def mX8_digest : Mt := (yX8_digest, cX8_digest, 3, (some .long))
def mX8_mix : Mt := (yX8_mix, cX8_mix, 3, none)
theorem inGX0 : ∀ w ∈ u_ws RX0 TX0 11, w ∈ lwG := by
  intro w hw
  simp only [u_ws, List.mem_map, List.mem_range] at hw
  obtain ⟨k, hk, rfl⟩ := hw
  match k, hk with
  | 0, _ => exact tG 52 (by decide +kernel) rfl
  | 1, _ => exact tG 54 (by decide +kernel) rfl
  | 2, _ => exact tG 56 (by decide +kernel) rfl
  | 3, _ => exact tG 58 (by decide +kernel) rfl
  | 4, _ => exact tG 60 (by decide +kernel) rfl
  | 5, _ => exact tG 62 (by decide +kernel) rfl
  | 6, _ => exact tG 64 (by decide +kernel) rfl
  | 7, _ => exact tG 66 (by decide +kernel) rfl
  | 8, _ => exact tG 68 (by decide +kernel) rfl
  | 9, _ => exact tG 70 (by decide +kernel) rfl
  | 10, _ => exact tG 72 (by decide +kernel) rfl
  | k + 11, hk => exact absurd hk (by omega)
theorem inGX1 : ∀ w ∈ u_ws RX1 TX1 2, w ∈ lwG := by
  intro w hw
  simp only [u_ws, List.mem_map, List.mem_range] at hw
  obtain ⟨k, hk, rfl⟩ := hw
  match k, hk with
  | 0, _ => exact tG 167 (by decide +kernel) rfl
  | 1, _ => exact tG 169 (by decide +kernel) rfl
  | k + 2, hk => exact absurd hk (by omega)
theorem inGX2 : ∀ w ∈ u_ws RX2 TX2 3, w ∈ lwG := by
  intro w hw
  simp only [u_ws, List.mem_map, List.mem_range] at hw
  obtain ⟨k, hk, rfl⟩ := hw
  match k, hk with
  | 0, _ => exact tG 89 (by decide +kernel) rfl
  | 1, _ => exact tG 91 (by decide +kernel) rfl
  | 2, _ => exact tG 93 (by decide +kernel) rfl
  | k + 3, hk => exact absurd hk (by omega)
theorem inGX3 : ∀ w ∈ u_ws RX3 TX3 3, w ∈ lwG := by
  intro w hw
  simp only [u_ws, List.mem_map, List.mem_range] at hw
  obtain ⟨k, hk, rfl⟩ := hw
  match k, hk with
  | 0, _ => exact tG 187 (by decide +kernel) rfl
  | 1, _ => exact tG 189 (by decide +kernel) rfl
  | 2, _ => exact tG 191 (by decide +kernel) rfl
  | k + 3, hk => exact absurd hk (by omega)
theorem inGX4 : ∀ w ∈ u_ws RX4 TX4 2, w ∈ lwG := by
  intro w hw
  simp only [u_ws, List.mem_map, List.mem_range] at hw
  obtain ⟨k, hk, rfl⟩ := hw
  match k, hk with
  | 0, _ => exact tG 106 (by decide +kernel) rfl
  | 1, _ => exact tG 108 (by decide +kernel) rfl
  | k + 2, hk => exact absurd hk (by omega)
theorem inGX5 : ∀ w ∈ u_ws RX5 TX5 5, w ∈ lwG := by
  intro w hw
  simp only [u_ws, List.mem_map, List.mem_range] at hw
  obtain ⟨k, hk, rfl⟩ := hw
  match k, hk with
  | 0, _ => exact tG 146 (by decide +kernel) rfl
  | 1, _ => exact tG 148 (by decide +kernel) rfl
  | 2, _ => exact tG 150 (by decide +kernel) rfl
  | 3, _ => exact tG 152 (by decide +kernel) rfl
  | 4, _ => exact tG 154 (by decide +kernel) rfl
  | k + 5, hk => exact absurd hk (by omega)
theorem inGX6 : ∀ w ∈ u_ws RX6 TX6 4, w ∈ lwG := by
  intro w hw
  simp only [u_ws, List.mem_map, List.mem_range] at hw
  obtain ⟨k, hk, rfl⟩ := hw
  match k, hk with
  | 0, _ => exact tG 122 (by decide +kernel) rfl
  | 1, _ => exact tG 124 (by decide +kernel) rfl
  | 2, _ => exact tG 126 (by decide +kernel) rfl
  | 3, _ => exact tG 128 (by decide +kernel) rfl
  | k + 4, hk => exact absurd hk (by omega)
theorem inGX7 : ∀ w ∈ u_ws RX7 TX7 13, w ∈ lwG := by
  intro w hw
  simp only [u_ws, List.mem_map, List.mem_range] at hw
  obtain ⟨k, hk, rfl⟩ := hw
  match k, hk with
  | 0, _ => exact tG 207 (by decide +kernel) rfl
  | 1, _ => exact tG 209 (by decide +kernel) rfl
  | 2, _ => exact tG 211 (by decide +kernel) rfl
  | 3, _ => exact tG 213 (by decide +kernel) rfl
  | 4, _ => exact tG 215 (by decide +kernel) rfl
  | 5, _ => exact tG 217 (by decide +kernel) rfl
  | 6, _ => exact tG 219 (by decide +kernel) rfl
  | 7, _ => exact tG 221 (by decide +kernel) rfl
  | 8, _ => exact tG 223 (by decide +kernel) rfl
  | 9, _ => exact tG 225 (by decide +kernel) rfl
  | 10, _ => exact tG 227 (by decide +kernel) rfl
  | 11, _ => exact tG 229 (by decide +kernel) rfl
  | 12, _ => exact tG 231 (by decide +kernel) rfl
  | k + 13, hk => exact absurd hk (by omega)
theorem inGX8 : ∀ w ∈ u_ws RX8 TX8 20, w ∈ lwG := by
  intro w hw
  simp only [u_ws, List.mem_map, List.mem_range] at hw
  obtain ⟨k, hk, rfl⟩ := hw
  match k, hk with
  | 0, _ => exact tG 719 (by decide +kernel) rfl
  | 1, _ => exact tG 721 (by decide +kernel) rfl
  | 2, _ => exact tG 723 (by decide +kernel) rfl
  | 3, _ => exact tG 725 (by decide +kernel) rfl
  | 4, _ => exact tG 727 (by decide +kernel) rfl
  | 5, _ => exact tG 729 (by decide +kernel) rfl
  | 6, _ => exact tG 731 (by decide +kernel) rfl
  | 7, _ => exact tG 733 (by decide +kernel) rfl
  | 8, _ => exact tG 735 (by decide +kernel) rfl
  | 9, _ => exact tG 737 (by decide +kernel) rfl
  | 10, _ => exact tG 739 (by decide +kernel) rfl
  | 11, _ => exact tG 741 (by decide +kernel) rfl
  | 12, _ => exact tG 743 (by decide +kernel) rfl
  | 13, _ => exact tG 745 (by decide +kernel) rfl
  | 14, _ => exact tG 747 (by decide +kernel) rfl
  | 15, _ => exact tG 749 (by decide +kernel) rfl
  | 16, _ => exact tG 751 (by decide +kernel) rfl
  | 17, _ => exact tG 753 (by decide +kernel) rfl
  | 18, _ => exact tG 755 (by decide +kernel) rfl
  | 19, _ => exact tG 757 (by decide +kernel) rfl
  | k + 20, hk => exact absurd hk (by omega)
theorem lfX0_11 : LkF RX0 11 0 0 true (.array .int) := ⟨RX0, TX0, 11, tyX0, rfl, by decide, rfl, inGX0, tyX0_ok, nmX0, Or.inl (tG 27 (by decide +kernel) rfl), rfl, rfl⟩
theorem lfX4_62 : LkF RX4 62 0 0 true (.array .int) := ⟨RX0, TX0, 11, tyX0, rfl, by decide, rfl, inGX0, tyX0_ok, nmX0, Or.inr ⟨"PointLayers", tN 28 (by decide +kernel) rfl⟩, rfl, rfl⟩
theorem lfX7_174 : LkF RX7 174 0 0 true (.array .int) := ⟨RX0, TX0, 11, tyX0, rfl, by decide, rfl, inGX0, tyX0_ok, nmX0, Or.inr ⟨"PointLayers", tN 29 (by decide +kernel) rfl⟩, rfl, rfl⟩
theorem lfX0_15 : LkF RX0 15 0 1 true (.array .int) := ⟨RX0, TX0, 11, tyX0, rfl, by decide, rfl, inGX0, tyX0_ok, nmX0, Or.inl (tG 30 (by decide +kernel) rfl), rfl, rfl⟩
theorem lfX4_32 : LkF RX4 32 0 1 true (.array .int) := ⟨RX0, TX0, 11, tyX0, rfl, by decide, rfl, inGX0, tyX0_ok, nmX0, Or.inr ⟨"PointLayers", tN 31 (by decide +kernel) rfl⟩, rfl, rfl⟩
theorem lfX7_127 : LkF RX7 127 0 1 true (.array .int) := ⟨RX0, TX0, 11, tyX0, rfl, by decide, rfl, inGX0, tyX0_ok, nmX0, Or.inr ⟨"PointLayers", tN 32 (by decide +kernel) rfl⟩, rfl, rfl⟩
theorem lfX0_18 : LkF RX0 18 0 2 true (.array .int) := ⟨RX0, TX0, 11, tyX0, rfl, by decide, rfl, inGX0, tyX0_ok, nmX0, Or.inl (tG 33 (by decide +kernel) rfl), rfl, rfl⟩
theorem lfX4_35 : LkF RX4 35 0 2 true (.array .int) := ⟨RX0, TX0, 11, tyX0, rfl, by decide, rfl, inGX0, tyX0_ok, nmX0, Or.inr ⟨"PointLayers", tN 34 (by decide +kernel) rfl⟩, rfl, rfl⟩
theorem lfX7_131 : LkF RX7 131 0 2 true (.array .int) := ⟨RX0, TX0, 11, tyX0, rfl, by decide, rfl, inGX0, tyX0_ok, nmX0, Or.inr ⟨"PointLayers", tN 35 (by decide +kernel) rfl⟩, rfl, rfl⟩
theorem lfX0_21 : LkF RX0 21 0 3 true (.array .int) := ⟨RX0, TX0, 11, tyX0, rfl, by decide, rfl, inGX0, tyX0_ok, nmX0, Or.inl (tG 36 (by decide +kernel) rfl), rfl, rfl⟩
theorem lfX7_134 : LkF RX7 134 0 3 true (.array .int) := ⟨RX0, TX0, 11, tyX0, rfl, by decide, rfl, inGX0, tyX0_ok, nmX0, Or.inr ⟨"PointLayers", tN 37 (by decide +kernel) rfl⟩, rfl, rfl⟩
theorem lfX0_24 : LkF RX0 24 0 4 true (.array .int) := ⟨RX0, TX0, 11, tyX0, rfl, by decide, rfl, inGX0, tyX0_ok, nmX0, Or.inl (tG 38 (by decide +kernel) rfl), rfl, rfl⟩
theorem lfX0_27 : LkF RX0 27 0 5 false .int := ⟨RX0, TX0, 11, tyX0, rfl, by decide, rfl, inGX0, tyX0_ok, nmX0, Or.inl (tG 39 (by decide +kernel) rfl), rfl, rfl⟩
theorem lfX4_19 : LkF RX4 19 0 5 false .int := ⟨RX0, TX0, 11, tyX0, rfl, by decide, rfl, inGX0, tyX0_ok, nmX0, Or.inr ⟨"PointLayers", tN 40 (by decide +kernel) rfl⟩, rfl, rfl⟩
theorem lfX7_194 : LkF RX7 194 0 5 false .int := ⟨RX0, TX0, 11, tyX0, rfl, by decide, rfl, inGX0, tyX0_ok, nmX0, Or.inr ⟨"PointLayers", tN 41 (by decide +kernel) rfl⟩, rfl, rfl⟩
theorem lfX0_31 : LkF RX0 31 0 6 false .int := ⟨RX0, TX0, 11, tyX0, rfl, by decide, rfl, inGX0, tyX0_ok, nmX0, Or.inl (tG 42 (by decide +kernel) rfl), rfl, rfl⟩
theorem lfX7_197 : LkF RX7 197 0 6 false .int := ⟨RX0, TX0, 11, tyX0, rfl, by decide, rfl, inGX0, tyX0_ok, nmX0, Or.inr ⟨"PointLayers", tN 43 (by decide +kernel) rfl⟩, rfl, rfl⟩
theorem lfX0_48 : LkF RX0 48 0 7 false .int := ⟨RX0, TX0, 11, tyX0, rfl, by decide, rfl, inGX0, tyX0_ok, nmX0, Or.inl (tG 44 (by decide +kernel) rfl), rfl, rfl⟩
theorem lfX7_200 : LkF RX7 200 0 7 false .int := ⟨RX0, TX0, 11, tyX0, rfl, by decide, rfl, inGX0, tyX0_ok, nmX0, Or.inr ⟨"PointLayers", tN 45 (by decide +kernel) rfl⟩, rfl, rfl⟩
theorem lfX0_62 : LkF RX0 62 0 8 false .int := ⟨RX0, TX0, 11, tyX0, rfl, by decide, rfl, inGX0, tyX0_ok, nmX0, Or.inl (tG 46 (by decide +kernel) rfl), rfl, rfl⟩
theorem lfX7_203 : LkF RX7 203 0 8 false .int := ⟨RX0, TX0, 11, tyX0, rfl, by decide, rfl, inGX0, tyX0_ok, nmX0, Or.inr ⟨"PointLayers", tN 47 (by decide +kernel) rfl⟩, rfl, rfl⟩
theorem lfX7_116 : LkF RX7 116 0 9 false .int := ⟨RX0, TX0, 11, tyX0, rfl, by decide, rfl, inGX0, tyX0_ok, nmX0, Or.inr ⟨"PointLayers", tN 48 (by decide +kernel) rfl⟩, rfl, rfl⟩
theorem lfX0_65 : LkF RX0 65 0 9 false .int := ⟨RX0, TX0, 11, tyX0, rfl, by decide, rfl, inGX0, tyX0_ok, nmX0, Or.inl (tG 49 (by decide +kernel) rfl), rfl, rfl⟩
theorem lfX0_34 : LkF RX0 34 0 10 false .int := ⟨RX0, TX0, 11, tyX0, rfl, by decide, rfl, inGX0, tyX0_ok, nmX0, Or.inl (tG 50 (by decide +kernel) rfl), rfl, rfl⟩
theorem lfX7_276 : LkF RX7 276 0 10 false .int := ⟨RX0, TX0, 11, tyX0, rfl, by decide, rfl, inGX0, tyX0_ok, nmX0, Or.inr ⟨"PointLayers", tN 51 (by decide +kernel) rfl⟩, rfl, rfl⟩
theorem lfX2_11 : LkF RX2 11 2 0 true (.array (.object "PointLayers$Field")) := ⟨RX2, TX2, 3, tyX2, rfl, by decide, rfl, inGX2, tyX2_ok, nmX2, Or.inl (tG 85 (by decide +kernel) rfl), rfl, rfl⟩
theorem lfX2_18 : LkF RX2 18 2 1 false .int := ⟨RX2, TX2, 3, tyX2, rfl, by decide, rfl, inGX2, tyX2_ok, nmX2, Or.inl (tG 86 (by decide +kernel) rfl), rfl, rfl⟩
theorem lfX2_22 : LkF RX2 22 2 2 false .int := ⟨RX2, TX2, 3, tyX2, rfl, by decide, rfl, inGX2, tyX2_ok, nmX2, Or.inl (tG 87 (by decide +kernel) rfl), rfl, rfl⟩
theorem lfX7_120 : LkF RX7 120 2 2 false .int := ⟨RX2, TX2, 3, tyX2, rfl, by decide, rfl, inGX2, tyX2_ok, nmX2, Or.inr ⟨"PointLayers", tN 88 (by decide +kernel) rfl⟩, rfl, rfl⟩
theorem lfX4_9 : LkF RX4 9 4 0 true (.array .int) := ⟨RX4, TX4, 2, tyX4, rfl, by decide, rfl, inGX4, tyX4_ok, nmX4, Or.inl (tG 102 (by decide +kernel) rfl), rfl, rfl⟩
theorem lfX7_164 : LkF RX7 164 4 0 true (.array .int) := ⟨RX4, TX4, 2, tyX4, rfl, by decide, rfl, inGX4, tyX4_ok, nmX4, Or.inr ⟨"PointLayers", tN 103 (by decide +kernel) rfl⟩, rfl, rfl⟩
theorem lfX4_15 : LkF RX4 15 4 1 false .int := ⟨RX4, TX4, 2, tyX4, rfl, by decide, rfl, inGX4, tyX4_ok, nmX4, Or.inl (tG 104 (by decide +kernel) rfl), rfl, rfl⟩
theorem lfX7_157 : LkF RX7 157 4 1 false .int := ⟨RX4, TX4, 2, tyX4, rfl, by decide, rfl, inGX4, tyX4_ok, nmX4, Or.inr ⟨"PointLayers", tN 105 (by decide +kernel) rfl⟩, rfl, rfl⟩
theorem lfX6_9 : LkF RX6 9 6 0 true (.array .int) := ⟨RX6, TX6, 4, tyX6, rfl, by decide, rfl, inGX6, tyX6_ok, nmX6, Or.inl (tG 117 (by decide +kernel) rfl), rfl, rfl⟩
theorem lfX6_15 : LkF RX6 15 6 1 true (.array .int) := ⟨RX6, TX6, 4, tyX6, rfl, by decide, rfl, inGX6, tyX6_ok, nmX6, Or.inl (tG 118 (by decide +kernel) rfl), rfl, rfl⟩
theorem lfX6_18 : LkF RX6 18 6 2 false .int := ⟨RX6, TX6, 4, tyX6, rfl, by decide, rfl, inGX6, tyX6_ok, nmX6, Or.inl (tG 119 (by decide +kernel) rfl), rfl, rfl⟩
theorem lfX6_22 : LkF RX6 22 6 3 false .int := ⟨RX6, TX6, 4, tyX6, rfl, by decide, rfl, inGX6, tyX6_ok, nmX6, Or.inl (tG 120 (by decide +kernel) rfl), rfl, rfl⟩
theorem lfX7_235 : LkF RX7 235 6 3 false .int := ⟨RX6, TX6, 4, tyX6, rfl, by decide, rfl, inGX6, tyX6_ok, nmX6, Or.inr ⟨"PointLayers", tN 121 (by decide +kernel) rfl⟩, rfl, rfl⟩
theorem lfX5_9 : LkF RX5 9 5 0 true (.array .int) := ⟨RX5, TX5, 5, tyX5, rfl, by decide, rfl, inGX5, tyX5_ok, nmX5, Or.inl (tG 139 (by decide +kernel) rfl), rfl, rfl⟩
theorem lfX5_18 : LkF RX5 18 5 1 true (.object "PointLayers$Shape") := ⟨RX5, TX5, 5, tyX5, rfl, by decide, rfl, inGX5, tyX5_ok, nmX5, Or.inl (tG 140 (by decide +kernel) rfl), rfl, rfl⟩
theorem lfX7_228 : LkF RX7 228 5 1 true (.object "PointLayers$Shape") := ⟨RX5, TX5, 5, tyX5, rfl, by decide, rfl, inGX5, tyX5_ok, nmX5, Or.inr ⟨"PointLayers", tN 141 (by decide +kernel) rfl⟩, rfl, rfl⟩
theorem lfX5_22 : LkF RX5 22 5 2 false .int := ⟨RX5, TX5, 5, tyX5, rfl, by decide, rfl, inGX5, tyX5_ok, nmX5, Or.inl (tG 142 (by decide +kernel) rfl), rfl, rfl⟩
theorem lfX7_218 : LkF RX7 218 5 2 false .int := ⟨RX5, TX5, 5, tyX5, rfl, by decide, rfl, inGX5, tyX5_ok, nmX5, Or.inr ⟨"PointLayers", tN 143 (by decide +kernel) rfl⟩, rfl, rfl⟩
theorem lfX5_26 : LkF RX5 26 5 3 false .int := ⟨RX5, TX5, 5, tyX5, rfl, by decide, rfl, inGX5, tyX5_ok, nmX5, Or.inl (tG 144 (by decide +kernel) rfl), rfl, rfl⟩
theorem lfX5_29 : LkF RX5 29 5 4 false .int := ⟨RX5, TX5, 5, tyX5, rfl, by decide, rfl, inGX5, tyX5_ok, nmX5, Or.inl (tG 145 (by decide +kernel) rfl), rfl, rfl⟩
theorem lfX1_9 : LkF RX1 9 1 0 false .long := ⟨RX1, TX1, 2, tyX1, rfl, by decide, rfl, inGX1, tyX1_ok, nmX1, Or.inl (tG 163 (by decide +kernel) rfl), rfl, rfl⟩
theorem lfX7_249 : LkF RX7 249 1 0 false .long := ⟨RX1, TX1, 2, tyX1, rfl, by decide, rfl, inGX1, tyX1_ok, nmX1, Or.inr ⟨"PointLayers", tN 164 (by decide +kernel) rfl⟩, rfl, rfl⟩
theorem lfX1_15 : LkF RX1 15 1 1 false .long := ⟨RX1, TX1, 2, tyX1, rfl, by decide, rfl, inGX1, tyX1_ok, nmX1, Or.inl (tG 165 (by decide +kernel) rfl), rfl, rfl⟩
theorem lfX7_253 : LkF RX7 253 1 1 false .long := ⟨RX1, TX1, 2, tyX1, rfl, by decide, rfl, inGX1, tyX1_ok, nmX1, Or.inr ⟨"PointLayers", tN 166 (by decide +kernel) rfl⟩, rfl, rfl⟩
theorem lfX3_10 : LkF RX3 10 3 0 true (.object "PointLayers$Field") := ⟨RX3, TX3, 3, tyX3, rfl, by decide, rfl, inGX3, tyX3_ok, nmX3, Or.inl (tG 183 (by decide +kernel) rfl), rfl, rfl⟩
theorem lfX3_19 : LkF RX3 19 3 1 true (.object "PointLayers$Shape") := ⟨RX3, TX3, 3, tyX3, rfl, by decide, rfl, inGX3, tyX3_ok, nmX3, Or.inl (tG 184 (by decide +kernel) rfl), rfl, rfl⟩
theorem lfX3_30 : LkF RX3 30 3 2 false .boolean := ⟨RX3, TX3, 3, tyX3, rfl, by decide, rfl, inGX3, tyX3_ok, nmX3, Or.inl (tG 185 (by decide +kernel) rfl), rfl, rfl⟩
theorem lfX7_258 : LkF RX7 258 3 2 false .boolean := ⟨RX3, TX3, 3, tyX3, rfl, by decide, rfl, inGX3, tyX3_ok, nmX3, Or.inr ⟨"PointLayers", tN 186 (by decide +kernel) rfl⟩, rfl, rfl⟩
theorem lfX7_10 : LkF RX7 10 7 0 true (.object "PointLayers$Field") := ⟨RX7, TX7, 13, tyX7, rfl, by decide, rfl, inGX7, tyX7_ok, nmX7, Or.inl (tG 194 (by decide +kernel) rfl), rfl, rfl⟩
theorem lfX7_19 : LkF RX7 19 7 1 true (.object "PointLayers$History") := ⟨RX7, TX7, 13, tyX7, rfl, by decide, rfl, inGX7, tyX7_ok, nmX7, Or.inl (tG 195 (by decide +kernel) rfl), rfl, rfl⟩
theorem lfX7_26 : LkF RX7 26 7 2 true (.object "PointLayers$Picks") := ⟨RX7, TX7, 13, tyX7, rfl, by decide, rfl, inGX7, tyX7_ok, nmX7, Or.inl (tG 196 (by decide +kernel) rfl), rfl, rfl⟩
theorem lfX7_30 : LkF RX7 30 7 3 true (.object "PointLayers$Picks") := ⟨RX7, TX7, 13, tyX7, rfl, by decide, rfl, inGX7, tyX7_ok, nmX7, Or.inl (tG 197 (by decide +kernel) rfl), rfl, rfl⟩
theorem lfX7_36 : LkF RX7 36 7 4 true (.object "PointLayers$Shape") := ⟨RX7, TX7, 13, tyX7, rfl, by decide, rfl, inGX7, tyX7_ok, nmX7, Or.inl (tG 198 (by decide +kernel) rfl), rfl, rfl⟩
theorem lfX7_40 : LkF RX7 40 7 5 true (.object "PointLayers$Shape") := ⟨RX7, TX7, 13, tyX7, rfl, by decide, rfl, inGX7, tyX7_ok, nmX7, Or.inl (tG 199 (by decide +kernel) rfl), rfl, rfl⟩
theorem lfX7_46 : LkF RX7 46 7 6 true (.object "PointLayers$Reader") := ⟨RX7, TX7, 13, tyX7, rfl, by decide, rfl, inGX7, tyX7_ok, nmX7, Or.inl (tG 200 (by decide +kernel) rfl), rfl, rfl⟩
theorem lfX7_53 : LkF RX7 53 7 7 true (.object "PointLayers$Fraction") := ⟨RX7, TX7, 13, tyX7, rfl, by decide, rfl, inGX7, tyX7_ok, nmX7, Or.inl (tG 201 (by decide +kernel) rfl), rfl, rfl⟩
theorem lfX7_59 : LkF RX7 59 7 8 true (.array (.object "PointLayers$Image")) := ⟨RX7, TX7, 13, tyX7, rfl, by decide, rfl, inGX7, tyX7_ok, nmX7, Or.inl (tG 202 (by decide +kernel) rfl), rfl, rfl⟩
theorem lfX7_147 : LkF RX7 147 7 9 false .int := ⟨RX7, TX7, 13, tyX7, rfl, by decide, rfl, inGX7, tyX7_ok, nmX7, Or.inl (tG 203 (by decide +kernel) rfl), rfl, rfl⟩
theorem lfX7_267 : LkF RX7 267 7 10 false .int := ⟨RX7, TX7, 13, tyX7, rfl, by decide, rfl, inGX7, tyX7_ok, nmX7, Or.inl (tG 204 (by decide +kernel) rfl), rfl, rfl⟩
theorem lfX7_270 : LkF RX7 270 7 11 false .int := ⟨RX7, TX7, 13, tyX7, rfl, by decide, rfl, inGX7, tyX7_ok, nmX7, Or.inl (tG 205 (by decide +kernel) rfl), rfl, rfl⟩
theorem lfX7_273 : LkF RX7 273 7 12 false .int := ⟨RX7, TX7, 13, tyX7, rfl, by decide, rfl, inGX7, tyX7_ok, nmX7, Or.inl (tG 206 (by decide +kernel) rfl), rfl, rfl⟩
theorem lfX8_7 : LkF RX8 7 8 0 true (.array .int) := ⟨RX8, TX8, 20, tyX8, rfl, by decide, rfl, inGX8, tyX8_ok, nmX8, Or.inl (tG 699 (by decide +kernel) rfl), rfl, rfl⟩
theorem lfX8_13 : LkF RX8 13 8 1 true (.array .int) := ⟨RX8, TX8, 20, tyX8, rfl, by decide, rfl, inGX8, tyX8_ok, nmX8, Or.inl (tG 700 (by decide +kernel) rfl), rfl, rfl⟩
theorem lfX8_60 : LkF RX8 60 8 2 false .int := ⟨RX8, TX8, 20, tyX8, rfl, by decide, rfl, inGX8, tyX8_ok, nmX8, Or.inl (tG 701 (by decide +kernel) rfl), rfl, rfl⟩
theorem lfX8_153 : LkF RX8 153 8 3 false .int := ⟨RX8, TX8, 20, tyX8, rfl, by decide, rfl, inGX8, tyX8_ok, nmX8, Or.inl (tG 702 (by decide +kernel) rfl), rfl, rfl⟩
theorem lfX8_16 : LkF RX8 16 8 4 true (.array .boolean) := ⟨RX8, TX8, 20, tyX8, rfl, by decide, rfl, inGX8, tyX8_ok, nmX8, Or.inl (tG 703 (by decide +kernel) rfl), rfl, rfl⟩
theorem lfX8_20 : LkF RX8 20 8 5 true (.array .int) := ⟨RX8, TX8, 20, tyX8, rfl, by decide, rfl, inGX8, tyX8_ok, nmX8, Or.inl (tG 704 (by decide +kernel) rfl), rfl, rfl⟩
theorem lfX8_188 : LkF RX8 188 8 6 false .int := ⟨RX8, TX8, 20, tyX8, rfl, by decide, rfl, inGX8, tyX8_ok, nmX8, Or.inl (tG 705 (by decide +kernel) rfl), rfl, rfl⟩
theorem lfX8_23 : LkF RX8 23 8 7 false .long := ⟨RX8, TX8, 20, tyX8, rfl, by decide, rfl, inGX8, tyX8_ok, nmX8, Or.inl (tG 706 (by decide +kernel) rfl), rfl, rfl⟩
theorem lfX8_27 : LkF RX8 27 8 8 false .long := ⟨RX8, TX8, 20, tyX8, rfl, by decide, rfl, inGX8, tyX8_ok, nmX8, Or.inl (tG 707 (by decide +kernel) rfl), rfl, rfl⟩
theorem lfX8_30 : LkF RX8 30 8 9 true (.array .int) := ⟨RX8, TX8, 20, tyX8, rfl, by decide, rfl, inGX8, tyX8_ok, nmX8, Or.inl (tG 708 (by decide +kernel) rfl), rfl, rfl⟩
theorem lfX8_101 : LkF RX8 101 8 10 false .int := ⟨RX8, TX8, 20, tyX8, rfl, by decide, rfl, inGX8, tyX8_ok, nmX8, Or.inl (tG 709 (by decide +kernel) rfl), rfl, rfl⟩
theorem lfX8_33 : LkF RX8 33 8 11 true (.array .int) := ⟨RX8, TX8, 20, tyX8, rfl, by decide, rfl, inGX8, tyX8_ok, nmX8, Or.inl (tG 710 (by decide +kernel) rfl), rfl, rfl⟩
theorem lfX8_113 : LkF RX8 113 8 12 false .int := ⟨RX8, TX8, 20, tyX8, rfl, by decide, rfl, inGX8, tyX8_ok, nmX8, Or.inl (tG 711 (by decide +kernel) rfl), rfl, rfl⟩
theorem lfX8_191 : LkF RX8 191 8 13 false .int := ⟨RX8, TX8, 20, tyX8, rfl, by decide, rfl, inGX8, tyX8_ok, nmX8, Or.inl (tG 712 (by decide +kernel) rfl), rfl, rfl⟩
theorem lfX8_197 : LkF RX8 197 8 14 false .int := ⟨RX8, TX8, 20, tyX8, rfl, by decide, rfl, inGX8, tyX8_ok, nmX8, Or.inl (tG 713 (by decide +kernel) rfl), rfl, rfl⟩
theorem lfX8_36 : LkF RX8 36 8 15 true (.array .int) := ⟨RX8, TX8, 20, tyX8, rfl, by decide, rfl, inGX8, tyX8_ok, nmX8, Or.inl (tG 714 (by decide +kernel) rfl), rfl, rfl⟩
theorem lfX8_219 : LkF RX8 219 8 16 false .int := ⟨RX8, TX8, 20, tyX8, rfl, by decide, rfl, inGX8, tyX8_ok, nmX8, Or.inl (tG 715 (by decide +kernel) rfl), rfl, rfl⟩
theorem lfX8_203 : LkF RX8 203 8 17 false .int := ⟨RX8, TX8, 20, tyX8, rfl, by decide, rfl, inGX8, tyX8_ok, nmX8, Or.inl (tG 716 (by decide +kernel) rfl), rfl, rfl⟩
theorem lfX8_39 : LkF RX8 39 8 18 true (.array .boolean) := ⟨RX8, TX8, 20, tyX8, rfl, by decide, rfl, inGX8, tyX8_ok, nmX8, Or.inl (tG 717 (by decide +kernel) rfl), rfl, rfl⟩
theorem lfX8_274 : LkF RX8 274 8 19 false .long := ⟨RX8, TX8, 20, tyX8, rfl, by decide, rfl, inGX8, tyX8_ok, nmX8, Or.inl (tG 718 (by decide +kernel) rfl), rfl, rfl⟩
theorem lmL_13 : LkV RL 13 mX7_put 7 3 := ⟨RX7, TX7, 13, rfl, rfl, tG 234 (by decide +kernel) rfl, tG 235 (by decide +kernel) rfl, tG 236 (by decide +kernel) rfl, tG 1 (by decide +kernel) rfl, tG 237 (by decide +kernel) rfl, by decide, ⟨by decide, by decide, by decide⟩, by decide⟩
theorem lmX7_64 : LkS RX7 64 mX7_isPlace 2 := ⟨tG 238 (by decide +kernel) rfl, tG 239 (by decide +kernel) rfl, tG 1 (by decide +kernel) rfl, tG 240 (by decide +kernel) rfl, by decide, ⟨by decide, by decide, by decide⟩, by decide⟩
theorem lmX7_298 : LkS RX7 298 mX7_isOnAxis 1 := ⟨tG 241 (by decide +kernel) rfl, tG 242 (by decide +kernel) rfl, tG 1 (by decide +kernel) rfl, tG 243 (by decide +kernel) rfl, by decide, ⟨by decide, by decide, by decide⟩, by decide⟩
theorem lmX7_69 : LkV RX7 69 mX7_refuse 7 1 := ⟨RX7, TX7, 13, rfl, rfl, tG 245 (by decide +kernel) rfl, tG 247 (by decide +kernel) rfl, tS 0 (by decide +kernel) rfl, tG 1 (by decide +kernel) rfl, tG 248 (by decide +kernel) rfl, by decide, ⟨by decide, by decide, by decide⟩, by decide⟩
theorem lmX7_73 : LkV RX7 73 mX0_there 0 0 := ⟨RX0, TX0, 11, rfl, rfl, tG 250 (by decide +kernel) rfl, tG 251 (by decide +kernel) rfl, tG 252 (by decide +kernel) rfl, tG 2 (by decide +kernel) rfl, tG 253 (by decide +kernel) rfl, by decide, ⟨by decide, by decide, by decide⟩, by decide⟩
theorem lmX7_77 : LkV RX7 77 mX0_hasNumbers 0 1 := ⟨RX0, TX0, 11, rfl, rfl, tG 254 (by decide +kernel) rfl, tG 255 (by decide +kernel) rfl, tG 256 (by decide +kernel) rfl, tG 2 (by decide +kernel) rfl, tG 257 (by decide +kernel) rfl, by decide, ⟨by decide, by decide, by decide⟩, by decide⟩
theorem lmX7_82 : LkV RX7 82 mX2_keep 2 1 := ⟨RX2, TX2, 3, rfl, rfl, tG 259 (by decide +kernel) rfl, tG 260 (by decide +kernel) rfl, tG 261 (by decide +kernel) rfl, tG 3 (by decide +kernel) rfl, tG 262 (by decide +kernel) rfl, by decide, ⟨by decide, by decide, by decide⟩, by decide⟩
theorem lmX2_25 : LkV RX2 25 mX0_copyFrom 0 1 := ⟨RX0, TX0, 11, rfl, rfl, tG 263 (by decide +kernel) rfl, tG 264 (by decide +kernel) rfl, tG 265 (by decide +kernel) rfl, tG 2 (by decide +kernel) rfl, tG 266 (by decide +kernel) rfl, by decide, ⟨by decide, by decide, by decide⟩, by decide⟩
theorem lmX7_86 : LkV RX7 86 mX0_come 0 3 := ⟨RX0, TX0, 11, rfl, rfl, tG 270 (by decide +kernel) rfl, tG 271 (by decide +kernel) rfl, tG 272 (by decide +kernel) rfl, tG 2 (by decide +kernel) rfl, tG 273 (by decide +kernel) rfl, by decide, ⟨by decide, by decide, by decide⟩, by decide⟩
theorem lmX0_51 : LkS RX0 51 mX0_newestLayer 1 := ⟨tG 275 (by decide +kernel) rfl, tG 276 (by decide +kernel) rfl, tG 2 (by decide +kernel) rfl, tG 277 (by decide +kernel) rfl, by decide, ⟨by decide, by decide, by decide⟩, by decide⟩
theorem lmL_18 : LkV RL 18 mX7_take 7 1 := ⟨RX7, TX7, 13, rfl, rfl, tG 278 (by decide +kernel) rfl, tG 279 (by decide +kernel) rfl, tG 280 (by decide +kernel) rfl, tG 1 (by decide +kernel) rfl, tG 281 (by decide +kernel) rfl, by decide, ⟨by decide, by decide, by decide⟩, by decide⟩
theorem lmX7_90 : LkV RX7 90 mX0_find 0 1 := ⟨RX0, TX0, 11, rfl, rfl, tG 282 (by decide +kernel) rfl, tG 283 (by decide +kernel) rfl, tG 284 (by decide +kernel) rfl, tG 2 (by decide +kernel) rfl, tG 285 (by decide +kernel) rfl, by decide, ⟨by decide, by decide, by decide⟩, by decide⟩
theorem lmX0_43 : LkV RX0 43 mX0_isThere 0 1 := ⟨RX0, TX0, 11, rfl, rfl, tG 286 (by decide +kernel) rfl, tG 287 (by decide +kernel) rfl, tG 288 (by decide +kernel) rfl, tG 2 (by decide +kernel) rfl, tG 289 (by decide +kernel) rfl, by decide, ⟨by decide, by decide, by decide⟩, by decide⟩
theorem lmX7_93 : LkV RX7 93 mX0_goAway 0 1 := ⟨RX0, TX0, 11, rfl, rfl, tG 290 (by decide +kernel) rfl, tG 291 (by decide +kernel) rfl, tG 292 (by decide +kernel) rfl, tG 2 (by decide +kernel) rfl, tG 293 (by decide +kernel) rfl, by decide, ⟨by decide, by decide, by decide⟩, by decide⟩
theorem lmX0_55 : LkV RX0 55 mX0_there 0 0 := ⟨RX0, TX0, 11, rfl, rfl, tG 295 (by decide +kernel) rfl, tG 251 (by decide +kernel) rfl, tG 252 (by decide +kernel) rfl, tG 2 (by decide +kernel) rfl, tG 253 (by decide +kernel) rfl, by decide, ⟨by decide, by decide, by decide⟩, by decide⟩
theorem lmX0_59 : LkV RX0 59 mX0_layAnew 0 0 := ⟨RX0, TX0, 11, rfl, rfl, tG 296 (by decide +kernel) rfl, tG 298 (by decide +kernel) rfl, tS 1 (by decide +kernel) rfl, tG 2 (by decide +kernel) rfl, tG 299 (by decide +kernel) rfl, by decide, ⟨by decide, by decide, by decide⟩, by decide⟩
theorem lmL_23 : LkV RL 23 mX7_move 7 3 := ⟨RX7, TX7, 13, rfl, rfl, tG 300 (by decide +kernel) rfl, tG 301 (by decide +kernel) rfl, tG 302 (by decide +kernel) rfl, tG 1 (by decide +kernel) rfl, tG 303 (by decide +kernel) rfl, by decide, ⟨by decide, by decide, by decide⟩, by decide⟩
theorem lmL_27 : LkV RL 27 mX7_scatter 7 2 := ⟨RX7, TX7, 13, rfl, rfl, tG 304 (by decide +kernel) rfl, tG 305 (by decide +kernel) rfl, tG 306 (by decide +kernel) rfl, tG 1 (by decide +kernel) rfl, tG 307 (by decide +kernel) rfl, by decide, ⟨by decide, by decide, by decide⟩, by decide⟩
theorem lmX7_97 : LkS RX7 97 mX7_draw 1 := ⟨tG 309 (by decide +kernel) rfl, tG 310 (by decide +kernel) rfl, tG 1 (by decide +kernel) rfl, tG 311 (by decide +kernel) rfl, by decide, ⟨by decide, by decide, by decide⟩, by decide⟩
theorem lmX7_101 : LkS RX7 101 mX7_leftOver 2 := ⟨tG 315 (by decide +kernel) rfl, tG 316 (by decide +kernel) rfl, tG 1 (by decide +kernel) rfl, tG 317 (by decide +kernel) rfl, by decide, ⟨by decide, by decide, by decide⟩, by decide⟩
theorem lmL_32 : LkV RL 32 mX7_sweep 7 4 := ⟨RX7, TX7, 13, rfl, rfl, tG 319 (by decide +kernel) rfl, tG 320 (by decide +kernel) rfl, tG 321 (by decide +kernel) rfl, tG 1 (by decide +kernel) rfl, tG 322 (by decide +kernel) rfl, by decide, ⟨by decide, by decide, by decide⟩, by decide⟩
theorem lmX7_105 : LkS RX7 105 mX7_isRectangle 4 := ⟨tG 323 (by decide +kernel) rfl, tG 324 (by decide +kernel) rfl, tG 1 (by decide +kernel) rfl, tG 325 (by decide +kernel) rfl, by decide, ⟨by decide, by decide, by decide⟩, by decide⟩
theorem lmX7_109 : LkV RX7 109 mX7_pickRectangle 7 4 := ⟨RX7, TX7, 13, rfl, rfl, tG 326 (by decide +kernel) rfl, tG 328 (by decide +kernel) rfl, tS 2 (by decide +kernel) rfl, tG 1 (by decide +kernel) rfl, tG 329 (by decide +kernel) rfl, by decide, ⟨by decide, by decide, by decide⟩, by decide⟩
theorem lmX7_211 : LkV RX7 211 mX6_becomeRectangle 6 4 := ⟨RX6, TX6, 4, rfl, rfl, tG 330 (by decide +kernel) rfl, tG 331 (by decide +kernel) rfl, tG 332 (by decide +kernel) rfl, tG 5 (by decide +kernel) rfl, tG 333 (by decide +kernel) rfl, by decide, ⟨by decide, by decide, by decide⟩, by decide⟩
theorem lmX6_25 : LkV RX6 25 mX6_empty 6 0 := ⟨RX6, TX6, 4, rfl, rfl, tG 334 (by decide +kernel) rfl, tG 335 (by decide +kernel) rfl, tG 336 (by decide +kernel) rfl, tG 5 (by decide +kernel) rfl, tG 337 (by decide +kernel) rfl, by decide, ⟨by decide, by decide, by decide⟩, by decide⟩
theorem lmX6_28 : LkV RX6 28 mX6_addRectangle 6 4 := ⟨RX6, TX6, 4, rfl, rfl, tG 338 (by decide +kernel) rfl, tG 339 (by decide +kernel) rfl, tG 340 (by decide +kernel) rfl, tG 5 (by decide +kernel) rfl, tG 341 (by decide +kernel) rfl, by decide, ⟨by decide, by decide, by decide⟩, by decide⟩
theorem lmX6_32 : LkV RX6 32 mX6_addStep 6 1 := ⟨RX6, TX6, 4, rfl, rfl, tG 342 (by decide +kernel) rfl, tG 343 (by decide +kernel) rfl, tG 344 (by decide +kernel) rfl, tG 5 (by decide +kernel) rfl, tG 345 (by decide +kernel) rfl, by decide, ⟨by decide, by decide, by decide⟩, by decide⟩
theorem lmX7_238 : LkV RX7 238 mX4_pickShape 4 2 := ⟨RX4, TX4, 2, rfl, rfl, tG 346 (by decide +kernel) rfl, tG 347 (by decide +kernel) rfl, tG 348 (by decide +kernel) rfl, tG 4 (by decide +kernel) rfl, tG 349 (by decide +kernel) rfl, by decide, ⟨by decide, by decide, by decide⟩, by decide⟩
theorem lmX4_24 : LkV RX4 24 mX0_isThere 0 1 := ⟨RX0, TX0, 11, rfl, rfl, tG 350 (by decide +kernel) rfl, tG 287 (by decide +kernel) rfl, tG 288 (by decide +kernel) rfl, tG 2 (by decide +kernel) rfl, tG 289 (by decide +kernel) rfl, by decide, ⟨by decide, by decide, by decide⟩, by decide⟩
theorem lmX4_38 : LkV RX4 38 mX6_holds 6 2 := ⟨RX6, TX6, 4, rfl, rfl, tG 351 (by decide +kernel) rfl, tG 352 (by decide +kernel) rfl, tG 353 (by decide +kernel) rfl, tG 5 (by decide +kernel) rfl, tG 354 (by decide +kernel) rfl, by decide, ⟨by decide, by decide, by decide⟩, by decide⟩
theorem lmX6_36 : LkV RX6 36 mX6_inRectangle 6 3 := ⟨RX6, TX6, 4, rfl, rfl, tG 355 (by decide +kernel) rfl, tG 357 (by decide +kernel) rfl, tS 3 (by decide +kernel) rfl, tG 5 (by decide +kernel) rfl, tG 358 (by decide +kernel) rfl, by decide, ⟨by decide, by decide, by decide⟩, by decide⟩
theorem lmX6_40 : LkS RX6 40 mX6_join 2 := ⟨tG 359 (by decide +kernel) rfl, tG 360 (by decide +kernel) rfl, tG 5 (by decide +kernel) rfl, tG 361 (by decide +kernel) rfl, by decide, ⟨by decide, by decide, by decide⟩, by decide⟩
theorem lmX4_28 : LkV RX4 28 mX4_add 4 1 := ⟨RX4, TX4, 2, rfl, rfl, tG 362 (by decide +kernel) rfl, tG 364 (by decide +kernel) rfl, tS 4 (by decide +kernel) rfl, tG 4 (by decide +kernel) rfl, tG 365 (by decide +kernel) rfl, by decide, ⟨by decide, by decide, by decide⟩, by decide⟩
theorem lmX7_113 : LkV RX7 113 mX7_takePicked 7 0 := ⟨RX7, TX7, 13, rfl, rfl, tG 366 (by decide +kernel) rfl, tG 368 (by decide +kernel) rfl, tS 5 (by decide +kernel) rfl, tG 1 (by decide +kernel) rfl, tG 369 (by decide +kernel) rfl, by decide, ⟨by decide, by decide, by decide⟩, by decide⟩
theorem lmX7_160 : LkV RX7 160 mX4_sortByPlace 4 1 := ⟨RX4, TX4, 2, rfl, rfl, tG 370 (by decide +kernel) rfl, tG 371 (by decide +kernel) rfl, tG 372 (by decide +kernel) rfl, tG 4 (by decide +kernel) rfl, tG 373 (by decide +kernel) rfl, by decide, ⟨by decide, by decide, by decide⟩, by decide⟩
theorem lmX4_51 : LkV RX4 51 mX4_sort 4 2 := ⟨RX4, TX4, 2, rfl, rfl, tG 374 (by decide +kernel) rfl, tG 376 (by decide +kernel) rfl, tS 6 (by decide +kernel) rfl, tG 4 (by decide +kernel) rfl, tG 377 (by decide +kernel) rfl, by decide, ⟨by decide, by decide, by decide⟩, by decide⟩
theorem lmX4_55 : LkS RX4 55 mX4_isBefore 4 := ⟨tG 378 (by decide +kernel) rfl, tG 379 (by decide +kernel) rfl, tG 4 (by decide +kernel) rfl, tG 380 (by decide +kernel) rfl, by decide, ⟨by decide, by decide, by decide⟩, by decide⟩
theorem lmX4_59 : LkV RX4 59 mX0_isBeforeByPlace 0 2 := ⟨RX0, TX0, 11, rfl, rfl, tG 381 (by decide +kernel) rfl, tG 382 (by decide +kernel) rfl, tG 383 (by decide +kernel) rfl, tG 2 (by decide +kernel) rfl, tG 384 (by decide +kernel) rfl, by decide, ⟨by decide, by decide, by decide⟩, by decide⟩
theorem lmX7_295 : LkV RX7 295 mX4_turnToNumbers 4 1 := ⟨RX4, TX4, 2, rfl, rfl, tG 385 (by decide +kernel) rfl, tG 386 (by decide +kernel) rfl, tG 387 (by decide +kernel) rfl, tG 4 (by decide +kernel) rfl, tG 388 (by decide +kernel) rfl, by decide, ⟨by decide, by decide, by decide⟩, by decide⟩
theorem lmL_37 : LkV RL 37 mX7_counter 7 1 := ⟨RX7, TX7, 13, rfl, rfl, tG 389 (by decide +kernel) rfl, tG 390 (by decide +kernel) rfl, tG 391 (by decide +kernel) rfl, tG 1 (by decide +kernel) rfl, tG 392 (by decide +kernel) rfl, by decide, ⟨by decide, by decide, by decide⟩, by decide⟩
theorem lmL_41 : LkV RL 41 mX7_undo 7 0 := ⟨RX7, TX7, 13, rfl, rfl, tG 393 (by decide +kernel) rfl, tG 394 (by decide +kernel) rfl, tG 395 (by decide +kernel) rfl, tG 1 (by decide +kernel) rfl, tG 396 (by decide +kernel) rfl, by decide, ⟨by decide, by decide, by decide⟩, by decide⟩
theorem lmX7_124 : LkV RX7 124 mX2_bringBack 2 1 := ⟨RX2, TX2, 3, rfl, rfl, tG 397 (by decide +kernel) rfl, tG 398 (by decide +kernel) rfl, tG 399 (by decide +kernel) rfl, tG 3 (by decide +kernel) rfl, tG 400 (by decide +kernel) rfl, by decide, ⟨by decide, by decide, by decide⟩, by decide⟩
theorem lmL_46 : LkV RL 46 mX7_of 7 2 := ⟨RX7, TX7, 13, rfl, rfl, tG 401 (by decide +kernel) rfl, tG 402 (by decide +kernel) rfl, tG 403 (by decide +kernel) rfl, tG 1 (by decide +kernel) rfl, tG 404 (by decide +kernel) rfl, by decide, ⟨by decide, by decide, by decide⟩, by decide⟩
theorem lmX7_137 : LkV RX7 137 mX0_worth 0 1 := ⟨RX0, TX0, 11, rfl, rfl, tG 405 (by decide +kernel) rfl, tG 406 (by decide +kernel) rfl, tG 407 (by decide +kernel) rfl, tG 2 (by decide +kernel) rfl, tG 408 (by decide +kernel) rfl, by decide, ⟨by decide, by decide, by decide⟩, by decide⟩
theorem lmX0_68 : LkV RX0 68 mX0_north 0 1 := ⟨RX0, TX0, 11, rfl, rfl, tG 409 (by decide +kernel) rfl, tG 411 (by decide +kernel) rfl, tS 7 (by decide +kernel) rfl, tG 2 (by decide +kernel) rfl, tG 412 (by decide +kernel) rfl, by decide, ⟨by decide, by decide, by decide⟩, by decide⟩
theorem lmL_50 : LkV RL 50 mX7_nth 7 1 := ⟨RX7, TX7, 13, rfl, rfl, tG 413 (by decide +kernel) rfl, tG 414 (by decide +kernel) rfl, tG 415 (by decide +kernel) rfl, tG 1 (by decide +kernel) rfl, tG 416 (by decide +kernel) rfl, by decide, ⟨by decide, by decide, by decide⟩, by decide⟩
theorem lmX7_140 : LkV RX7 140 mX4_pickAll 4 1 := ⟨RX4, TX4, 2, rfl, rfl, tG 417 (by decide +kernel) rfl, tG 418 (by decide +kernel) rfl, tG 419 (by decide +kernel) rfl, tG 4 (by decide +kernel) rfl, tG 420 (by decide +kernel) rfl, by decide, ⟨by decide, by decide, by decide⟩, by decide⟩
theorem lmX7_143 : LkV RX7 143 mX4_numberOf 4 2 := ⟨RX4, TX4, 2, rfl, rfl, tG 421 (by decide +kernel) rfl, tG 422 (by decide +kernel) rfl, tG 423 (by decide +kernel) rfl, tG 4 (by decide +kernel) rfl, tG 424 (by decide +kernel) rfl, by decide, ⟨by decide, by decide, by decide⟩, by decide⟩
theorem lmL_54 : LkV RL 54 mX7_count 7 4 := ⟨RX7, TX7, 13, rfl, rfl, tG 426 (by decide +kernel) rfl, tG 427 (by decide +kernel) rfl, tG 428 (by decide +kernel) rfl, tG 1 (by decide +kernel) rfl, tG 429 (by decide +kernel) rfl, by decide, ⟨by decide, by decide, by decide⟩, by decide⟩
theorem lmX7_150 : LkV RX7 150 mX0_layersThere 0 0 := ⟨RX0, TX0, 11, rfl, rfl, tG 430 (by decide +kernel) rfl, tG 431 (by decide +kernel) rfl, tG 432 (by decide +kernel) rfl, tG 2 (by decide +kernel) rfl, tG 433 (by decide +kernel) rfl, by decide, ⟨by decide, by decide, by decide⟩, by decide⟩
theorem lmX0_37 : LkS RX0 37 mJ6_bitCount_0f7a4 1 := ⟨tG 434 (by decide +kernel) rfl, tG 435 (by decide +kernel) rfl, tG 11 (by decide +kernel) rfl, tG 436 (by decide +kernel) rfl, by decide, ⟨by decide, by decide, by decide⟩, by decide⟩
theorem lmX7_153 : LkV RX7 153 mX4_worthOfAll 4 1 := ⟨RX4, TX4, 2, rfl, rfl, tG 440 (by decide +kernel) rfl, tG 441 (by decide +kernel) rfl, tG 442 (by decide +kernel) rfl, tG 4 (by decide +kernel) rfl, tG 443 (by decide +kernel) rfl, by decide, ⟨by decide, by decide, by decide⟩, by decide⟩
theorem lmX4_66 : LkV RX4 66 mX0_worth 0 1 := ⟨RX0, TX0, 11, rfl, rfl, tG 444 (by decide +kernel) rfl, tG 406 (by decide +kernel) rfl, tG 407 (by decide +kernel) rfl, tG 2 (by decide +kernel) rfl, tG 408 (by decide +kernel) rfl, by decide, ⟨by decide, by decide, by decide⟩, by decide⟩
theorem lmL_58 : LkV RL 58 mX7_many 7 4 := ⟨RX7, TX7, 13, rfl, rfl, tG 445 (by decide +kernel) rfl, tG 446 (by decide +kernel) rfl, tG 447 (by decide +kernel) rfl, tG 1 (by decide +kernel) rfl, tG 448 (by decide +kernel) rfl, by decide, ⟨by decide, by decide, by decide⟩, by decide⟩
theorem lmL_62 : LkV RL 62 mX7_kth 7 5 := ⟨RX7, TX7, 13, rfl, rfl, tG 449 (by decide +kernel) rfl, tG 450 (by decide +kernel) rfl, tG 451 (by decide +kernel) rfl, tG 1 (by decide +kernel) rfl, tG 452 (by decide +kernel) rfl, by decide, ⟨by decide, by decide, by decide⟩, by decide⟩
theorem lmL_67 : LkV RL 67 mX7_half 7 4 := ⟨RX7, TX7, 13, rfl, rfl, tG 453 (by decide +kernel) rfl, tG 454 (by decide +kernel) rfl, tG 455 (by decide +kernel) rfl, tG 1 (by decide +kernel) rfl, tG 456 (by decide +kernel) rfl, by decide, ⟨by decide, by decide, by decide⟩, by decide⟩
theorem lmL_71 : LkV RL 71 mX7_below 7 2 := ⟨RX7, TX7, 13, rfl, rfl, tG 458 (by decide +kernel) rfl, tG 459 (by decide +kernel) rfl, tG 460 (by decide +kernel) rfl, tG 1 (by decide +kernel) rfl, tG 461 (by decide +kernel) rfl, by decide, ⟨by decide, by decide, by decide⟩, by decide⟩
theorem lmL_75 : LkV RL 75 mX7_ring 7 3 := ⟨RX7, TX7, 13, rfl, rfl, tG 462 (by decide +kernel) rfl, tG 463 (by decide +kernel) rfl, tG 464 (by decide +kernel) rfl, tG 1 (by decide +kernel) rfl, tG 465 (by decide +kernel) rfl, by decide, ⟨by decide, by decide, by decide⟩, by decide⟩
theorem lmX7_167 : LkV RX7 167 mX0_distance 0 3 := ⟨RX0, TX0, 11, rfl, rfl, tG 466 (by decide +kernel) rfl, tG 467 (by decide +kernel) rfl, tG 468 (by decide +kernel) rfl, tG 2 (by decide +kernel) rfl, tG 469 (by decide +kernel) rfl, by decide, ⟨by decide, by decide, by decide⟩, by decide⟩
theorem lmX0_71 : Cond.methodLink RX0 71 Lib.Math.abs.name ∈ lwG ∧ Cond.static Lib.Math.abs.name ∈ lwG ∧ Cond.initialized "java/lang/Math" ∈ lwG ∧ Cond.code Lib.Math.abs.name Lib.Math.abs.code 1 (some .int) ∈ lwG := ⟨tG 470 (by decide +kernel) rfl, tG 471 (by decide +kernel) rfl, tG 12 (by decide +kernel) rfl, tG 472 (by decide +kernel) rfl⟩
theorem lmX0_76 : Cond.methodLink RX0 76 Lib.Math.max.name ∈ lwG ∧ Cond.static Lib.Math.max.name ∈ lwG ∧ Cond.initialized "java/lang/Math" ∈ lwG ∧ Cond.code Lib.Math.max.name Lib.Math.max.code 2 (some .int) ∈ lwG := ⟨tG 473 (by decide +kernel) rfl, tG 474 (by decide +kernel) rfl, tG 12 (by decide +kernel) rfl, tG 475 (by decide +kernel) rfl⟩
theorem lmX7_170 : LkV RX7 170 mX4_within 4 4 := ⟨RX4, TX4, 2, rfl, rfl, tG 476 (by decide +kernel) rfl, tG 477 (by decide +kernel) rfl, tG 478 (by decide +kernel) rfl, tG 4 (by decide +kernel) rfl, tG 479 (by decide +kernel) rfl, by decide, ⟨by decide, by decide, by decide⟩, by decide⟩
theorem lmX4_70 : LkV RX4 70 mX0_distance 0 3 := ⟨RX0, TX0, 11, rfl, rfl, tG 480 (by decide +kernel) rfl, tG 467 (by decide +kernel) rfl, tG 468 (by decide +kernel) rfl, tG 2 (by decide +kernel) rfl, tG 469 (by decide +kernel) rfl, by decide, ⟨by decide, by decide, by decide⟩, by decide⟩
theorem lmL_79 : LkV RL 79 mX7_near 7 2 := ⟨RX7, TX7, 13, rfl, rfl, tG 481 (by decide +kernel) rfl, tG 482 (by decide +kernel) rfl, tG 483 (by decide +kernel) rfl, tG 1 (by decide +kernel) rfl, tG 484 (by decide +kernel) rfl, by decide, ⟨by decide, by decide, by decide⟩, by decide⟩
theorem lmL_83 : LkV RL 83 mX7_strip 7 1 := ⟨RX7, TX7, 13, rfl, rfl, tG 485 (by decide +kernel) rfl, tG 486 (by decide +kernel) rfl, tG 487 (by decide +kernel) rfl, tG 1 (by decide +kernel) rfl, tG 488 (by decide +kernel) rfl, by decide, ⟨by decide, by decide, by decide⟩, by decide⟩
theorem lmL_87 : LkV RL 87 mX7_square 7 2 := ⟨RX7, TX7, 13, rfl, rfl, tG 489 (by decide +kernel) rfl, tG 490 (by decide +kernel) rfl, tG 491 (by decide +kernel) rfl, tG 1 (by decide +kernel) rfl, tG 492 (by decide +kernel) rfl, by decide, ⟨by decide, by decide, by decide⟩, by decide⟩
theorem lmX7_177 : LkV RX7 177 mX4_sortByHeight 4 1 := ⟨RX4, TX4, 2, rfl, rfl, tG 493 (by decide +kernel) rfl, tG 494 (by decide +kernel) rfl, tG 495 (by decide +kernel) rfl, tG 4 (by decide +kernel) rfl, tG 496 (by decide +kernel) rfl, by decide, ⟨by decide, by decide, by decide⟩, by decide⟩
theorem lmX7_180 : LkV RX7 180 mX4_fullestFrom 4 3 := ⟨RX4, TX4, 2, rfl, rfl, tG 497 (by decide +kernel) rfl, tG 498 (by decide +kernel) rfl, tG 499 (by decide +kernel) rfl, tG 4 (by decide +kernel) rfl, tG 500 (by decide +kernel) rfl, by decide, ⟨by decide, by decide, by decide⟩, by decide⟩
theorem lmX4_74 : LkV RX4 74 mX4_inColumn 4 4 := ⟨RX4, TX4, 2, rfl, rfl, tG 501 (by decide +kernel) rfl, tG 503 (by decide +kernel) rfl, tS 8 (by decide +kernel) rfl, tG 4 (by decide +kernel) rfl, tG 504 (by decide +kernel) rfl, by decide, ⟨by decide, by decide, by decide⟩, by decide⟩
theorem lmX7_184 : LkV RX7 184 mX4_inSquare 4 4 := ⟨RX4, TX4, 2, rfl, rfl, tG 505 (by decide +kernel) rfl, tG 506 (by decide +kernel) rfl, tG 507 (by decide +kernel) rfl, tG 4 (by decide +kernel) rfl, tG 508 (by decide +kernel) rfl, by decide, ⟨by decide, by decide, by decide⟩, by decide⟩
theorem lmL_91 : LkV RL 91 mX7_pairs 7 0 := ⟨RX7, TX7, 13, rfl, rfl, tG 509 (by decide +kernel) rfl, tG 510 (by decide +kernel) rfl, tG 511 (by decide +kernel) rfl, tG 1 (by decide +kernel) rfl, tG 512 (by decide +kernel) rfl, by decide, ⟨by decide, by decide, by decide⟩, by decide⟩
theorem lmX7_187 : LkV RX7 187 mX0_isLess 0 2 := ⟨RX0, TX0, 11, rfl, rfl, tG 513 (by decide +kernel) rfl, tG 514 (by decide +kernel) rfl, tG 515 (by decide +kernel) rfl, tG 2 (by decide +kernel) rfl, tG 516 (by decide +kernel) rfl, by decide, ⟨by decide, by decide, by decide⟩, by decide⟩
theorem lmL_95 : LkV RL 95 mX7_stair 7 1 := ⟨RX7, TX7, 13, rfl, rfl, tG 517 (by decide +kernel) rfl, tG 518 (by decide +kernel) rfl, tG 519 (by decide +kernel) rfl, tG 1 (by decide +kernel) rfl, tG 520 (by decide +kernel) rfl, by decide, ⟨by decide, by decide, by decide⟩, by decide⟩
theorem lmX7_190 : LkV RX7 190 mX4_pickStairs 4 2 := ⟨RX4, TX4, 2, rfl, rfl, tG 521 (by decide +kernel) rfl, tG 522 (by decide +kernel) rfl, tG 523 (by decide +kernel) rfl, tG 4 (by decide +kernel) rfl, tG 524 (by decide +kernel) rfl, by decide, ⟨by decide, by decide, by decide⟩, by decide⟩
theorem lmX4_44 : LkV RX4 44 mX4_tops 4 2 := ⟨RX4, TX4, 2, rfl, rfl, tG 525 (by decide +kernel) rfl, tG 527 (by decide +kernel) rfl, tS 9 (by decide +kernel) rfl, tG 4 (by decide +kernel) rfl, tG 528 (by decide +kernel) rfl, by decide, ⟨by decide, by decide, by decide⟩, by decide⟩
theorem lmX4_48 : LkV RX4 48 mX0_isTopped 0 2 := ⟨RX0, TX0, 11, rfl, rfl, tG 529 (by decide +kernel) rfl, tG 530 (by decide +kernel) rfl, tG 531 (by decide +kernel) rfl, tG 2 (by decide +kernel) rfl, tG 532 (by decide +kernel) rfl, by decide, ⟨by decide, by decide, by decide⟩, by decide⟩
theorem lmL_99 : LkV RL 99 mX7_layers 7 1 := ⟨RX7, TX7, 13, rfl, rfl, tG 533 (by decide +kernel) rfl, tG 534 (by decide +kernel) rfl, tG 535 (by decide +kernel) rfl, tG 1 (by decide +kernel) rfl, tG 536 (by decide +kernel) rfl, by decide, ⟨by decide, by decide, by decide⟩, by decide⟩
theorem lmL_103 : LkV RL 103 mX7_inLayer 7 6 := ⟨RX7, TX7, 13, rfl, rfl, tG 537 (by decide +kernel) rfl, tG 538 (by decide +kernel) rfl, tG 539 (by decide +kernel) rfl, tG 1 (by decide +kernel) rfl, tG 540 (by decide +kernel) rfl, by decide, ⟨by decide, by decide, by decide⟩, by decide⟩
theorem lmX7_206 : LkS RX7 206 mJ6_bitCount_0f7a4 1 := ⟨tG 541 (by decide +kernel) rfl, tG 435 (by decide +kernel) rfl, tG 11 (by decide +kernel) rfl, tG 436 (by decide +kernel) rfl, by decide, ⟨by decide, by decide, by decide⟩, by decide⟩
theorem lmX7_214 : LkV RX7 214 mX0_hasInLayer 0 3 := ⟨RX0, TX0, 11, rfl, rfl, tG 542 (by decide +kernel) rfl, tG 543 (by decide +kernel) rfl, tG 544 (by decide +kernel) rfl, tG 2 (by decide +kernel) rfl, tG 545 (by decide +kernel) rfl, by decide, ⟨by decide, by decide, by decide⟩, by decide⟩
theorem lmX0_81 : LkS RX0 81 mX0_layerStart 2 := ⟨tG 547 (by decide +kernel) rfl, tG 548 (by decide +kernel) rfl, tG 2 (by decide +kernel) rfl, tG 549 (by decide +kernel) rfl, by decide, ⟨by decide, by decide, by decide⟩, by decide⟩
theorem lmX0_84 : LkV RX0 84 mX6_holds 6 2 := ⟨RX6, TX6, 4, rfl, rfl, tG 550 (by decide +kernel) rfl, tG 352 (by decide +kernel) rfl, tG 353 (by decide +kernel) rfl, tG 5 (by decide +kernel) rfl, tG 354 (by decide +kernel) rfl, by decide, ⟨by decide, by decide, by decide⟩, by decide⟩
theorem lmL_108 : LkV RL 108 mX7_type 7 1 := ⟨RX7, TX7, 13, rfl, rfl, tG 551 (by decide +kernel) rfl, tG 552 (by decide +kernel) rfl, tG 553 (by decide +kernel) rfl, tG 1 (by decide +kernel) rfl, tG 554 (by decide +kernel) rfl, by decide, ⟨by decide, by decide, by decide⟩, by decide⟩
theorem lmX7_221 : LkV RX7 221 mX5_append 5 1 := ⟨RX5, TX5, 5, rfl, rfl, tG 555 (by decide +kernel) rfl, tG 556 (by decide +kernel) rfl, tG 557 (by decide +kernel) rfl, tG 6 (by decide +kernel) rfl, tG 558 (by decide +kernel) rfl, by decide, ⟨by decide, by decide, by decide⟩, by decide⟩
theorem lmL_112 : LkV RL 112 mX7_clear 7 0 := ⟨RX7, TX7, 13, rfl, rfl, tG 559 (by decide +kernel) rfl, tG 560 (by decide +kernel) rfl, tG 561 (by decide +kernel) rfl, tG 1 (by decide +kernel) rfl, tG 562 (by decide +kernel) rfl, by decide, ⟨by decide, by decide, by decide⟩, by decide⟩
theorem lmL_116 : LkV RL 116 mX7_area 7 0 := ⟨RX7, TX7, 13, rfl, rfl, tG 563 (by decide +kernel) rfl, tG 564 (by decide +kernel) rfl, tG 565 (by decide +kernel) rfl, tG 1 (by decide +kernel) rfl, tG 566 (by decide +kernel) rfl, by decide, ⟨by decide, by decide, by decide⟩, by decide⟩
theorem lmX7_225 : LkV RX7 225 mX5_read 5 0 := ⟨RX5, TX5, 5, rfl, rfl, tG 567 (by decide +kernel) rfl, tG 568 (by decide +kernel) rfl, tG 569 (by decide +kernel) rfl, tG 6 (by decide +kernel) rfl, tG 570 (by decide +kernel) rfl, by decide, ⟨by decide, by decide, by decide⟩, by decide⟩
theorem lmX5_32 : LkV RX5 32 mX6_empty 6 0 := ⟨RX6, TX6, 4, rfl, rfl, tG 571 (by decide +kernel) rfl, tG 335 (by decide +kernel) rfl, tG 336 (by decide +kernel) rfl, tG 5 (by decide +kernel) rfl, tG 337 (by decide +kernel) rfl, by decide, ⟨by decide, by decide, by decide⟩, by decide⟩
theorem lmX5_35 : LkV RX5 35 mX5_readArea 5 1 := ⟨RX5, TX5, 5, rfl, rfl, tG 572 (by decide +kernel) rfl, tG 574 (by decide +kernel) rfl, tS 10 (by decide +kernel) rfl, tG 6 (by decide +kernel) rfl, tG 575 (by decide +kernel) rfl, by decide, ⟨by decide, by decide, by decide⟩, by decide⟩
theorem lmX5_49 : LkV RX5 49 mX5_readPart 5 1 := ⟨RX5, TX5, 5, rfl, rfl, tG 576 (by decide +kernel) rfl, tG 578 (by decide +kernel) rfl, tS 11 (by decide +kernel) rfl, tG 6 (by decide +kernel) rfl, tG 579 (by decide +kernel) rfl, by decide, ⟨by decide, by decide, by decide⟩, by decide⟩
theorem lmX5_55 : LkV RX5 55 mX5_readSpot 5 1 := ⟨RX5, TX5, 5, rfl, rfl, tG 580 (by decide +kernel) rfl, tG 582 (by decide +kernel) rfl, tS 12 (by decide +kernel) rfl, tG 6 (by decide +kernel) rfl, tG 583 (by decide +kernel) rfl, by decide, ⟨by decide, by decide, by decide⟩, by decide⟩
theorem lmX5_42 : LkV RX5 42 mX5_nextSign 5 0 := ⟨RX5, TX5, 5, rfl, rfl, tG 584 (by decide +kernel) rfl, tG 586 (by decide +kernel) rfl, tS 13 (by decide +kernel) rfl, tG 6 (by decide +kernel) rfl, tG 587 (by decide +kernel) rfl, by decide, ⟨by decide, by decide, by decide⟩, by decide⟩
theorem lmX5_58 : LkV RX5 58 mX5_readRectangle 5 0 := ⟨RX5, TX5, 5, rfl, rfl, tG 588 (by decide +kernel) rfl, tG 590 (by decide +kernel) rfl, tS 14 (by decide +kernel) rfl, tG 6 (by decide +kernel) rfl, tG 591 (by decide +kernel) rfl, by decide, ⟨by decide, by decide, by decide⟩, by decide⟩
theorem lmX5_39 : LkV RX5 39 mX5_expect 5 1 := ⟨RX5, TX5, 5, rfl, rfl, tG 592 (by decide +kernel) rfl, tG 594 (by decide +kernel) rfl, tS 15 (by decide +kernel) rfl, tG 6 (by decide +kernel) rfl, tG 595 (by decide +kernel) rfl, by decide, ⟨by decide, by decide, by decide⟩, by decide⟩
theorem lmX5_46 : LkV RX5 46 mX5_fail 5 1 := ⟨RX5, TX5, 5, rfl, rfl, tG 596 (by decide +kernel) rfl, tG 598 (by decide +kernel) rfl, tS 16 (by decide +kernel) rfl, tG 6 (by decide +kernel) rfl, tG 599 (by decide +kernel) rfl, by decide, ⟨by decide, by decide, by decide⟩, by decide⟩
theorem lmX5_61 : LkV RX5 61 mX5_readNumber 5 1 := ⟨RX5, TX5, 5, rfl, rfl, tG 600 (by decide +kernel) rfl, tG 602 (by decide +kernel) rfl, tS 17 (by decide +kernel) rfl, tG 6 (by decide +kernel) rfl, tG 603 (by decide +kernel) rfl, by decide, ⟨by decide, by decide, by decide⟩, by decide⟩
theorem lmX5_69 : LkS RX5 69 mX5_isFigure 1 := ⟨tG 604 (by decide +kernel) rfl, tG 605 (by decide +kernel) rfl, tG 6 (by decide +kernel) rfl, tG 606 (by decide +kernel) rfl, by decide, ⟨by decide, by decide, by decide⟩, by decide⟩
theorem lmX5_65 : LkV RX5 65 mX6_addRectangle 6 4 := ⟨RX6, TX6, 4, rfl, rfl, tG 607 (by decide +kernel) rfl, tG 339 (by decide +kernel) rfl, tG 340 (by decide +kernel) rfl, tG 5 (by decide +kernel) rfl, tG 341 (by decide +kernel) rfl, by decide, ⟨by decide, by decide, by decide⟩, by decide⟩
theorem lmX5_52 : LkV RX5 52 mX6_addStep 6 1 := ⟨RX6, TX6, 4, rfl, rfl, tG 608 (by decide +kernel) rfl, tG 343 (by decide +kernel) rfl, tG 344 (by decide +kernel) rfl, tG 5 (by decide +kernel) rfl, tG 345 (by decide +kernel) rfl, by decide, ⟨by decide, by decide, by decide⟩, by decide⟩
theorem lmX7_231 : LkV RX7 231 mX6_copyFrom 6 1 := ⟨RX6, TX6, 4, rfl, rfl, tG 609 (by decide +kernel) rfl, tG 610 (by decide +kernel) rfl, tG 611 (by decide +kernel) rfl, tG 5 (by decide +kernel) rfl, tG 612 (by decide +kernel) rfl, by decide, ⟨by decide, by decide, by decide⟩, by decide⟩
theorem lmL_120 : LkV RL 120 mX7_inside 7 0 := ⟨RX7, TX7, 13, rfl, rfl, tG 614 (by decide +kernel) rfl, tG 615 (by decide +kernel) rfl, tG 616 (by decide +kernel) rfl, tG 1 (by decide +kernel) rfl, tG 617 (by decide +kernel) rfl, by decide, ⟨by decide, by decide, by decide⟩, by decide⟩
theorem lmL_124 : LkV RL 124 mX7_covers 7 2 := ⟨RX7, TX7, 13, rfl, rfl, tG 618 (by decide +kernel) rfl, tG 619 (by decide +kernel) rfl, tG 620 (by decide +kernel) rfl, tG 1 (by decide +kernel) rfl, tG 621 (by decide +kernel) rfl, by decide, ⟨by decide, by decide, by decide⟩, by decide⟩
theorem lmX7_242 : LkV RX7 242 mX6_holds 6 2 := ⟨RX6, TX6, 4, rfl, rfl, tG 622 (by decide +kernel) rfl, tG 352 (by decide +kernel) rfl, tG 353 (by decide +kernel) rfl, tG 5 (by decide +kernel) rfl, tG 354 (by decide +kernel) rfl, by decide, ⟨by decide, by decide, by decide⟩, by decide⟩
theorem lmL_128 : LkV RL 128 mX7_found 7 1 := ⟨RX7, TX7, 13, rfl, rfl, tG 623 (by decide +kernel) rfl, tG 624 (by decide +kernel) rfl, tG 625 (by decide +kernel) rfl, tG 1 (by decide +kernel) rfl, tG 626 (by decide +kernel) rfl, by decide, ⟨by decide, by decide, by decide⟩, by decide⟩
theorem lmL_132 : LkV RL 132 mX7_mow 7 0 := ⟨RX7, TX7, 13, rfl, rfl, tG 627 (by decide +kernel) rfl, tG 628 (by decide +kernel) rfl, tG 629 (by decide +kernel) rfl, tG 1 (by decide +kernel) rfl, tG 630 (by decide +kernel) rfl, by decide, ⟨by decide, by decide, by decide⟩, by decide⟩
theorem lmL_136 : LkV RL 136 mX7_odds 7 6 := ⟨RX7, TX7, 13, rfl, rfl, tG 631 (by decide +kernel) rfl, tG 632 (by decide +kernel) rfl, tG 633 (by decide +kernel) rfl, tG 1 (by decide +kernel) rfl, tG 634 (by decide +kernel) rfl, by decide, ⟨by decide, by decide, by decide⟩, by decide⟩
theorem lmX7_245 : LkV RX7 245 mX1_becomeOdds 1 3 := ⟨RX1, TX1, 2, rfl, rfl, tG 635 (by decide +kernel) rfl, tG 636 (by decide +kernel) rfl, tG 637 (by decide +kernel) rfl, tG 7 (by decide +kernel) rfl, tG 638 (by decide +kernel) rfl, by decide, ⟨by decide, by decide, by decide⟩, by decide⟩
theorem lmX1_18 : LkS RX1 18 mX1_power 2 := ⟨tG 639 (by decide +kernel) rfl, tG 640 (by decide +kernel) rfl, tG 7 (by decide +kernel) rfl, tG 641 (by decide +kernel) rfl, by decide, ⟨by decide, by decide, by decide⟩, by decide⟩
theorem lmX1_24 : LkS RX1 24 mX1_divisorOf 2 := ⟨tG 643 (by decide +kernel) rfl, tG 644 (by decide +kernel) rfl, tG 7 (by decide +kernel) rfl, tG 645 (by decide +kernel) rfl, by decide, ⟨by decide, by decide, by decide⟩, by decide⟩
theorem lmL_140 : LkV RL 140 mX7_part 7 1 := ⟨RX7, TX7, 13, rfl, rfl, tG 646 (by decide +kernel) rfl, tG 647 (by decide +kernel) rfl, tG 648 (by decide +kernel) rfl, tG 1 (by decide +kernel) rfl, tG 649 (by decide +kernel) rfl, by decide, ⟨by decide, by decide, by decide⟩, by decide⟩
theorem lmL_145 : LkV RL 145 mX7_image 7 1 := ⟨RX7, TX7, 13, rfl, rfl, tG 650 (by decide +kernel) rfl, tG 651 (by decide +kernel) rfl, tG 652 (by decide +kernel) rfl, tG 1 (by decide +kernel) rfl, tG 653 (by decide +kernel) rfl, by decide, ⟨by decide, by decide, by decide⟩, by decide⟩
theorem lmX7_256 : LkV RX7 256 mX3_keep 3 2 := ⟨RX3, TX3, 3, rfl, rfl, tG 654 (by decide +kernel) rfl, tG 655 (by decide +kernel) rfl, tG 656 (by decide +kernel) rfl, tG 8 (by decide +kernel) rfl, tG 657 (by decide +kernel) rfl, by decide, ⟨by decide, by decide, by decide⟩, by decide⟩
theorem lmX3_23 : LkV RX3 23 mX0_copyFrom 0 1 := ⟨RX0, TX0, 11, rfl, rfl, tG 658 (by decide +kernel) rfl, tG 264 (by decide +kernel) rfl, tG 265 (by decide +kernel) rfl, tG 2 (by decide +kernel) rfl, tG 266 (by decide +kernel) rfl, by decide, ⟨by decide, by decide, by decide⟩, by decide⟩
theorem lmX3_27 : LkV RX3 27 mX6_copyFrom 6 1 := ⟨RX6, TX6, 4, rfl, rfl, tG 659 (by decide +kernel) rfl, tG 610 (by decide +kernel) rfl, tG 611 (by decide +kernel) rfl, tG 5 (by decide +kernel) rfl, tG 612 (by decide +kernel) rfl, by decide, ⟨by decide, by decide, by decide⟩, by decide⟩
theorem lmL_149 : LkV RL 149 mX7_from 7 1 := ⟨RX7, TX7, 13, rfl, rfl, tG 660 (by decide +kernel) rfl, tG 661 (by decide +kernel) rfl, tG 662 (by decide +kernel) rfl, tG 1 (by decide +kernel) rfl, tG 663 (by decide +kernel) rfl, by decide, ⟨by decide, by decide, by decide⟩, by decide⟩
theorem lmX7_262 : LkV RX7 262 mX3_bringBack 3 2 := ⟨RX3, TX3, 3, rfl, rfl, tG 664 (by decide +kernel) rfl, tG 665 (by decide +kernel) rfl, tG 666 (by decide +kernel) rfl, tG 8 (by decide +kernel) rfl, tG 667 (by decide +kernel) rfl, by decide, ⟨by decide, by decide, by decide⟩, by decide⟩
theorem lmX7_264 : LkV RX7 264 mX2_forget 2 0 := ⟨RX2, TX2, 3, rfl, rfl, tG 668 (by decide +kernel) rfl, tG 669 (by decide +kernel) rfl, tG 670 (by decide +kernel) rfl, tG 3 (by decide +kernel) rfl, tG 671 (by decide +kernel) rfl, by decide, ⟨by decide, by decide, by decide⟩, by decide⟩
theorem lmL_153 : LkV RL 153 mX7_status 7 1 := ⟨RX7, TX7, 13, rfl, rfl, tG 672 (by decide +kernel) rfl, tG 673 (by decide +kernel) rfl, tG 674 (by decide +kernel) rfl, tG 1 (by decide +kernel) rfl, tG 675 (by decide +kernel) rfl, by decide, ⟨by decide, by decide, by decide⟩, by decide⟩
theorem lmL_157 : LkV RL 157 mX7_size 7 1 := ⟨RX7, TX7, 13, rfl, rfl, tG 676 (by decide +kernel) rfl, tG 677 (by decide +kernel) rfl, tG 678 (by decide +kernel) rfl, tG 1 (by decide +kernel) rfl, tG 679 (by decide +kernel) rfl, by decide, ⟨by decide, by decide, by decide⟩, by decide⟩
theorem lmX7_279 : LkV RX7 279 mX0_weightOfAll 0 0 := ⟨RX0, TX0, 11, rfl, rfl, tG 680 (by decide +kernel) rfl, tG 681 (by decide +kernel) rfl, tG 682 (by decide +kernel) rfl, tG 2 (by decide +kernel) rfl, tG 683 (by decide +kernel) rfl, by decide, ⟨by decide, by decide, by decide⟩, by decide⟩
theorem lmL_161 : LkV RL 161 mX7_digest 7 0 := ⟨RX7, TX7, 13, rfl, rfl, tG 684 (by decide +kernel) rfl, tG 685 (by decide +kernel) rfl, tG 686 (by decide +kernel) rfl, tG 1 (by decide +kernel) rfl, tG 687 (by decide +kernel) rfl, by decide, ⟨by decide, by decide, by decide⟩, by decide⟩
theorem lmX7_286 : LkV RX7 286 mX7_size 7 1 := ⟨RX7, TX7, 13, rfl, rfl, tG 690 (by decide +kernel) rfl, tG 677 (by decide +kernel) rfl, tG 678 (by decide +kernel) rfl, tG 1 (by decide +kernel) rfl, tG 679 (by decide +kernel) rfl, by decide, ⟨by decide, by decide, by decide⟩, by decide⟩
theorem lmX7_289 : LkV RX7 289 mX7_layers 7 1 := ⟨RX7, TX7, 13, rfl, rfl, tG 691 (by decide +kernel) rfl, tG 534 (by decide +kernel) rfl, tG 535 (by decide +kernel) rfl, tG 1 (by decide +kernel) rfl, tG 536 (by decide +kernel) rfl, by decide, ⟨by decide, by decide, by decide⟩, by decide⟩
theorem lmX7_292 : LkV RX7 292 mX0_isThere 0 1 := ⟨RX0, TX0, 11, rfl, rfl, tG 692 (by decide +kernel) rfl, tG 287 (by decide +kernel) rfl, tG 288 (by decide +kernel) rfl, tG 2 (by decide +kernel) rfl, tG 289 (by decide +kernel) rfl, by decide, ⟨by decide, by decide, by decide⟩, by decide⟩
theorem lmL_17 : LkV RL 17 mX8_put 8 3 := ⟨RX8, TX8, 20, rfl, rfl, tG 761 (by decide +kernel) rfl, tG 762 (by decide +kernel) rfl, tG 763 (by decide +kernel) rfl, tG 9 (by decide +kernel) rfl, tG 764 (by decide +kernel) rfl, by decide, ⟨by decide, by decide, by decide⟩, by decide⟩
theorem lmX8_53 : LkS RX8 53 mX8_isPlace 1 := ⟨tG 765 (by decide +kernel) rfl, tG 766 (by decide +kernel) rfl, tG 9 (by decide +kernel) rfl, tG 767 (by decide +kernel) rfl, by decide, ⟨by decide, by decide, by decide⟩, by decide⟩
theorem lmX8_49 : LkS RX8 49 mX8_in 3 := ⟨tG 770 (by decide +kernel) rfl, tG 771 (by decide +kernel) rfl, tG 9 (by decide +kernel) rfl, tG 772 (by decide +kernel) rfl, by decide, ⟨by decide, by decide, by decide⟩, by decide⟩
theorem lmX8_81 : LkV RX8 81 mX8_bad 8 0 := ⟨RX8, TX8, 20, rfl, rfl, tG 774 (by decide +kernel) rfl, tG 776 (by decide +kernel) rfl, tS 18 (by decide +kernel) rfl, tG 9 (by decide +kernel) rfl, tG 777 (by decide +kernel) rfl, by decide, ⟨by decide, by decide, by decide⟩, by decide⟩
theorem lmX8_72 : LkV RX8 72 mX8_points 8 0 := ⟨RX8, TX8, 20, rfl, rfl, tG 779 (by decide +kernel) rfl, tG 781 (by decide +kernel) rfl, tS 19 (by decide +kernel) rfl, tG 9 (by decide +kernel) rfl, tG 782 (by decide +kernel) rfl, by decide, ⟨by decide, by decide, by decide⟩, by decide⟩
theorem lmX8_84 : LkV RX8 84 mX8_full 8 0 := ⟨RX8, TX8, 20, rfl, rfl, tG 783 (by decide +kernel) rfl, tG 785 (by decide +kernel) rfl, tS 20 (by decide +kernel) rfl, tG 9 (by decide +kernel) rfl, tG 786 (by decide +kernel) rfl, by decide, ⟨by decide, by decide, by decide⟩, by decide⟩
theorem lmX8_87 : LkV RX8 87 mX8_minds 8 0 := ⟨RX8, TX8, 20, rfl, rfl, tG 788 (by decide +kernel) rfl, tG 790 (by decide +kernel) rfl, tS 21 (by decide +kernel) rfl, tG 9 (by decide +kernel) rfl, tG 791 (by decide +kernel) rfl, by decide, ⟨by decide, by decide, by decide⟩, by decide⟩
theorem lmX8_64 : LkV RX8 64 mX8_copy 8 2 := ⟨RX8, TX8, 20, rfl, rfl, tG 792 (by decide +kernel) rfl, tG 794 (by decide +kernel) rfl, tS 22 (by decide +kernel) rfl, tG 9 (by decide +kernel) rfl, tG 795 (by decide +kernel) rfl, by decide, ⟨by decide, by decide, by decide⟩, by decide⟩
theorem lmX8_90 : LkV RX8 90 mX8_comes 8 3 := ⟨RX8, TX8, 20, rfl, rfl, tG 796 (by decide +kernel) rfl, tG 798 (by decide +kernel) rfl, tS 23 (by decide +kernel) rfl, tG 9 (by decide +kernel) rfl, tG 799 (by decide +kernel) rfl, by decide, ⟨by decide, by decide, by decide⟩, by decide⟩
theorem lmX8_68 : LkS RX8 68 mX8_carriedBy 1 := ⟨tG 800 (by decide +kernel) rfl, tG 801 (by decide +kernel) rfl, tG 9 (by decide +kernel) rfl, tG 802 (by decide +kernel) rfl, by decide, ⟨by decide, by decide, by decide⟩, by decide⟩
theorem lmL_22 : LkV RL 22 mX8_take 8 1 := ⟨RX8, TX8, 20, rfl, rfl, tG 803 (by decide +kernel) rfl, tG 804 (by decide +kernel) rfl, tG 805 (by decide +kernel) rfl, tG 9 (by decide +kernel) rfl, tG 806 (by decide +kernel) rfl, by decide, ⟨by decide, by decide, by decide⟩, by decide⟩
theorem lmX8_94 : LkV RX8 94 mX8_find 8 1 := ⟨RX8, TX8, 20, rfl, rfl, tG 807 (by decide +kernel) rfl, tG 809 (by decide +kernel) rfl, tS 24 (by decide +kernel) rfl, tG 9 (by decide +kernel) rfl, tG 810 (by decide +kernel) rfl, by decide, ⟨by decide, by decide, by decide⟩, by decide⟩
theorem lmX8_57 : LkV RX8 57 mX8_isThere 8 1 := ⟨RX8, TX8, 20, rfl, rfl, tG 811 (by decide +kernel) rfl, tG 813 (by decide +kernel) rfl, tS 25 (by decide +kernel) rfl, tG 9 (by decide +kernel) rfl, tG 814 (by decide +kernel) rfl, by decide, ⟨by decide, by decide, by decide⟩, by decide⟩
theorem lmX8_97 : LkV RX8 97 mX8_goes 8 1 := ⟨RX8, TX8, 20, rfl, rfl, tG 815 (by decide +kernel) rfl, tG 817 (by decide +kernel) rfl, tS 26 (by decide +kernel) rfl, tG 9 (by decide +kernel) rfl, tG 818 (by decide +kernel) rfl, by decide, ⟨by decide, by decide, by decide⟩, by decide⟩
theorem lmX8_76 : LkV RX8 76 mX8_laysAnew 8 0 := ⟨RX8, TX8, 20, rfl, rfl, tG 819 (by decide +kernel) rfl, tG 821 (by decide +kernel) rfl, tS 27 (by decide +kernel) rfl, tG 9 (by decide +kernel) rfl, tG 822 (by decide +kernel) rfl, by decide, ⟨by decide, by decide, by decide⟩, by decide⟩
theorem lmL_26 : LkV RL 26 mX8_move 8 3 := ⟨RX8, TX8, 20, rfl, rfl, tG 823 (by decide +kernel) rfl, tG 824 (by decide +kernel) rfl, tG 825 (by decide +kernel) rfl, tG 9 (by decide +kernel) rfl, tG 826 (by decide +kernel) rfl, by decide, ⟨by decide, by decide, by decide⟩, by decide⟩
theorem lmL_31 : LkV RL 31 mX8_scatter 8 2 := ⟨RX8, TX8, 20, rfl, rfl, tG 827 (by decide +kernel) rfl, tG 828 (by decide +kernel) rfl, tG 829 (by decide +kernel) rfl, tG 9 (by decide +kernel) rfl, tG 830 (by decide +kernel) rfl, by decide, ⟨by decide, by decide, by decide⟩, by decide⟩
theorem lmX8_110 : LkV RX8 110 mX8_draws 8 1 := ⟨RX8, TX8, 20, rfl, rfl, tG 833 (by decide +kernel) rfl, tG 835 (by decide +kernel) rfl, tS 28 (by decide +kernel) rfl, tG 9 (by decide +kernel) rfl, tG 836 (by decide +kernel) rfl, by decide, ⟨by decide, by decide, by decide⟩, by decide⟩
theorem lmL_36 : LkV RL 36 mX8_sweep 8 4 := ⟨RX8, TX8, 20, rfl, rfl, tG 839 (by decide +kernel) rfl, tG 840 (by decide +kernel) rfl, tG 841 (by decide +kernel) rfl, tG 9 (by decide +kernel) rfl, tG 842 (by decide +kernel) rfl, by decide, ⟨by decide, by decide, by decide⟩, by decide⟩
theorem lmX8_127 : LkS RX8 127 mX8_isRect 4 := ⟨tG 843 (by decide +kernel) rfl, tG 844 (by decide +kernel) rfl, tG 9 (by decide +kernel) rfl, tG 845 (by decide +kernel) rfl, by decide, ⟨by decide, by decide, by decide⟩, by decide⟩
theorem lmX8_131 : LkV RX8 131 mX8_lines 8 4 := ⟨RX8, TX8, 20, rfl, rfl, tG 846 (by decide +kernel) rfl, tG 848 (by decide +kernel) rfl, tS 29 (by decide +kernel) rfl, tG 9 (by decide +kernel) rfl, tG 849 (by decide +kernel) rfl, by decide, ⟨by decide, by decide, by decide⟩, by decide⟩
theorem lmX8_120 : LkV RX8 120 mX8_isIn 8 5 := ⟨RX8, TX8, 20, rfl, rfl, tG 850 (by decide +kernel) rfl, tG 852 (by decide +kernel) rfl, tS 30 (by decide +kernel) rfl, tG 9 (by decide +kernel) rfl, tG 853 (by decide +kernel) rfl, by decide, ⟨by decide, by decide, by decide⟩, by decide⟩
theorem lmX8_124 : LkV RX8 124 mX8_insert 8 1 := ⟨RX8, TX8, 20, rfl, rfl, tG 854 (by decide +kernel) rfl, tG 856 (by decide +kernel) rfl, tS 31 (by decide +kernel) rfl, tG 9 (by decide +kernel) rfl, tG 857 (by decide +kernel) rfl, by decide, ⟨by decide, by decide, by decide⟩, by decide⟩
theorem lmX8_116 : LkV RX8 116 mX8_isAhead 8 2 := ⟨RX8, TX8, 20, rfl, rfl, tG 858 (by decide +kernel) rfl, tG 860 (by decide +kernel) rfl, tS 32 (by decide +kernel) rfl, tG 9 (by decide +kernel) rfl, tG 861 (by decide +kernel) rfl, by decide, ⟨by decide, by decide, by decide⟩, by decide⟩
theorem lmX8_135 : LkV RX8 135 mX8_takesLine 8 0 := ⟨RX8, TX8, 20, rfl, rfl, tG 862 (by decide +kernel) rfl, tG 864 (by decide +kernel) rfl, tS 33 (by decide +kernel) rfl, tG 9 (by decide +kernel) rfl, tG 865 (by decide +kernel) rfl, by decide, ⟨by decide, by decide, by decide⟩, by decide⟩
theorem lmL_40 : LkV RL 40 mX8_counter 8 1 := ⟨RX8, TX8, 20, rfl, rfl, tG 866 (by decide +kernel) rfl, tG 867 (by decide +kernel) rfl, tG 868 (by decide +kernel) rfl, tG 9 (by decide +kernel) rfl, tG 869 (by decide +kernel) rfl, by decide, ⟨by decide, by decide, by decide⟩, by decide⟩
theorem lmL_45 : LkV RL 45 mX8_undo 8 0 := ⟨RX8, TX8, 20, rfl, rfl, tG 871 (by decide +kernel) rfl, tG 872 (by decide +kernel) rfl, tG 873 (by decide +kernel) rfl, tG 9 (by decide +kernel) rfl, tG 874 (by decide +kernel) rfl, by decide, ⟨by decide, by decide, by decide⟩, by decide⟩
theorem lmX8_140 : LkV RX8 140 mX8_no 8 0 := ⟨RX8, TX8, 20, rfl, rfl, tG 875 (by decide +kernel) rfl, tG 877 (by decide +kernel) rfl, tS 34 (by decide +kernel) rfl, tG 9 (by decide +kernel) rfl, tG 878 (by decide +kernel) rfl, by decide, ⟨by decide, by decide, by decide⟩, by decide⟩
theorem lmL_49 : LkV RL 49 mX8_of 8 2 := ⟨RX8, TX8, 20, rfl, rfl, tG 880 (by decide +kernel) rfl, tG 881 (by decide +kernel) rfl, tG 882 (by decide +kernel) rfl, tG 9 (by decide +kernel) rfl, tG 883 (by decide +kernel) rfl, by decide, ⟨by decide, by decide, by decide⟩, by decide⟩
theorem lmX8_148 : LkV RX8 148 mX8_ofPoint 8 2 := ⟨RX8, TX8, 20, rfl, rfl, tG 885 (by decide +kernel) rfl, tG 887 (by decide +kernel) rfl, tS 35 (by decide +kernel) rfl, tG 9 (by decide +kernel) rfl, tG 888 (by decide +kernel) rfl, by decide, ⟨by decide, by decide, by decide⟩, by decide⟩
theorem lmX8_143 : LkV RX8 143 mX8_counts 8 1 := ⟨RX8, TX8, 20, rfl, rfl, tG 889 (by decide +kernel) rfl, tG 891 (by decide +kernel) rfl, tS 36 (by decide +kernel) rfl, tG 9 (by decide +kernel) rfl, tG 892 (by decide +kernel) rfl, by decide, ⟨by decide, by decide, by decide⟩, by decide⟩
theorem lmL_53 : LkV RL 53 mX8_nth 8 1 := ⟨RX8, TX8, 20, rfl, rfl, tG 893 (by decide +kernel) rfl, tG 894 (by decide +kernel) rfl, tG 895 (by decide +kernel) rfl, tG 9 (by decide +kernel) rfl, tG 896 (by decide +kernel) rfl, by decide, ⟨by decide, by decide, by decide⟩, by decide⟩
theorem lmL_57 : LkV RL 57 mX8_count 8 4 := ⟨RX8, TX8, 20, rfl, rfl, tG 898 (by decide +kernel) rfl, tG 899 (by decide +kernel) rfl, tG 900 (by decide +kernel) rfl, tG 9 (by decide +kernel) rfl, tG 901 (by decide +kernel) rfl, by decide, ⟨by decide, by decide, by decide⟩, by decide⟩
theorem lmX8_156 : LkS RX8 156 mX8_bits 1 := ⟨tG 902 (by decide +kernel) rfl, tG 903 (by decide +kernel) rfl, tG 9 (by decide +kernel) rfl, tG 904 (by decide +kernel) rfl, by decide, ⟨by decide, by decide, by decide⟩, by decide⟩
theorem lmL_61 : LkV RL 61 mX8_many 8 4 := ⟨RX8, TX8, 20, rfl, rfl, tG 905 (by decide +kernel) rfl, tG 906 (by decide +kernel) rfl, tG 907 (by decide +kernel) rfl, tG 9 (by decide +kernel) rfl, tG 908 (by decide +kernel) rfl, by decide, ⟨by decide, by decide, by decide⟩, by decide⟩
theorem lmX8_159 : LkV RX8 159 mX8_manyIn 8 4 := ⟨RX8, TX8, 20, rfl, rfl, tG 909 (by decide +kernel) rfl, tG 911 (by decide +kernel) rfl, tS 37 (by decide +kernel) rfl, tG 9 (by decide +kernel) rfl, tG 912 (by decide +kernel) rfl, by decide, ⟨by decide, by decide, by decide⟩, by decide⟩
theorem lmL_66 : LkV RL 66 mX8_kth 8 5 := ⟨RX8, TX8, 20, rfl, rfl, tG 913 (by decide +kernel) rfl, tG 914 (by decide +kernel) rfl, tG 915 (by decide +kernel) rfl, tG 9 (by decide +kernel) rfl, tG 916 (by decide +kernel) rfl, by decide, ⟨by decide, by decide, by decide⟩, by decide⟩
theorem lmL_70 : LkV RL 70 mX8_half 8 4 := ⟨RX8, TX8, 20, rfl, rfl, tG 917 (by decide +kernel) rfl, tG 918 (by decide +kernel) rfl, tG 919 (by decide +kernel) rfl, tG 9 (by decide +kernel) rfl, tG 920 (by decide +kernel) rfl, by decide, ⟨by decide, by decide, by decide⟩, by decide⟩
theorem lmL_74 : LkV RL 74 mX8_below 8 2 := ⟨RX8, TX8, 20, rfl, rfl, tG 921 (by decide +kernel) rfl, tG 922 (by decide +kernel) rfl, tG 923 (by decide +kernel) rfl, tG 9 (by decide +kernel) rfl, tG 924 (by decide +kernel) rfl, by decide, ⟨by decide, by decide, by decide⟩, by decide⟩
theorem lmL_78 : LkV RL 78 mX8_ring 8 3 := ⟨RX8, TX8, 20, rfl, rfl, tG 925 (by decide +kernel) rfl, tG 926 (by decide +kernel) rfl, tG 927 (by decide +kernel) rfl, tG 9 (by decide +kernel) rfl, tG 928 (by decide +kernel) rfl, by decide, ⟨by decide, by decide, by decide⟩, by decide⟩
theorem lmL_82 : LkV RL 82 mX8_near 8 2 := ⟨RX8, TX8, 20, rfl, rfl, tG 930 (by decide +kernel) rfl, tG 931 (by decide +kernel) rfl, tG 932 (by decide +kernel) rfl, tG 9 (by decide +kernel) rfl, tG 933 (by decide +kernel) rfl, by decide, ⟨by decide, by decide, by decide⟩, by decide⟩
theorem lmX8_168 : LkV RX8 168 mX8_apart 8 3 := ⟨RX8, TX8, 20, rfl, rfl, tG 934 (by decide +kernel) rfl, tG 936 (by decide +kernel) rfl, tS 38 (by decide +kernel) rfl, tG 9 (by decide +kernel) rfl, tG 937 (by decide +kernel) rfl, by decide, ⟨by decide, by decide, by decide⟩, by decide⟩
theorem lmX8_165 : LkS RX8 165 mX8_abs 1 := ⟨tG 938 (by decide +kernel) rfl, tG 939 (by decide +kernel) rfl, tG 9 (by decide +kernel) rfl, tG 940 (by decide +kernel) rfl, by decide, ⟨by decide, by decide, by decide⟩, by decide⟩
theorem lmL_86 : LkV RL 86 mX8_strip 8 1 := ⟨RX8, TX8, 20, rfl, rfl, tG 941 (by decide +kernel) rfl, tG 942 (by decide +kernel) rfl, tG 943 (by decide +kernel) rfl, tG 9 (by decide +kernel) rfl, tG 944 (by decide +kernel) rfl, by decide, ⟨by decide, by decide, by decide⟩, by decide⟩
theorem lmL_90 : LkV RL 90 mX8_square 8 2 := ⟨RX8, TX8, 20, rfl, rfl, tG 945 (by decide +kernel) rfl, tG 946 (by decide +kernel) rfl, tG 947 (by decide +kernel) rfl, tG 9 (by decide +kernel) rfl, tG 948 (by decide +kernel) rfl, by decide, ⟨by decide, by decide, by decide⟩, by decide⟩
theorem lmL_94 : LkV RL 94 mX8_pairs 8 0 := ⟨RX8, TX8, 20, rfl, rfl, tG 951 (by decide +kernel) rfl, tG 952 (by decide +kernel) rfl, tG 953 (by decide +kernel) rfl, tG 9 (by decide +kernel) rfl, tG 954 (by decide +kernel) rfl, by decide, ⟨by decide, by decide, by decide⟩, by decide⟩
theorem lmL_98 : LkV RL 98 mX8_stair 8 1 := ⟨RX8, TX8, 20, rfl, rfl, tG 955 (by decide +kernel) rfl, tG 956 (by decide +kernel) rfl, tG 957 (by decide +kernel) rfl, tG 9 (by decide +kernel) rfl, tG 958 (by decide +kernel) rfl, by decide, ⟨by decide, by decide, by decide⟩, by decide⟩
theorem lmX8_176 : LkV RX8 176 mX8_isStair 8 1 := ⟨RX8, TX8, 20, rfl, rfl, tG 959 (by decide +kernel) rfl, tG 961 (by decide +kernel) rfl, tS 39 (by decide +kernel) rfl, tG 9 (by decide +kernel) rfl, tG 962 (by decide +kernel) rfl, by decide, ⟨by decide, by decide, by decide⟩, by decide⟩
theorem lmL_102 : LkV RL 102 mX8_layers 8 1 := ⟨RX8, TX8, 20, rfl, rfl, tG 963 (by decide +kernel) rfl, tG 964 (by decide +kernel) rfl, tG 965 (by decide +kernel) rfl, tG 9 (by decide +kernel) rfl, tG 966 (by decide +kernel) rfl, by decide, ⟨by decide, by decide, by decide⟩, by decide⟩
theorem lmX8_181 : LkV RX8 181 mX8_layersOf 8 1 := ⟨RX8, TX8, 20, rfl, rfl, tG 968 (by decide +kernel) rfl, tG 970 (by decide +kernel) rfl, tS 40 (by decide +kernel) rfl, tG 9 (by decide +kernel) rfl, tG 971 (by decide +kernel) rfl, by decide, ⟨by decide, by decide, by decide⟩, by decide⟩
theorem lmL_107 : LkV RL 107 mX8_inLayer 8 6 := ⟨RX8, TX8, 20, rfl, rfl, tG 972 (by decide +kernel) rfl, tG 973 (by decide +kernel) rfl, tG 974 (by decide +kernel) rfl, tG 9 (by decide +kernel) rfl, tG 975 (by decide +kernel) rfl, by decide, ⟨by decide, by decide, by decide⟩, by decide⟩
theorem lmL_111 : LkV RL 111 mX8_type 8 1 := ⟨RX8, TX8, 20, rfl, rfl, tG 977 (by decide +kernel) rfl, tG 978 (by decide +kernel) rfl, tG 979 (by decide +kernel) rfl, tG 9 (by decide +kernel) rfl, tG 980 (by decide +kernel) rfl, by decide, ⟨by decide, by decide, by decide⟩, by decide⟩
theorem lmL_115 : LkV RL 115 mX8_clear 8 0 := ⟨RX8, TX8, 20, rfl, rfl, tG 982 (by decide +kernel) rfl, tG 983 (by decide +kernel) rfl, tG 984 (by decide +kernel) rfl, tG 9 (by decide +kernel) rfl, tG 985 (by decide +kernel) rfl, by decide, ⟨by decide, by decide, by decide⟩, by decide⟩
theorem lmL_119 : LkV RL 119 mX8_area 8 0 := ⟨RX8, TX8, 20, rfl, rfl, tG 986 (by decide +kernel) rfl, tG 987 (by decide +kernel) rfl, tG 988 (by decide +kernel) rfl, tG 9 (by decide +kernel) rfl, tG 989 (by decide +kernel) rfl, by decide, ⟨by decide, by decide, by decide⟩, by decide⟩
theorem lmX8_239 : LkV RX8 239 mX8_spot 8 0 := ⟨RX8, TX8, 20, rfl, rfl, tG 990 (by decide +kernel) rfl, tG 992 (by decide +kernel) rfl, tS 41 (by decide +kernel) rfl, tG 9 (by decide +kernel) rfl, tG 993 (by decide +kernel) rfl, by decide, ⟨by decide, by decide, by decide⟩, by decide⟩
theorem lmX8_200 : LkV RX8 200 mX8_next 8 0 := ⟨RX8, TX8, 20, rfl, rfl, tG 994 (by decide +kernel) rfl, tG 996 (by decide +kernel) rfl, tS 42 (by decide +kernel) rfl, tG 9 (by decide +kernel) rfl, tG 997 (by decide +kernel) rfl, by decide, ⟨by decide, by decide, by decide⟩, by decide⟩
theorem lmX8_194 : LkV RX8 194 mX8_here 8 0 := ⟨RX8, TX8, 20, rfl, rfl, tG 998 (by decide +kernel) rfl, tG 1000 (by decide +kernel) rfl, tS 43 (by decide +kernel) rfl, tG 9 (by decide +kernel) rfl, tG 1001 (by decide +kernel) rfl, by decide, ⟨by decide, by decide, by decide⟩, by decide⟩
theorem lmX8_222 : LkV RX8 222 mX8_takesRect 8 0 := ⟨RX8, TX8, 20, rfl, rfl, tG 1002 (by decide +kernel) rfl, tG 1004 (by decide +kernel) rfl, tS 44 (by decide +kernel) rfl, tG 9 (by decide +kernel) rfl, tG 1005 (by decide +kernel) rfl, by decide, ⟨by decide, by decide, by decide⟩, by decide⟩
theorem lmX8_210 : LkV RX8 210 mX8_takes 8 1 := ⟨RX8, TX8, 20, rfl, rfl, tG 1006 (by decide +kernel) rfl, tG 1008 (by decide +kernel) rfl, tS 45 (by decide +kernel) rfl, tG 9 (by decide +kernel) rfl, tG 1009 (by decide +kernel) rfl, by decide, ⟨by decide, by decide, by decide⟩, by decide⟩
theorem lmX8_213 : LkV RX8 213 mX8_takesNumber 8 1 := ⟨RX8, TX8, 20, rfl, rfl, tG 1010 (by decide +kernel) rfl, tG 1012 (by decide +kernel) rfl, tS 46 (by decide +kernel) rfl, tG 9 (by decide +kernel) rfl, tG 1013 (by decide +kernel) rfl, by decide, ⟨by decide, by decide, by decide⟩, by decide⟩
theorem lmX8_216 : LkV RX8 216 mX8_puts 8 1 := ⟨RX8, TX8, 20, rfl, rfl, tG 1016 (by decide +kernel) rfl, tG 1018 (by decide +kernel) rfl, tS 47 (by decide +kernel) rfl, tG 9 (by decide +kernel) rfl, tG 1019 (by decide +kernel) rfl, by decide, ⟨by decide, by decide, by decide⟩, by decide⟩
theorem lmX8_226 : LkV RX8 226 mX8_notes 8 0 := ⟨RX8, TX8, 20, rfl, rfl, tG 1020 (by decide +kernel) rfl, tG 1022 (by decide +kernel) rfl, tS 48 (by decide +kernel) rfl, tG 9 (by decide +kernel) rfl, tG 1023 (by decide +kernel) rfl, by decide, ⟨by decide, by decide, by decide⟩, by decide⟩
theorem lmX8_229 : LkV RX8 229 mX8_deep 8 0 := ⟨RX8, TX8, 20, rfl, rfl, tG 1024 (by decide +kernel) rfl, tG 1026 (by decide +kernel) rfl, tS 49 (by decide +kernel) rfl, tG 9 (by decide +kernel) rfl, tG 1027 (by decide +kernel) rfl, by decide, ⟨by decide, by decide, by decide⟩, by decide⟩
theorem lmX8_232 : LkV RX8 232 mX8_opens 8 1 := ⟨RX8, TX8, 20, rfl, rfl, tG 1028 (by decide +kernel) rfl, tG 1030 (by decide +kernel) rfl, tS 50 (by decide +kernel) rfl, tG 9 (by decide +kernel) rfl, tG 1031 (by decide +kernel) rfl, by decide, ⟨by decide, by decide, by decide⟩, by decide⟩
theorem lmX8_242 : LkV RX8 242 mX8_behind 8 0 := ⟨RX8, TX8, 20, rfl, rfl, tG 1032 (by decide +kernel) rfl, tG 1034 (by decide +kernel) rfl, tS 51 (by decide +kernel) rfl, tG 9 (by decide +kernel) rfl, tG 1035 (by decide +kernel) rfl, by decide, ⟨by decide, by decide, by decide⟩, by decide⟩
theorem lmX8_235 : LkV RX8 235 mX8_does 8 1 := ⟨RX8, TX8, 20, rfl, rfl, tG 1036 (by decide +kernel) rfl, tG 1038 (by decide +kernel) rfl, tS 52 (by decide +kernel) rfl, tG 9 (by decide +kernel) rfl, tG 1039 (by decide +kernel) rfl, by decide, ⟨by decide, by decide, by decide⟩, by decide⟩
theorem lmX8_245 : LkV RX8 245 mX8_copyArea 8 2 := ⟨RX8, TX8, 20, rfl, rfl, tG 1040 (by decide +kernel) rfl, tG 1042 (by decide +kernel) rfl, tS 53 (by decide +kernel) rfl, tG 9 (by decide +kernel) rfl, tG 1043 (by decide +kernel) rfl, by decide, ⟨by decide, by decide, by decide⟩, by decide⟩
theorem lmL_123 : LkV RL 123 mX8_inside 8 0 := ⟨RX8, TX8, 20, rfl, rfl, tG 1044 (by decide +kernel) rfl, tG 1045 (by decide +kernel) rfl, tG 1046 (by decide +kernel) rfl, tG 9 (by decide +kernel) rfl, tG 1047 (by decide +kernel) rfl, by decide, ⟨by decide, by decide, by decide⟩, by decide⟩
theorem lmX8_251 : LkV RX8 251 mX8_linesArea 8 0 := ⟨RX8, TX8, 20, rfl, rfl, tG 1048 (by decide +kernel) rfl, tG 1050 (by decide +kernel) rfl, tS 54 (by decide +kernel) rfl, tG 9 (by decide +kernel) rfl, tG 1051 (by decide +kernel) rfl, by decide, ⟨by decide, by decide, by decide⟩, by decide⟩
theorem lmX8_248 : LkV RX8 248 mX8_isCovered 8 2 := ⟨RX8, TX8, 20, rfl, rfl, tG 1052 (by decide +kernel) rfl, tG 1054 (by decide +kernel) rfl, tS 55 (by decide +kernel) rfl, tG 9 (by decide +kernel) rfl, tG 1055 (by decide +kernel) rfl, by decide, ⟨by decide, by decide, by decide⟩, by decide⟩
theorem lmL_127 : LkV RL 127 mX8_covers 8 2 := ⟨RX8, TX8, 20, rfl, rfl, tG 1056 (by decide +kernel) rfl, tG 1057 (by decide +kernel) rfl, tG 1058 (by decide +kernel) rfl, tG 9 (by decide +kernel) rfl, tG 1059 (by decide +kernel) rfl, by decide, ⟨by decide, by decide, by decide⟩, by decide⟩
theorem lmL_131 : LkV RL 131 mX8_found 8 1 := ⟨RX8, TX8, 20, rfl, rfl, tG 1060 (by decide +kernel) rfl, tG 1061 (by decide +kernel) rfl, tG 1062 (by decide +kernel) rfl, tG 9 (by decide +kernel) rfl, tG 1063 (by decide +kernel) rfl, by decide, ⟨by decide, by decide, by decide⟩, by decide⟩
theorem lmL_135 : LkV RL 135 mX8_mow 8 0 := ⟨RX8, TX8, 20, rfl, rfl, tG 1064 (by decide +kernel) rfl, tG 1065 (by decide +kernel) rfl, tG 1066 (by decide +kernel) rfl, tG 9 (by decide +kernel) rfl, tG 1067 (by decide +kernel) rfl, by decide, ⟨by decide, by decide, by decide⟩, by decide⟩
theorem lmL_139 : LkV RL 139 mX8_odds 8 6 := ⟨RX8, TX8, 20, rfl, rfl, tG 1068 (by decide +kernel) rfl, tG 1069 (by decide +kernel) rfl, tG 1070 (by decide +kernel) rfl, tG 9 (by decide +kernel) rfl, tG 1071 (by decide +kernel) rfl, by decide, ⟨by decide, by decide, by decide⟩, by decide⟩
theorem lmX8_258 : LkV RX8 258 mX8_tells 8 2 := ⟨RX8, TX8, 20, rfl, rfl, tG 1074 (by decide +kernel) rfl, tG 1076 (by decide +kernel) rfl, tS 56 (by decide +kernel) rfl, tG 9 (by decide +kernel) rfl, tG 1077 (by decide +kernel) rfl, by decide, ⟨by decide, by decide, by decide⟩, by decide⟩
theorem lmL_144 : LkV RL 144 mX8_part 8 1 := ⟨RX8, TX8, 20, rfl, rfl, tG 1078 (by decide +kernel) rfl, tG 1079 (by decide +kernel) rfl, tG 1080 (by decide +kernel) rfl, tG 9 (by decide +kernel) rfl, tG 1081 (by decide +kernel) rfl, by decide, ⟨by decide, by decide, by decide⟩, by decide⟩
theorem lmL_148 : LkV RL 148 mX8_image 8 1 := ⟨RX8, TX8, 20, rfl, rfl, tG 1083 (by decide +kernel) rfl, tG 1084 (by decide +kernel) rfl, tG 1085 (by decide +kernel) rfl, tG 9 (by decide +kernel) rfl, tG 1086 (by decide +kernel) rfl, by decide, ⟨by decide, by decide, by decide⟩, by decide⟩
theorem lmL_152 : LkV RL 152 mX8_from 8 1 := ⟨RX8, TX8, 20, rfl, rfl, tG 1087 (by decide +kernel) rfl, tG 1088 (by decide +kernel) rfl, tG 1089 (by decide +kernel) rfl, tG 9 (by decide +kernel) rfl, tG 1090 (by decide +kernel) rfl, by decide, ⟨by decide, by decide, by decide⟩, by decide⟩
theorem lmL_156 : LkV RL 156 mX8_status 8 1 := ⟨RX8, TX8, 20, rfl, rfl, tG 1091 (by decide +kernel) rfl, tG 1092 (by decide +kernel) rfl, tG 1093 (by decide +kernel) rfl, tG 9 (by decide +kernel) rfl, tG 1094 (by decide +kernel) rfl, by decide, ⟨by decide, by decide, by decide⟩, by decide⟩
theorem lmL_160 : LkV RL 160 mX8_size 8 1 := ⟨RX8, TX8, 20, rfl, rfl, tG 1095 (by decide +kernel) rfl, tG 1096 (by decide +kernel) rfl, tG 1097 (by decide +kernel) rfl, tG 9 (by decide +kernel) rfl, tG 1098 (by decide +kernel) rfl, by decide, ⟨by decide, by decide, by decide⟩, by decide⟩
theorem lmX8_269 : LkV RX8 269 mX8_sizeOf 8 1 := ⟨RX8, TX8, 20, rfl, rfl, tG 1100 (by decide +kernel) rfl, tG 1102 (by decide +kernel) rfl, tS 57 (by decide +kernel) rfl, tG 9 (by decide +kernel) rfl, tG 1103 (by decide +kernel) rfl, by decide, ⟨by decide, by decide, by decide⟩, by decide⟩
theorem lmX8_264 : LkV RX8 264 mX8_weights 8 0 := ⟨RX8, TX8, 20, rfl, rfl, tG 1104 (by decide +kernel) rfl, tG 1106 (by decide +kernel) rfl, tS 58 (by decide +kernel) rfl, tG 9 (by decide +kernel) rfl, tG 1107 (by decide +kernel) rfl, by decide, ⟨by decide, by decide, by decide⟩, by decide⟩
theorem lmL_165 : LkV RL 165 mX8_digest 8 0 := ⟨RX8, TX8, 20, rfl, rfl, tG 1108 (by decide +kernel) rfl, tG 1109 (by decide +kernel) rfl, tG 1110 (by decide +kernel) rfl, tG 9 (by decide +kernel) rfl, tG 1111 (by decide +kernel) rfl, by decide, ⟨by decide, by decide, by decide⟩, by decide⟩
theorem lmX8_279 : LkV RX8 279 mX8_mix 8 1 := ⟨RX8, TX8, 20, rfl, rfl, tG 1113 (by decide +kernel) rfl, tG 1115 (by decide +kernel) rfl, tS 59 (by decide +kernel) rfl, tG 9 (by decide +kernel) rfl, tG 1116 (by decide +kernel) rfl, by decide, ⟨by decide, by decide, by decide⟩, by decide⟩
theorem lcX7_68 : Cond.constant RX7 68 (-2000000002) ∈ lwG := tG 244 (by decide +kernel) rfl
theorem lcX7_123 : Cond.constant RX7 123 (-2000000003) ∈ lwG := tG 249 (by decide +kernel) rfl
theorem lcX7_81 : Cond.constant RX7 81 (-2000000004) ∈ lwG := tG 258 (by decide +kernel) rfl
theorem lcX0_47 : Cond.constant RX0 47 (-2000000004) ∈ lwG := tG 274 (by decide +kernel) rfl
theorem lcX0_54 : Cond.constant RX0 54 (-2000000002) ∈ lwG := tG 294 (by decide +kernel) rfl
theorem lcX7_96 : Cond.constant RX7 96 (999999) ∈ lwG := tG 308 (by decide +kernel) rfl
theorem lcX4_65 : Cond.constant RX4 65 (-2000000001) ∈ lwG := tG 425 (by decide +kernel) rfl
theorem lcJ6_265 : Cond.constant RJ6 265 (1431655765) ∈ lwG := tG 437 (by decide +kernel) rfl
theorem lcJ6_266 : Cond.constant RJ6 266 (858993459) ∈ lwG := tG 438 (by decide +kernel) rfl
theorem lcJ6_267 : Cond.constant RJ6 267 (252645135) ∈ lwG := tG 439 (by decide +kernel) rfl
theorem lcX7_163 : Cond.constant RX7 163 (-2000000001) ∈ lwG := tG 457 (by decide +kernel) rfl
theorem lcX0_80 : Cond.constant RX0 80 (-2000000001) ∈ lwG := tG 546 (by decide +kernel) rfl
theorem lcX8_42 : Cond.constant RX8 42 (-2000000002) ∈ lwG := tG 778 (by decide +kernel) rfl
theorem lcX8_44 : Cond.constant RX8 44 (-2000000004) ∈ lwG := tG 787 (by decide +kernel) rfl
theorem lcX8_104 : Cond.constant RX8 104 (1103515245) ∈ lwG := tG 837 (by decide +kernel) rfl
theorem lcX8_105 : Cond.constant RX8 105 (2147483647) ∈ lwG := tG 838 (by decide +kernel) rfl
theorem lcX8_43 : Cond.constant RX8 43 (-2000000003) ∈ lwG := tG 879 (by decide +kernel) rfl
theorem lcX8_152 : Cond.constant RX8 152 (-2000000001) ∈ lwG := tG 897 (by decide +kernel) rfl
theorem llX7_301 : Cond.constantLong RX7 301 (1103515245) ∈ lwG := tG 312 (by decide +kernel) rfl
theorem llX7_303 : Cond.constantLong RX7 303 (12345) ∈ lwG := tG 313 (by decide +kernel) rfl
theorem llX7_305 : Cond.constantLong RX7 305 (2147483648) ∈ lwG := tG 314 (by decide +kernel) rfl
theorem llX7_307 : Cond.constantLong RX7 307 (65536) ∈ lwG := tG 318 (by decide +kernel) rfl
theorem llX1_22 : Cond.constantLong RX1 22 (10) ∈ lwG := tG 642 (by decide +kernel) rfl
theorem llX7_282 : Cond.constantLong RX7 282 (1901) ∈ lwG := tG 688 (by decide +kernel) rfl
theorem llX7_284 : Cond.constantLong RX7 284 (31) ∈ lwG := tG 689 (by decide +kernel) rfl
theorem llX8_45 : Cond.constantLong RX8 45 (-500) ∈ lwG := tG 768 (by decide +kernel) rfl
theorem llX8_47 : Cond.constantLong RX8 47 (500) ∈ lwG := tG 769 (by decide +kernel) rfl
theorem llX8_79 : Cond.constantLong RX8 79 (100) ∈ lwG := tG 773 (by decide +kernel) rfl
theorem llX8_106 : Cond.constantLong RX8 106 (999999) ∈ lwG := tG 831 (by decide +kernel) rfl
theorem llX8_108 : Cond.constantLong RX8 108 (30) ∈ lwG := tG 832 (by decide +kernel) rfl
theorem llX8_138 : Cond.constantLong RX8 138 (5) ∈ lwG := tG 870 (by decide +kernel) rfl
theorem llX8_146 : Cond.constantLong RX8 146 (3) ∈ lwG := tG 884 (by decide +kernel) rfl
theorem llX8_163 : Cond.constantLong RX8 163 (60) ∈ lwG := tG 929 (by decide +kernel) rfl
theorem llX8_172 : Cond.constantLong RX8 172 (300) ∈ lwG := tG 949 (by decide +kernel) rfl
theorem llX8_174 : Cond.constantLong RX8 174 (2) ∈ lwG := tG 950 (by decide +kernel) rfl
theorem llX8_179 : Cond.constantLong RX8 179 (4) ∈ lwG := tG 967 (by decide +kernel) rfl
theorem llX8_184 : Cond.constantLong RX8 184 (64) ∈ lwG := tG 976 (by decide +kernel) rfl
theorem llX8_186 : Cond.constantLong RX8 186 (127) ∈ lwG := tG 981 (by decide +kernel) rfl
theorem llX8_206 : Cond.constantLong RX8 206 (48) ∈ lwG := tG 1014 (by decide +kernel) rfl
theorem llX8_208 : Cond.constantLong RX8 208 (57) ∈ lwG := tG 1015 (by decide +kernel) rfl
theorem llX8_254 : Cond.constantLong RX8 254 (15) ∈ lwG := tG 1072 (by decide +kernel) rfl
theorem llX8_256 : Cond.constantLong RX8 256 (10) ∈ lwG := tG 1073 (by decide +kernel) rfl
theorem llX8_262 : Cond.constantLong RX8 262 (-2000000002) ∈ lwG := tG 1082 (by decide +kernel) rfl
theorem llX8_267 : Cond.constantLong RX8 267 (7) ∈ lwG := tG 1099 (by decide +kernel) rfl
theorem llX8_277 : Cond.constantLong RX8 277 (1901) ∈ lwG := tG 1112 (by decide +kernel) rfl
theorem llX8_272 : Cond.constantLong RX8 272 (31) ∈ lwG := tG 1117 (by decide +kernel) rfl
theorem laX0_90 : Cond.methodLink RX0 90 arraycopyName ∈ lwG ∧ Cond.native arraycopyName ∈ lwG ∧ Cond.static arraycopyName ∈ lwG ∧ Cond.initialized "java/lang/System" ∈ lwG := ⟨tG 267 (by decide +kernel) rfl, tG 269 (by decide +kernel) rfl, tG 268 (by decide +kernel) rfl, tG 10 (by decide +kernel) rfl⟩
theorem laX6_44 : Cond.methodLink RX6 44 arraycopyName ∈ lwG ∧ Cond.native arraycopyName ∈ lwG ∧ Cond.static arraycopyName ∈ lwG ∧ Cond.initialized "java/lang/System" ∈ lwG := ⟨tG 613 (by decide +kernel) rfl, tG 269 (by decide +kernel) rfl, tG 268 (by decide +kernel) rfl, tG 10 (by decide +kernel) rfl⟩
end
section
/-! Facts of the static shape. -/
theorem kd_0 : kd 0 = 7 := by decide
theorem kd_7 : kd 7 = 2 := by decide
theorem kd_8 : kd 8 = 11 := by decide
theorem ln_8 : ln 8 = 8 := by decide
theorem kd_58 : kd 58 = 9 := by decide
theorem ln_58 : ln 58 = 60 := by decide
theorem kd_60 : kd 60 = 9 := by decide
theorem ln_60 : ln 60 = 60 := by decide
theorem kd_62 : kd 62 = 9 := by decide
theorem ln_62 : ln 62 = 120 := by decide
theorem kd_63 : kd 63 = 9 := by decide
theorem ln_63 : ln 63 = 48 := by decide
theorem kd_65 : kd 65 = 9 := by decide
theorem ln_65 : ln 65 = 120 := by decide
theorem kd_66 : kd 66 = 9 := by decide
theorem ln_66 : ln 66 = 48 := by decide
theorem kd_67 : kd 67 = 5 := by decide
theorem kd_68 : kd 68 = 9 := by decide
theorem ln_68 : ln 68 = 120 := by decide
theorem kd_70 : kd 70 = 9 := by decide
theorem ln_70 : ln 70 = 120 := by decide
theorem kd_71 : kd 71 = 9 := by decide
theorem ln_71 : ln 71 = 48 := by decide
theorem kd_72 : kd 72 = 1 := by decide
theorem kd_73 : kd 73 = 12 := by decide
theorem ln_73 : ln 73 = 2 := by decide
theorem kd_94 : kd 94 = 8 := by decide
theorem kd_95 : kd 95 = 9 := by decide
theorem ln_95 : ln 95 = 7458 := by decide
theorem kd_96 : kd 96 = 9 := by decide
theorem ln_96 : ln 96 = 728 := by decide
theorem kd_97 : kd 97 = 10 := by decide
theorem ln_97 : ln 97 = 2 := by decide
theorem kd_98 : kd 98 = 9 := by decide
theorem ln_98 : ln 98 = 120 := by decide
theorem kd_99 : kd 99 = 9 := by decide
theorem ln_99 : ln 99 = 3 := by decide
theorem kd_100 : kd 100 = 9 := by decide
theorem ln_100 : ln 100 = 60 := by decide
theorem kd_101 : kd 101 = 9 := by decide
theorem ln_101 : ln 101 = 128 := by decide
theorem kd_102 : kd 102 = 10 := by decide
theorem ln_102 : ln 102 = 64 := by decide
theorem rf_7_0 : rf 7 0 = 8 := by decide
theorem rf_67_0 : rf 67 0 = 68 := by decide
theorem rf_67_1 : rf 67 1 = 69 := by decide
theorem rf_0_0 : rf 0 0 = 1 := by decide
theorem rf_0_1 : rf 0 1 = 7 := by decide
theorem rf_0_2 : rf 0 2 = 57 := by decide
theorem rf_0_3 : rf 0 3 = 59 := by decide
theorem rf_0_4 : rf 0 4 = 61 := by decide
theorem rf_0_5 : rf 0 5 = 64 := by decide
theorem rf_0_6 : rf 0 6 = 67 := by decide
theorem rf_0_7 : rf 0 7 = 72 := by decide
theorem rf_0_8 : rf 0 8 = 73 := by decide
theorem rf_94_0 : rf 94 0 = 95 := by decide
theorem rf_94_1 : rf 94 1 = 96 := by decide
theorem rf_94_4 : rf 94 4 = 97 := by decide
theorem rf_94_5 : rf 94 5 = 98 := by decide
theorem rf_94_9 : rf 94 9 = 99 := by decide
theorem rf_94_11 : rf 94 11 = 100 := by decide
theorem rf_94_15 : rf 94 15 = 101 := by decide
theorem rf_94_18 : rf 94 18 = 102 := by decide
def OKF (f : Nat) : Prop := kd f = 0 ∧ (rf f 0 = f + 1 ∧ kd (f + 1) = 9 ∧ ln (f + 1) = 121) ∧ (rf f 1 = f + 2 ∧ kd (f + 2) = 9 ∧ ln (f + 2) = 121) ∧ (rf f 2 = f + 3 ∧ kd (f + 3) = 9 ∧ ln (f + 3) = 121) ∧ (rf f 3 = f + 4 ∧ kd (f + 4) = 9 ∧ ln (f + 4) = 121) ∧ (rf f 4 = f + 5 ∧ kd (f + 5) = 9 ∧ ln (f + 5) = 121)
def OKP (f : Nat) : Prop := kd f = 4 ∧ rf f 0 = f + 1 ∧ kd (f + 1) = 9 ∧ ln (f + 1) = 60
def OKS (f : Nat) : Prop := kd f = 6 ∧ (rf f 0 = f + 1 ∧ kd (f + 1) = 9 ∧ ln (f + 1) = 120) ∧ (rf f 1 = f + 2 ∧ kd (f + 2) = 9 ∧ ln (f + 2) = 48)
def OKI (f : Nat) : Prop := kd f = 3 ∧ (rf f 0 = f + 1 ∧ OKF (f + 1)) ∧ (rf f 1 = f + 7 ∧ OKS (f + 7))
theorem OKF.k {f : Nat} (h : OKF f) : kd f = 0 := h.1
theorem OKF.r0 {f : Nat} (h : OKF f) : rf f 0 = f + 1 := h.2.1.1
theorem OKF.a0 {f : Nat} (h : OKF f) : kd (f + 1) = 9 := h.2.1.2.1
theorem OKF.n0 {f : Nat} (h : OKF f) : ln (f + 1) = 121 := h.2.1.2.2
theorem OKF.r1 {f : Nat} (h : OKF f) : rf f 1 = f + 2 := h.2.2.1.1
theorem OKF.a1 {f : Nat} (h : OKF f) : kd (f + 2) = 9 := h.2.2.1.2.1
theorem OKF.n1 {f : Nat} (h : OKF f) : ln (f + 2) = 121 := h.2.2.1.2.2
theorem OKF.r2 {f : Nat} (h : OKF f) : rf f 2 = f + 3 := h.2.2.2.1.1
theorem OKF.a2 {f : Nat} (h : OKF f) : kd (f + 3) = 9 := h.2.2.2.1.2.1
theorem OKF.n2 {f : Nat} (h : OKF f) : ln (f + 3) = 121 := h.2.2.2.1.2.2
theorem OKF.r3 {f : Nat} (h : OKF f) : rf f 3 = f + 4 := h.2.2.2.2.1.1
theorem OKF.a3 {f : Nat} (h : OKF f) : kd (f + 4) = 9 := h.2.2.2.2.1.2.1
theorem OKF.n3 {f : Nat} (h : OKF f) : ln (f + 4) = 121 := h.2.2.2.2.1.2.2
theorem OKF.r4 {f : Nat} (h : OKF f) : rf f 4 = f + 5 := h.2.2.2.2.2.1
theorem OKF.a4 {f : Nat} (h : OKF f) : kd (f + 5) = 9 := h.2.2.2.2.2.2.1
theorem OKF.n4 {f : Nat} (h : OKF f) : ln (f + 5) = 121 := h.2.2.2.2.2.2.2
theorem OKP.k {f : Nat} (h : OKP f) : kd f = 4 := h.1
theorem OKP.r0 {f : Nat} (h : OKP f) : rf f 0 = f + 1 := h.2.1
theorem OKP.a0 {f : Nat} (h : OKP f) : kd (f + 1) = 9 := h.2.2.1
theorem OKP.n0 {f : Nat} (h : OKP f) : ln (f + 1) = 60 := h.2.2.2
theorem OKS.k {f : Nat} (h : OKS f) : kd f = 6 := h.1
theorem OKS.r0 {f : Nat} (h : OKS f) : rf f 0 = f + 1 := h.2.1.1
theorem OKS.a0 {f : Nat} (h : OKS f) : kd (f + 1) = 9 := h.2.1.2.1
theorem OKS.n0 {f : Nat} (h : OKS f) : ln (f + 1) = 120 := h.2.1.2.2
theorem OKS.r1 {f : Nat} (h : OKS f) : rf f 1 = f + 2 := h.2.2.1
theorem OKS.a1 {f : Nat} (h : OKS f) : kd (f + 2) = 9 := h.2.2.2.1
theorem OKS.n1 {f : Nat} (h : OKS f) : ln (f + 2) = 48 := h.2.2.2.2
theorem OKI.k {f : Nat} (h : OKI f) : kd f = 3 := h.1
theorem OKI.r0 {f : Nat} (h : OKI f) : rf f 0 = f + 1 := h.2.1.1
theorem OKI.f {f : Nat} (h : OKI f) : OKF (f + 1) := h.2.1.2
theorem OKI.r1 {f : Nat} (h : OKI f) : rf f 1 = f + 7 := h.2.2.1
theorem OKI.s {f : Nat} (h : OKI f) : OKS (f + 7) := h.2.2.2
theorem okF_1 : OKF 1 := by unfold OKF; decide
theorem okF_9 : OKF 9 := by unfold OKF; decide
theorem okF_15 : OKF 15 := by unfold OKF; decide
theorem okF_21 : OKF 21 := by unfold OKF; decide
theorem okF_27 : OKF 27 := by unfold OKF; decide
theorem okF_33 : OKF 33 := by unfold OKF; decide
theorem okF_39 : OKF 39 := by unfold OKF; decide
theorem okF_45 : OKF 45 := by unfold OKF; decide
theorem okF_51 : OKF 51 := by unfold OKF; decide
theorem okP_57 : OKP 57 := by unfold OKP; decide
theorem okP_59 : OKP 59 := by unfold OKP; decide
theorem okS_61 : OKS 61 := by unfold OKS; decide
theorem okS_64 : OKS 64 := by unfold OKS; decide
theorem okS_69 : OKS 69 := by unfold OKS; decide
theorem okF_75 : OKF 75 := by unfold OKF; decide
theorem okS_81 : OKS 81 := by unfold OKS; decide
theorem okF_85 : OKF 85 := by unfold OKF; decide
theorem okS_91 : OKS 91 := by unfold OKS; decide
theorem okI_74 : OKI 74 := ⟨by decide, ⟨by decide, okF_75⟩, ⟨by decide, okS_81⟩⟩
theorem okI_84 : OKI 84 := ⟨by decide, ⟨by decide, okF_85⟩, ⟨by decide, okS_91⟩⟩
theorem vp_in_lt {i : Int32} {n : Nat} (h : vp_in i n) : i.toNatClampNeg < n := Nat.not_le.mp fun q => h (Or.inr q)
theorem slt_all : ∀ k, k < 8 → rf 8 k = 9 + 6 * k := by decide
theorem slt_rf {i : Int32} (h : vp_in i 8) : rf 8 i.toNatClampNeg = 9 + 6 * i.toNatClampNeg := slt_all _ (vp_in_lt h)
theorem slt_okk : ∀ k, k < 8 → OKF (9 + 6 * k) := by
  intro k hk
  match k, hk with
  | 0, _ => exact okF_9
  | 1, _ => exact okF_15
  | 2, _ => exact okF_21
  | 3, _ => exact okF_27
  | 4, _ => exact okF_33
  | 5, _ => exact okF_39
  | 6, _ => exact okF_45
  | 7, _ => exact okF_51
  | k + 8, hk => exact absurd hk (by omega)
theorem slt_ok {i : Int32} (h : vp_in i 8) : OKF (9 + 6 * i.toNatClampNeg) := slt_okk _ (vp_in_lt h)
theorem kpt_all : ∀ k, k < 2 → rf 73 k = 74 + 10 * k := by decide
theorem kpt_rf {i : Int32} (h : vp_in i 2) : rf 73 i.toNatClampNeg = 74 + 10 * i.toNatClampNeg := kpt_all _ (vp_in_lt h)
theorem kpt_okk : ∀ k, k < 2 → OKI (74 + 10 * k) := by
  intro k hk
  match k, hk with
  | 0, _ => exact okI_74
  | 1, _ => exact okI_84
  | k + 2, hk => exact absurd hk (by omega)
theorem kpt_ok {i : Int32} (h : vp_in i 2) : OKI (74 + 10 * i.toNatClampNeg) := kpt_okk _ (vp_in_lt h)
theorem b01_ne {c : Prop} [Decidable c] (h : (if c then (1 : Int32) else 0) = 0) : ¬ c := by
  intro hc
  rw [if_pos hc] at h
  exact absurd h (by decide)
theorem b01_eq {c : Prop} [Decidable c] (h : ¬ (if c then (1 : Int32) else 0) = 0) : c := by
  rcases Decidable.em c with hc | hc
  · exact hc
  · rw [if_neg hc] at h
    exact absurd rfl h
theorem nar01 (c : Prop) [Decidable c] : narrow .boolean (.int (if c then 1 else 0)) = .int (if c then 1 else 0) := by split <;> rfl
theorem vp_nar01 (c : Prop) [Decidable c] : vp_nar .boolean (if c then 1 else 0) = (if c then 1 else 0) := by split <;> rfl
/-! memory reads behind writes -/
theorem w1_s (σ : Mem) (a k : Nat) (v : Int32) : (w1 σ a k v).1 a k = v := by simp [w1]
theorem w1_n (σ : Mem) (a k : Nat) (v : Int32) (i j : Nat) (h : ¬ (i = a ∧ j = k)) : (w1 σ a k v).1 i j = σ.1 i j := by simp [w1, h]
theorem w1_a (σ : Mem) (a k : Nat) (v : Int32) (i j : Nat) (h : i ≠ a) : (w1 σ a k v).1 i j = σ.1 i j := by simp [w1, h]
theorem w1_k (σ : Mem) (a k : Nat) (v : Int32) (i j : Nat) (h : j ≠ k) : (w1 σ a k v).1 i j = σ.1 i j := by simp [w1, h]
theorem w1_2 (σ : Mem) (a k : Nat) (v : Int32) : (w1 σ a k v).2 = σ.2 := rfl
theorem w2_1 (σ : Mem) (a k : Nat) (v : Int64) : (w2 σ a k v).1 = σ.1 := rfl
theorem w2_s (σ : Mem) (a k : Nat) (v : Int64) : (w2 σ a k v).2 a k = v := by simp [w2]
theorem w2_n (σ : Mem) (a k : Nat) (v : Int64) (i j : Nat) (h : ¬ (i = a ∧ j = k)) : (w2 σ a k v).2 i j = σ.2 i j := by simp [w2, h]
theorem wc_2 (σ : Mem) (a b sp dp n : Nat) : (wc σ a b sp dp n).2 = σ.2 := rfl
end
section
/-! Pure words: counting, picking, the abstract field, and what a class's field object and a block of the model's row hold of it. -/
def cnt (p : Nat → Bool) : Nat → Nat
  | 0 => 0
  | n + 1 => cnt p n + (if p n = true then 1 else 0)
def pik (p : Nat → Bool) : Nat → List Nat
  | 0 => []
  | n + 1 => if p n = true then pik p n ++ [n] else pik p n
theorem pik_len (p : Nat → Bool) : ∀ n, (pik p n).length = cnt p n
  | 0 => rfl
  | n + 1 => by
    simp only [pik, cnt]
    split
    · rw [List.length_append, pik_len p n]; rfl
    · rw [pik_len p n]; rfl
theorem pik_mem (p : Nat → Bool) {e : Nat} : ∀ n, e ∈ pik p n ↔ e < n ∧ p e = true
  | 0 => by simp [pik]
  | n + 1 => by
    simp only [pik]
    split
    · rename_i h
      rw [List.mem_append, pik_mem p n, List.mem_singleton]
      constructor
      · rintro (⟨h1, h2⟩ | rfl)
        · exact ⟨by omega, h2⟩
        · exact ⟨by omega, h⟩
      · rintro ⟨h1, h2⟩
        by_cases he : e = n
        · exact Or.inr he
        · exact Or.inl ⟨by omega, h2⟩
    · rename_i h
      rw [pik_mem p n]
      constructor
      · rintro ⟨h1, h2⟩
        exact ⟨by omega, h2⟩
      · rintro ⟨h1, h2⟩
        have he : e ≠ n := fun q => h (by rw [← q]; exact h2)
        exact ⟨by omega, h2⟩
theorem pik_congr {p q : Nat → Bool} : ∀ {n : Nat}, (∀ e, e < n → p e = q e) → pik p n = pik q n
  | 0, _ => rfl
  | n + 1, h => by
    simp only [pik]
    rw [pik_congr (fun e he => h e (by omega)), h n (by omega)]
theorem cnt_congr {p q : Nat → Bool} {n : Nat} (h : ∀ e, e < n → p e = q e) : cnt p n = cnt q n := by rw [← pik_len, ← pik_len, pik_congr h]
theorem cnt_le (p : Nat → Bool) : ∀ n, cnt p n ≤ n
  | 0 => Nat.le_refl 0
  | n + 1 => by
    have := cnt_le p n
    simp only [cnt]
    split <;> omega
theorem cnt_mono (p : Nat → Bool) {a b : Nat} (h : a ≤ b) : cnt p a ≤ cnt p b := by
  induction b with
  | zero => rw [Nat.le_zero.mp h]; exact Nat.le_refl _
  | succ b ih =>
    by_cases hb : a ≤ b
    · exact Nat.le_trans (ih hb) (by simp only [cnt]; omega)
    · rw [show a = b + 1 by omega]; exact Nat.le_refl _
theorem cnt_imp {p q : Nat → Bool} : ∀ {n : Nat}, (∀ e, e < n → p e = true → q e = true) → cnt p n ≤ cnt q n
  | 0, _ => Nat.le_refl _
  | n + 1, h => by
    have h1 := cnt_imp (p := p) (q := q) (n := n) (fun e he => h e (by omega))
    have h2 := h n (by omega)
    simp only [cnt]
    by_cases hp : p n = true
    · rw [if_pos hp, if_pos (h2 hp)]; omega
    · rw [if_neg hp]; split <;> omega
theorem cnt_lt_of {p : Nat → Bool} {n i : Nat} (hi : i < n) (hp : p i = true) : cnt p i < cnt p n := by
  have h1 : cnt p (i + 1) = cnt p i + 1 := by simp [cnt, hp]
  have h2 := cnt_mono p (show i + 1 ≤ n by omega)
  omega
theorem pik_get (p : Nat → Bool) : ∀ {n i : Nat}, i < n → p i = true → (pik p n).getD (cnt p i) 0 = i
  | n + 1, i, hi, hp => by
    by_cases he : i = n
    · subst he
      simp only [pik, hp, if_true]
      rw [List.getD_eq_getElem?_getD, List.getElem?_append_right (by rw [pik_len]; exact Nat.le_refl _), pik_len, Nat.sub_self]
      rfl
    · have h1 := pik_get p (n := n) (i := i) (by omega) hp
      have h2 := cnt_lt_of (p := p) (n := n) (i := i) (by omega) hp
      simp only [pik]
      split
      · rw [List.getD_eq_getElem?_getD, List.getElem?_append_left (by rw [pik_len]; exact h2), ← List.getD_eq_getElem?_getD, h1]
      · exact h1
theorem pik_lt (p : Nat → Bool) {n k : Nat} (h : k < (pik p n).length) : (pik p n).getD k 0 < n ∧ p ((pik p n).getD k 0) = true := by
  have hm : (pik p n).getD k 0 ∈ pik p n := by
    rw [List.getD_eq_getElem?_getD, List.getElem?_eq_getElem h]
    exact List.getElem_mem h
  exact (pik_mem p n).mp hm
/-- of what is left to search nothing was found yet -/
theorem pik_head (p : Nat → Bool) : ∀ {n i : Nat}, i < n → (∀ e, e < i → p e = false) → p i = true → (pik p n).head? = some i
  | n + 1, i, hi, h0, hp => by
    by_cases he : i = n
    · subst he
      have h1 : pik p i = [] := by
        rw [List.eq_nil_iff_forall_not_mem]
        intro e hm
        have := (pik_mem p i).mp hm
        rw [h0 e this.1] at this
        exact absurd this.2 (by decide)
      simp [pik, hp, h1]
    · have h1 := pik_head p (n := n) (i := i) (by omega) h0 hp
      simp only [pik]
      split
      · rw [List.head?_append, h1]; rfl
      · exact h1
theorem pik_nil (p : Nat → Bool) {n : Nat} (h0 : ∀ e, e < n → p e = false) : pik p n = [] := by
  rw [List.eq_nil_iff_forall_not_mem]
  intro e hm
  have := (pik_mem p n).mp hm
  rw [h0 e this.1] at this
  exact absurd this.2 (by decide)
def sumI (f : Nat → Int32) : Nat → Int32
  | 0 => 0
  | n + 1 => sumI f n + f n
theorem sumI_congr {f g : Nat → Int32} : ∀ {n : Nat}, (∀ e, e < n → f e = g e) → sumI f n = sumI g n
  | 0, _ => rfl
  | n + 1, h => by
    simp only [sumI]
    rw [sumI_congr (fun e he => h e (by omega)), h n (by omega)]
def sumL (f : Nat → Int32) (l : List Nat) : Int32 := (l.map f).foldl (· + ·) 0
theorem sumL_snoc (f : Nat → Int32) (l : List Nat) (e : Nat) : sumL f (l ++ [e]) = sumL f l + f e := by simp [sumL]
theorem sumL_pik (f : Nat → Int32) (p : Nat → Bool) : ∀ n, sumL f (pik p n) = sumI (fun e => if p e = true then f e else 0) n
  | 0 => rfl
  | n + 1 => by
    simp only [pik, sumI]
    split
    · rw [sumL_snoc, sumL_pik f p n]
    · rw [sumL_pik f p n, Int32.add_zero]
theorem sumI_cnt (p : Nat → Bool) : ∀ n, sumI (fun e => if p e = true then 1 else 0) n = nI (cnt p n)
  | 0 => nI_0.symm
  | n + 1 => by
    simp only [sumI, cnt]
    rw [sumI_cnt p n]
    split
    · exact nI_1 _
    · rw [Int32.add_zero, Nat.add_zero]
/-- an int array holds a list of places -/
def HL (σ : Mem) (a : Nat) (l : List Nat) : Prop := ∀ k, k < l.length → σ.1 a k = nI (l.getD k 0)
theorem HL.nil {σ : Mem} {a : Nat} : HL σ a [] := fun k h => absurd h (Nat.not_lt_zero k)
theorem getD_snoc_lt {l : List Nat} {e k : Nat} (h : k < l.length) : (l ++ [e]).getD k 0 = l.getD k 0 := by
  rw [List.getD_eq_getElem?_getD, List.getElem?_append_left h, ← List.getD_eq_getElem?_getD]
theorem getD_snoc_eq {l : List Nat} {e : Nat} : (l ++ [e]).getD l.length 0 = e := by
  rw [List.getD_eq_getElem?_getD, List.getElem?_append_right (Nat.le_refl _), Nat.sub_self]
  rfl
theorem HL.snoc {σ : Mem} {a : Nat} {l : List Nat} {e : Nat} (h : HL σ a l) : HL (w1 σ a l.length (nI e)) a (l ++ [e]) := by
  intro k hk
  rw [List.length_append, List.length_singleton] at hk
  by_cases he : k = l.length
  · subst he
    rw [w1_s, getD_snoc_eq]
  · rw [w1_k _ _ _ _ _ _ he, h k (by omega), getD_snoc_lt (by omega)]
/-- places of the memory that may have changed -/
def Sm (S : Nat → Nat → Prop) (σ τ : Mem) : Prop := ∀ i k, ¬ S i k → τ.1 i k = σ.1 i k ∧ τ.2 i k = σ.2 i k
theorem Sm.rf {S : Nat → Nat → Prop} {σ : Mem} : Sm S σ σ := fun _ _ _ => ⟨rfl, rfl⟩
theorem Sm.tr {S : Nat → Nat → Prop} {σ τ υ : Mem} (h1 : Sm S σ τ) (h2 : Sm S τ υ) : Sm S σ υ := fun i k h => ⟨(h2 i k h).1.trans (h1 i k h).1, (h2 i k h).2.trans (h1 i k h).2⟩
theorem Sm.mono {S T : Nat → Nat → Prop} {σ τ : Mem} (h : Sm S σ τ) (hs : ∀ i k, S i k → T i k) : Sm T σ τ := fun i k hk => h i k (fun q => hk (hs i k q))
theorem Sm.w1 {S : Nat → Nat → Prop} {σ τ : Mem} {a k : Nat} {v : Int32} (h : Sm S σ τ) (hs : S a k) : Sm S σ (w1 τ a k v) := by
  intro i j hij
  have hne : ¬ (i = a ∧ j = k) := fun q => hij (by rw [q.1, q.2]; exact hs)
  exact ⟨(w1_n τ a k v i j hne).trans (h i j hij).1, (h i j hij).2⟩
theorem Sm.w2 {S : Nat → Nat → Prop} {σ τ : Mem} {a k : Nat} {v : Int64} (h : Sm S σ τ) (hs : S a k) : Sm S σ (w2 τ a k v) := by
  intro i j hij
  have hne : ¬ (i = a ∧ j = k) := fun q => hij (by rw [q.1, q.2]; exact hs)
  exact ⟨(h i j hij).1, (w2_n τ a k v i j hne).trans (h i j hij).2⟩
theorem Sm.wc {S : Nat → Nat → Prop} {σ τ : Mem} {a b sp dp n : Nat} (h : Sm S σ τ) (hs : ∀ k, S b k) : Sm S σ (wc τ a b sp dp n) := by
  intro i j hij
  have hne : i ≠ b := fun q => hij (by rw [q]; exact hs j)
  exact ⟨(congrFun (wc_off hne) j).trans (h i j hij).1, (h i j hij).2⟩
/-! the abstract field: ((laid, ghosts, next number), (carried, anew, kind), numbers, xs, ys, weights, gone as) -/
abbrev Fl : Type := (Nat × Nat × Nat) × (Int32 × Int32 × Int32) × (Nat → Nat) × (Nat → Int32) × (Nat → Int32) × (Nat → Int32) × (Nat → Nat)
def fn (F : Fl) : Nat := F.1.1
def fg (F : Fl) : Nat := F.1.2.1
def fnx (F : Fl) : Nat := F.1.2.2
def fcar (F : Fl) : Int32 := F.2.1.1
def fan (F : Fl) : Int32 := F.2.1.2.1
def fkd (F : Fl) : Int32 := F.2.1.2.2
def fnum (F : Fl) : Nat → Nat := F.2.2.1
def fx (F : Fl) : Nat → Int32 := F.2.2.2.1
def fy (F : Fl) : Nat → Int32 := F.2.2.2.2.1
def fw (F : Fl) : Nat → Int32 := F.2.2.2.2.2.1
def fgo (F : Fl) : Nat → Nat := F.2.2.2.2.2.2
def thr (F : Fl) (e : Nat) : Bool := decide (fgo F e = 0)
theorem thr_iff {F : Fl} {e : Nat} : thr F e = true ↔ fgo F e = 0 := by simp [thr]
/-- what the class's field object f holds -/
def CF (σ : Mem) (f : Nat) (F : Fl) : Prop := (σ.1 f 5 = nI (fn F) ∧ σ.1 f 6 = nI (fg F) ∧ σ.1 f 7 = fcar F ∧ σ.1 f 8 = fan F ∧ σ.1 f 9 = fkd F ∧ σ.1 f 10 = nI (fnx F)) ∧
  ∀ e, e < fn F → σ.1 (f + 1) e = nI (fnum F e) ∧ σ.1 (f + 2) e = fx F e ∧ σ.1 (f + 3) e = fy F e ∧ σ.1 (f + 4) e = fw F e ∧ σ.1 (f + 5) e = nI (fgo F e)
/-- what the model's block at o holds -/
def MF (σ : Mem) (o : Nat) (F : Fl) : Prop := (σ.1 95 o = nI (fn F) ∧ σ.1 95 (o + 1) = nI (fg F) ∧ σ.1 95 (o + 4) = fcar F ∧ σ.1 95 (o + 5) = fan F ∧ σ.1 95 (o + 3) = fkd F ∧ σ.1 95 (o + 2) = nI (fnx F)) ∧
  (∀ e, e < fn F → σ.1 95 (o + 6 + e) = nI (fnum F e) ∧ σ.1 95 (o + 128 + e) = fx F e ∧ σ.1 95 (o + 250 + e) = fy F e ∧ σ.1 95 (o + 372 + e) = fw F e ∧ σ.1 95 (o + 494 + e) = (if fgo F e = 0 then 0 else 1)) ∧
  ∀ k, k < fg F → ∃ e, e < fn F ∧ fgo F e = k + 1 ∧ σ.1 95 (o + 616 + k) = nI e
/-- what holds of every field that a run can come to -/
def WF (F : Fl) : Prop := (fn F ≤ fg F + 60 ∧ 2 * fg F ≤ fn F ∧ fnx F ≤ 10000 ∧ 0 ≤ fkd F ∧ fkd F ≤ 5) ∧ cnt (thr F) (fn F) + fg F = fn F ∧
  (∀ e, e < fn F → fnum F e < fnx F ∧ (-500 ≤ fx F e ∧ fx F e ≤ 500) ∧ (-500 ≤ fy F e ∧ fy F e ≤ 500) ∧ (1 ≤ fw F e ∧ fw F e ≤ 100) ∧ fgo F e ≤ fg F) ∧
  (∀ i j, i < j → j < fn F → fnum F i < fnum F j) ∧ (∀ i j, i < fn F → j < fn F → fgo F i = fgo F j → fgo F i ≠ 0 → i = j)
theorem WF.n120 {F : Fl} (h : WF F) : fn F ≤ 120 := by have := h.1; omega
theorem WF.g60 {F : Fl} (h : WF F) : fg F ≤ 60 := by have := h.1; omega
theorem WF.c60 {F : Fl} (h : WF F) : cnt (thr F) (fn F) ≤ 60 := by have := h.1; have := h.2.1; omega
theorem CF.sm {σ τ : Mem} {f : Nat} {F : Fl} {S : Nat → Nat → Prop} (h : CF σ f F) (hs : Sm S σ τ) (ho : ∀ i k, f ≤ i → i ≤ f + 5 → ¬ S i k) : CF τ f F := by
  have e1 : ∀ i k, f ≤ i → i ≤ f + 5 → τ.1 i k = σ.1 i k := fun i k h1 h2 => (hs i k (ho i k h1 h2)).1
  obtain ⟨⟨h1, h2, h3, h4, h5, h6⟩, h7⟩ := h
  refine ⟨⟨?_, ?_, ?_, ?_, ?_, ?_⟩, fun e he => ?_⟩
  · rw [e1 f 5 (by omega) (by omega)]; exact h1
  · rw [e1 f 6 (by omega) (by omega)]; exact h2
  · rw [e1 f 7 (by omega) (by omega)]; exact h3
  · rw [e1 f 8 (by omega) (by omega)]; exact h4
  · rw [e1 f 9 (by omega) (by omega)]; exact h5
  · rw [e1 f 10 (by omega) (by omega)]; exact h6
  · obtain ⟨a1, a2, a3, a4, a5⟩ := h7 e he
    refine ⟨?_, ?_, ?_, ?_, ?_⟩
    · rw [e1 (f + 1) e (by omega) (by omega)]; exact a1
    · rw [e1 (f + 2) e (by omega) (by omega)]; exact a2
    · rw [e1 (f + 3) e (by omega) (by omega)]; exact a3
    · rw [e1 (f + 4) e (by omega) (by omega)]; exact a4
    · rw [e1 (f + 5) e (by omega) (by omega)]; exact a5
theorem MF.sm {σ τ : Mem} {o : Nat} {F : Fl} (hw : WF F) (h : MF σ o F) (hs : ∀ k, o ≤ k → k < o + 678 → τ.1 95 k = σ.1 95 k) : MF τ o F := by
  have hn := hw.n120
  have hg := hw.g60
  obtain ⟨⟨h1, h2, h3, h4, h5, h6⟩, h7, h8⟩ := h
  refine ⟨⟨?_, ?_, ?_, ?_, ?_, ?_⟩, fun e he => ?_, fun k hk => ?_⟩
  · rw [hs o (by omega) (by omega)]; exact h1
  · rw [hs (o + 1) (by omega) (by omega)]; exact h2
  · rw [hs (o + 4) (by omega) (by omega)]; exact h3
  · rw [hs (o + 5) (by omega) (by omega)]; exact h4
  · rw [hs (o + 3) (by omega) (by omega)]; exact h5
  · rw [hs (o + 2) (by omega) (by omega)]; exact h6
  · obtain ⟨a1, a2, a3, a4, a5⟩ := h7 e he
    refine ⟨?_, ?_, ?_, ?_, ?_⟩
    · rw [hs (o + 6 + e) (by omega) (by omega)]; exact a1
    · rw [hs (o + 128 + e) (by omega) (by omega)]; exact a2
    · rw [hs (o + 250 + e) (by omega) (by omega)]; exact a3
    · rw [hs (o + 372 + e) (by omega) (by omega)]; exact a4
    · rw [hs (o + 494 + e) (by omega) (by omega)]; exact a5
  · obtain ⟨e, q1, q2, q3⟩ := h8 k hk
    exact ⟨e, q1, q2, by rw [hs (o + 616 + k) (by omega) (by omega)]; exact q3⟩
end
