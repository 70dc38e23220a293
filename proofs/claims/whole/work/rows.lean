section
-- ===== PART A: goes FIRST, ahead of the names: the tables' words, and 'selects' of the private methods out of them =====
/-- a private method of a class that the tables say can be made, by its rows of tables_1 -/
def lw_okq (q : MethodName × Nat) : Prop := (q.1.cls ≠ "java/lang/invoke/MethodHandle" ∧ q.1.cls ≠ "java/lang/invoke/VarHandle") ∧ Cond.instantiable q.1.cls q.2 ∈ tables_1 ∧ Cond.privateMethod q.1 ∈ tables_1 ∧ Cond.instanceMethod q.1 ∈ tables_1
theorem lw_p0 : lw_okq (⟨"KeyShop", "makeCylinder", "(II)I"⟩, 11) := ⟨⟨by decide +kernel, by decide +kernel⟩, List.mem_of_getElem? (i := 17) (by decide +kernel), List.mem_of_getElem? (i := 333) (by decide +kernel), List.mem_of_getElem? (i := 334) (by decide +kernel)⟩
theorem lw_p1 : lw_okq (⟨"KeyShop", "remember", "()V"⟩, 11) := ⟨⟨by decide +kernel, by decide +kernel⟩, List.mem_of_getElem? (i := 17) (by decide +kernel), List.mem_of_getElem? (i := 337) (by decide +kernel), List.mem_of_getElem? (i := 338) (by decide +kernel)⟩
theorem lw_p2 : lw_okq (⟨"KeyShop", "settle", "(I)I"⟩, 11) := ⟨⟨by decide +kernel, by decide +kernel⟩, List.mem_of_getElem? (i := 17) (by decide +kernel), List.mem_of_getElem? (i := 379) (by decide +kernel), List.mem_of_getElem? (i := 380) (by decide +kernel)⟩
theorem lw_p3 : lw_okq (⟨"KeyShop", "makeDouble", "(II)I"⟩, 11) := ⟨⟨by decide +kernel, by decide +kernel⟩, List.mem_of_getElem? (i := 17) (by decide +kernel), List.mem_of_getElem? (i := 387) (by decide +kernel), List.mem_of_getElem? (i := 388) (by decide +kernel)⟩
theorem lw_p4 : lw_okq (⟨"KeyShop", "changeHeight", "(IIIZ)I"⟩, 11) := ⟨⟨by decide +kernel, by decide +kernel⟩, List.mem_of_getElem? (i := 17) (by decide +kernel), List.mem_of_getElem? (i := 408) (by decide +kernel), List.mem_of_getElem? (i := 409) (by decide +kernel)⟩
theorem lw_p5 : lw_okq (⟨"KeyShop", "lookAtHeight", "(III)I"⟩, 11) := ⟨⟨by decide +kernel, by decide +kernel⟩, List.mem_of_getElem? (i := 17) (by decide +kernel), List.mem_of_getElem? (i := 453) (by decide +kernel), List.mem_of_getElem? (i := 454) (by decide +kernel)⟩
theorem lw_p6 : lw_okq (⟨"KeyShop", "coreToTray", "(I)I"⟩, 11) := ⟨⟨by decide +kernel, by decide +kernel⟩, List.mem_of_getElem? (i := 17) (by decide +kernel), List.mem_of_getElem? (i := 464) (by decide +kernel), List.mem_of_getElem? (i := 465) (by decide +kernel)⟩
theorem lw_p7 : lw_okq (⟨"KeyShop", "trayToCore", "(I)I"⟩, 11) := ⟨⟨by decide +kernel, by decide +kernel⟩, List.mem_of_getElem? (i := 17) (by decide +kernel), List.mem_of_getElem? (i := 481) (by decide +kernel), List.mem_of_getElem? (i := 482) (by decide +kernel)⟩
theorem lw_p8 : lw_okq (⟨"KeyShop", "cutKey", "(IJ)I"⟩, 11) := ⟨⟨by decide +kernel, by decide +kernel⟩, List.mem_of_getElem? (i := 17) (by decide +kernel), List.mem_of_getElem? (i := 534) (by decide +kernel), List.mem_of_getElem? (i := 535) (by decide +kernel)⟩
theorem lw_p9 : lw_okq (⟨"KeyShop", "cuttingRefusal", "()I"⟩, 11) := ⟨⟨by decide +kernel, by decide +kernel⟩, List.mem_of_getElem? (i := 17) (by decide +kernel), List.mem_of_getElem? (i := 539) (by decide +kernel), List.mem_of_getElem? (i := 540) (by decide +kernel)⟩
theorem lw_p10 : lw_okq (⟨"KeyShop$Keys", "addEmpty", "(I)I"⟩, 6) := ⟨⟨by decide +kernel, by decide +kernel⟩, List.mem_of_getElem? (i := 77) (by decide +kernel), List.mem_of_getElem? (i := 547) (by decide +kernel), List.mem_of_getElem? (i := 548) (by decide +kernel)⟩
theorem lw_p11 : lw_okq (⟨"KeyShop", "cutTurned", "(II)I"⟩, 11) := ⟨⟨by decide +kernel, by decide +kernel⟩, List.mem_of_getElem? (i := 17) (by decide +kernel), List.mem_of_getElem? (i := 568) (by decide +kernel), List.mem_of_getElem? (i := 569) (by decide +kernel)⟩
theorem lw_p12 : lw_okq (⟨"KeyShop$Turning", "trySingle", "(LKeyShop$Shop;III)I"⟩, 2) := ⟨⟨by decide +kernel, by decide +kernel⟩, List.mem_of_getElem? (i := 167) (by decide +kernel), List.mem_of_getElem? (i := 605) (by decide +kernel), List.mem_of_getElem? (i := 606) (by decide +kernel)⟩
theorem lw_p13 : lw_okq (⟨"KeyShop$Turning", "tryRow", "(LKeyShop$Shop;III)I"⟩, 2) := ⟨⟨by decide +kernel, by decide +kernel⟩, List.mem_of_getElem? (i := 167) (by decide +kernel), List.mem_of_getElem? (i := 614) (by decide +kernel), List.mem_of_getElem? (i := 615) (by decide +kernel)⟩
theorem lw_p14 : lw_okq (⟨"KeyShop", "turnPlaceByPlace", "(II)I"⟩, 11) := ⟨⟨by decide +kernel, by decide +kernel⟩, List.mem_of_getElem? (i := 17) (by decide +kernel), List.mem_of_getElem? (i := 634) (by decide +kernel), List.mem_of_getElem? (i := 635) (by decide +kernel)⟩
theorem lw_p15 : lw_okq (⟨"KeyShop", "makeCabinet", "(II)I"⟩, 11) := ⟨⟨by decide +kernel, by decide +kernel⟩, List.mem_of_getElem? (i := 17) (by decide +kernel), List.mem_of_getElem? (i := 655) (by decide +kernel), List.mem_of_getElem? (i := 656) (by decide +kernel)⟩
def lw_privs_1 : List (MethodName × Nat) := [(⟨"KeyShop", "makeCylinder", "(II)I"⟩, 11), (⟨"KeyShop", "remember", "()V"⟩, 11), (⟨"KeyShop", "settle", "(I)I"⟩, 11), (⟨"KeyShop", "makeDouble", "(II)I"⟩, 11), (⟨"KeyShop", "changeHeight", "(IIIZ)I"⟩, 11), (⟨"KeyShop", "lookAtHeight", "(III)I"⟩, 11), (⟨"KeyShop", "coreToTray", "(I)I"⟩, 11), (⟨"KeyShop", "trayToCore", "(I)I"⟩, 11), (⟨"KeyShop", "cutKey", "(IJ)I"⟩, 11), (⟨"KeyShop", "cuttingRefusal", "()I"⟩, 11), (⟨"KeyShop$Keys", "addEmpty", "(I)I"⟩, 6), (⟨"KeyShop", "cutTurned", "(II)I"⟩, 11), (⟨"KeyShop$Turning", "trySingle", "(LKeyShop$Shop;III)I"⟩, 2), (⟨"KeyShop$Turning", "tryRow", "(LKeyShop$Shop;III)I"⟩, 2), (⟨"KeyShop", "turnPlaceByPlace", "(II)I"⟩, 11), (⟨"KeyShop", "makeCabinet", "(II)I"⟩, 11)]
theorem lw_r1 : ∀ q ∈ lw_privs_1, lw_okq q := List.forall_mem_cons.mpr ⟨lw_p0, List.forall_mem_cons.mpr ⟨lw_p1, List.forall_mem_cons.mpr ⟨lw_p2, List.forall_mem_cons.mpr ⟨lw_p3, List.forall_mem_cons.mpr ⟨lw_p4, List.forall_mem_cons.mpr ⟨lw_p5, List.forall_mem_cons.mpr ⟨lw_p6, List.forall_mem_cons.mpr ⟨lw_p7, List.forall_mem_cons.mpr ⟨lw_p8, List.forall_mem_cons.mpr ⟨lw_p9, List.forall_mem_cons.mpr ⟨lw_p10, List.forall_mem_cons.mpr ⟨lw_p11, List.forall_mem_cons.mpr ⟨lw_p12, List.forall_mem_cons.mpr ⟨lw_p13, List.forall_mem_cons.mpr ⟨lw_p14, List.forall_mem_cons.mpr ⟨lw_p15, fun _ h => absurd h List.not_mem_nil⟩⟩⟩⟩⟩⟩⟩⟩⟩⟩⟩⟩⟩⟩⟩⟩
theorem lw_p16 : lw_okq (⟨"KeyShop", "putInside", "(III)I"⟩, 11) := ⟨⟨by decide +kernel, by decide +kernel⟩, List.mem_of_getElem? (i := 17) (by decide +kernel), List.mem_of_getElem? (i := 672) (by decide +kernel), List.mem_of_getElem? (i := 673) (by decide +kernel)⟩
theorem lw_p17 : lw_okq (⟨"KeyShop", "cutByWishes", "(IIIII)I"⟩, 11) := ⟨⟨by decide +kernel, by decide +kernel⟩, List.mem_of_getElem? (i := 17) (by decide +kernel), List.mem_of_getElem? (i := 736) (by decide +kernel), List.mem_of_getElem? (i := 737) (by decide +kernel)⟩
theorem lw_p18 : lw_okq (⟨"KeyShop", "canBePassedOver", "(II)Z"⟩, 11) := ⟨⟨by decide +kernel, by decide +kernel⟩, List.mem_of_getElem? (i := 17) (by decide +kernel), List.mem_of_getElem? (i := 743) (by decide +kernel), List.mem_of_getElem? (i := 744) (by decide +kernel)⟩
theorem lw_p19 : lw_okq (⟨"KeyShop", "doorsRefusal", "(II)I"⟩, 11) := ⟨⟨by decide +kernel, by decide +kernel⟩, List.mem_of_getElem? (i := 17) (by decide +kernel), List.mem_of_getElem? (i := 747) (by decide +kernel), List.mem_of_getElem? (i := 748) (by decide +kernel)⟩
theorem lw_p20 : lw_okq (⟨"KeyShop", "isFittedAhead", "(II)Z"⟩, 11) := ⟨⟨by decide +kernel, by decide +kernel⟩, List.mem_of_getElem? (i := 17) (by decide +kernel), List.mem_of_getElem? (i := 751) (by decide +kernel), List.mem_of_getElem? (i := 752) (by decide +kernel)⟩
theorem lw_p21 : lw_okq (⟨"KeyShop", "doorsThatOpen", "(I)I"⟩, 11) := ⟨⟨by decide +kernel, by decide +kernel⟩, List.mem_of_getElem? (i := 17) (by decide +kernel), List.mem_of_getElem? (i := 770) (by decide +kernel), List.mem_of_getElem? (i := 771) (by decide +kernel)⟩
theorem lw_p22 : lw_okq (⟨"KeyShop$Cutting", "everyNeverIsMet", "()Z"⟩, 16) := ⟨⟨by decide +kernel, by decide +kernel⟩, List.mem_of_getElem? (i := 196) (by decide +kernel), List.mem_of_getElem? (i := 786) (by decide +kernel), List.mem_of_getElem? (i := 787) (by decide +kernel)⟩
theorem lw_p23 : lw_okq (⟨"KeyShop$Cutting", "isBarred", "(II)Z"⟩, 16) := ⟨⟨by decide +kernel, by decide +kernel⟩, List.mem_of_getElem? (i := 196) (by decide +kernel), List.mem_of_getElem? (i := 790) (by decide +kernel), List.mem_of_getElem? (i := 791) (by decide +kernel)⟩
theorem lw_p24 : lw_okq (⟨"KeyShop$Cutting", "isOpened", "(I)Z"⟩, 16) := ⟨⟨by decide +kernel, by decide +kernel⟩, List.mem_of_getElem? (i := 196) (by decide +kernel), List.mem_of_getElem? (i := 794) (by decide +kernel), List.mem_of_getElem? (i := 795) (by decide +kernel)⟩
theorem lw_p25 : lw_okq (⟨"KeyShop$Cutting", "tryCuts", "(II)I"⟩, 16) := ⟨⟨by decide +kernel, by decide +kernel⟩, List.mem_of_getElem? (i := 196) (by decide +kernel), List.mem_of_getElem? (i := 798) (by decide +kernel), List.mem_of_getElem? (i := 799) (by decide +kernel)⟩
theorem lw_p26 : lw_okq (⟨"KeyShop$Cutting", "stands", "(III)Z"⟩, 16) := ⟨⟨by decide +kernel, by decide +kernel⟩, List.mem_of_getElem? (i := 196) (by decide +kernel), List.mem_of_getElem? (i := 802) (by decide +kernel), List.mem_of_getElem? (i := 803) (by decide +kernel)⟩
theorem lw_p27 : lw_okq (⟨"KeyShop$Cutting", "doorsTake", "(III)Z"⟩, 16) := ⟨⟨by decide +kernel, by decide +kernel⟩, List.mem_of_getElem? (i := 196) (by decide +kernel), List.mem_of_getElem? (i := 809) (by decide +kernel), List.mem_of_getElem? (i := 810) (by decide +kernel)⟩
theorem lw_p28 : lw_okq (⟨"KeyShop$Cutting", "isCutAlready", "(I)Z"⟩, 16) := ⟨⟨by decide +kernel, by decide +kernel⟩, List.mem_of_getElem? (i := 196) (by decide +kernel), List.mem_of_getElem? (i := 814) (by decide +kernel), List.mem_of_getElem? (i := 815) (by decide +kernel)⟩
theorem lw_p29 : lw_okq (⟨"KeyShop$Cutting", "haveSameCuts", "(II)Z"⟩, 16) := ⟨⟨by decide +kernel, by decide +kernel⟩, List.mem_of_getElem? (i := 196) (by decide +kernel), List.mem_of_getElem? (i := 818) (by decide +kernel), List.mem_of_getElem? (i := 819) (by decide +kernel)⟩
theorem lw_p30 : lw_okq (⟨"KeyShop$Cutting", "goOn", "(II)I"⟩, 16) := ⟨⟨by decide +kernel, by decide +kernel⟩, List.mem_of_getElem? (i := 196) (by decide +kernel), List.mem_of_getElem? (i := 822) (by decide +kernel), List.mem_of_getElem? (i := 823) (by decide +kernel)⟩
theorem lw_p31 : lw_okq (⟨"KeyShop$Cutting", "fillChambers", "(LKeyShop$Cylinders;II)V"⟩, 16) := ⟨⟨by decide +kernel, by decide +kernel⟩, List.mem_of_getElem? (i := 196) (by decide +kernel), List.mem_of_getElem? (i := 831) (by decide +kernel), List.mem_of_getElem? (i := 832) (by decide +kernel)⟩
def lw_privs_2 : List (MethodName × Nat) := [(⟨"KeyShop", "putInside", "(III)I"⟩, 11), (⟨"KeyShop", "cutByWishes", "(IIIII)I"⟩, 11), (⟨"KeyShop", "canBePassedOver", "(II)Z"⟩, 11), (⟨"KeyShop", "doorsRefusal", "(II)I"⟩, 11), (⟨"KeyShop", "isFittedAhead", "(II)Z"⟩, 11), (⟨"KeyShop", "doorsThatOpen", "(I)I"⟩, 11), (⟨"KeyShop$Cutting", "everyNeverIsMet", "()Z"⟩, 16), (⟨"KeyShop$Cutting", "isBarred", "(II)Z"⟩, 16), (⟨"KeyShop$Cutting", "isOpened", "(I)Z"⟩, 16), (⟨"KeyShop$Cutting", "tryCuts", "(II)I"⟩, 16), (⟨"KeyShop$Cutting", "stands", "(III)Z"⟩, 16), (⟨"KeyShop$Cutting", "doorsTake", "(III)Z"⟩, 16), (⟨"KeyShop$Cutting", "isCutAlready", "(I)Z"⟩, 16), (⟨"KeyShop$Cutting", "haveSameCuts", "(II)Z"⟩, 16), (⟨"KeyShop$Cutting", "goOn", "(II)I"⟩, 16), (⟨"KeyShop$Cutting", "fillChambers", "(LKeyShop$Cylinders;II)V"⟩, 16)]
theorem lw_r2 : ∀ q ∈ lw_privs_2, lw_okq q := List.forall_mem_cons.mpr ⟨lw_p16, List.forall_mem_cons.mpr ⟨lw_p17, List.forall_mem_cons.mpr ⟨lw_p18, List.forall_mem_cons.mpr ⟨lw_p19, List.forall_mem_cons.mpr ⟨lw_p20, List.forall_mem_cons.mpr ⟨lw_p21, List.forall_mem_cons.mpr ⟨lw_p22, List.forall_mem_cons.mpr ⟨lw_p23, List.forall_mem_cons.mpr ⟨lw_p24, List.forall_mem_cons.mpr ⟨lw_p25, List.forall_mem_cons.mpr ⟨lw_p26, List.forall_mem_cons.mpr ⟨lw_p27, List.forall_mem_cons.mpr ⟨lw_p28, List.forall_mem_cons.mpr ⟨lw_p29, List.forall_mem_cons.mpr ⟨lw_p30, List.forall_mem_cons.mpr ⟨lw_p31, fun _ h => absurd h List.not_mem_nil⟩⟩⟩⟩⟩⟩⟩⟩⟩⟩⟩⟩⟩⟩⟩⟩
theorem lw_p32 : lw_okq (⟨"KeyShop$Counting", "narrow", "(LKeyShop$Cylinders;II)Z"⟩, 3) := ⟨⟨by decide +kernel, by decide +kernel⟩, List.mem_of_getElem? (i := 254) (by decide +kernel), List.mem_of_getElem? (i := 859) (by decide +kernel), List.mem_of_getElem? (i := 860) (by decide +kernel)⟩
theorem lw_p33 : lw_okq (⟨"KeyShop$Counting", "countUp", "(II)J"⟩, 3) := ⟨⟨by decide +kernel, by decide +kernel⟩, List.mem_of_getElem? (i := 254) (by decide +kernel), List.mem_of_getElem? (i := 865) (by decide +kernel), List.mem_of_getElem? (i := 866) (by decide +kernel)⟩
theorem lw_p34 : lw_okq (⟨"KeyShop$Counting", "lengthen", "(II)V"⟩, 3) := ⟨⟨by decide +kernel, by decide +kernel⟩, List.mem_of_getElem? (i := 254) (by decide +kernel), List.mem_of_getElem? (i := 869) (by decide +kernel), List.mem_of_getElem? (i := 870) (by decide +kernel)⟩
theorem lw_p35 : lw_okq (⟨"KeyShop$Counting", "rowsNear", "(II)J"⟩, 3) := ⟨⟨by decide +kernel, by decide +kernel⟩, List.mem_of_getElem? (i := 254) (by decide +kernel), List.mem_of_getElem? (i := 873) (by decide +kernel), List.mem_of_getElem? (i := 874) (by decide +kernel)⟩
theorem lw_p36 : lw_okq (⟨"KeyShop", "areDoors", "(I)Z"⟩, 11) := ⟨⟨by decide +kernel, by decide +kernel⟩, List.mem_of_getElem? (i := 17) (by decide +kernel), List.mem_of_getElem? (i := 886) (by decide +kernel), List.mem_of_getElem? (i := 887) (by decide +kernel)⟩
theorem lw_p37 : lw_okq (⟨"KeyShop$Carrying", "choose", "(III)V"⟩, 6) := ⟨⟨by decide +kernel, by decide +kernel⟩, List.mem_of_getElem? (i := 270) (by decide +kernel), List.mem_of_getElem? (i := 902) (by decide +kernel), List.mem_of_getElem? (i := 903) (by decide +kernel)⟩
theorem lw_p38 : lw_okq (⟨"KeyShopModel", "met", "(I)I"⟩, 23) := ⟨⟨by decide +kernel, by decide +kernel⟩, List.mem_of_getElem? (i := 935) (by decide +kernel), List.mem_of_getElem? (i := 1019) (by decide +kernel), List.mem_of_getElem? (i := 1020) (by decide +kernel)⟩
theorem lw_p39 : lw_okq (⟨"KeyShopModel", "newCylinder", "(IIII)I"⟩, 23) := ⟨⟨by decide +kernel, by decide +kernel⟩, List.mem_of_getElem? (i := 935) (by decide +kernel), List.mem_of_getElem? (i := 1023) (by decide +kernel), List.mem_of_getElem? (i := 1024) (by decide +kernel)⟩
theorem lw_p40 : lw_okq (⟨"KeyShopModel", "change", "()V"⟩, 23) := ⟨⟨by decide +kernel, by decide +kernel⟩, List.mem_of_getElem? (i := 935) (by decide +kernel), List.mem_of_getElem? (i := 1027) (by decide +kernel), List.mem_of_getElem? (i := 1028) (by decide +kernel)⟩
theorem lw_p41 : lw_okq (⟨"KeyShopModel", "well", "(I)I"⟩, 23) := ⟨⟨by decide +kernel, by decide +kernel⟩, List.mem_of_getElem? (i := 935) (by decide +kernel), List.mem_of_getElem? (i := 1031) (by decide +kernel), List.mem_of_getElem? (i := 1032) (by decide +kernel)⟩
theorem lw_p42 : lw_okq (⟨"KeyShopModel", "isCylinder", "(I)Z"⟩, 23) := ⟨⟨by decide +kernel, by decide +kernel⟩, List.mem_of_getElem? (i := 935) (by decide +kernel), List.mem_of_getElem? (i := 1039) (by decide +kernel), List.mem_of_getElem? (i := 1040) (by decide +kernel)⟩
theorem lw_p43 : lw_okq (⟨"KeyShopModel", "wrong", "(II)I"⟩, 23) := ⟨⟨by decide +kernel, by decide +kernel⟩, List.mem_of_getElem? (i := 935) (by decide +kernel), List.mem_of_getElem? (i := 1048) (by decide +kernel), List.mem_of_getElem? (i := 1049) (by decide +kernel)⟩
theorem lw_p44 : lw_okq (⟨"KeyShopModel", "weigh", "(I)I"⟩, 23) := ⟨⟨by decide +kernel, by decide +kernel⟩, List.mem_of_getElem? (i := 935) (by decide +kernel), List.mem_of_getElem? (i := 1082) (by decide +kernel), List.mem_of_getElem? (i := 1083) (by decide +kernel)⟩
theorem lw_p45 : lw_okq (⟨"KeyShopModel", "note", "(IZ)V"⟩, 23) := ⟨⟨by decide +kernel, by decide +kernel⟩, List.mem_of_getElem? (i := 935) (by decide +kernel), List.mem_of_getElem? (i := 1086) (by decide +kernel), List.mem_of_getElem? (i := 1087) (by decide +kernel)⟩
theorem lw_p46 : lw_okq (⟨"KeyShopModel", "newKey", "(I)I"⟩, 23) := ⟨⟨by decide +kernel, by decide +kernel⟩, List.mem_of_getElem? (i := 935) (by decide +kernel), List.mem_of_getElem? (i := 1100) (by decide +kernel), List.mem_of_getElem? (i := 1101) (by decide +kernel)⟩
theorem lw_p47 : lw_okq (⟨"KeyShopModel", "isKey", "(I)Z"⟩, 23) := ⟨⟨by decide +kernel, by decide +kernel⟩, List.mem_of_getElem? (i := 935) (by decide +kernel), List.mem_of_getElem? (i := 1109) (by decide +kernel), List.mem_of_getElem? (i := 1110) (by decide +kernel)⟩
def lw_privs_3 : List (MethodName × Nat) := [(⟨"KeyShop$Counting", "narrow", "(LKeyShop$Cylinders;II)Z"⟩, 3), (⟨"KeyShop$Counting", "countUp", "(II)J"⟩, 3), (⟨"KeyShop$Counting", "lengthen", "(II)V"⟩, 3), (⟨"KeyShop$Counting", "rowsNear", "(II)J"⟩, 3), (⟨"KeyShop", "areDoors", "(I)Z"⟩, 11), (⟨"KeyShop$Carrying", "choose", "(III)V"⟩, 6), (⟨"KeyShopModel", "met", "(I)I"⟩, 23), (⟨"KeyShopModel", "newCylinder", "(IIII)I"⟩, 23), (⟨"KeyShopModel", "change", "()V"⟩, 23), (⟨"KeyShopModel", "well", "(I)I"⟩, 23), (⟨"KeyShopModel", "isCylinder", "(I)Z"⟩, 23), (⟨"KeyShopModel", "wrong", "(II)I"⟩, 23), (⟨"KeyShopModel", "weigh", "(I)I"⟩, 23), (⟨"KeyShopModel", "note", "(IZ)V"⟩, 23), (⟨"KeyShopModel", "newKey", "(I)I"⟩, 23), (⟨"KeyShopModel", "isKey", "(I)Z"⟩, 23)]
theorem lw_r3 : ∀ q ∈ lw_privs_3, lw_okq q := List.forall_mem_cons.mpr ⟨lw_p32, List.forall_mem_cons.mpr ⟨lw_p33, List.forall_mem_cons.mpr ⟨lw_p34, List.forall_mem_cons.mpr ⟨lw_p35, List.forall_mem_cons.mpr ⟨lw_p36, List.forall_mem_cons.mpr ⟨lw_p37, List.forall_mem_cons.mpr ⟨lw_p38, List.forall_mem_cons.mpr ⟨lw_p39, List.forall_mem_cons.mpr ⟨lw_p40, List.forall_mem_cons.mpr ⟨lw_p41, List.forall_mem_cons.mpr ⟨lw_p42, List.forall_mem_cons.mpr ⟨lw_p43, List.forall_mem_cons.mpr ⟨lw_p44, List.forall_mem_cons.mpr ⟨lw_p45, List.forall_mem_cons.mpr ⟨lw_p46, List.forall_mem_cons.mpr ⟨lw_p47, fun _ h => absurd h List.not_mem_nil⟩⟩⟩⟩⟩⟩⟩⟩⟩⟩⟩⟩⟩⟩⟩⟩
theorem lw_p48 : lw_okq (⟨"KeyShopModel", "turnOne", "(II)I"⟩, 23) := ⟨⟨by decide +kernel, by decide +kernel⟩, List.mem_of_getElem? (i := 935) (by decide +kernel), List.mem_of_getElem? (i := 1125) (by decide +kernel), List.mem_of_getElem? (i := 1126) (by decide +kernel)⟩
theorem lw_p49 : lw_okq (⟨"KeyShopModel", "tried", "(IIIZ)I"⟩, 23) := ⟨⟨by decide +kernel, by decide +kernel⟩, List.mem_of_getElem? (i := 935) (by decide +kernel), List.mem_of_getElem? (i := 1129) (by decide +kernel), List.mem_of_getElem? (i := 1130) (by decide +kernel)⟩
theorem lw_p50 : lw_okq (⟨"KeyShopModel", "lacks", "(I)I"⟩, 23) := ⟨⟨by decide +kernel, by decide +kernel⟩, List.mem_of_getElem? (i := 935) (by decide +kernel), List.mem_of_getElem? (i := 1133) (by decide +kernel), List.mem_of_getElem? (i := 1134) (by decide +kernel)⟩
theorem lw_p51 : lw_okq (⟨"KeyShopModel", "isDoor", "(I)Z"⟩, 23) := ⟨⟨by decide +kernel, by decide +kernel⟩, List.mem_of_getElem? (i := 935) (by decide +kernel), List.mem_of_getElem? (i := 1141) (by decide +kernel), List.mem_of_getElem? (i := 1142) (by decide +kernel)⟩
theorem lw_p52 : lw_okq (⟨"KeyShopModel", "searched", "(IIIII)I"⟩, 23) := ⟨⟨by decide +kernel, by decide +kernel⟩, List.mem_of_getElem? (i := 935) (by decide +kernel), List.mem_of_getElem? (i := 1215) (by decide +kernel), List.mem_of_getElem? (i := 1216) (by decide +kernel)⟩
theorem lw_p53 : lw_okq (⟨"KeyShopModel", "against", "(II)I"⟩, 23) := ⟨⟨by decide +kernel, by decide +kernel⟩, List.mem_of_getElem? (i := 935) (by decide +kernel), List.mem_of_getElem? (i := 1219) (by decide +kernel), List.mem_of_getElem? (i := 1220) (by decide +kernel)⟩
theorem lw_p54 : lw_okq (⟨"KeyShopModel", "would", "(II)Z"⟩, 23) := ⟨⟨by decide +kernel, by decide +kernel⟩, List.mem_of_getElem? (i := 935) (by decide +kernel), List.mem_of_getElem? (i := 1223) (by decide +kernel), List.mem_of_getElem? (i := 1224) (by decide +kernel)⟩
theorem lw_p55 : lw_okq (⟨"KeyShopModel", "search", "(IIIII)I"⟩, 23) := ⟨⟨by decide +kernel, by decide +kernel⟩, List.mem_of_getElem? (i := 935) (by decide +kernel), List.mem_of_getElem? (i := 1227) (by decide +kernel), List.mem_of_getElem? (i := 1228) (by decide +kernel)⟩
theorem lw_p56 : lw_okq (⟨"KeyShopModel", "areNeversMet", "(III)Z"⟩, 23) := ⟨⟨by decide +kernel, by decide +kernel⟩, List.mem_of_getElem? (i := 935) (by decide +kernel), List.mem_of_getElem? (i := 1231) (by decide +kernel), List.mem_of_getElem? (i := 1232) (by decide +kernel)⟩
theorem lw_p57 : lw_okq (⟨"KeyShopModel", "cutsAt", "(III)I"⟩, 23) := ⟨⟨by decide +kernel, by decide +kernel⟩, List.mem_of_getElem? (i := 935) (by decide +kernel), List.mem_of_getElem? (i := 1235) (by decide +kernel), List.mem_of_getElem? (i := 1236) (by decide +kernel)⟩
theorem lw_p58 : lw_okq (⟨"KeyShopModel", "bars", "(III)Z"⟩, 23) := ⟨⟨by decide +kernel, by decide +kernel⟩, List.mem_of_getElem? (i := 935) (by decide +kernel), List.mem_of_getElem? (i := 1239) (by decide +kernel), List.mem_of_getElem? (i := 1240) (by decide +kernel)⟩
theorem lw_p59 : lw_okq (⟨"KeyShopModel", "stands", "(IIIII)Z"⟩, 23) := ⟨⟨by decide +kernel, by decide +kernel⟩, List.mem_of_getElem? (i := 935) (by decide +kernel), List.mem_of_getElem? (i := 1243) (by decide +kernel), List.mem_of_getElem? (i := 1244) (by decide +kernel)⟩
theorem lw_p60 : lw_okq (⟨"KeyShopModel", "areAlike", "(III)Z"⟩, 23) := ⟨⟨by decide +kernel, by decide +kernel⟩, List.mem_of_getElem? (i := 935) (by decide +kernel), List.mem_of_getElem? (i := 1247) (by decide +kernel), List.mem_of_getElem? (i := 1248) (by decide +kernel)⟩
theorem lw_p61 : lw_okq (⟨"KeyShopModel", "take", "(II)V"⟩, 23) := ⟨⟨by decide +kernel, by decide +kernel⟩, List.mem_of_getElem? (i := 935) (by decide +kernel), List.mem_of_getElem? (i := 1251) (by decide +kernel), List.mem_of_getElem? (i := 1252) (by decide +kernel)⟩
theorem lw_p62 : lw_okq (⟨"KeyShopModel", "narrows", "(II)Z"⟩, 23) := ⟨⟨by decide +kernel, by decide +kernel⟩, List.mem_of_getElem? (i := 935) (by decide +kernel), List.mem_of_getElem? (i := 1269) (by decide +kernel), List.mem_of_getElem? (i := 1270) (by decide +kernel)⟩
theorem lw_p63 : lw_okq (⟨"KeyShopModel", "areDoors", "(I)Z"⟩, 23) := ⟨⟨by decide +kernel, by decide +kernel⟩, List.mem_of_getElem? (i := 935) (by decide +kernel), List.mem_of_getElem? (i := 1277) (by decide +kernel), List.mem_of_getElem? (i := 1278) (by decide +kernel)⟩
def lw_privs_4 : List (MethodName × Nat) := [(⟨"KeyShopModel", "turnOne", "(II)I"⟩, 23), (⟨"KeyShopModel", "tried", "(IIIZ)I"⟩, 23), (⟨"KeyShopModel", "lacks", "(I)I"⟩, 23), (⟨"KeyShopModel", "isDoor", "(I)Z"⟩, 23), (⟨"KeyShopModel", "searched", "(IIIII)I"⟩, 23), (⟨"KeyShopModel", "against", "(II)I"⟩, 23), (⟨"KeyShopModel", "would", "(II)Z"⟩, 23), (⟨"KeyShopModel", "search", "(IIIII)I"⟩, 23), (⟨"KeyShopModel", "areNeversMet", "(III)Z"⟩, 23), (⟨"KeyShopModel", "cutsAt", "(III)I"⟩, 23), (⟨"KeyShopModel", "bars", "(III)Z"⟩, 23), (⟨"KeyShopModel", "stands", "(IIIII)Z"⟩, 23), (⟨"KeyShopModel", "areAlike", "(III)Z"⟩, 23), (⟨"KeyShopModel", "take", "(II)V"⟩, 23), (⟨"KeyShopModel", "narrows", "(II)Z"⟩, 23), (⟨"KeyShopModel", "areDoors", "(I)Z"⟩, 23)]
theorem lw_r4 : ∀ q ∈ lw_privs_4, lw_okq q := List.forall_mem_cons.mpr ⟨lw_p48, List.forall_mem_cons.mpr ⟨lw_p49, List.forall_mem_cons.mpr ⟨lw_p50, List.forall_mem_cons.mpr ⟨lw_p51, List.forall_mem_cons.mpr ⟨lw_p52, List.forall_mem_cons.mpr ⟨lw_p53, List.forall_mem_cons.mpr ⟨lw_p54, List.forall_mem_cons.mpr ⟨lw_p55, List.forall_mem_cons.mpr ⟨lw_p56, List.forall_mem_cons.mpr ⟨lw_p57, List.forall_mem_cons.mpr ⟨lw_p58, List.forall_mem_cons.mpr ⟨lw_p59, List.forall_mem_cons.mpr ⟨lw_p60, List.forall_mem_cons.mpr ⟨lw_p61, List.forall_mem_cons.mpr ⟨lw_p62, List.forall_mem_cons.mpr ⟨lw_p63, fun _ h => absurd h List.not_mem_nil⟩⟩⟩⟩⟩⟩⟩⟩⟩⟩⟩⟩⟩⟩⟩⟩
theorem lw_p64 : lw_okq (⟨"KeyShopModel", "first", "(I)I"⟩, 23) := ⟨⟨by decide +kernel, by decide +kernel⟩, List.mem_of_getElem? (i := 935) (by decide +kernel), List.mem_of_getElem? (i := 1281) (by decide +kernel), List.mem_of_getElem? (i := 1282) (by decide +kernel)⟩
theorem lw_p65 : lw_okq (⟨"KeyShopModel", "opened", "(I)I"⟩, 23) := ⟨⟨by decide +kernel, by decide +kernel⟩, List.mem_of_getElem? (i := 935) (by decide +kernel), List.mem_of_getElem? (i := 1285) (by decide +kernel), List.mem_of_getElem? (i := 1286) (by decide +kernel)⟩
def lw_privs_5 : List (MethodName × Nat) := [(⟨"KeyShopModel", "first", "(I)I"⟩, 23), (⟨"KeyShopModel", "opened", "(I)I"⟩, 23)]
theorem lw_r5 : ∀ q ∈ lw_privs_5, lw_okq q := List.forall_mem_cons.mpr ⟨lw_p64, List.forall_mem_cons.mpr ⟨lw_p65, fun _ h => absurd h List.not_mem_nil⟩⟩
def lw_privs : List (MethodName × Nat) := lw_privs_1 ++ (lw_privs_2 ++ (lw_privs_3 ++ (lw_privs_4 ++ (lw_privs_5))))
def lw_tbl : List Cond := k2_sels lw_privs ++ tables_1
theorem lw_privs_ok : ∀ q ∈ lw_privs, lw_okq q := by
  show ∀ q ∈ lw_privs_1 ++ (lw_privs_2 ++ (lw_privs_3 ++ (lw_privs_4 ++ (lw_privs_5)))), lw_okq q
  exact List.forall_mem_append.mpr ⟨lw_r1, List.forall_mem_append.mpr ⟨lw_r2, List.forall_mem_append.mpr ⟨lw_r3, List.forall_mem_append.mpr ⟨lw_r4, lw_r5⟩⟩⟩⟩
end
section
def RX0 : String := "KeyShop$Cabinets"
def TX0 : u_T := fun k => match k with
  | 0 => ("KeyShop$Cabinets", "kinds", "[I", true)
  | 1 => ("KeyShop$Cabinets", "sizes", "[I", true)
  | 2 => ("KeyShop$Cabinets", "places", "[I", true)
  | _ => ("KeyShop$Cabinets", "made", "I", false)
def tyX0 : Nat → FieldType := fun k => match k with
  | 0 => .array .int
  | 1 => .array .int
  | 2 => .array .int
  | _ => .int
theorem nmX0 : ∀ a, a < 4 → ∀ b, b < 4 → a ≠ b → (TX0 a).2.1 ≠ (TX0 b).2.1 := by decide +kernel
theorem tyX0_ok : ∀ k, k < 4 → parseFieldDescriptor (TX0 k).2.2.1 = some (tyX0 k) := by decide +kernel
abbrev cX0_init : ByteArray := prog_2_method_1_code
def yX0_init : MethodName := ⟨RX0, "<init>", "()V"⟩
abbrev cX0_has : ByteArray := prog_2_method_2_code
def yX0_has : MethodName := ⟨RX0, "has", "(I)Z"⟩
abbrev cX0_hasPlace : ByteArray := prog_2_method_3_code
def yX0_hasPlace : MethodName := ⟨RX0, "hasPlace", "(II)Z"⟩
abbrev cX0_cylinderAt : ByteArray := prog_2_method_4_code
def yX0_cylinderAt : MethodName := ⟨RX0, "cylinderAt", "(II)I"⟩
abbrev cX0_exchange : ByteArray := prog_2_method_5_code
def yX0_exchange : MethodName := ⟨RX0, "exchange", "(III)I"⟩
abbrev cX0_add : ByteArray := prog_2_method_6_code
def yX0_add : MethodName := ⟨RX0, "add", "(II)I"⟩
abbrev cX0_become : ByteArray := prog_2_method_7_code
def yX0_become : MethodName := ⟨RX0, "become", "(LKeyShop$Cabinets;)V"⟩
def RX1 : String := "KeyShop$Carrying"
def TX1 : u_T := fun k => match k with
  | 0 => ("KeyShop$Carrying", "reach", "[I", true)
  | 1 => ("KeyShop$Carrying", "reachBelow", "[I", true)
  | 2 => ("KeyShop$Carrying", "keys", "I", false)
  | 3 => ("KeyShop$Carrying", "wanted", "I", false)
  | 4 => ("KeyShop$Carrying", "best", "I", false)
  | _ => ("KeyShop$Carrying", "fewestYet", "I", false)
def tyX1 : Nat → FieldType := fun k => match k with
  | 0 => .array .int
  | 1 => .array .int
  | 2 => .int
  | 3 => .int
  | 4 => .int
  | _ => .int
theorem nmX1 : ∀ a, a < 6 → ∀ b, b < 6 → a ≠ b → (TX1 a).2.1 ≠ (TX1 b).2.1 := by decide +kernel
theorem tyX1_ok : ∀ k, k < 6 → parseFieldDescriptor (TX1 k).2.2.1 = some (tyX1 k) := by decide +kernel
abbrev cX1_init : ByteArray := prog_3_method_1_code
def yX1_init : MethodName := ⟨RX1, "<init>", "()V"⟩
abbrev cX1_begin : ByteArray := prog_3_method_2_code
def yX1_begin : MethodName := ⟨RX1, "begin", "()V"⟩
abbrev cX1_addKey : ByteArray := prog_3_method_3_code
def yX1_addKey : MethodName := ⟨RX1, "addKey", "(I)V"⟩
abbrev cX1_fewest : ByteArray := prog_3_method_4_code
def yX1_fewest : MethodName := ⟨RX1, "fewest", "(I)I"⟩
abbrev cX1_choose : ByteArray := prog_3_method_5_code
def yX1_choose : MethodName := ⟨RX1, "choose", "(III)V"⟩
def RX2 : String := "KeyShop$Counting"
def TX2 : u_T := fun k => match k with
  | 0 => ("KeyShop$Counting", "letPass", "[I", true)
  | 1 => ("KeyShop$Counting", "rows", "[J", false)
  | _ => ("KeyShop$Counting", "longer", "[J", false)
def tyX2 : Nat → FieldType := fun k => match k with
  | 0 => .array .int
  | 1 => .array .long
  | _ => .array .long
theorem nmX2 : ∀ a, a < 3 → ∀ b, b < 3 → a ≠ b → (TX2 a).2.1 ≠ (TX2 b).2.1 := by decide +kernel
theorem tyX2_ok : ∀ k, k < 3 → parseFieldDescriptor (TX2 k).2.2.1 = some (tyX2 k) := by decide +kernel
abbrev cX2_init : ByteArray := prog_4_method_1_code
def yX2_init : MethodName := ⟨RX2, "<init>", "()V"⟩
abbrev cX2_rowsThatOpen : ByteArray := prog_4_method_2_code
def yX2_rowsThatOpen : MethodName := ⟨RX2, "rowsThatOpen", "(LKeyShop$Cylinders;III)J"⟩
abbrev cX2_isMissing : ByteArray := prog_4_method_3_code
def yX2_isMissing : MethodName := ⟨RX2, "isMissing", "(LKeyShop$Cylinders;I)Z"⟩
abbrev cX2_narrow : ByteArray := prog_4_method_4_code
def yX2_narrow : MethodName := ⟨RX2, "narrow", "(LKeyShop$Cylinders;II)Z"⟩
abbrev cX2_countUp : ByteArray := prog_4_method_5_code
def yX2_countUp : MethodName := ⟨RX2, "countUp", "(II)J"⟩
abbrev cX2_lengthen : ByteArray := prog_4_method_6_code
def yX2_lengthen : MethodName := ⟨RX2, "lengthen", "(II)V"⟩
abbrev cX2_rowsNear : ByteArray := prog_4_method_7_code
def yX2_rowsNear : MethodName := ⟨RX2, "rowsNear", "(II)J"⟩
def RX3 : String := "KeyShop$Cutting"
def TX3 : u_T := fun k => match k with
  | 0 => ("KeyShop$Cutting", "trials", "I", false)
  | 1 => ("KeyShop$Cutting", "keys", "I", false)
  | 2 => ("KeyShop$Cutting", "doors", "I", false)
  | 3 => ("KeyShop$Cutting", "cutsEach", "I", false)
  | 4 => ("KeyShop$Cutting", "step", "I", false)
  | 5 => ("KeyShop$Cutting", "tried", "[I", true)
  | 6 => ("KeyShop$Cutting", "turns", "I", false)
  | 7 => ("KeyShop$Cutting", "lost", "I", false)
  | 8 => ("KeyShop$Cutting", "shallOpen", "[I", true)
  | 9 => ("KeyShop$Cutting", "shallNever", "[I", true)
  | 10 => ("KeyShop$Cutting", "openedDoors", "I", false)
  | 11 => ("KeyShop$Cutting", "blindDoors", "I", false)
  | 12 => ("KeyShop$Cutting", "most", "[I", true)
  | 13 => ("KeyShop$Cutting", "heightsNow", "[I", true)
  | 14 => ("KeyShop$Cutting", "cuts", "[I", true)
  | _ => ("KeyShop$Cutting", "heightsThen", "[[I", true)
def tyX3 : Nat → FieldType := fun k => match k with
  | 0 => .int
  | 1 => .int
  | 2 => .int
  | 3 => .int
  | 4 => .int
  | 5 => .array .int
  | 6 => .int
  | 7 => .int
  | 8 => .array .int
  | 9 => .array .int
  | 10 => .int
  | 11 => .int
  | 12 => .array .int
  | 13 => .array .int
  | 14 => .array .int
  | _ => .array (.array .int)
theorem nmX3 : ∀ a, a < 16 → ∀ b, b < 16 → a ≠ b → (TX3 a).2.1 ≠ (TX3 b).2.1 := by decide +kernel
theorem tyX3_ok : ∀ k, k < 16 → parseFieldDescriptor (TX3 k).2.2.1 = some (tyX3 k) := by decide +kernel
abbrev cX3_init : ByteArray := prog_5_method_1_code
def yX3_init : MethodName := ⟨RX3, "<init>", "()V"⟩
abbrev cX3_begin : ByteArray := prog_5_method_2_code
def yX3_begin : MethodName := ⟨RX3, "begin", "(IIII)V"⟩
abbrev cX3_readDoors : ByteArray := prog_5_method_3_code
def yX3_readDoors : MethodName := ⟨RX3, "readDoors", "(LKeyShop$Shop;)V"⟩
abbrev cX3_readKeys : ByteArray := prog_5_method_4_code
def yX3_readKeys : MethodName := ⟨RX3, "readKeys", "(LKeyShop$Keys;I)V"⟩
abbrev cX3_passOver : ByteArray := prog_5_method_5_code
def yX3_passOver : MethodName := ⟨RX3, "passOver", "(LKeyShop$Keys;II)V"⟩
abbrev cX3_search : ByteArray := prog_5_method_6_code
def yX3_search : MethodName := ⟨RX3, "search", "()I"⟩
abbrev cX3_tryCuts : ByteArray := prog_5_method_7_code
def yX3_tryCuts : MethodName := ⟨RX3, "tryCuts", "(II)I"⟩
abbrev cX3_goOn : ByteArray := prog_5_method_8_code
def yX3_goOn : MethodName := ⟨RX3, "goOn", "(II)I"⟩
abbrev cX3_stands : ByteArray := prog_5_method_9_code
def yX3_stands : MethodName := ⟨RX3, "stands", "(III)Z"⟩
abbrev cX3_doorsTake : ByteArray := prog_5_method_10_code
def yX3_doorsTake : MethodName := ⟨RX3, "doorsTake", "(III)Z"⟩
abbrev cX3_isCutAlready : ByteArray := prog_5_method_11_code
def yX3_isCutAlready : MethodName := ⟨RX3, "isCutAlready", "(I)Z"⟩
abbrev cX3_haveSameCuts : ByteArray := prog_5_method_12_code
def yX3_haveSameCuts : MethodName := ⟨RX3, "haveSameCuts", "(II)Z"⟩
abbrev cX3_everyNeverIsMet : ByteArray := prog_5_method_13_code
def yX3_everyNeverIsMet : MethodName := ⟨RX3, "everyNeverIsMet", "()Z"⟩
abbrev cX3_isBarred : ByteArray := prog_5_method_14_code
def yX3_isBarred : MethodName := ⟨RX3, "isBarred", "(II)Z"⟩
abbrev cX3_isOpened : ByteArray := prog_5_method_15_code
def yX3_isOpened : MethodName := ⟨RX3, "isOpened", "(I)Z"⟩
abbrev cX3_carryOut : ByteArray := prog_5_method_16_code
def yX3_carryOut : MethodName := ⟨RX3, "carryOut", "(LKeyShop$Shop;)V"⟩
abbrev cX3_fillChambers : ByteArray := prog_5_method_17_code
def yX3_fillChambers : MethodName := ⟨RX3, "fillChambers", "(LKeyShop$Cylinders;II)V"⟩
def RX4 : String := "KeyShop$Cylinders"
def TX4 : u_T := fun k => match k with
  | 0 => ("KeyShop$Cylinders", "kinds", "[I", true)
  | 1 => ("KeyShop$Cylinders", "rows", "[I", true)
  | 2 => ("KeyShop$Cylinders", "heights", "[I", true)
  | 3 => ("KeyShop$Cylinders", "firsts", "[I", true)
  | 4 => ("KeyShop$Cylinders", "seconds", "[I", true)
  | 5 => ("KeyShop$Cylinders", "made", "I", false)
  | 6 => ("KeyShop$Cylinders", "trayRow", "I", false)
  | _ => ("KeyShop$Cylinders", "tray", "[I", true)
def tyX4 : Nat → FieldType := fun k => match k with
  | 0 => .array .int
  | 1 => .array .int
  | 2 => .array .int
  | 3 => .array .int
  | 4 => .array .int
  | 5 => .int
  | 6 => .int
  | _ => .array .int
theorem nmX4 : ∀ a, a < 8 → ∀ b, b < 8 → a ≠ b → (TX4 a).2.1 ≠ (TX4 b).2.1 := by decide +kernel
theorem tyX4_ok : ∀ k, k < 8 → parseFieldDescriptor (TX4 k).2.2.1 = some (tyX4 k) := by decide +kernel
abbrev cX4_init : ByteArray := prog_6_method_1_code
def yX4_init : MethodName := ⟨RX4, "<init>", "()V"⟩
abbrev cX4_has : ByteArray := prog_6_method_2_code
def yX4_has : MethodName := ⟨RX4, "has", "(I)Z"⟩
abbrev cX4_hasOrNone : ByteArray := prog_6_method_3_code
def yX4_hasOrNone : MethodName := ⟨RX4, "hasOrNone", "(I)Z"⟩
abbrev cX4_isDouble : ByteArray := prog_6_method_4_code
def yX4_isDouble : MethodName := ⟨RX4, "isDouble", "(I)Z"⟩
abbrev cX4_isCore : ByteArray := prog_6_method_5_code
def yX4_isCore : MethodName := ⟨RX4, "isCore", "(I)Z"⟩
abbrev cX4_isBlind : ByteArray := prog_6_method_6_code
def yX4_isBlind : MethodName := ⟨RX4, "isBlind", "(I)Z"⟩
abbrev cX4_isOut : ByteArray := prog_6_method_7_code
def yX4_isOut : MethodName := ⟨RX4, "isOut", "(I)Z"⟩
abbrev cX4_isOf : ByteArray := prog_6_method_8_code
def yX4_isOf : MethodName := ⟨RX4, "isOf", "(II)Z"⟩
abbrev cX4_most : ByteArray := prog_6_method_9_code
def yX4_most : MethodName := ⟨RX4, "most", "(I)I"⟩
abbrev cX4_rowFinding : ByteArray := prog_6_method_10_code
def yX4_rowFinding : MethodName := ⟨RX4, "rowFinding", "(I)I"⟩
abbrev cX4_chamberFinding : ByteArray := prog_6_method_11_code
def yX4_chamberFinding : MethodName := ⟨RX4, "chamberFinding", "(II)I"⟩
abbrev cX4_hasChamber : ByteArray := prog_6_method_12_code
def yX4_hasChamber : MethodName := ⟨RX4, "hasChamber", "(II)Z"⟩
abbrev cX4_heightsIn : ByteArray := prog_6_method_13_code
def yX4_heightsIn : MethodName := ⟨RX4, "heightsIn", "(II)I"⟩
abbrev cX4_setHeights : ByteArray := prog_6_method_14_code
def yX4_setHeights : MethodName := ⟨RX4, "setHeights", "(III)V"⟩
abbrev cX4_add : ByteArray := prog_6_method_15_code
def yX4_add : MethodName := ⟨RX4, "add", "(II)I"⟩
abbrev cX4_addDouble : ByteArray := prog_6_method_16_code
def yX4_addDouble : MethodName := ⟨RX4, "addDouble", "(II)I"⟩
abbrev cX4_rowToTray : ByteArray := prog_6_method_17_code
def yX4_rowToTray : MethodName := ⟨RX4, "rowToTray", "(I)I"⟩
abbrev cX4_rowFromTray : ByteArray := prog_6_method_18_code
def yX4_rowFromTray : MethodName := ⟨RX4, "rowFromTray", "(I)I"⟩
abbrev cX4_become : ByteArray := prog_6_method_19_code
def yX4_become : MethodName := ⟨RX4, "become", "(LKeyShop$Cylinders;)V"⟩
def RX5 : String := "KeyShop$Keys"
def TX5 : u_T := fun k => match k with
  | 0 => ("KeyShop$Keys", "lengths", "[I", true)
  | 1 => ("KeyShop$Keys", "cuts", "[I", true)
  | 2 => ("KeyShop$Keys", "holders", "[I", true)
  | 3 => ("KeyShop$Keys", "openWishes", "[J", true)
  | 4 => ("KeyShop$Keys", "neverWishes", "[J", true)
  | _ => ("KeyShop$Keys", "made", "I", false)
def tyX5 : Nat → FieldType := fun k => match k with
  | 0 => .array .int
  | 1 => .array .int
  | 2 => .array .int
  | 3 => .array .long
  | 4 => .array .long
  | _ => .int
theorem nmX5 : ∀ a, a < 6 → ∀ b, b < 6 → a ≠ b → (TX5 a).2.1 ≠ (TX5 b).2.1 := by decide +kernel
theorem tyX5_ok : ∀ k, k < 6 → parseFieldDescriptor (TX5 k).2.2.1 = some (tyX5 k) := by decide +kernel
abbrev cX5_init : ByteArray := prog_7_method_1_code
def yX5_init : MethodName := ⟨RX5, "<init>", "()V"⟩
abbrev cX5_has : ByteArray := prog_7_method_2_code
def yX5_has : MethodName := ⟨RX5, "has", "(I)Z"⟩
abbrev cX5_hasCut : ByteArray := prog_7_method_3_code
def yX5_hasCut : MethodName := ⟨RX5, "hasCut", "(II)Z"⟩
abbrev cX5_cutAt : ByteArray := prog_7_method_4_code
def yX5_cutAt : MethodName := ⟨RX5, "cutAt", "(II)I"⟩
abbrev cX5_setCut : ByteArray := prog_7_method_5_code
def yX5_setCut : MethodName := ⟨RX5, "setCut", "(III)V"⟩
abbrev cX5_add : ByteArray := prog_7_method_6_code
def yX5_add : MethodName := ⟨RX5, "add", "(IJ)I"⟩
abbrev cX5_addTurned : ByteArray := prog_7_method_7_code
def yX5_addTurned : MethodName := ⟨RX5, "addTurned", "(II)I"⟩
abbrev cX5_addEmpty : ByteArray := prog_7_method_8_code
def yX5_addEmpty : MethodName := ⟨RX5, "addEmpty", "(I)I"⟩
abbrev cX5_heldBy : ByteArray := prog_7_method_9_code
def yX5_heldBy : MethodName := ⟨RX5, "heldBy", "(I)I"⟩
abbrev cX5_wishFor : ByteArray := prog_7_method_10_code
def yX5_wishFor : MethodName := ⟨RX5, "wishFor", "(II)I"⟩
abbrev cX5_exchangeWish : ByteArray := prog_7_method_11_code
def yX5_exchangeWish : MethodName := ⟨RX5, "exchangeWish", "(III)I"⟩
abbrev cX5_become : ByteArray := prog_7_method_12_code
def yX5_become : MethodName := ⟨RX5, "become", "(LKeyShop$Keys;)V"⟩
def RX6 : String := "KeyShop$Shop"
def TX6 : u_T := fun k => match k with
  | 0 => ("KeyShop$Shop", "cylinders", "LKeyShop$Cylinders;", true)
  | 1 => ("KeyShop$Shop", "keys", "LKeyShop$Keys;", true)
  | 2 => ("KeyShop$Shop", "cabinets", "LKeyShop$Cabinets;", true)
  | 3 => ("KeyShop$Shop", "fitted", "[I", true)
  | 4 => ("KeyShop$Shop", "doors", "I", false)
  | 5 => ("KeyShop$Shop", "persons", "I", false)
  | _ => ("KeyShop$Shop", "blanks", "I", false)
def tyX6 : Nat → FieldType := fun k => match k with
  | 0 => .object "KeyShop$Cylinders"
  | 1 => .object "KeyShop$Keys"
  | 2 => .object "KeyShop$Cabinets"
  | 3 => .array .int
  | 4 => .int
  | 5 => .int
  | _ => .int
theorem nmX6 : ∀ a, a < 7 → ∀ b, b < 7 → a ≠ b → (TX6 a).2.1 ≠ (TX6 b).2.1 := by decide +kernel
theorem tyX6_ok : ∀ k, k < 7 → parseFieldDescriptor (TX6 k).2.2.1 = some (tyX6 k) := by decide +kernel
abbrev cX6_init : ByteArray := prog_8_method_1_code
def yX6_init : MethodName := ⟨RX6, "<init>", "()V"⟩
abbrev cX6_hasDoor : ByteArray := prog_8_method_2_code
def yX6_hasDoor : MethodName := ⟨RX6, "hasDoor", "(I)Z"⟩
abbrev cX6_become : ByteArray := prog_8_method_3_code
def yX6_become : MethodName := ⟨RX6, "become", "(LKeyShop$Shop;)V"⟩
def RX7 : String := "KeyShop$Trace"
def TX7 : u_T := fun k => match k with
  | 0 => ("KeyShop$Trace", "kept", "[I", true)
  | _ => ("KeyShop$Trace", "entries", "I", false)
def tyX7 : Nat → FieldType := fun k => match k with
  | 0 => .array .int
  | _ => .int
theorem nmX7 : ∀ a, a < 2 → ∀ b, b < 2 → a ≠ b → (TX7 a).2.1 ≠ (TX7 b).2.1 := by decide +kernel
theorem tyX7_ok : ∀ k, k < 2 → parseFieldDescriptor (TX7 k).2.2.1 = some (tyX7 k) := by decide +kernel
abbrev cX7_init : ByteArray := prog_9_method_1_code
def yX7_init : MethodName := ⟨RX7, "<init>", "()V"⟩
abbrev cX7_begin : ByteArray := prog_9_method_2_code
def yX7_begin : MethodName := ⟨RX7, "begin", "()V"⟩
abbrev cX7_add : ByteArray := prog_9_method_3_code
def yX7_add : MethodName := ⟨RX7, "add", "(I)V"⟩
abbrev cX7_entryAt : ByteArray := prog_9_method_4_code
def yX7_entryAt : MethodName := ⟨RX7, "entryAt", "(I)I"⟩
def RX8 : String := "KeyShop$Turning"
def TX8 : u_T := fun k => match k with
  | 0 => ("KeyShop$Turning", "trace", "LKeyShop$Trace;", true)
  | _ => ("KeyShop$Turning", "stoppedAt", "I", false)
def tyX8 : Nat → FieldType := fun k => match k with
  | 0 => .object "KeyShop$Trace"
  | _ => .int
theorem nmX8 : ∀ a, a < 2 → ∀ b, b < 2 → a ≠ b → (TX8 a).2.1 ≠ (TX8 b).2.1 := by decide +kernel
theorem tyX8_ok : ∀ k, k < 2 → parseFieldDescriptor (TX8 k).2.2.1 = some (tyX8 k) := by decide +kernel
abbrev cX8_init : ByteArray := prog_10_method_1_code
def yX8_init : MethodName := ⟨RX8, "<init>", "()V"⟩
abbrev cX8_begin : ByteArray := prog_10_method_2_code
def yX8_begin : MethodName := ⟨RX8, "begin", "()V"⟩
abbrev cX8_tryKey : ByteArray := prog_10_method_3_code
def yX8_tryKey : MethodName := ⟨RX8, "tryKey", "(LKeyShop$Shop;II)I"⟩
abbrev cX8_trySingle : ByteArray := prog_10_method_4_code
def yX8_trySingle : MethodName := ⟨RX8, "trySingle", "(LKeyShop$Shop;III)I"⟩
abbrev cX8_tryRow : ByteArray := prog_10_method_5_code
def yX8_tryRow : MethodName := ⟨RX8, "tryRow", "(LKeyShop$Shop;III)I"⟩
def RX9 : String := "KeyShop$Weighing"
def TX9 : u_T := fun k => match k with
  | _ => ("", "", "", false)
def tyX9 : Nat → FieldType := fun k => match k with
  | _ => .int
theorem nmX9 : ∀ a, a < 0 → ∀ b, b < 0 → a ≠ b → (TX9 a).2.1 ≠ (TX9 b).2.1 := by decide +kernel
theorem tyX9_ok : ∀ k, k < 0 → parseFieldDescriptor (TX9 k).2.2.1 = some (tyX9 k) := by decide +kernel
abbrev cX9_weightOf : ByteArray := prog_11_method_2_code
def yX9_weightOf : MethodName := ⟨RX9, "weightOf", "(LKeyShop$Cylinders;ILKeyShop$Trace;)I"⟩
abbrev cX9_weightOfHalf : ByteArray := prog_11_method_3_code
def yX9_weightOfHalf : MethodName := ⟨RX9, "weightOfHalf", "(LKeyShop$Cylinders;ILKeyShop$Trace;)I"⟩
abbrev cX9_weightOfSingle : ByteArray := prog_11_method_4_code
def yX9_weightOfSingle : MethodName := ⟨RX9, "weightOfSingle", "(LKeyShop$Cylinders;ILKeyShop$Trace;)I"⟩
abbrev cX9_sumOf : ByteArray := prog_11_method_5_code
def yX9_sumOf : MethodName := ⟨RX9, "sumOf", "(I)I"⟩
def RX10 : String := "KeyShop"
def TX10 : u_T := fun k => match k with
  | 0 => ("KeyShop", "now", "LKeyShop$Shop;", false)
  | 1 => ("KeyShop", "before", "LKeyShop$Shop;", false)
  | 2 => ("KeyShop", "canUndo", "Z", false)
  | 3 => ("KeyShop", "tries", "I", false)
  | 4 => ("KeyShop", "latestFinding", "I", false)
  | 5 => ("KeyShop", "findingsEver", "I", false)
  | 6 => ("KeyShop", "turning", "LKeyShop$Turning;", true)
  | 7 => ("KeyShop", "unseen", "LKeyShop$Turning;", true)
  | 8 => ("KeyShop", "cutting", "LKeyShop$Cutting;", true)
  | 9 => ("KeyShop", "counting", "LKeyShop$Counting;", true)
  | _ => ("KeyShop", "carrying", "LKeyShop$Carrying;", true)
def tyX10 : Nat → FieldType := fun k => match k with
  | 0 => .object "KeyShop$Shop"
  | 1 => .object "KeyShop$Shop"
  | 2 => .boolean
  | 3 => .int
  | 4 => .int
  | 5 => .int
  | 6 => .object "KeyShop$Turning"
  | 7 => .object "KeyShop$Turning"
  | 8 => .object "KeyShop$Cutting"
  | 9 => .object "KeyShop$Counting"
  | _ => .object "KeyShop$Carrying"
theorem nmX10 : ∀ a, a < 11 → ∀ b, b < 11 → a ≠ b → (TX10 a).2.1 ≠ (TX10 b).2.1 := by decide +kernel
theorem tyX10_ok : ∀ k, k < 11 → parseFieldDescriptor (TX10 k).2.2.1 = some (tyX10 k) := by decide +kernel
abbrev cX10_init : ByteArray := prog_1_method_1_code
def yX10_init : MethodName := ⟨RX10, "<init>", "()V"⟩
abbrev cX10_cylinder : ByteArray := prog_1_method_2_code
def yX10_cylinder : MethodName := ⟨RX10, "cylinder", "(II)I"⟩
abbrev cX10_makeCylinder : ByteArray := prog_1_method_3_code
def yX10_makeCylinder : MethodName := ⟨RX10, "makeCylinder", "(II)I"⟩
abbrev cX10_twin : ByteArray := prog_1_method_4_code
def yX10_twin : MethodName := ⟨RX10, "twin", "(II)I"⟩
abbrev cX10_makeDouble : ByteArray := prog_1_method_5_code
def yX10_makeDouble : MethodName := ⟨RX10, "makeDouble", "(II)I"⟩
abbrev cX10_height : ByteArray := prog_1_method_6_code
def yX10_height : MethodName := ⟨RX10, "height", "(IIIZ)I"⟩
abbrev cX10_changeHeight : ByteArray := prog_1_method_7_code
def yX10_changeHeight : MethodName := ⟨RX10, "changeHeight", "(IIIZ)I"⟩
abbrev cX10_heightAt : ByteArray := prog_1_method_8_code
def yX10_heightAt : MethodName := ⟨RX10, "heightAt", "(III)I"⟩
abbrev cX10_lookAtHeight : ByteArray := prog_1_method_9_code
def yX10_lookAtHeight : MethodName := ⟨RX10, "lookAtHeight", "(III)I"⟩
abbrev cX10_heightNumber : ByteArray := prog_1_method_10_code
def yX10_heightNumber : MethodName := ⟨RX10, "heightNumber", "(II)I"⟩
abbrev cX10_takeCore : ByteArray := prog_1_method_11_code
def yX10_takeCore : MethodName := ⟨RX10, "takeCore", "(I)I"⟩
abbrev cX10_coreToTray : ByteArray := prog_1_method_12_code
def yX10_coreToTray : MethodName := ⟨RX10, "coreToTray", "(I)I"⟩
abbrev cX10_putCore : ByteArray := prog_1_method_13_code
def yX10_putCore : MethodName := ⟨RX10, "putCore", "(I)I"⟩
abbrev cX10_trayToCore : ByteArray := prog_1_method_14_code
def yX10_trayToCore : MethodName := ⟨RX10, "trayToCore", "(I)I"⟩
abbrev cX10_kind : ByteArray := prog_1_method_15_code
def yX10_kind : MethodName := ⟨RX10, "kind", "(I)I"⟩
abbrev cX10_chambers : ByteArray := prog_1_method_16_code
def yX10_chambers : MethodName := ⟨RX10, "chambers", "(I)I"⟩
abbrev cX10_weight : ByteArray := prog_1_method_17_code
def yX10_weight : MethodName := ⟨RX10, "weight", "(I)I"⟩
abbrev cX10_blanks : ByteArray := prog_1_method_18_code
def yX10_blanks : MethodName := ⟨RX10, "blanks", "(I)I"⟩
abbrev cX10_key : ByteArray := prog_1_method_19_code
def yX10_key : MethodName := ⟨RX10, "key", "(IJ)I"⟩
abbrev cX10_cutKey : ByteArray := prog_1_method_20_code
def yX10_cutKey : MethodName := ⟨RX10, "cutKey", "(IJ)I"⟩
abbrev cX10_turned : ByteArray := prog_1_method_21_code
def yX10_turned : MethodName := ⟨RX10, "turned", "(II)I"⟩
abbrev cX10_cutTurned : ByteArray := prog_1_method_22_code
def yX10_cutTurned : MethodName := ⟨RX10, "cutTurned", "(II)I"⟩
abbrev cX10_cuttingRefusal : ByteArray := prog_1_method_23_code
def yX10_cuttingRefusal : MethodName := ⟨RX10, "cuttingRefusal", "()I"⟩
abbrev cX10_cut : ByteArray := prog_1_method_24_code
def yX10_cut : MethodName := ⟨RX10, "cut", "(II)I"⟩
abbrev cX10_length : ByteArray := prog_1_method_25_code
def yX10_length : MethodName := ⟨RX10, "length", "(I)I"⟩
abbrev cX10_turn : ByteArray := prog_1_method_26_code
def yX10_turn : MethodName := ⟨RX10, "turn", "(II)I"⟩
abbrev cX10_opens : ByteArray := prog_1_method_27_code
def yX10_opens : MethodName := ⟨RX10, "opens", "(II)I"⟩
abbrev cX10_turnAll : ByteArray := prog_1_method_28_code
def yX10_turnAll : MethodName := ⟨RX10, "turnAll", "(II)I"⟩
abbrev cX10_turnPlaceByPlace : ByteArray := prog_1_method_29_code
def yX10_turnPlaceByPlace : MethodName := ⟨RX10, "turnPlaceByPlace", "(II)I"⟩
abbrev cX10_at : ByteArray := prog_1_method_30_code
def yX10_at : MethodName := ⟨RX10, "at", "()I"⟩
abbrev cX10_cabinet : ByteArray := prog_1_method_31_code
def yX10_cabinet : MethodName := ⟨RX10, "cabinet", "(II)I"⟩
abbrev cX10_makeCabinet : ByteArray := prog_1_method_32_code
def yX10_makeCabinet : MethodName := ⟨RX10, "makeCabinet", "(II)I"⟩
abbrev cX10_put : ByteArray := prog_1_method_33_code
def yX10_put : MethodName := ⟨RX10, "put", "(III)I"⟩
abbrev cX10_putInside : ByteArray := prog_1_method_34_code
def yX10_putInside : MethodName := ⟨RX10, "putInside", "(III)I"⟩
abbrev cX10_inside : ByteArray := prog_1_method_35_code
def yX10_inside : MethodName := ⟨RX10, "inside", "(II)I"⟩
abbrev cX10_door : ByteArray := prog_1_method_36_code
def yX10_door : MethodName := ⟨RX10, "door", "()I"⟩
abbrev cX10_fit : ByteArray := prog_1_method_37_code
def yX10_fit : MethodName := ⟨RX10, "fit", "(II)I"⟩
abbrev cX10_person : ByteArray := prog_1_method_38_code
def yX10_person : MethodName := ⟨RX10, "person", "()I"⟩
abbrev cX10_lend : ByteArray := prog_1_method_39_code
def yX10_lend : MethodName := ⟨RX10, "lend", "(II)I"⟩
abbrev cX10_bringBack : ByteArray := prog_1_method_40_code
def yX10_bringBack : MethodName := ⟨RX10, "bringBack", "(I)I"⟩
abbrev cX10_lose : ByteArray := prog_1_method_41_code
def yX10_lose : MethodName := ⟨RX10, "lose", "(I)I"⟩
abbrev cX10_found : ByteArray := prog_1_method_42_code
def yX10_found : MethodName := ⟨RX10, "found", "(I)I"⟩
abbrev cX10_holder : ByteArray := prog_1_method_43_code
def yX10_holder : MethodName := ⟨RX10, "holder", "(I)I"⟩
abbrev cX10_wish : ByteArray := prog_1_method_44_code
def yX10_wish : MethodName := ⟨RX10, "wish", "(III)I"⟩
abbrev cX10_work : ByteArray := prog_1_method_45_code
def yX10_work : MethodName := ⟨RX10, "work", "(IIII)I"⟩
abbrev cX10_anew : ByteArray := prog_1_method_46_code
def yX10_anew : MethodName := ⟨RX10, "anew", "(IIIII)I"⟩
abbrev cX10_cutByWishes : ByteArray := prog_1_method_47_code
def yX10_cutByWishes : MethodName := ⟨RX10, "cutByWishes", "(IIIII)I"⟩
abbrev cX10_areCuttingSizes : ByteArray := prog_1_method_48_code
def yX10_areCuttingSizes : MethodName := ⟨RX10, "areCuttingSizes", "(IIII)Z"⟩
abbrev cX10_canBePassedOver : ByteArray := prog_1_method_49_code
def yX10_canBePassedOver : MethodName := ⟨RX10, "canBePassedOver", "(II)Z"⟩
abbrev cX10_doorsRefusal : ByteArray := prog_1_method_50_code
def yX10_doorsRefusal : MethodName := ⟨RX10, "doorsRefusal", "(II)I"⟩
abbrev cX10_isFittedAhead : ByteArray := prog_1_method_51_code
def yX10_isFittedAhead : MethodName := ⟨RX10, "isFittedAhead", "(II)Z"⟩
abbrev cX10_trials : ByteArray := prog_1_method_52_code
def yX10_trials : MethodName := ⟨RX10, "trials", "()I"⟩
abbrev cX10_count : ByteArray := prog_1_method_53_code
def yX10_count : MethodName := ⟨RX10, "count", "(III)J"⟩
abbrev cX10_carry : ByteArray := prog_1_method_54_code
def yX10_carry : MethodName := ⟨RX10, "carry", "(I)I"⟩
abbrev cX10_closed : ByteArray := prog_1_method_55_code
def yX10_closed : MethodName := ⟨RX10, "closed", "(I)I"⟩
abbrev cX10_endangered : ByteArray := prog_1_method_56_code
def yX10_endangered : MethodName := ⟨RX10, "endangered", "(I)I"⟩
abbrev cX10_areDoors : ByteArray := prog_1_method_57_code
def yX10_areDoors : MethodName := ⟨RX10, "areDoors", "(I)Z"⟩
abbrev cX10_doorsThatOpen : ByteArray := prog_1_method_58_code
def yX10_doorsThatOpen : MethodName := ⟨RX10, "doorsThatOpen", "(I)I"⟩
abbrev cX10_undo : ByteArray := prog_1_method_59_code
def yX10_undo : MethodName := ⟨RX10, "undo", "()I"⟩
abbrev cX10_finding : ByteArray := prog_1_method_60_code
def yX10_finding : MethodName := ⟨RX10, "finding", "()I"⟩
abbrev cX10_trace : ByteArray := prog_1_method_61_code
def yX10_trace : MethodName := ⟨RX10, "trace", "(I)I"⟩
abbrev cX10_told : ByteArray := prog_1_method_62_code
def yX10_told : MethodName := ⟨RX10, "told", "(I)I"⟩
abbrev cX10_remember : ByteArray := prog_1_method_63_code
def yX10_remember : MethodName := ⟨RX10, "remember", "()V"⟩
abbrev cX10_settle : ByteArray := prog_1_method_64_code
def yX10_settle : MethodName := ⟨RX10, "settle", "(I)I"⟩
def RX11 : String := "KeyShopModel"
def TX11 : u_T := fun k => match k with
  | 0 => ("KeyShopModel", "st", "[I", true)
  | 1 => ("KeyShopModel", "old", "[I", true)
  | 2 => ("KeyShopModel", "canUndo", "Z", false)
  | 3 => ("KeyShopModel", "tries", "I", false)
  | 4 => ("KeyShopModel", "finding", "I", false)
  | 5 => ("KeyShopModel", "findings", "I", false)
  | 6 => ("KeyShopModel", "at", "I", false)
  | 7 => ("KeyShopModel", "spot", "I", false)
  | 8 => ("KeyShopModel", "trace", "[I", true)
  | 9 => ("KeyShopModel", "traced", "I", false)
  | 10 => ("KeyShopModel", "trials", "I", false)
  | 11 => ("KeyShopModel", "cutOf", "[I", true)
  | 12 => ("KeyShopModel", "next", "[I", true)
  | 13 => ("KeyShopModel", "listed", "[I", true)
  | 14 => ("KeyShopModel", "listedMany", "I", false)
  | 15 => ("KeyShopModel", "shall", "[I", true)
  | 16 => ("KeyShopModel", "maskOf", "[I", true)
  | 17 => ("KeyShopModel", "may", "[I", true)
  | 18 => ("KeyShopModel", "ways", "[J", true)
  | 19 => ("KeyShopModel", "more", "[J", true)
  | 20 => ("KeyShopModel", "never", "Z", false)
  | 21 => ("KeyShopModel", "openBy", "[I", true)
  | _ => ("KeyShopModel", "together", "[I", true)
def tyX11 : Nat → FieldType := fun k => match k with
  | 0 => .array .int
  | 1 => .array .int
  | 2 => .boolean
  | 3 => .int
  | 4 => .int
  | 5 => .int
  | 6 => .int
  | 7 => .int
  | 8 => .array .int
  | 9 => .int
  | 10 => .int
  | 11 => .array .int
  | 12 => .array .int
  | 13 => .array .int
  | 14 => .int
  | 15 => .array .int
  | 16 => .array .int
  | 17 => .array .int
  | 18 => .array .long
  | 19 => .array .long
  | 20 => .boolean
  | 21 => .array .int
  | _ => .array .int
theorem nmX11 : ∀ a, a < 23 → ∀ b, b < 23 → a ≠ b → (TX11 a).2.1 ≠ (TX11 b).2.1 := by decide +kernel
theorem tyX11_ok : ∀ k, k < 23 → parseFieldDescriptor (TX11 k).2.2.1 = some (tyX11 k) := by decide +kernel
abbrev cX11_init : ByteArray := prog_13_method_1_code
def yX11_init : MethodName := ⟨RX11, "<init>", "()V"⟩
abbrev cX11_in : ByteArray := prog_13_method_2_code
def yX11_in : MethodName := ⟨RX11, "in", "(JJJ)Z"⟩
abbrev cX11_met : ByteArray := prog_13_method_3_code
def yX11_met : MethodName := ⟨RX11, "met", "(I)I"⟩
abbrev cX11_well : ByteArray := prog_13_method_4_code
def yX11_well : MethodName := ⟨RX11, "well", "(I)I"⟩
abbrev cX11_change : ByteArray := prog_13_method_5_code
def yX11_change : MethodName := ⟨RX11, "change", "()V"⟩
abbrev cX11_isCylinder : ByteArray := prog_13_method_6_code
def yX11_isCylinder : MethodName := ⟨RX11, "isCylinder", "(I)Z"⟩
abbrev cX11_isKey : ByteArray := prog_13_method_7_code
def yX11_isKey : MethodName := ⟨RX11, "isKey", "(I)Z"⟩
abbrev cX11_isDoor : ByteArray := prog_13_method_8_code
def yX11_isDoor : MethodName := ⟨RX11, "isDoor", "(I)Z"⟩
abbrev cX11_most : ByteArray := prog_13_method_9_code
def yX11_most : MethodName := ⟨RX11, "most", "(I)I"⟩
abbrev cX11_bits : ByteArray := prog_13_method_10_code
def yX11_bits : MethodName := ⟨RX11, "bits", "(I)I"⟩
abbrev cX11_newCylinder : ByteArray := prog_13_method_11_code
def yX11_newCylinder : MethodName := ⟨RX11, "newCylinder", "(IIII)I"⟩
abbrev cX11_cylinder : ByteArray := prog_13_method_12_code
def yX11_cylinder : MethodName := ⟨RX11, "cylinder", "(II)I"⟩
abbrev cX11_twin : ByteArray := prog_13_method_13_code
def yX11_twin : MethodName := ⟨RX11, "twin", "(II)I"⟩
abbrev cX11_wrong : ByteArray := prog_13_method_14_code
def yX11_wrong : MethodName := ⟨RX11, "wrong", "(II)I"⟩
abbrev cX11_height : ByteArray := prog_13_method_15_code
def yX11_height : MethodName := ⟨RX11, "height", "(IIIZ)I"⟩
abbrev cX11_heightAt : ByteArray := prog_13_method_16_code
def yX11_heightAt : MethodName := ⟨RX11, "heightAt", "(III)I"⟩
abbrev cX11_takeCore : ByteArray := prog_13_method_17_code
def yX11_takeCore : MethodName := ⟨RX11, "takeCore", "(I)I"⟩
abbrev cX11_putCore : ByteArray := prog_13_method_18_code
def yX11_putCore : MethodName := ⟨RX11, "putCore", "(I)I"⟩
abbrev cX11_kind : ByteArray := prog_13_method_19_code
def yX11_kind : MethodName := ⟨RX11, "kind", "(I)I"⟩
abbrev cX11_chambers : ByteArray := prog_13_method_20_code
def yX11_chambers : MethodName := ⟨RX11, "chambers", "(I)I"⟩
abbrev cX11_note : ByteArray := prog_13_method_21_code
def yX11_note : MethodName := ⟨RX11, "note", "(IZ)V"⟩
abbrev cX11_weigh : ByteArray := prog_13_method_22_code
def yX11_weigh : MethodName := ⟨RX11, "weigh", "(I)I"⟩
abbrev cX11_weight : ByteArray := prog_13_method_23_code
def yX11_weight : MethodName := ⟨RX11, "weight", "(I)I"⟩
abbrev cX11_blanks : ByteArray := prog_13_method_24_code
def yX11_blanks : MethodName := ⟨RX11, "blanks", "(I)I"⟩
abbrev cX11_newKey : ByteArray := prog_13_method_25_code
def yX11_newKey : MethodName := ⟨RX11, "newKey", "(I)I"⟩
abbrev cX11_key : ByteArray := prog_13_method_26_code
def yX11_key : MethodName := ⟨RX11, "key", "(IJ)I"⟩
abbrev cX11_turned : ByteArray := prog_13_method_27_code
def yX11_turned : MethodName := ⟨RX11, "turned", "(II)I"⟩
abbrev cX11_cut : ByteArray := prog_13_method_28_code
def yX11_cut : MethodName := ⟨RX11, "cut", "(II)I"⟩
abbrev cX11_length : ByteArray := prog_13_method_29_code
def yX11_length : MethodName := ⟨RX11, "length", "(I)I"⟩
abbrev cX11_tried : ByteArray := prog_13_method_30_code
def yX11_tried : MethodName := ⟨RX11, "tried", "(IIIZ)I"⟩
abbrev cX11_lacks : ByteArray := prog_13_method_31_code
def yX11_lacks : MethodName := ⟨RX11, "lacks", "(I)I"⟩
abbrev cX11_turnOne : ByteArray := prog_13_method_32_code
def yX11_turnOne : MethodName := ⟨RX11, "turnOne", "(II)I"⟩
abbrev cX11_turn : ByteArray := prog_13_method_33_code
def yX11_turn : MethodName := ⟨RX11, "turn", "(II)I"⟩
abbrev cX11_opens : ByteArray := prog_13_method_34_code
def yX11_opens : MethodName := ⟨RX11, "opens", "(II)I"⟩
abbrev cX11_turnAll : ByteArray := prog_13_method_35_code
def yX11_turnAll : MethodName := ⟨RX11, "turnAll", "(II)I"⟩
abbrev cX11_at : ByteArray := prog_13_method_36_code
def yX11_at : MethodName := ⟨RX11, "at", "()I"⟩
abbrev cX11_would : ByteArray := prog_13_method_37_code
def yX11_would : MethodName := ⟨RX11, "would", "(II)Z"⟩
abbrev cX11_cabinet : ByteArray := prog_13_method_38_code
def yX11_cabinet : MethodName := ⟨RX11, "cabinet", "(II)I"⟩
abbrev cX11_is : ByteArray := prog_13_method_39_code
def yX11_is : MethodName := ⟨RX11, "is", "(II)Z"⟩
abbrev cX11_put : ByteArray := prog_13_method_40_code
def yX11_put : MethodName := ⟨RX11, "put", "(III)I"⟩
abbrev cX11_inside : ByteArray := prog_13_method_41_code
def yX11_inside : MethodName := ⟨RX11, "inside", "(II)I"⟩
abbrev cX11_door : ByteArray := prog_13_method_42_code
def yX11_door : MethodName := ⟨RX11, "door", "()I"⟩
abbrev cX11_fit : ByteArray := prog_13_method_43_code
def yX11_fit : MethodName := ⟨RX11, "fit", "(II)I"⟩
abbrev cX11_person : ByteArray := prog_13_method_44_code
def yX11_person : MethodName := ⟨RX11, "person", "()I"⟩
abbrev cX11_lend : ByteArray := prog_13_method_45_code
def yX11_lend : MethodName := ⟨RX11, "lend", "(II)I"⟩
abbrev cX11_bringBack : ByteArray := prog_13_method_46_code
def yX11_bringBack : MethodName := ⟨RX11, "bringBack", "(I)I"⟩
abbrev cX11_lose : ByteArray := prog_13_method_47_code
def yX11_lose : MethodName := ⟨RX11, "lose", "(I)I"⟩
abbrev cX11_found : ByteArray := prog_13_method_48_code
def yX11_found : MethodName := ⟨RX11, "found", "(I)I"⟩
abbrev cX11_holder : ByteArray := prog_13_method_49_code
def yX11_holder : MethodName := ⟨RX11, "holder", "(I)I"⟩
abbrev cX11_wish : ByteArray := prog_13_method_50_code
def yX11_wish : MethodName := ⟨RX11, "wish", "(III)I"⟩
abbrev cX11_areRight : ByteArray := prog_13_method_51_code
def yX11_areRight : MethodName := ⟨RX11, "areRight", "(IIII)Z"⟩
abbrev cX11_against : ByteArray := prog_13_method_52_code
def yX11_against : MethodName := ⟨RX11, "against", "(II)I"⟩
abbrev cX11_work : ByteArray := prog_13_method_53_code
def yX11_work : MethodName := ⟨RX11, "work", "(IIII)I"⟩
abbrev cX11_anew : ByteArray := prog_13_method_54_code
def yX11_anew : MethodName := ⟨RX11, "anew", "(IIIII)I"⟩
abbrev cX11_searched : ByteArray := prog_13_method_55_code
def yX11_searched : MethodName := ⟨RX11, "searched", "(IIIII)I"⟩
abbrev cX11_search : ByteArray := prog_13_method_56_code
def yX11_search : MethodName := ⟨RX11, "search", "(IIIII)I"⟩
abbrev cX11_stands : ByteArray := prog_13_method_57_code
def yX11_stands : MethodName := ⟨RX11, "stands", "(IIIII)Z"⟩
abbrev cX11_areAlike : ByteArray := prog_13_method_58_code
def yX11_areAlike : MethodName := ⟨RX11, "areAlike", "(III)Z"⟩
abbrev cX11_cutsAt : ByteArray := prog_13_method_59_code
def yX11_cutsAt : MethodName := ⟨RX11, "cutsAt", "(III)I"⟩
abbrev cX11_areNeversMet : ByteArray := prog_13_method_60_code
def yX11_areNeversMet : MethodName := ⟨RX11, "areNeversMet", "(III)Z"⟩
abbrev cX11_bars : ByteArray := prog_13_method_61_code
def yX11_bars : MethodName := ⟨RX11, "bars", "(III)Z"⟩
abbrev cX11_take : ByteArray := prog_13_method_62_code
def yX11_take : MethodName := ⟨RX11, "take", "(II)V"⟩
abbrev cX11_trials : ByteArray := prog_13_method_63_code
def yX11_trials : MethodName := ⟨RX11, "trials", "()I"⟩
abbrev cX11_narrows : ByteArray := prog_13_method_64_code
def yX11_narrows : MethodName := ⟨RX11, "narrows", "(II)Z"⟩
abbrev cX11_count : ByteArray := prog_13_method_65_code
def yX11_count : MethodName := ⟨RX11, "count", "(III)J"⟩
abbrev cX11_opened : ByteArray := prog_13_method_66_code
def yX11_opened : MethodName := ⟨RX11, "opened", "(I)I"⟩
abbrev cX11_areDoors : ByteArray := prog_13_method_67_code
def yX11_areDoors : MethodName := ⟨RX11, "areDoors", "(I)Z"⟩
abbrev cX11_first : ByteArray := prog_13_method_68_code
def yX11_first : MethodName := ⟨RX11, "first", "(I)I"⟩
abbrev cX11_carry : ByteArray := prog_13_method_69_code
def yX11_carry : MethodName := ⟨RX11, "carry", "(I)I"⟩
abbrev cX11_closed : ByteArray := prog_13_method_70_code
def yX11_closed : MethodName := ⟨RX11, "closed", "(I)I"⟩
abbrev cX11_endangered : ByteArray := prog_13_method_71_code
def yX11_endangered : MethodName := ⟨RX11, "endangered", "(I)I"⟩
abbrev cX11_undo : ByteArray := prog_13_method_72_code
def yX11_undo : MethodName := ⟨RX11, "undo", "()I"⟩
abbrev cX11_finding : ByteArray := prog_13_method_73_code
def yX11_finding : MethodName := ⟨RX11, "finding", "()I"⟩
abbrev cX11_trace : ByteArray := prog_13_method_74_code
def yX11_trace : MethodName := ⟨RX11, "trace", "(I)I"⟩
abbrev cX11_told : ByteArray := prog_13_method_75_code
def yX11_told : MethodName := ⟨RX11, "told", "(I)I"⟩
def RJ6 : String := "java/lang/Integer"
def TJ6 : u_T := fun k => match k with
  | _ => ("", "", "", false)
def tyJ6 : Nat → FieldType := fun k => match k with
  | _ => .int
theorem nmJ6 : ∀ a, a < 0 → ∀ b, b < 0 → a ≠ b → (TJ6 a).2.1 ≠ (TJ6 b).2.1 := by decide +kernel
theorem tyJ6_ok : ∀ k, k < 0 → parseFieldDescriptor (TJ6 k).2.2.1 = some (tyJ6 k) := by decide +kernel
abbrev cJ6_bitCount_0f7a4 : ByteArray := prog_14_method_49_code
def yJ6_bitCount_0f7a4 : MethodName := ⟨RJ6, "bitCount", "(I)I"⟩
def RJ9 : String := "java/lang/Math"
def TJ9 : u_T := fun k => match k with
  | _ => ("", "", "", false)
def tyJ9 : Nat → FieldType := fun k => match k with
  | _ => .int
theorem nmJ9 : ∀ a, a < 0 → ∀ b, b < 0 → a ≠ b → (TJ9 a).2.1 ≠ (TJ9 b).2.1 := by decide +kernel
theorem tyJ9_ok : ∀ k, k < 0 → parseFieldDescriptor (TJ9 k).2.2.1 = some (tyJ9 k) := by decide +kernel
abbrev cJ9_abs_0f7a4 : ByteArray := prog_15_method_59_code
def yJ9_abs_0f7a4 : MethodName := ⟨RJ9, "abs", "(I)I"⟩
abbrev cJ9_max_7cf53 : ByteArray := prog_15_method_65_code
def yJ9_max_7cf53 : MethodName := ⟨RJ9, "max", "(II)I"⟩
abbrev cJ9_min_7cf53 : ByteArray := prog_15_method_69_code
def yJ9_min_7cf53 : MethodName := ⟨RJ9, "min", "(II)I"⟩
def RJ10 : String := "java/lang/System"
def TJ10 : u_T := fun k => match k with
  | _ => ("", "", "", false)
def tyJ10 : Nat → FieldType := fun k => match k with
  | _ => .int
theorem nmJ10 : ∀ a, a < 0 → ∀ b, b < 0 → a ≠ b → (TJ10 a).2.1 ≠ (TJ10 b).2.1 := by decide +kernel
theorem tyJ10_ok : ∀ k, k < 0 → parseFieldDescriptor (TJ10 k).2.2.1 = some (tyJ10 k) := by decide +kernel
def RL : String := "KeyShopLaw"
abbrev cL_law : ByteArray := code
def yL_law : MethodName := ⟨RL, "law", "([I)Z"⟩
abbrev vwCl : List vw_C := [(RX0, TX0, 4), (RX1, TX1, 6), (RX2, TX2, 3), (RX3, TX3, 16), (RX4, TX4, 8), (RX5, TX5, 6), (RX6, TX6, 7), (RX7, TX7, 2), (RX8, TX8, 2), (RX10, TX10, 11), (RX11, TX11, 23)]
end
section
theorem dX0_init_0 : decode cX0_init 0 = .ok (.aload_n 0, 1) := by decide +kernel
theorem dX0_init_1 : decode cX0_init 1 = .ok (.invokespecial 3, 3) := by decide +kernel
theorem dX0_init_4 : decode cX0_init 4 = .ok (.aload_n 0, 1) := by decide +kernel
theorem dX0_init_5 : decode cX0_init 5 = .ok (.bipush 12, 2) := by decide +kernel
theorem dX0_init_7 : decode cX0_init 7 = .ok (.newarray .int, 2) := by decide +kernel
theorem dX0_init_9 : decode cX0_init 9 = .ok (.putfield 9, 3) := by decide +kernel
theorem dX0_init_12 : decode cX0_init 12 = .ok (.aload_n 0, 1) := by decide +kernel
theorem dX0_init_13 : decode cX0_init 13 = .ok (.bipush 12, 2) := by decide +kernel
theorem dX0_init_15 : decode cX0_init 15 = .ok (.newarray .int, 2) := by decide +kernel
theorem dX0_init_17 : decode cX0_init 17 = .ok (.putfield 15, 3) := by decide +kernel
theorem dX0_init_20 : decode cX0_init 20 = .ok (.aload_n 0, 1) := by decide +kernel
theorem dX0_init_21 : decode cX0_init 21 = .ok (.sipush 240, 3) := by decide +kernel
theorem dX0_init_24 : decode cX0_init 24 = .ok (.newarray .int, 2) := by decide +kernel
theorem dX0_init_26 : decode cX0_init 26 = .ok (.putfield 18, 3) := by decide +kernel
theorem dX0_init_29 : decode cX0_init 29 = .ok (.aload_n 0, 1) := by decide +kernel
theorem dX0_init_30 : decode cX0_init 30 = .ok (.iconst 0, 1) := by decide +kernel
theorem dX0_init_31 : decode cX0_init 31 = .ok (.putfield 21, 3) := by decide +kernel
theorem dX0_init_34 : decode cX0_init 34 = .ok (.return_, 1) := by decide +kernel
theorem dX0_has_0 : decode cX0_has 0 = .ok (.iload_n 1, 1) := by decide +kernel
theorem dX0_has_1 : decode cX0_has 1 = .ok (.ifCond .lt 15, 3) := by decide +kernel
theorem dX0_has_4 : decode cX0_has 4 = .ok (.iload_n 1, 1) := by decide +kernel
theorem dX0_has_5 : decode cX0_has 5 = .ok (.aload_n 0, 1) := by decide +kernel
theorem dX0_has_6 : decode cX0_has 6 = .ok (.getfield 21, 3) := by decide +kernel
theorem dX0_has_9 : decode cX0_has 9 = .ok (.if_icmp .ge 7, 3) := by decide +kernel
theorem dX0_has_12 : decode cX0_has 12 = .ok (.iconst 1, 1) := by decide +kernel
theorem dX0_has_13 : decode cX0_has 13 = .ok (.goto 4, 3) := by decide +kernel
theorem dX0_has_16 : decode cX0_has 16 = .ok (.iconst 0, 1) := by decide +kernel
theorem dX0_has_17 : decode cX0_has 17 = .ok (.ireturn, 1) := by decide +kernel
theorem dX0_hasPlace_0 : decode cX0_hasPlace 0 = .ok (.aload_n 0, 1) := by decide +kernel
theorem dX0_hasPlace_1 : decode cX0_hasPlace 1 = .ok (.iload_n 1, 1) := by decide +kernel
theorem dX0_hasPlace_2 : decode cX0_hasPlace 2 = .ok (.invokevirtual 25, 3) := by decide +kernel
theorem dX0_hasPlace_5 : decode cX0_hasPlace 5 = .ok (.ifCond .eq 21, 3) := by decide +kernel
theorem dX0_hasPlace_8 : decode cX0_hasPlace 8 = .ok (.iload_n 2, 1) := by decide +kernel
theorem dX0_hasPlace_9 : decode cX0_hasPlace 9 = .ok (.ifCond .lt 17, 3) := by decide +kernel
theorem dX0_hasPlace_12 : decode cX0_hasPlace 12 = .ok (.iload_n 2, 1) := by decide +kernel
theorem dX0_hasPlace_13 : decode cX0_hasPlace 13 = .ok (.aload_n 0, 1) := by decide +kernel
theorem dX0_hasPlace_14 : decode cX0_hasPlace 14 = .ok (.getfield 15, 3) := by decide +kernel
theorem dX0_hasPlace_17 : decode cX0_hasPlace 17 = .ok (.iload_n 1, 1) := by decide +kernel
theorem dX0_hasPlace_18 : decode cX0_hasPlace 18 = .ok (.iaload, 1) := by decide +kernel
theorem dX0_hasPlace_19 : decode cX0_hasPlace 19 = .ok (.if_icmp .ge 7, 3) := by decide +kernel
theorem dX0_hasPlace_22 : decode cX0_hasPlace 22 = .ok (.iconst 1, 1) := by decide +kernel
theorem dX0_hasPlace_23 : decode cX0_hasPlace 23 = .ok (.goto 4, 3) := by decide +kernel
theorem dX0_hasPlace_26 : decode cX0_hasPlace 26 = .ok (.iconst 0, 1) := by decide +kernel
theorem dX0_hasPlace_27 : decode cX0_hasPlace 27 = .ok (.ireturn, 1) := by decide +kernel
theorem dX0_cylinderAt_0 : decode cX0_cylinderAt 0 = .ok (.aload_n 0, 1) := by decide +kernel
theorem dX0_cylinderAt_1 : decode cX0_cylinderAt 1 = .ok (.iload_n 1, 1) := by decide +kernel
theorem dX0_cylinderAt_2 : decode cX0_cylinderAt 2 = .ok (.iload_n 2, 1) := by decide +kernel
theorem dX0_cylinderAt_3 : decode cX0_cylinderAt 3 = .ok (.invokevirtual 29, 3) := by decide +kernel
theorem dX0_cylinderAt_6 : decode cX0_cylinderAt 6 = .ok (.ifCond .eq 17, 3) := by decide +kernel
theorem dX0_cylinderAt_9 : decode cX0_cylinderAt 9 = .ok (.aload_n 0, 1) := by decide +kernel
theorem dX0_cylinderAt_10 : decode cX0_cylinderAt 10 = .ok (.getfield 18, 3) := by decide +kernel
theorem dX0_cylinderAt_13 : decode cX0_cylinderAt 13 = .ok (.iload_n 1, 1) := by decide +kernel
theorem dX0_cylinderAt_14 : decode cX0_cylinderAt 14 = .ok (.bipush 20, 2) := by decide +kernel
theorem dX0_cylinderAt_16 : decode cX0_cylinderAt 16 = .ok (.imul, 1) := by decide +kernel
theorem dX0_cylinderAt_17 : decode cX0_cylinderAt 17 = .ok (.iload_n 2, 1) := by decide +kernel
theorem dX0_cylinderAt_18 : decode cX0_cylinderAt 18 = .ok (.iadd, 1) := by decide +kernel
theorem dX0_cylinderAt_19 : decode cX0_cylinderAt 19 = .ok (.iaload, 1) := by decide +kernel
theorem dX0_cylinderAt_20 : decode cX0_cylinderAt 20 = .ok (.goto 4, 3) := by decide +kernel
theorem dX0_cylinderAt_23 : decode cX0_cylinderAt 23 = .ok (.iconst (-1), 1) := by decide +kernel
theorem dX0_cylinderAt_24 : decode cX0_cylinderAt 24 = .ok (.ireturn, 1) := by decide +kernel
theorem dX0_exchange_0 : decode cX0_exchange 0 = .ok (.aload_n 0, 1) := by decide +kernel
theorem dX0_exchange_1 : decode cX0_exchange 1 = .ok (.iload_n 1, 1) := by decide +kernel
theorem dX0_exchange_2 : decode cX0_exchange 2 = .ok (.iload_n 2, 1) := by decide +kernel
theorem dX0_exchange_3 : decode cX0_exchange 3 = .ok (.invokevirtual 33, 3) := by decide +kernel
theorem dX0_exchange_6 : decode cX0_exchange 6 = .ok (.istore 4, 2) := by decide +kernel
theorem dX0_exchange_8 : decode cX0_exchange 8 = .ok (.aload_n 0, 1) := by decide +kernel
theorem dX0_exchange_9 : decode cX0_exchange 9 = .ok (.iload_n 1, 1) := by decide +kernel
theorem dX0_exchange_10 : decode cX0_exchange 10 = .ok (.iload_n 2, 1) := by decide +kernel
theorem dX0_exchange_11 : decode cX0_exchange 11 = .ok (.invokevirtual 29, 3) := by decide +kernel
theorem dX0_exchange_14 : decode cX0_exchange 14 = .ok (.ifCond .eq 15, 3) := by decide +kernel
theorem dX0_exchange_17 : decode cX0_exchange 17 = .ok (.aload_n 0, 1) := by decide +kernel
theorem dX0_exchange_18 : decode cX0_exchange 18 = .ok (.getfield 18, 3) := by decide +kernel
theorem dX0_exchange_21 : decode cX0_exchange 21 = .ok (.iload_n 1, 1) := by decide +kernel
theorem dX0_exchange_22 : decode cX0_exchange 22 = .ok (.bipush 20, 2) := by decide +kernel
theorem dX0_exchange_24 : decode cX0_exchange 24 = .ok (.imul, 1) := by decide +kernel
theorem dX0_exchange_25 : decode cX0_exchange 25 = .ok (.iload_n 2, 1) := by decide +kernel
theorem dX0_exchange_26 : decode cX0_exchange 26 = .ok (.iadd, 1) := by decide +kernel
theorem dX0_exchange_27 : decode cX0_exchange 27 = .ok (.iload_n 3, 1) := by decide +kernel
theorem dX0_exchange_28 : decode cX0_exchange 28 = .ok (.iastore, 1) := by decide +kernel
theorem dX0_exchange_29 : decode cX0_exchange 29 = .ok (.iload 4, 2) := by decide +kernel
theorem dX0_exchange_31 : decode cX0_exchange 31 = .ok (.ireturn, 1) := by decide +kernel
theorem dX0_add_0 : decode cX0_add 0 = .ok (.aload_n 0, 1) := by decide +kernel
theorem dX0_add_1 : decode cX0_add 1 = .ok (.getfield 21, 3) := by decide +kernel
theorem dX0_add_4 : decode cX0_add 4 = .ok (.istore_n 3, 1) := by decide +kernel
theorem dX0_add_5 : decode cX0_add 5 = .ok (.aload_n 0, 1) := by decide +kernel
theorem dX0_add_6 : decode cX0_add 6 = .ok (.dup, 1) := by decide +kernel
theorem dX0_add_7 : decode cX0_add 7 = .ok (.getfield 21, 3) := by decide +kernel
theorem dX0_add_10 : decode cX0_add 10 = .ok (.iconst 1, 1) := by decide +kernel
theorem dX0_add_11 : decode cX0_add 11 = .ok (.iadd, 1) := by decide +kernel
theorem dX0_add_12 : decode cX0_add 12 = .ok (.putfield 21, 3) := by decide +kernel
theorem dX0_add_15 : decode cX0_add 15 = .ok (.aload_n 0, 1) := by decide +kernel
theorem dX0_add_16 : decode cX0_add 16 = .ok (.getfield 9, 3) := by decide +kernel
theorem dX0_add_19 : decode cX0_add 19 = .ok (.iload_n 3, 1) := by decide +kernel
theorem dX0_add_20 : decode cX0_add 20 = .ok (.iload_n 1, 1) := by decide +kernel
theorem dX0_add_21 : decode cX0_add 21 = .ok (.iastore, 1) := by decide +kernel
theorem dX0_add_22 : decode cX0_add 22 = .ok (.aload_n 0, 1) := by decide +kernel
theorem dX0_add_23 : decode cX0_add 23 = .ok (.getfield 15, 3) := by decide +kernel
theorem dX0_add_26 : decode cX0_add 26 = .ok (.iload_n 3, 1) := by decide +kernel
theorem dX0_add_27 : decode cX0_add 27 = .ok (.iload_n 2, 1) := by decide +kernel
theorem dX0_add_28 : decode cX0_add 28 = .ok (.iastore, 1) := by decide +kernel
theorem dX0_add_29 : decode cX0_add 29 = .ok (.iconst 0, 1) := by decide +kernel
theorem dX0_add_30 : decode cX0_add 30 = .ok (.istore 4, 2) := by decide +kernel
theorem dX0_add_32 : decode cX0_add 32 = .ok (.iload 4, 2) := by decide +kernel
theorem dX0_add_34 : decode cX0_add 34 = .ok (.iload_n 2, 1) := by decide +kernel
theorem dX0_add_35 : decode cX0_add 35 = .ok (.if_icmp .ge 18, 3) := by decide +kernel
theorem dX0_add_38 : decode cX0_add 38 = .ok (.aload_n 0, 1) := by decide +kernel
theorem dX0_add_39 : decode cX0_add 39 = .ok (.iload_n 3, 1) := by decide +kernel
theorem dX0_add_40 : decode cX0_add 40 = .ok (.iload 4, 2) := by decide +kernel
theorem dX0_add_42 : decode cX0_add 42 = .ok (.iconst (-1), 1) := by decide +kernel
theorem dX0_add_43 : decode cX0_add 43 = .ok (.invokevirtual 37, 3) := by decide +kernel
theorem dX0_add_46 : decode cX0_add 46 = .ok (.pop, 1) := by decide +kernel
theorem dX0_add_47 : decode cX0_add 47 = .ok (.iinc 4 1, 3) := by decide +kernel
theorem dX0_add_50 : decode cX0_add 50 = .ok (.goto (-18), 3) := by decide +kernel
theorem dX0_add_53 : decode cX0_add 53 = .ok (.iload_n 3, 1) := by decide +kernel
theorem dX0_add_54 : decode cX0_add 54 = .ok (.ireturn, 1) := by decide +kernel
theorem dX0_become_0 : decode cX0_become 0 = .ok (.aload_n 0, 1) := by decide +kernel
theorem dX0_become_1 : decode cX0_become 1 = .ok (.aload_n 1, 1) := by decide +kernel
theorem dX0_become_2 : decode cX0_become 2 = .ok (.getfield 21, 3) := by decide +kernel
theorem dX0_become_5 : decode cX0_become 5 = .ok (.putfield 21, 3) := by decide +kernel
theorem dX0_become_8 : decode cX0_become 8 = .ok (.aload_n 1, 1) := by decide +kernel
theorem dX0_become_9 : decode cX0_become 9 = .ok (.getfield 9, 3) := by decide +kernel
theorem dX0_become_12 : decode cX0_become 12 = .ok (.iconst 0, 1) := by decide +kernel
theorem dX0_become_13 : decode cX0_become 13 = .ok (.aload_n 0, 1) := by decide +kernel
theorem dX0_become_14 : decode cX0_become 14 = .ok (.getfield 9, 3) := by decide +kernel
theorem dX0_become_17 : decode cX0_become 17 = .ok (.iconst 0, 1) := by decide +kernel
theorem dX0_become_18 : decode cX0_become 18 = .ok (.aload_n 0, 1) := by decide +kernel
theorem dX0_become_19 : decode cX0_become 19 = .ok (.getfield 21, 3) := by decide +kernel
theorem dX0_become_22 : decode cX0_become 22 = .ok (.invokestatic 41, 3) := by decide +kernel
theorem dX0_become_25 : decode cX0_become 25 = .ok (.aload_n 1, 1) := by decide +kernel
theorem dX0_become_26 : decode cX0_become 26 = .ok (.getfield 15, 3) := by decide +kernel
theorem dX0_become_29 : decode cX0_become 29 = .ok (.iconst 0, 1) := by decide +kernel
theorem dX0_become_30 : decode cX0_become 30 = .ok (.aload_n 0, 1) := by decide +kernel
theorem dX0_become_31 : decode cX0_become 31 = .ok (.getfield 15, 3) := by decide +kernel
theorem dX0_become_34 : decode cX0_become 34 = .ok (.iconst 0, 1) := by decide +kernel
theorem dX0_become_35 : decode cX0_become 35 = .ok (.aload_n 0, 1) := by decide +kernel
theorem dX0_become_36 : decode cX0_become 36 = .ok (.getfield 21, 3) := by decide +kernel
theorem dX0_become_39 : decode cX0_become 39 = .ok (.invokestatic 41, 3) := by decide +kernel
theorem dX0_become_42 : decode cX0_become 42 = .ok (.aload_n 1, 1) := by decide +kernel
theorem dX0_become_43 : decode cX0_become 43 = .ok (.getfield 18, 3) := by decide +kernel
theorem dX0_become_46 : decode cX0_become 46 = .ok (.iconst 0, 1) := by decide +kernel
theorem dX0_become_47 : decode cX0_become 47 = .ok (.aload_n 0, 1) := by decide +kernel
theorem dX0_become_48 : decode cX0_become 48 = .ok (.getfield 18, 3) := by decide +kernel
theorem dX0_become_51 : decode cX0_become 51 = .ok (.iconst 0, 1) := by decide +kernel
theorem dX0_become_52 : decode cX0_become 52 = .ok (.aload_n 0, 1) := by decide +kernel
theorem dX0_become_53 : decode cX0_become 53 = .ok (.getfield 21, 3) := by decide +kernel
theorem dX0_become_56 : decode cX0_become 56 = .ok (.bipush 20, 2) := by decide +kernel
theorem dX0_become_58 : decode cX0_become 58 = .ok (.imul, 1) := by decide +kernel
theorem dX0_become_59 : decode cX0_become 59 = .ok (.invokestatic 41, 3) := by decide +kernel
theorem dX0_become_62 : decode cX0_become 62 = .ok (.return_, 1) := by decide +kernel
theorem dX1_init_0 : decode cX1_init 0 = .ok (.aload_n 0, 1) := by decide +kernel
theorem dX1_init_1 : decode cX1_init 1 = .ok (.invokespecial 3, 3) := by decide +kernel
theorem dX1_init_4 : decode cX1_init 4 = .ok (.aload_n 0, 1) := by decide +kernel
theorem dX1_init_5 : decode cX1_init 5 = .ok (.bipush 14, 2) := by decide +kernel
theorem dX1_init_7 : decode cX1_init 7 = .ok (.newarray .int, 2) := by decide +kernel
theorem dX1_init_9 : decode cX1_init 9 = .ok (.putfield 9, 3) := by decide +kernel
theorem dX1_init_12 : decode cX1_init 12 = .ok (.aload_n 0, 1) := by decide +kernel
theorem dX1_init_13 : decode cX1_init 13 = .ok (.bipush 15, 2) := by decide +kernel
theorem dX1_init_15 : decode cX1_init 15 = .ok (.newarray .int, 2) := by decide +kernel
theorem dX1_init_17 : decode cX1_init 17 = .ok (.putfield 15, 3) := by decide +kernel
theorem dX1_init_20 : decode cX1_init 20 = .ok (.return_, 1) := by decide +kernel
theorem dX1_begin_0 : decode cX1_begin 0 = .ok (.aload_n 0, 1) := by decide +kernel
theorem dX1_begin_1 : decode cX1_begin 1 = .ok (.iconst 0, 1) := by decide +kernel
theorem dX1_begin_2 : decode cX1_begin 2 = .ok (.putfield 18, 3) := by decide +kernel
theorem dX1_begin_5 : decode cX1_begin 5 = .ok (.return_, 1) := by decide +kernel
theorem dX1_addKey_0 : decode cX1_addKey 0 = .ok (.aload_n 0, 1) := by decide +kernel
theorem dX1_addKey_1 : decode cX1_addKey 1 = .ok (.getfield 18, 3) := by decide +kernel
theorem dX1_addKey_4 : decode cX1_addKey 4 = .ok (.bipush 14, 2) := by decide +kernel
theorem dX1_addKey_6 : decode cX1_addKey 6 = .ok (.if_icmp .ge 45, 3) := by decide +kernel
theorem dX1_addKey_9 : decode cX1_addKey 9 = .ok (.aload_n 0, 1) := by decide +kernel
theorem dX1_addKey_10 : decode cX1_addKey 10 = .ok (.getfield 9, 3) := by decide +kernel
theorem dX1_addKey_13 : decode cX1_addKey 13 = .ok (.aload_n 0, 1) := by decide +kernel
theorem dX1_addKey_14 : decode cX1_addKey 14 = .ok (.getfield 18, 3) := by decide +kernel
theorem dX1_addKey_17 : decode cX1_addKey 17 = .ok (.iload_n 1, 1) := by decide +kernel
theorem dX1_addKey_18 : decode cX1_addKey 18 = .ok (.iastore, 1) := by decide +kernel
theorem dX1_addKey_19 : decode cX1_addKey 19 = .ok (.aload_n 0, 1) := by decide +kernel
theorem dX1_addKey_20 : decode cX1_addKey 20 = .ok (.getfield 15, 3) := by decide +kernel
theorem dX1_addKey_23 : decode cX1_addKey 23 = .ok (.aload_n 0, 1) := by decide +kernel
theorem dX1_addKey_24 : decode cX1_addKey 24 = .ok (.getfield 18, 3) := by decide +kernel
theorem dX1_addKey_27 : decode cX1_addKey 27 = .ok (.iconst 1, 1) := by decide +kernel
theorem dX1_addKey_28 : decode cX1_addKey 28 = .ok (.iadd, 1) := by decide +kernel
theorem dX1_addKey_29 : decode cX1_addKey 29 = .ok (.aload_n 0, 1) := by decide +kernel
theorem dX1_addKey_30 : decode cX1_addKey 30 = .ok (.getfield 15, 3) := by decide +kernel
theorem dX1_addKey_33 : decode cX1_addKey 33 = .ok (.aload_n 0, 1) := by decide +kernel
theorem dX1_addKey_34 : decode cX1_addKey 34 = .ok (.getfield 18, 3) := by decide +kernel
theorem dX1_addKey_37 : decode cX1_addKey 37 = .ok (.iaload, 1) := by decide +kernel
theorem dX1_addKey_38 : decode cX1_addKey 38 = .ok (.iload_n 1, 1) := by decide +kernel
theorem dX1_addKey_39 : decode cX1_addKey 39 = .ok (.ior, 1) := by decide +kernel
theorem dX1_addKey_40 : decode cX1_addKey 40 = .ok (.iastore, 1) := by decide +kernel
theorem dX1_addKey_41 : decode cX1_addKey 41 = .ok (.aload_n 0, 1) := by decide +kernel
theorem dX1_addKey_42 : decode cX1_addKey 42 = .ok (.dup, 1) := by decide +kernel
theorem dX1_addKey_43 : decode cX1_addKey 43 = .ok (.getfield 18, 3) := by decide +kernel
theorem dX1_addKey_46 : decode cX1_addKey 46 = .ok (.iconst 1, 1) := by decide +kernel
theorem dX1_addKey_47 : decode cX1_addKey 47 = .ok (.iadd, 1) := by decide +kernel
theorem dX1_addKey_48 : decode cX1_addKey 48 = .ok (.putfield 18, 3) := by decide +kernel
theorem dX1_addKey_51 : decode cX1_addKey 51 = .ok (.return_, 1) := by decide +kernel
theorem dX1_fewest_0 : decode cX1_fewest 0 = .ok (.aload_n 0, 1) := by decide +kernel
theorem dX1_fewest_1 : decode cX1_fewest 1 = .ok (.iload_n 1, 1) := by decide +kernel
theorem dX1_fewest_2 : decode cX1_fewest 2 = .ok (.aload_n 0, 1) := by decide +kernel
theorem dX1_fewest_3 : decode cX1_fewest 3 = .ok (.getfield 15, 3) := by decide +kernel
theorem dX1_fewest_6 : decode cX1_fewest 6 = .ok (.aload_n 0, 1) := by decide +kernel
theorem dX1_fewest_7 : decode cX1_fewest 7 = .ok (.getfield 18, 3) := by decide +kernel
theorem dX1_fewest_10 : decode cX1_fewest 10 = .ok (.iaload, 1) := by decide +kernel
theorem dX1_fewest_11 : decode cX1_fewest 11 = .ok (.iand, 1) := by decide +kernel
theorem dX1_fewest_12 : decode cX1_fewest 12 = .ok (.putfield 22, 3) := by decide +kernel
theorem dX1_fewest_15 : decode cX1_fewest 15 = .ok (.aload_n 0, 1) := by decide +kernel
theorem dX1_fewest_16 : decode cX1_fewest 16 = .ok (.iconst 0, 1) := by decide +kernel
theorem dX1_fewest_17 : decode cX1_fewest 17 = .ok (.putfield 25, 3) := by decide +kernel
theorem dX1_fewest_20 : decode cX1_fewest 20 = .ok (.aload_n 0, 1) := by decide +kernel
theorem dX1_fewest_21 : decode cX1_fewest 21 = .ok (.bipush 15, 2) := by decide +kernel
theorem dX1_fewest_23 : decode cX1_fewest 23 = .ok (.putfield 28, 3) := by decide +kernel
theorem dX1_fewest_26 : decode cX1_fewest 26 = .ok (.aload_n 0, 1) := by decide +kernel
theorem dX1_fewest_27 : decode cX1_fewest 27 = .ok (.aload_n 0, 1) := by decide +kernel
theorem dX1_fewest_28 : decode cX1_fewest 28 = .ok (.getfield 18, 3) := by decide +kernel
theorem dX1_fewest_31 : decode cX1_fewest 31 = .ok (.iconst 0, 1) := by decide +kernel
theorem dX1_fewest_32 : decode cX1_fewest 32 = .ok (.iconst 0, 1) := by decide +kernel
theorem dX1_fewest_33 : decode cX1_fewest 33 = .ok (.invokevirtual 31, 3) := by decide +kernel
theorem dX1_fewest_36 : decode cX1_fewest 36 = .ok (.aload_n 0, 1) := by decide +kernel
theorem dX1_fewest_37 : decode cX1_fewest 37 = .ok (.getfield 25, 3) := by decide +kernel
theorem dX1_fewest_40 : decode cX1_fewest 40 = .ok (.ireturn, 1) := by decide +kernel
theorem dX1_choose_0 : decode cX1_choose 0 = .ok (.iload_n 2, 1) := by decide +kernel
theorem dX1_choose_1 : decode cX1_choose 1 = .ok (.invokestatic 35, 3) := by decide +kernel
theorem dX1_choose_4 : decode cX1_choose 4 = .ok (.aload_n 0, 1) := by decide +kernel
theorem dX1_choose_5 : decode cX1_choose 5 = .ok (.getfield 28, 3) := by decide +kernel
theorem dX1_choose_8 : decode cX1_choose 8 = .ok (.if_icmp .lt 4, 3) := by decide +kernel
theorem dX1_choose_11 : decode cX1_choose 11 = .ok (.return_, 1) := by decide +kernel
theorem dX1_choose_12 : decode cX1_choose 12 = .ok (.aload_n 0, 1) := by decide +kernel
theorem dX1_choose_13 : decode cX1_choose 13 = .ok (.getfield 22, 3) := by decide +kernel
theorem dX1_choose_16 : decode cX1_choose 16 = .ok (.iload_n 3, 1) := by decide +kernel
theorem dX1_choose_17 : decode cX1_choose 17 = .ok (.iconst (-1), 1) := by decide +kernel
theorem dX1_choose_18 : decode cX1_choose 18 = .ok (.ixor, 1) := by decide +kernel
theorem dX1_choose_19 : decode cX1_choose 19 = .ok (.iand, 1) := by decide +kernel
theorem dX1_choose_20 : decode cX1_choose 20 = .ok (.ifCond .ne 17, 3) := by decide +kernel
theorem dX1_choose_23 : decode cX1_choose 23 = .ok (.aload_n 0, 1) := by decide +kernel
theorem dX1_choose_24 : decode cX1_choose 24 = .ok (.iload_n 2, 1) := by decide +kernel
theorem dX1_choose_25 : decode cX1_choose 25 = .ok (.putfield 25, 3) := by decide +kernel
theorem dX1_choose_28 : decode cX1_choose 28 = .ok (.aload_n 0, 1) := by decide +kernel
theorem dX1_choose_29 : decode cX1_choose 29 = .ok (.iload_n 2, 1) := by decide +kernel
theorem dX1_choose_30 : decode cX1_choose 30 = .ok (.invokestatic 35, 3) := by decide +kernel
theorem dX1_choose_33 : decode cX1_choose 33 = .ok (.putfield 28, 3) := by decide +kernel
theorem dX1_choose_36 : decode cX1_choose 36 = .ok (.return_, 1) := by decide +kernel
theorem dX1_choose_37 : decode cX1_choose 37 = .ok (.aload_n 0, 1) := by decide +kernel
theorem dX1_choose_38 : decode cX1_choose 38 = .ok (.getfield 22, 3) := by decide +kernel
theorem dX1_choose_41 : decode cX1_choose 41 = .ok (.iload_n 3, 1) := by decide +kernel
theorem dX1_choose_42 : decode cX1_choose 42 = .ok (.aload_n 0, 1) := by decide +kernel
theorem dX1_choose_43 : decode cX1_choose 43 = .ok (.getfield 15, 3) := by decide +kernel
theorem dX1_choose_46 : decode cX1_choose 46 = .ok (.iload_n 1, 1) := by decide +kernel
theorem dX1_choose_47 : decode cX1_choose 47 = .ok (.iaload, 1) := by decide +kernel
theorem dX1_choose_48 : decode cX1_choose 48 = .ok (.ior, 1) := by decide +kernel
theorem dX1_choose_49 : decode cX1_choose 49 = .ok (.iconst (-1), 1) := by decide +kernel
theorem dX1_choose_50 : decode cX1_choose 50 = .ok (.ixor, 1) := by decide +kernel
theorem dX1_choose_51 : decode cX1_choose 51 = .ok (.iand, 1) := by decide +kernel
theorem dX1_choose_52 : decode cX1_choose 52 = .ok (.ifCond .eq 7, 3) := by decide +kernel
theorem dX1_choose_55 : decode cX1_choose 55 = .ok (.iconst 1, 1) := by decide +kernel
theorem dX1_choose_56 : decode cX1_choose 56 = .ok (.goto 4, 3) := by decide +kernel
theorem dX1_choose_59 : decode cX1_choose 59 = .ok (.iconst 0, 1) := by decide +kernel
theorem dX1_choose_60 : decode cX1_choose 60 = .ok (.istore 4, 2) := by decide +kernel
theorem dX1_choose_62 : decode cX1_choose 62 = .ok (.iload 4, 2) := by decide +kernel
theorem dX1_choose_64 : decode cX1_choose 64 = .ok (.ifCond .ne 7, 3) := by decide +kernel
theorem dX1_choose_67 : decode cX1_choose 67 = .ok (.iload_n 1, 1) := by decide +kernel
theorem dX1_choose_68 : decode cX1_choose 68 = .ok (.ifCond .gt 4, 3) := by decide +kernel
theorem dX1_choose_71 : decode cX1_choose 71 = .ok (.return_, 1) := by decide +kernel
theorem dX1_choose_72 : decode cX1_choose 72 = .ok (.iload_n 1, 1) := by decide +kernel
theorem dX1_choose_73 : decode cX1_choose 73 = .ok (.iconst 1, 1) := by decide +kernel
theorem dX1_choose_74 : decode cX1_choose 74 = .ok (.isub, 1) := by decide +kernel
theorem dX1_choose_75 : decode cX1_choose 75 = .ok (.istore 5, 2) := by decide +kernel
theorem dX1_choose_77 : decode cX1_choose 77 = .ok (.aload_n 0, 1) := by decide +kernel
theorem dX1_choose_78 : decode cX1_choose 78 = .ok (.iload 5, 2) := by decide +kernel
theorem dX1_choose_80 : decode cX1_choose 80 = .ok (.iload_n 2, 1) := by decide +kernel
theorem dX1_choose_81 : decode cX1_choose 81 = .ok (.iload_n 3, 1) := by decide +kernel
theorem dX1_choose_82 : decode cX1_choose 82 = .ok (.invokevirtual 31, 3) := by decide +kernel
theorem dX1_choose_85 : decode cX1_choose 85 = .ok (.aload_n 0, 1) := by decide +kernel
theorem dX1_choose_86 : decode cX1_choose 86 = .ok (.iload 5, 2) := by decide +kernel
theorem dX1_choose_88 : decode cX1_choose 88 = .ok (.iload_n 2, 1) := by decide +kernel
theorem dX1_choose_89 : decode cX1_choose 89 = .ok (.iconst 1, 1) := by decide +kernel
theorem dX1_choose_90 : decode cX1_choose 90 = .ok (.iload 5, 2) := by decide +kernel
theorem dX1_choose_92 : decode cX1_choose 92 = .ok (.ishl, 1) := by decide +kernel
theorem dX1_choose_93 : decode cX1_choose 93 = .ok (.ior, 1) := by decide +kernel
theorem dX1_choose_94 : decode cX1_choose 94 = .ok (.iload_n 3, 1) := by decide +kernel
theorem dX1_choose_95 : decode cX1_choose 95 = .ok (.aload_n 0, 1) := by decide +kernel
theorem dX1_choose_96 : decode cX1_choose 96 = .ok (.getfield 9, 3) := by decide +kernel
theorem dX1_choose_99 : decode cX1_choose 99 = .ok (.iload 5, 2) := by decide +kernel
theorem dX1_choose_101 : decode cX1_choose 101 = .ok (.iaload, 1) := by decide +kernel
theorem dX1_choose_102 : decode cX1_choose 102 = .ok (.ior, 1) := by decide +kernel
theorem dX1_choose_103 : decode cX1_choose 103 = .ok (.invokevirtual 31, 3) := by decide +kernel
theorem dX1_choose_106 : decode cX1_choose 106 = .ok (.return_, 1) := by decide +kernel
theorem dX2_init_0 : decode cX2_init 0 = .ok (.aload_n 0, 1) := by decide +kernel
theorem dX2_init_1 : decode cX2_init 1 = .ok (.invokespecial 3, 3) := by decide +kernel
theorem dX2_init_4 : decode cX2_init 4 = .ok (.aload_n 0, 1) := by decide +kernel
theorem dX2_init_5 : decode cX2_init 5 = .ok (.bipush 18, 2) := by decide +kernel
theorem dX2_init_7 : decode cX2_init 7 = .ok (.newarray .int, 2) := by decide +kernel
theorem dX2_init_9 : decode cX2_init 9 = .ok (.putfield 9, 3) := by decide +kernel
theorem dX2_init_12 : decode cX2_init 12 = .ok (.aload_n 0, 1) := by decide +kernel
theorem dX2_init_13 : decode cX2_init 13 = .ok (.bipush 10, 2) := by decide +kernel
theorem dX2_init_15 : decode cX2_init 15 = .ok (.newarray .long, 2) := by decide +kernel
theorem dX2_init_17 : decode cX2_init 17 = .ok (.putfield 15, 3) := by decide +kernel
theorem dX2_init_20 : decode cX2_init 20 = .ok (.aload_n 0, 1) := by decide +kernel
theorem dX2_init_21 : decode cX2_init 21 = .ok (.bipush 10, 2) := by decide +kernel
theorem dX2_init_23 : decode cX2_init 23 = .ok (.newarray .long, 2) := by decide +kernel
theorem dX2_init_25 : decode cX2_init 25 = .ok (.putfield 19, 3) := by decide +kernel
theorem dX2_init_28 : decode cX2_init 28 = .ok (.return_, 1) := by decide +kernel
theorem dX2_rowsThatOpen_0 : decode cX2_rowsThatOpen 0 = .ok (.iload_n 2, 1) := by decide +kernel
theorem dX2_rowsThatOpen_1 : decode cX2_rowsThatOpen 1 = .ok (.istore 5, 2) := by decide +kernel
theorem dX2_rowsThatOpen_3 : decode cX2_rowsThatOpen 3 = .ok (.iload_n 2, 1) := by decide +kernel
theorem dX2_rowsThatOpen_4 : decode cX2_rowsThatOpen 4 = .ok (.istore 6, 2) := by decide +kernel
theorem dX2_rowsThatOpen_6 : decode cX2_rowsThatOpen 6 = .ok (.aload_n 1, 1) := by decide +kernel
theorem dX2_rowsThatOpen_7 : decode cX2_rowsThatOpen 7 = .ok (.iload_n 2, 1) := by decide +kernel
theorem dX2_rowsThatOpen_8 : decode cX2_rowsThatOpen 8 = .ok (.invokevirtual 22, 3) := by decide +kernel
theorem dX2_rowsThatOpen_11 : decode cX2_rowsThatOpen 11 = .ok (.ifCond .eq 19, 3) := by decide +kernel
theorem dX2_rowsThatOpen_14 : decode cX2_rowsThatOpen 14 = .ok (.aload_n 1, 1) := by decide +kernel
theorem dX2_rowsThatOpen_15 : decode cX2_rowsThatOpen 15 = .ok (.getfield 28, 3) := by decide +kernel
theorem dX2_rowsThatOpen_18 : decode cX2_rowsThatOpen 18 = .ok (.iload_n 2, 1) := by decide +kernel
theorem dX2_rowsThatOpen_19 : decode cX2_rowsThatOpen 19 = .ok (.iaload, 1) := by decide +kernel
theorem dX2_rowsThatOpen_20 : decode cX2_rowsThatOpen 20 = .ok (.istore 5, 2) := by decide +kernel
theorem dX2_rowsThatOpen_22 : decode cX2_rowsThatOpen 22 = .ok (.aload_n 1, 1) := by decide +kernel
theorem dX2_rowsThatOpen_23 : decode cX2_rowsThatOpen 23 = .ok (.getfield 31, 3) := by decide +kernel
theorem dX2_rowsThatOpen_26 : decode cX2_rowsThatOpen 26 = .ok (.iload_n 2, 1) := by decide +kernel
theorem dX2_rowsThatOpen_27 : decode cX2_rowsThatOpen 27 = .ok (.iaload, 1) := by decide +kernel
theorem dX2_rowsThatOpen_28 : decode cX2_rowsThatOpen 28 = .ok (.istore 6, 2) := by decide +kernel
theorem dX2_rowsThatOpen_30 : decode cX2_rowsThatOpen 30 = .ok (.aload_n 1, 1) := by decide +kernel
theorem dX2_rowsThatOpen_31 : decode cX2_rowsThatOpen 31 = .ok (.iload 5, 2) := by decide +kernel
theorem dX2_rowsThatOpen_33 : decode cX2_rowsThatOpen 33 = .ok (.invokestatic 34, 3) := by decide +kernel
theorem dX2_rowsThatOpen_36 : decode cX2_rowsThatOpen 36 = .ok (.ifCond .ne 12, 3) := by decide +kernel
theorem dX2_rowsThatOpen_39 : decode cX2_rowsThatOpen 39 = .ok (.aload_n 1, 1) := by decide +kernel
theorem dX2_rowsThatOpen_40 : decode cX2_rowsThatOpen 40 = .ok (.iload 6, 2) := by decide +kernel
theorem dX2_rowsThatOpen_42 : decode cX2_rowsThatOpen 42 = .ok (.invokestatic 34, 3) := by decide +kernel
theorem dX2_rowsThatOpen_45 : decode cX2_rowsThatOpen 45 = .ok (.ifCond .eq 7, 3) := by decide +kernel
theorem dX2_rowsThatOpen_48 : decode cX2_rowsThatOpen 48 = .ok (.ldc2_w 38, 3) := by decide +kernel
theorem dX2_rowsThatOpen_51 : decode cX2_rowsThatOpen 51 = .ok (.lreturn, 1) := by decide +kernel
theorem dX2_rowsThatOpen_52 : decode cX2_rowsThatOpen 52 = .ok (.iconst 0, 1) := by decide +kernel
theorem dX2_rowsThatOpen_53 : decode cX2_rowsThatOpen 53 = .ok (.istore 7, 2) := by decide +kernel
theorem dX2_rowsThatOpen_55 : decode cX2_rowsThatOpen 55 = .ok (.iload 7, 2) := by decide +kernel
theorem dX2_rowsThatOpen_57 : decode cX2_rowsThatOpen 57 = .ok (.iload_n 3, 1) := by decide +kernel
theorem dX2_rowsThatOpen_58 : decode cX2_rowsThatOpen 58 = .ok (.if_icmp .ge 19, 3) := by decide +kernel
theorem dX2_rowsThatOpen_61 : decode cX2_rowsThatOpen 61 = .ok (.aload_n 0, 1) := by decide +kernel
theorem dX2_rowsThatOpen_62 : decode cX2_rowsThatOpen 62 = .ok (.getfield 9, 3) := by decide +kernel
theorem dX2_rowsThatOpen_65 : decode cX2_rowsThatOpen 65 = .ok (.iload 7, 2) := by decide +kernel
theorem dX2_rowsThatOpen_67 : decode cX2_rowsThatOpen 67 = .ok (.sipush 1023, 3) := by decide +kernel
theorem dX2_rowsThatOpen_70 : decode cX2_rowsThatOpen 70 = .ok (.iastore, 1) := by decide +kernel
theorem dX2_rowsThatOpen_71 : decode cX2_rowsThatOpen 71 = .ok (.iinc 7 1, 3) := by decide +kernel
theorem dX2_rowsThatOpen_74 : decode cX2_rowsThatOpen 74 = .ok (.goto (-19), 3) := by decide +kernel
theorem dX2_rowsThatOpen_77 : decode cX2_rowsThatOpen 77 = .ok (.aload_n 0, 1) := by decide +kernel
theorem dX2_rowsThatOpen_78 : decode cX2_rowsThatOpen 78 = .ok (.aload_n 1, 1) := by decide +kernel
theorem dX2_rowsThatOpen_79 : decode cX2_rowsThatOpen 79 = .ok (.iload 5, 2) := by decide +kernel
theorem dX2_rowsThatOpen_81 : decode cX2_rowsThatOpen 81 = .ok (.iload_n 3, 1) := by decide +kernel
theorem dX2_rowsThatOpen_82 : decode cX2_rowsThatOpen 82 = .ok (.invokevirtual 40, 3) := by decide +kernel
theorem dX2_rowsThatOpen_85 : decode cX2_rowsThatOpen 85 = .ok (.ifCond .eq 14, 3) := by decide +kernel
theorem dX2_rowsThatOpen_88 : decode cX2_rowsThatOpen 88 = .ok (.aload_n 0, 1) := by decide +kernel
theorem dX2_rowsThatOpen_89 : decode cX2_rowsThatOpen 89 = .ok (.aload_n 1, 1) := by decide +kernel
theorem dX2_rowsThatOpen_90 : decode cX2_rowsThatOpen 90 = .ok (.iload 6, 2) := by decide +kernel
theorem dX2_rowsThatOpen_92 : decode cX2_rowsThatOpen 92 = .ok (.iload_n 3, 1) := by decide +kernel
theorem dX2_rowsThatOpen_93 : decode cX2_rowsThatOpen 93 = .ok (.invokevirtual 40, 3) := by decide +kernel
theorem dX2_rowsThatOpen_96 : decode cX2_rowsThatOpen 96 = .ok (.ifCond .ne 5, 3) := by decide +kernel
theorem dX2_rowsThatOpen_99 : decode cX2_rowsThatOpen 99 = .ok (.lconst 0, 1) := by decide +kernel
theorem dX2_rowsThatOpen_100 : decode cX2_rowsThatOpen 100 = .ok (.lreturn, 1) := by decide +kernel
theorem dX2_rowsThatOpen_101 : decode cX2_rowsThatOpen 101 = .ok (.aload_n 0, 1) := by decide +kernel
theorem dX2_rowsThatOpen_102 : decode cX2_rowsThatOpen 102 = .ok (.iload_n 3, 1) := by decide +kernel
theorem dX2_rowsThatOpen_103 : decode cX2_rowsThatOpen 103 = .ok (.iload 4, 2) := by decide +kernel
theorem dX2_rowsThatOpen_105 : decode cX2_rowsThatOpen 105 = .ok (.invokevirtual 44, 3) := by decide +kernel
theorem dX2_rowsThatOpen_108 : decode cX2_rowsThatOpen 108 = .ok (.lreturn, 1) := by decide +kernel
theorem dX2_isMissing_0 : decode cX2_isMissing 0 = .ok (.iload_n 1, 1) := by decide +kernel
theorem dX2_isMissing_1 : decode cX2_isMissing 1 = .ok (.iconst (-1), 1) := by decide +kernel
theorem dX2_isMissing_2 : decode cX2_isMissing 2 = .ok (.if_icmp .eq 11, 3) := by decide +kernel
theorem dX2_isMissing_5 : decode cX2_isMissing 5 = .ok (.aload_n 0, 1) := by decide +kernel
theorem dX2_isMissing_6 : decode cX2_isMissing 6 = .ok (.iload_n 1, 1) := by decide +kernel
theorem dX2_isMissing_7 : decode cX2_isMissing 7 = .ok (.invokevirtual 48, 3) := by decide +kernel
theorem dX2_isMissing_10 : decode cX2_isMissing 10 = .ok (.ifCond .eq 7, 3) := by decide +kernel
theorem dX2_isMissing_13 : decode cX2_isMissing 13 = .ok (.iconst 1, 1) := by decide +kernel
theorem dX2_isMissing_14 : decode cX2_isMissing 14 = .ok (.goto 4, 3) := by decide +kernel
theorem dX2_isMissing_17 : decode cX2_isMissing 17 = .ok (.iconst 0, 1) := by decide +kernel
theorem dX2_isMissing_18 : decode cX2_isMissing 18 = .ok (.ireturn, 1) := by decide +kernel
theorem dX2_narrow_0 : decode cX2_narrow 0 = .ok (.aload_n 1, 1) := by decide +kernel
theorem dX2_narrow_1 : decode cX2_narrow 1 = .ok (.iload_n 2, 1) := by decide +kernel
theorem dX2_narrow_2 : decode cX2_narrow 2 = .ok (.invokevirtual 51, 3) := by decide +kernel
theorem dX2_narrow_5 : decode cX2_narrow 5 = .ok (.ifCond .eq 5, 3) := by decide +kernel
theorem dX2_narrow_8 : decode cX2_narrow 8 = .ok (.iconst 0, 1) := by decide +kernel
theorem dX2_narrow_9 : decode cX2_narrow 9 = .ok (.ireturn, 1) := by decide +kernel
theorem dX2_narrow_10 : decode cX2_narrow 10 = .ok (.iconst 0, 1) := by decide +kernel
theorem dX2_narrow_11 : decode cX2_narrow 11 = .ok (.istore 4, 2) := by decide +kernel
theorem dX2_narrow_13 : decode cX2_narrow 13 = .ok (.iload 4, 2) := by decide +kernel
theorem dX2_narrow_15 : decode cX2_narrow 15 = .ok (.aload_n 1, 1) := by decide +kernel
theorem dX2_narrow_16 : decode cX2_narrow 16 = .ok (.getfield 54, 3) := by decide +kernel
theorem dX2_narrow_19 : decode cX2_narrow 19 = .ok (.iload_n 2, 1) := by decide +kernel
theorem dX2_narrow_20 : decode cX2_narrow 20 = .ok (.iaload, 1) := by decide +kernel
theorem dX2_narrow_21 : decode cX2_narrow 21 = .ok (.if_icmp .ge 46, 3) := by decide +kernel
theorem dX2_narrow_24 : decode cX2_narrow 24 = .ok (.aload_n 1, 1) := by decide +kernel
theorem dX2_narrow_25 : decode cX2_narrow 25 = .ok (.iload_n 2, 1) := by decide +kernel
theorem dX2_narrow_26 : decode cX2_narrow 26 = .ok (.iload 4, 2) := by decide +kernel
theorem dX2_narrow_28 : decode cX2_narrow 28 = .ok (.invokevirtual 56, 3) := by decide +kernel
theorem dX2_narrow_31 : decode cX2_narrow 31 = .ok (.istore 5, 2) := by decide +kernel
theorem dX2_narrow_33 : decode cX2_narrow 33 = .ok (.iload 5, 2) := by decide +kernel
theorem dX2_narrow_35 : decode cX2_narrow 35 = .ok (.ifCond .ne 6, 3) := by decide +kernel
theorem dX2_narrow_38 : decode cX2_narrow 38 = .ok (.goto 23, 3) := by decide +kernel
theorem dX2_narrow_41 : decode cX2_narrow 41 = .ok (.iload 4, 2) := by decide +kernel
theorem dX2_narrow_43 : decode cX2_narrow 43 = .ok (.iload_n 3, 1) := by decide +kernel
theorem dX2_narrow_44 : decode cX2_narrow 44 = .ok (.if_icmp .lt 5, 3) := by decide +kernel
theorem dX2_narrow_47 : decode cX2_narrow 47 = .ok (.iconst 0, 1) := by decide +kernel
theorem dX2_narrow_48 : decode cX2_narrow 48 = .ok (.ireturn, 1) := by decide +kernel
theorem dX2_narrow_49 : decode cX2_narrow 49 = .ok (.aload_n 0, 1) := by decide +kernel
theorem dX2_narrow_50 : decode cX2_narrow 50 = .ok (.getfield 9, 3) := by decide +kernel
theorem dX2_narrow_53 : decode cX2_narrow 53 = .ok (.iload 4, 2) := by decide +kernel
theorem dX2_narrow_55 : decode cX2_narrow 55 = .ok (.dup2, 1) := by decide +kernel
theorem dX2_narrow_56 : decode cX2_narrow 56 = .ok (.iaload, 1) := by decide +kernel
theorem dX2_narrow_57 : decode cX2_narrow 57 = .ok (.iload 5, 2) := by decide +kernel
theorem dX2_narrow_59 : decode cX2_narrow 59 = .ok (.iand, 1) := by decide +kernel
theorem dX2_narrow_60 : decode cX2_narrow 60 = .ok (.iastore, 1) := by decide +kernel
theorem dX2_narrow_61 : decode cX2_narrow 61 = .ok (.iinc 4 1, 3) := by decide +kernel
theorem dX2_narrow_64 : decode cX2_narrow 64 = .ok (.goto (-51), 3) := by decide +kernel
theorem dX2_narrow_67 : decode cX2_narrow 67 = .ok (.iconst 1, 1) := by decide +kernel
theorem dX2_narrow_68 : decode cX2_narrow 68 = .ok (.ireturn, 1) := by decide +kernel
theorem dX2_countUp_0 : decode cX2_countUp 0 = .ok (.iload_n 1, 1) := by decide +kernel
theorem dX2_countUp_1 : decode cX2_countUp 1 = .ok (.ifCond .ne 5, 3) := by decide +kernel
theorem dX2_countUp_4 : decode cX2_countUp 4 = .ok (.lconst 1, 1) := by decide +kernel
theorem dX2_countUp_5 : decode cX2_countUp 5 = .ok (.lreturn, 1) := by decide +kernel
theorem dX2_countUp_6 : decode cX2_countUp 6 = .ok (.iconst 0, 1) := by decide +kernel
theorem dX2_countUp_7 : decode cX2_countUp 7 = .ok (.istore_n 3, 1) := by decide +kernel
theorem dX2_countUp_8 : decode cX2_countUp 8 = .ok (.iload_n 3, 1) := by decide +kernel
theorem dX2_countUp_9 : decode cX2_countUp 9 = .ok (.bipush 9, 2) := by decide +kernel
theorem dX2_countUp_11 : decode cX2_countUp 11 = .ok (.if_icmp .gt 26, 3) := by decide +kernel
theorem dX2_countUp_14 : decode cX2_countUp 14 = .ok (.aload_n 0, 1) := by decide +kernel
theorem dX2_countUp_15 : decode cX2_countUp 15 = .ok (.getfield 15, 3) := by decide +kernel
theorem dX2_countUp_18 : decode cX2_countUp 18 = .ok (.iload_n 3, 1) := by decide +kernel
theorem dX2_countUp_19 : decode cX2_countUp 19 = .ok (.aload_n 0, 1) := by decide +kernel
theorem dX2_countUp_20 : decode cX2_countUp 20 = .ok (.getfield 9, 3) := by decide +kernel
theorem dX2_countUp_23 : decode cX2_countUp 23 = .ok (.iconst 0, 1) := by decide +kernel
theorem dX2_countUp_24 : decode cX2_countUp 24 = .ok (.iaload, 1) := by decide +kernel
theorem dX2_countUp_25 : decode cX2_countUp 25 = .ok (.iload_n 3, 1) := by decide +kernel
theorem dX2_countUp_26 : decode cX2_countUp 26 = .ok (.ishr, 1) := by decide +kernel
theorem dX2_countUp_27 : decode cX2_countUp 27 = .ok (.iconst 1, 1) := by decide +kernel
theorem dX2_countUp_28 : decode cX2_countUp 28 = .ok (.iand, 1) := by decide +kernel
theorem dX2_countUp_29 : decode cX2_countUp 29 = .ok (.i2l, 1) := by decide +kernel
theorem dX2_countUp_30 : decode cX2_countUp 30 = .ok (.lastore, 1) := by decide +kernel
theorem dX2_countUp_31 : decode cX2_countUp 31 = .ok (.iinc 3 1, 3) := by decide +kernel
theorem dX2_countUp_34 : decode cX2_countUp 34 = .ok (.goto (-26), 3) := by decide +kernel
theorem dX2_countUp_37 : decode cX2_countUp 37 = .ok (.iconst 1, 1) := by decide +kernel
theorem dX2_countUp_38 : decode cX2_countUp 38 = .ok (.istore_n 3, 1) := by decide +kernel
theorem dX2_countUp_39 : decode cX2_countUp 39 = .ok (.iload_n 3, 1) := by decide +kernel
theorem dX2_countUp_40 : decode cX2_countUp 40 = .ok (.iload_n 1, 1) := by decide +kernel
theorem dX2_countUp_41 : decode cX2_countUp 41 = .ok (.if_icmp .ge 20, 3) := by decide +kernel
theorem dX2_countUp_44 : decode cX2_countUp 44 = .ok (.aload_n 0, 1) := by decide +kernel
theorem dX2_countUp_45 : decode cX2_countUp 45 = .ok (.aload_n 0, 1) := by decide +kernel
theorem dX2_countUp_46 : decode cX2_countUp 46 = .ok (.getfield 9, 3) := by decide +kernel
theorem dX2_countUp_49 : decode cX2_countUp 49 = .ok (.iload_n 3, 1) := by decide +kernel
theorem dX2_countUp_50 : decode cX2_countUp 50 = .ok (.iaload, 1) := by decide +kernel
theorem dX2_countUp_51 : decode cX2_countUp 51 = .ok (.iload_n 2, 1) := by decide +kernel
theorem dX2_countUp_52 : decode cX2_countUp 52 = .ok (.invokevirtual 60, 3) := by decide +kernel
theorem dX2_countUp_55 : decode cX2_countUp 55 = .ok (.iinc 3 1, 3) := by decide +kernel
theorem dX2_countUp_58 : decode cX2_countUp 58 = .ok (.goto (-19), 3) := by decide +kernel
theorem dX2_countUp_61 : decode cX2_countUp 61 = .ok (.lconst 0, 1) := by decide +kernel
theorem dX2_countUp_62 : decode cX2_countUp 62 = .ok (.lstore_n 3, 1) := by decide +kernel
theorem dX2_countUp_63 : decode cX2_countUp 63 = .ok (.iconst 0, 1) := by decide +kernel
theorem dX2_countUp_64 : decode cX2_countUp 64 = .ok (.istore 5, 2) := by decide +kernel
theorem dX2_countUp_66 : decode cX2_countUp 66 = .ok (.iload 5, 2) := by decide +kernel
theorem dX2_countUp_68 : decode cX2_countUp 68 = .ok (.bipush 9, 2) := by decide +kernel
theorem dX2_countUp_70 : decode cX2_countUp 70 = .ok (.if_icmp .gt 19, 3) := by decide +kernel
theorem dX2_countUp_73 : decode cX2_countUp 73 = .ok (.lload_n 3, 1) := by decide +kernel
theorem dX2_countUp_74 : decode cX2_countUp 74 = .ok (.aload_n 0, 1) := by decide +kernel
theorem dX2_countUp_75 : decode cX2_countUp 75 = .ok (.getfield 15, 3) := by decide +kernel
theorem dX2_countUp_78 : decode cX2_countUp 78 = .ok (.iload 5, 2) := by decide +kernel
theorem dX2_countUp_80 : decode cX2_countUp 80 = .ok (.laload, 1) := by decide +kernel
theorem dX2_countUp_81 : decode cX2_countUp 81 = .ok (.ladd, 1) := by decide +kernel
theorem dX2_countUp_82 : decode cX2_countUp 82 = .ok (.lstore_n 3, 1) := by decide +kernel
theorem dX2_countUp_83 : decode cX2_countUp 83 = .ok (.iinc 5 1, 3) := by decide +kernel
theorem dX2_countUp_86 : decode cX2_countUp 86 = .ok (.goto (-20), 3) := by decide +kernel
theorem dX2_countUp_89 : decode cX2_countUp 89 = .ok (.lload_n 3, 1) := by decide +kernel
theorem dX2_countUp_90 : decode cX2_countUp 90 = .ok (.lreturn, 1) := by decide +kernel
theorem dX2_lengthen_0 : decode cX2_lengthen 0 = .ok (.iconst 0, 1) := by decide +kernel
theorem dX2_lengthen_1 : decode cX2_lengthen 1 = .ok (.istore_n 3, 1) := by decide +kernel
theorem dX2_lengthen_2 : decode cX2_lengthen 2 = .ok (.iload_n 3, 1) := by decide +kernel
theorem dX2_lengthen_3 : decode cX2_lengthen 3 = .ok (.bipush 9, 2) := by decide +kernel
theorem dX2_lengthen_5 : decode cX2_lengthen 5 = .ok (.if_icmp .gt 33, 3) := by decide +kernel
theorem dX2_lengthen_8 : decode cX2_lengthen 8 = .ok (.aload_n 0, 1) := by decide +kernel
theorem dX2_lengthen_9 : decode cX2_lengthen 9 = .ok (.getfield 19, 3) := by decide +kernel
theorem dX2_lengthen_12 : decode cX2_lengthen 12 = .ok (.iload_n 3, 1) := by decide +kernel
theorem dX2_lengthen_13 : decode cX2_lengthen 13 = .ok (.iload_n 1, 1) := by decide +kernel
theorem dX2_lengthen_14 : decode cX2_lengthen 14 = .ok (.iconst 1, 1) := by decide +kernel
theorem dX2_lengthen_15 : decode cX2_lengthen 15 = .ok (.iload_n 3, 1) := by decide +kernel
theorem dX2_lengthen_16 : decode cX2_lengthen 16 = .ok (.ishl, 1) := by decide +kernel
theorem dX2_lengthen_17 : decode cX2_lengthen 17 = .ok (.iand, 1) := by decide +kernel
theorem dX2_lengthen_18 : decode cX2_lengthen 18 = .ok (.ifCond .ne 7, 3) := by decide +kernel
theorem dX2_lengthen_21 : decode cX2_lengthen 21 = .ok (.lconst 0, 1) := by decide +kernel
theorem dX2_lengthen_22 : decode cX2_lengthen 22 = .ok (.goto 9, 3) := by decide +kernel
theorem dX2_lengthen_25 : decode cX2_lengthen 25 = .ok (.aload_n 0, 1) := by decide +kernel
theorem dX2_lengthen_26 : decode cX2_lengthen 26 = .ok (.iload_n 3, 1) := by decide +kernel
theorem dX2_lengthen_27 : decode cX2_lengthen 27 = .ok (.iload_n 2, 1) := by decide +kernel
theorem dX2_lengthen_28 : decode cX2_lengthen 28 = .ok (.invokevirtual 64, 3) := by decide +kernel
theorem dX2_lengthen_31 : decode cX2_lengthen 31 = .ok (.lastore, 1) := by decide +kernel
theorem dX2_lengthen_32 : decode cX2_lengthen 32 = .ok (.iinc 3 1, 3) := by decide +kernel
theorem dX2_lengthen_35 : decode cX2_lengthen 35 = .ok (.goto (-33), 3) := by decide +kernel
theorem dX2_lengthen_38 : decode cX2_lengthen 38 = .ok (.aload_n 0, 1) := by decide +kernel
theorem dX2_lengthen_39 : decode cX2_lengthen 39 = .ok (.getfield 15, 3) := by decide +kernel
theorem dX2_lengthen_42 : decode cX2_lengthen 42 = .ok (.astore_n 3, 1) := by decide +kernel
theorem dX2_lengthen_43 : decode cX2_lengthen 43 = .ok (.aload_n 0, 1) := by decide +kernel
theorem dX2_lengthen_44 : decode cX2_lengthen 44 = .ok (.aload_n 0, 1) := by decide +kernel
theorem dX2_lengthen_45 : decode cX2_lengthen 45 = .ok (.getfield 19, 3) := by decide +kernel
theorem dX2_lengthen_48 : decode cX2_lengthen 48 = .ok (.putfield 15, 3) := by decide +kernel
theorem dX2_lengthen_51 : decode cX2_lengthen 51 = .ok (.aload_n 0, 1) := by decide +kernel
theorem dX2_lengthen_52 : decode cX2_lengthen 52 = .ok (.aload_n 3, 1) := by decide +kernel
theorem dX2_lengthen_53 : decode cX2_lengthen 53 = .ok (.putfield 19, 3) := by decide +kernel
theorem dX2_lengthen_56 : decode cX2_lengthen 56 = .ok (.return_, 1) := by decide +kernel
theorem dX2_rowsNear_0 : decode cX2_rowsNear 0 = .ok (.bipush 9, 2) := by decide +kernel
theorem dX2_rowsNear_2 : decode cX2_rowsNear 2 = .ok (.iload_n 1, 1) := by decide +kernel
theorem dX2_rowsNear_3 : decode cX2_rowsNear 3 = .ok (.iload_n 2, 1) := by decide +kernel
theorem dX2_rowsNear_4 : decode cX2_rowsNear 4 = .ok (.iadd, 1) := by decide +kernel
theorem dX2_rowsNear_5 : decode cX2_rowsNear 5 = .ok (.invokestatic 67, 3) := by decide +kernel
theorem dX2_rowsNear_8 : decode cX2_rowsNear 8 = .ok (.istore_n 3, 1) := by decide +kernel
theorem dX2_rowsNear_9 : decode cX2_rowsNear 9 = .ok (.lconst 0, 1) := by decide +kernel
theorem dX2_rowsNear_10 : decode cX2_rowsNear 10 = .ok (.lstore 4, 2) := by decide +kernel
theorem dX2_rowsNear_12 : decode cX2_rowsNear 12 = .ok (.iconst 0, 1) := by decide +kernel
theorem dX2_rowsNear_13 : decode cX2_rowsNear 13 = .ok (.iload_n 1, 1) := by decide +kernel
theorem dX2_rowsNear_14 : decode cX2_rowsNear 14 = .ok (.iload_n 2, 1) := by decide +kernel
theorem dX2_rowsNear_15 : decode cX2_rowsNear 15 = .ok (.isub, 1) := by decide +kernel
theorem dX2_rowsNear_16 : decode cX2_rowsNear 16 = .ok (.invokestatic 72, 3) := by decide +kernel
theorem dX2_rowsNear_19 : decode cX2_rowsNear 19 = .ok (.istore 6, 2) := by decide +kernel
theorem dX2_rowsNear_21 : decode cX2_rowsNear 21 = .ok (.iload 6, 2) := by decide +kernel
theorem dX2_rowsNear_23 : decode cX2_rowsNear 23 = .ok (.iload_n 3, 1) := by decide +kernel
theorem dX2_rowsNear_24 : decode cX2_rowsNear 24 = .ok (.if_icmp .gt 21, 3) := by decide +kernel
theorem dX2_rowsNear_27 : decode cX2_rowsNear 27 = .ok (.lload 4, 2) := by decide +kernel
theorem dX2_rowsNear_29 : decode cX2_rowsNear 29 = .ok (.aload_n 0, 1) := by decide +kernel
theorem dX2_rowsNear_30 : decode cX2_rowsNear 30 = .ok (.getfield 15, 3) := by decide +kernel
theorem dX2_rowsNear_33 : decode cX2_rowsNear 33 = .ok (.iload 6, 2) := by decide +kernel
theorem dX2_rowsNear_35 : decode cX2_rowsNear 35 = .ok (.laload, 1) := by decide +kernel
theorem dX2_rowsNear_36 : decode cX2_rowsNear 36 = .ok (.ladd, 1) := by decide +kernel
theorem dX2_rowsNear_37 : decode cX2_rowsNear 37 = .ok (.lstore 4, 2) := by decide +kernel
theorem dX2_rowsNear_39 : decode cX2_rowsNear 39 = .ok (.iinc 6 1, 3) := by decide +kernel
theorem dX2_rowsNear_42 : decode cX2_rowsNear 42 = .ok (.goto (-21), 3) := by decide +kernel
theorem dX2_rowsNear_45 : decode cX2_rowsNear 45 = .ok (.lload 4, 2) := by decide +kernel
theorem dX2_rowsNear_47 : decode cX2_rowsNear 47 = .ok (.lreturn, 1) := by decide +kernel
theorem dX3_init_0 : decode cX3_init 0 = .ok (.aload_n 0, 1) := by decide +kernel
theorem dX3_init_1 : decode cX3_init 1 = .ok (.invokespecial 3, 3) := by decide +kernel
theorem dX3_init_4 : decode cX3_init 4 = .ok (.aload_n 0, 1) := by decide +kernel
theorem dX3_init_5 : decode cX3_init 5 = .ok (.iconst 0, 1) := by decide +kernel
theorem dX3_init_6 : decode cX3_init 6 = .ok (.putfield 9, 3) := by decide +kernel
theorem dX3_init_9 : decode cX3_init 9 = .ok (.aload_n 0, 1) := by decide +kernel
theorem dX3_init_10 : decode cX3_init 10 = .ok (.bipush 6, 2) := by decide +kernel
theorem dX3_init_12 : decode cX3_init 12 = .ok (.newarray .int, 2) := by decide +kernel
theorem dX3_init_14 : decode cX3_init 14 = .ok (.putfield 15, 3) := by decide +kernel
theorem dX3_init_17 : decode cX3_init 17 = .ok (.aload_n 0, 1) := by decide +kernel
theorem dX3_init_18 : decode cX3_init 18 = .ok (.bipush 6, 2) := by decide +kernel
theorem dX3_init_20 : decode cX3_init 20 = .ok (.newarray .int, 2) := by decide +kernel
theorem dX3_init_22 : decode cX3_init 22 = .ok (.putfield 19, 3) := by decide +kernel
theorem dX3_init_25 : decode cX3_init 25 = .ok (.aload_n 0, 1) := by decide +kernel
theorem dX3_init_26 : decode cX3_init 26 = .ok (.bipush 6, 2) := by decide +kernel
theorem dX3_init_28 : decode cX3_init 28 = .ok (.newarray .int, 2) := by decide +kernel
theorem dX3_init_30 : decode cX3_init 30 = .ok (.putfield 22, 3) := by decide +kernel
theorem dX3_init_33 : decode cX3_init 33 = .ok (.aload_n 0, 1) := by decide +kernel
theorem dX3_init_34 : decode cX3_init 34 = .ok (.bipush 6, 2) := by decide +kernel
theorem dX3_init_36 : decode cX3_init 36 = .ok (.newarray .int, 2) := by decide +kernel
theorem dX3_init_38 : decode cX3_init 38 = .ok (.putfield 25, 3) := by decide +kernel
theorem dX3_init_41 : decode cX3_init 41 = .ok (.aload_n 0, 1) := by decide +kernel
theorem dX3_init_42 : decode cX3_init 42 = .ok (.bipush 30, 2) := by decide +kernel
theorem dX3_init_44 : decode cX3_init 44 = .ok (.newarray .int, 2) := by decide +kernel
theorem dX3_init_46 : decode cX3_init 46 = .ok (.putfield 28, 3) := by decide +kernel
theorem dX3_init_49 : decode cX3_init 49 = .ok (.aload_n 0, 1) := by decide +kernel
theorem dX3_init_50 : decode cX3_init 50 = .ok (.bipush 30, 2) := by decide +kernel
theorem dX3_init_52 : decode cX3_init 52 = .ok (.newarray .int, 2) := by decide +kernel
theorem dX3_init_54 : decode cX3_init 54 = .ok (.putfield 31, 3) := by decide +kernel
theorem dX3_init_57 : decode cX3_init 57 = .ok (.aload_n 0, 1) := by decide +kernel
theorem dX3_init_58 : decode cX3_init 58 = .ok (.bipush 6, 2) := by decide +kernel
theorem dX3_init_60 : decode cX3_init 60 = .ok (.bipush 30, 2) := by decide +kernel
theorem dX3_init_62 : decode cX3_init 62 = .ok (.multianewarray 34 2, 4) := by decide +kernel
theorem dX3_init_66 : decode cX3_init 66 = .ok (.putfield 36, 3) := by decide +kernel
theorem dX3_init_69 : decode cX3_init 69 = .ok (.return_, 1) := by decide +kernel
theorem dX3_begin_0 : decode cX3_begin 0 = .ok (.aload_n 0, 1) := by decide +kernel
theorem dX3_begin_1 : decode cX3_begin 1 = .ok (.iload_n 1, 1) := by decide +kernel
theorem dX3_begin_2 : decode cX3_begin 2 = .ok (.putfield 39, 3) := by decide +kernel
theorem dX3_begin_5 : decode cX3_begin 5 = .ok (.aload_n 0, 1) := by decide +kernel
theorem dX3_begin_6 : decode cX3_begin 6 = .ok (.iload_n 2, 1) := by decide +kernel
theorem dX3_begin_7 : decode cX3_begin 7 = .ok (.putfield 42, 3) := by decide +kernel
theorem dX3_begin_10 : decode cX3_begin 10 = .ok (.aload_n 0, 1) := by decide +kernel
theorem dX3_begin_11 : decode cX3_begin 11 = .ok (.iload_n 3, 1) := by decide +kernel
theorem dX3_begin_12 : decode cX3_begin 12 = .ok (.putfield 45, 3) := by decide +kernel
theorem dX3_begin_15 : decode cX3_begin 15 = .ok (.aload_n 0, 1) := by decide +kernel
theorem dX3_begin_16 : decode cX3_begin 16 = .ok (.iload 4, 2) := by decide +kernel
theorem dX3_begin_18 : decode cX3_begin 18 = .ok (.putfield 48, 3) := by decide +kernel
theorem dX3_begin_21 : decode cX3_begin 21 = .ok (.return_, 1) := by decide +kernel
theorem dX3_readDoors_0 : decode cX3_readDoors 0 = .ok (.aload_n 0, 1) := by decide +kernel
theorem dX3_readDoors_1 : decode cX3_readDoors 1 = .ok (.iconst 0, 1) := by decide +kernel
theorem dX3_readDoors_2 : decode cX3_readDoors 2 = .ok (.putfield 51, 3) := by decide +kernel
theorem dX3_readDoors_5 : decode cX3_readDoors 5 = .ok (.iconst 0, 1) := by decide +kernel
theorem dX3_readDoors_6 : decode cX3_readDoors 6 = .ok (.istore_n 2, 1) := by decide +kernel
theorem dX3_readDoors_7 : decode cX3_readDoors 7 = .ok (.iload_n 2, 1) := by decide +kernel
theorem dX3_readDoors_8 : decode cX3_readDoors 8 = .ok (.aload_n 0, 1) := by decide +kernel
theorem dX3_readDoors_9 : decode cX3_readDoors 9 = .ok (.getfield 42, 3) := by decide +kernel
theorem dX3_readDoors_12 : decode cX3_readDoors 12 = .ok (.if_icmp .ge 92, 3) := by decide +kernel
theorem dX3_readDoors_15 : decode cX3_readDoors 15 = .ok (.aload_n 1, 1) := by decide +kernel
theorem dX3_readDoors_16 : decode cX3_readDoors 16 = .ok (.getfield 54, 3) := by decide +kernel
theorem dX3_readDoors_19 : decode cX3_readDoors 19 = .ok (.iload_n 2, 1) := by decide +kernel
theorem dX3_readDoors_20 : decode cX3_readDoors 20 = .ok (.iaload, 1) := by decide +kernel
theorem dX3_readDoors_21 : decode cX3_readDoors 21 = .ok (.istore_n 3, 1) := by decide +kernel
theorem dX3_readDoors_22 : decode cX3_readDoors 22 = .ok (.aload_n 0, 1) := by decide +kernel
theorem dX3_readDoors_23 : decode cX3_readDoors 23 = .ok (.getfield 25, 3) := by decide +kernel
theorem dX3_readDoors_26 : decode cX3_readDoors 26 = .ok (.iload_n 2, 1) := by decide +kernel
theorem dX3_readDoors_27 : decode cX3_readDoors 27 = .ok (.aload_n 1, 1) := by decide +kernel
theorem dX3_readDoors_28 : decode cX3_readDoors 28 = .ok (.getfield 59, 3) := by decide +kernel
theorem dX3_readDoors_31 : decode cX3_readDoors 31 = .ok (.iload_n 3, 1) := by decide +kernel
theorem dX3_readDoors_32 : decode cX3_readDoors 32 = .ok (.invokevirtual 63, 3) := by decide +kernel
theorem dX3_readDoors_35 : decode cX3_readDoors 35 = .ok (.iastore, 1) := by decide +kernel
theorem dX3_readDoors_36 : decode cX3_readDoors 36 = .ok (.aload_n 1, 1) := by decide +kernel
theorem dX3_readDoors_37 : decode cX3_readDoors 37 = .ok (.getfield 59, 3) := by decide +kernel
theorem dX3_readDoors_40 : decode cX3_readDoors 40 = .ok (.iload_n 3, 1) := by decide +kernel
theorem dX3_readDoors_41 : decode cX3_readDoors 41 = .ok (.invokevirtual 68, 3) := by decide +kernel
theorem dX3_readDoors_44 : decode cX3_readDoors 44 = .ok (.ifCond .eq 15, 3) := by decide +kernel
theorem dX3_readDoors_47 : decode cX3_readDoors 47 = .ok (.aload_n 0, 1) := by decide +kernel
theorem dX3_readDoors_48 : decode cX3_readDoors 48 = .ok (.dup, 1) := by decide +kernel
theorem dX3_readDoors_49 : decode cX3_readDoors 49 = .ok (.getfield 51, 3) := by decide +kernel
theorem dX3_readDoors_52 : decode cX3_readDoors 52 = .ok (.iconst 1, 1) := by decide +kernel
theorem dX3_readDoors_53 : decode cX3_readDoors 53 = .ok (.iload_n 2, 1) := by decide +kernel
theorem dX3_readDoors_54 : decode cX3_readDoors 54 = .ok (.ishl, 1) := by decide +kernel
theorem dX3_readDoors_55 : decode cX3_readDoors 55 = .ok (.ior, 1) := by decide +kernel
theorem dX3_readDoors_56 : decode cX3_readDoors 56 = .ok (.putfield 51, 3) := by decide +kernel
theorem dX3_readDoors_59 : decode cX3_readDoors 59 = .ok (.iconst 0, 1) := by decide +kernel
theorem dX3_readDoors_60 : decode cX3_readDoors 60 = .ok (.istore 4, 2) := by decide +kernel
theorem dX3_readDoors_62 : decode cX3_readDoors 62 = .ok (.iload 4, 2) := by decide +kernel
theorem dX3_readDoors_64 : decode cX3_readDoors 64 = .ok (.aload_n 0, 1) := by decide +kernel
theorem dX3_readDoors_65 : decode cX3_readDoors 65 = .ok (.getfield 45, 3) := by decide +kernel
theorem dX3_readDoors_68 : decode cX3_readDoors 68 = .ok (.if_icmp .ge 30, 3) := by decide +kernel
theorem dX3_readDoors_71 : decode cX3_readDoors 71 = .ok (.aload_n 0, 1) := by decide +kernel
theorem dX3_readDoors_72 : decode cX3_readDoors 72 = .ok (.getfield 28, 3) := by decide +kernel
theorem dX3_readDoors_75 : decode cX3_readDoors 75 = .ok (.iload_n 2, 1) := by decide +kernel
theorem dX3_readDoors_76 : decode cX3_readDoors 76 = .ok (.iconst 5, 1) := by decide +kernel
theorem dX3_readDoors_77 : decode cX3_readDoors 77 = .ok (.imul, 1) := by decide +kernel
theorem dX3_readDoors_78 : decode cX3_readDoors 78 = .ok (.iload 4, 2) := by decide +kernel
theorem dX3_readDoors_80 : decode cX3_readDoors 80 = .ok (.iadd, 1) := by decide +kernel
theorem dX3_readDoors_81 : decode cX3_readDoors 81 = .ok (.aload_n 1, 1) := by decide +kernel
theorem dX3_readDoors_82 : decode cX3_readDoors 82 = .ok (.getfield 59, 3) := by decide +kernel
theorem dX3_readDoors_85 : decode cX3_readDoors 85 = .ok (.iload_n 3, 1) := by decide +kernel
theorem dX3_readDoors_86 : decode cX3_readDoors 86 = .ok (.iload 4, 2) := by decide +kernel
theorem dX3_readDoors_88 : decode cX3_readDoors 88 = .ok (.invokevirtual 72, 3) := by decide +kernel
theorem dX3_readDoors_91 : decode cX3_readDoors 91 = .ok (.iastore, 1) := by decide +kernel
theorem dX3_readDoors_92 : decode cX3_readDoors 92 = .ok (.iinc 4 1, 3) := by decide +kernel
theorem dX3_readDoors_95 : decode cX3_readDoors 95 = .ok (.goto (-33), 3) := by decide +kernel
theorem dX3_readDoors_98 : decode cX3_readDoors 98 = .ok (.iinc 2 1, 3) := by decide +kernel
theorem dX3_readDoors_101 : decode cX3_readDoors 101 = .ok (.goto (-94), 3) := by decide +kernel
theorem dX3_readDoors_104 : decode cX3_readDoors 104 = .ok (.return_, 1) := by decide +kernel
theorem dX3_readKeys_0 : decode cX3_readKeys 0 = .ok (.lconst 1, 1) := by decide +kernel
theorem dX3_readKeys_1 : decode cX3_readKeys 1 = .ok (.aload_n 0, 1) := by decide +kernel
theorem dX3_readKeys_2 : decode cX3_readKeys 2 = .ok (.getfield 42, 3) := by decide +kernel
theorem dX3_readKeys_5 : decode cX3_readKeys 5 = .ok (.lshl, 1) := by decide +kernel
theorem dX3_readKeys_6 : decode cX3_readKeys 6 = .ok (.lconst 1, 1) := by decide +kernel
theorem dX3_readKeys_7 : decode cX3_readKeys 7 = .ok (.lsub, 1) := by decide +kernel
theorem dX3_readKeys_8 : decode cX3_readKeys 8 = .ok (.lstore_n 3, 1) := by decide +kernel
theorem dX3_readKeys_9 : decode cX3_readKeys 9 = .ok (.aload_n 0, 1) := by decide +kernel
theorem dX3_readKeys_10 : decode cX3_readKeys 10 = .ok (.iconst (-1), 1) := by decide +kernel
theorem dX3_readKeys_11 : decode cX3_readKeys 11 = .ok (.putfield 76, 3) := by decide +kernel
theorem dX3_readKeys_14 : decode cX3_readKeys 14 = .ok (.aload_n 0, 1) := by decide +kernel
theorem dX3_readKeys_15 : decode cX3_readKeys 15 = .ok (.iconst 0, 1) := by decide +kernel
theorem dX3_readKeys_16 : decode cX3_readKeys 16 = .ok (.putfield 79, 3) := by decide +kernel
theorem dX3_readKeys_19 : decode cX3_readKeys 19 = .ok (.aload_n 0, 1) := by decide +kernel
theorem dX3_readKeys_20 : decode cX3_readKeys 20 = .ok (.iconst 0, 1) := by decide +kernel
theorem dX3_readKeys_21 : decode cX3_readKeys 21 = .ok (.putfield 82, 3) := by decide +kernel
theorem dX3_readKeys_24 : decode cX3_readKeys 24 = .ok (.iconst 0, 1) := by decide +kernel
theorem dX3_readKeys_25 : decode cX3_readKeys 25 = .ok (.istore 5, 2) := by decide +kernel
theorem dX3_readKeys_27 : decode cX3_readKeys 27 = .ok (.iload 5, 2) := by decide +kernel
theorem dX3_readKeys_29 : decode cX3_readKeys 29 = .ok (.aload_n 0, 1) := by decide +kernel
theorem dX3_readKeys_30 : decode cX3_readKeys 30 = .ok (.getfield 39, 3) := by decide +kernel
theorem dX3_readKeys_33 : decode cX3_readKeys 33 = .ok (.if_icmp .ge 89, 3) := by decide +kernel
theorem dX3_readKeys_36 : decode cX3_readKeys 36 = .ok (.iload 5, 2) := by decide +kernel
theorem dX3_readKeys_38 : decode cX3_readKeys 38 = .ok (.iload_n 2, 1) := by decide +kernel
theorem dX3_readKeys_39 : decode cX3_readKeys 39 = .ok (.if_icmp .ne 6, 3) := by decide +kernel
theorem dX3_readKeys_42 : decode cX3_readKeys 42 = .ok (.goto 74, 3) := by decide +kernel
theorem dX3_readKeys_45 : decode cX3_readKeys 45 = .ok (.aload_n 0, 1) := by decide +kernel
theorem dX3_readKeys_46 : decode cX3_readKeys 46 = .ok (.getfield 19, 3) := by decide +kernel
theorem dX3_readKeys_49 : decode cX3_readKeys 49 = .ok (.iload 5, 2) := by decide +kernel
theorem dX3_readKeys_51 : decode cX3_readKeys 51 = .ok (.aload_n 1, 1) := by decide +kernel
theorem dX3_readKeys_52 : decode cX3_readKeys 52 = .ok (.getfield 85, 3) := by decide +kernel
theorem dX3_readKeys_55 : decode cX3_readKeys 55 = .ok (.iload 5, 2) := by decide +kernel
theorem dX3_readKeys_57 : decode cX3_readKeys 57 = .ok (.laload, 1) := by decide +kernel
theorem dX3_readKeys_58 : decode cX3_readKeys 58 = .ok (.lload_n 3, 1) := by decide +kernel
theorem dX3_readKeys_59 : decode cX3_readKeys 59 = .ok (.land, 1) := by decide +kernel
theorem dX3_readKeys_60 : decode cX3_readKeys 60 = .ok (.l2i, 1) := by decide +kernel
theorem dX3_readKeys_61 : decode cX3_readKeys 61 = .ok (.iastore, 1) := by decide +kernel
theorem dX3_readKeys_62 : decode cX3_readKeys 62 = .ok (.aload_n 0, 1) := by decide +kernel
theorem dX3_readKeys_63 : decode cX3_readKeys 63 = .ok (.getfield 22, 3) := by decide +kernel
theorem dX3_readKeys_66 : decode cX3_readKeys 66 = .ok (.iload 5, 2) := by decide +kernel
theorem dX3_readKeys_68 : decode cX3_readKeys 68 = .ok (.aload_n 1, 1) := by decide +kernel
theorem dX3_readKeys_69 : decode cX3_readKeys 69 = .ok (.getfield 91, 3) := by decide +kernel
theorem dX3_readKeys_72 : decode cX3_readKeys 72 = .ok (.iload 5, 2) := by decide +kernel
theorem dX3_readKeys_74 : decode cX3_readKeys 74 = .ok (.laload, 1) := by decide +kernel
theorem dX3_readKeys_75 : decode cX3_readKeys 75 = .ok (.lload_n 3, 1) := by decide +kernel
theorem dX3_readKeys_76 : decode cX3_readKeys 76 = .ok (.land, 1) := by decide +kernel
theorem dX3_readKeys_77 : decode cX3_readKeys 77 = .ok (.l2i, 1) := by decide +kernel
theorem dX3_readKeys_78 : decode cX3_readKeys 78 = .ok (.iastore, 1) := by decide +kernel
theorem dX3_readKeys_79 : decode cX3_readKeys 79 = .ok (.aload_n 0, 1) := by decide +kernel
theorem dX3_readKeys_80 : decode cX3_readKeys 80 = .ok (.dup, 1) := by decide +kernel
theorem dX3_readKeys_81 : decode cX3_readKeys 81 = .ok (.getfield 82, 3) := by decide +kernel
theorem dX3_readKeys_84 : decode cX3_readKeys 84 = .ok (.aload_n 0, 1) := by decide +kernel
theorem dX3_readKeys_85 : decode cX3_readKeys 85 = .ok (.getfield 19, 3) := by decide +kernel
theorem dX3_readKeys_88 : decode cX3_readKeys 88 = .ok (.iload 5, 2) := by decide +kernel
theorem dX3_readKeys_90 : decode cX3_readKeys 90 = .ok (.iaload, 1) := by decide +kernel
theorem dX3_readKeys_91 : decode cX3_readKeys 91 = .ok (.ior, 1) := by decide +kernel
theorem dX3_readKeys_92 : decode cX3_readKeys 92 = .ok (.putfield 82, 3) := by decide +kernel
theorem dX3_readKeys_95 : decode cX3_readKeys 95 = .ok (.aload_n 0, 1) := by decide +kernel
theorem dX3_readKeys_96 : decode cX3_readKeys 96 = .ok (.getfield 15, 3) := by decide +kernel
theorem dX3_readKeys_99 : decode cX3_readKeys 99 = .ok (.aload_n 0, 1) := by decide +kernel
theorem dX3_readKeys_100 : decode cX3_readKeys 100 = .ok (.getfield 79, 3) := by decide +kernel
theorem dX3_readKeys_103 : decode cX3_readKeys 103 = .ok (.iload 5, 2) := by decide +kernel
theorem dX3_readKeys_105 : decode cX3_readKeys 105 = .ok (.iastore, 1) := by decide +kernel
theorem dX3_readKeys_106 : decode cX3_readKeys 106 = .ok (.aload_n 0, 1) := by decide +kernel
theorem dX3_readKeys_107 : decode cX3_readKeys 107 = .ok (.dup, 1) := by decide +kernel
theorem dX3_readKeys_108 : decode cX3_readKeys 108 = .ok (.getfield 79, 3) := by decide +kernel
theorem dX3_readKeys_111 : decode cX3_readKeys 111 = .ok (.iconst 1, 1) := by decide +kernel
theorem dX3_readKeys_112 : decode cX3_readKeys 112 = .ok (.iadd, 1) := by decide +kernel
theorem dX3_readKeys_113 : decode cX3_readKeys 113 = .ok (.putfield 79, 3) := by decide +kernel
theorem dX3_readKeys_116 : decode cX3_readKeys 116 = .ok (.iinc 5 1, 3) := by decide +kernel
theorem dX3_readKeys_119 : decode cX3_readKeys 119 = .ok (.goto (-92), 3) := by decide +kernel
theorem dX3_readKeys_122 : decode cX3_readKeys 122 = .ok (.return_, 1) := by decide +kernel
theorem dX3_passOver_0 : decode cX3_passOver 0 = .ok (.aload_n 0, 1) := by decide +kernel
theorem dX3_passOver_1 : decode cX3_passOver 1 = .ok (.iload_n 2, 1) := by decide +kernel
theorem dX3_passOver_2 : decode cX3_passOver 2 = .ok (.putfield 76, 3) := by decide +kernel
theorem dX3_passOver_5 : decode cX3_passOver 5 = .ok (.aload_n 0, 1) := by decide +kernel
theorem dX3_passOver_6 : decode cX3_passOver 6 = .ok (.getfield 22, 3) := by decide +kernel
theorem dX3_passOver_9 : decode cX3_passOver 9 = .ok (.iload_n 2, 1) := by decide +kernel
theorem dX3_passOver_10 : decode cX3_passOver 10 = .ok (.iload_n 3, 1) := by decide +kernel
theorem dX3_passOver_11 : decode cX3_passOver 11 = .ok (.iastore, 1) := by decide +kernel
theorem dX3_passOver_12 : decode cX3_passOver 12 = .ok (.iconst 0, 1) := by decide +kernel
theorem dX3_passOver_13 : decode cX3_passOver 13 = .ok (.istore 4, 2) := by decide +kernel
theorem dX3_passOver_15 : decode cX3_passOver 15 = .ok (.iload 4, 2) := by decide +kernel
theorem dX3_passOver_17 : decode cX3_passOver 17 = .ok (.aload_n 0, 1) := by decide +kernel
theorem dX3_passOver_18 : decode cX3_passOver 18 = .ok (.getfield 45, 3) := by decide +kernel
theorem dX3_passOver_21 : decode cX3_passOver 21 = .ok (.if_icmp .ge 27, 3) := by decide +kernel
theorem dX3_passOver_24 : decode cX3_passOver 24 = .ok (.aload_n 0, 1) := by decide +kernel
theorem dX3_passOver_25 : decode cX3_passOver 25 = .ok (.getfield 31, 3) := by decide +kernel
theorem dX3_passOver_28 : decode cX3_passOver 28 = .ok (.iload_n 2, 1) := by decide +kernel
theorem dX3_passOver_29 : decode cX3_passOver 29 = .ok (.iconst 5, 1) := by decide +kernel
theorem dX3_passOver_30 : decode cX3_passOver 30 = .ok (.imul, 1) := by decide +kernel
theorem dX3_passOver_31 : decode cX3_passOver 31 = .ok (.iload 4, 2) := by decide +kernel
theorem dX3_passOver_33 : decode cX3_passOver 33 = .ok (.iadd, 1) := by decide +kernel
theorem dX3_passOver_34 : decode cX3_passOver 34 = .ok (.aload_n 1, 1) := by decide +kernel
theorem dX3_passOver_35 : decode cX3_passOver 35 = .ok (.iload_n 2, 1) := by decide +kernel
theorem dX3_passOver_36 : decode cX3_passOver 36 = .ok (.iload 4, 2) := by decide +kernel
theorem dX3_passOver_38 : decode cX3_passOver 38 = .ok (.invokevirtual 94, 3) := by decide +kernel
theorem dX3_passOver_41 : decode cX3_passOver 41 = .ok (.iastore, 1) := by decide +kernel
theorem dX3_passOver_42 : decode cX3_passOver 42 = .ok (.iinc 4 1, 3) := by decide +kernel
theorem dX3_passOver_45 : decode cX3_passOver 45 = .ok (.goto (-30), 3) := by decide +kernel
theorem dX3_passOver_48 : decode cX3_passOver 48 = .ok (.return_, 1) := by decide +kernel
theorem dX3_search_0 : decode cX3_search 0 = .ok (.aload_n 0, 1) := by decide +kernel
theorem dX3_search_1 : decode cX3_search 1 = .ok (.iconst 0, 1) := by decide +kernel
theorem dX3_search_2 : decode cX3_search 2 = .ok (.putfield 9, 3) := by decide +kernel
theorem dX3_search_5 : decode cX3_search 5 = .ok (.aload_n 0, 1) := by decide +kernel
theorem dX3_search_6 : decode cX3_search 6 = .ok (.getfield 79, 3) := by decide +kernel
theorem dX3_search_9 : decode cX3_search 9 = .ok (.ifCond .ne 16, 3) := by decide +kernel
theorem dX3_search_12 : decode cX3_search 12 = .ok (.aload_n 0, 1) := by decide +kernel
theorem dX3_search_13 : decode cX3_search 13 = .ok (.invokevirtual 97, 3) := by decide +kernel
theorem dX3_search_16 : decode cX3_search 16 = .ok (.ifCond .eq 7, 3) := by decide +kernel
theorem dX3_search_19 : decode cX3_search 19 = .ok (.iconst 1, 1) := by decide +kernel
theorem dX3_search_20 : decode cX3_search 20 = .ok (.goto 4, 3) := by decide +kernel
theorem dX3_search_23 : decode cX3_search 23 = .ok (.iconst 0, 1) := by decide +kernel
theorem dX3_search_24 : decode cX3_search 24 = .ok (.ireturn, 1) := by decide +kernel
theorem dX3_search_25 : decode cX3_search 25 = .ok (.aload_n 0, 1) := by decide +kernel
theorem dX3_search_26 : decode cX3_search 26 = .ok (.iconst 0, 1) := by decide +kernel
theorem dX3_search_27 : decode cX3_search 27 = .ok (.iconst 0, 1) := by decide +kernel
theorem dX3_search_28 : decode cX3_search 28 = .ok (.invokevirtual 101, 3) := by decide +kernel
theorem dX3_search_31 : decode cX3_search 31 = .ok (.ireturn, 1) := by decide +kernel
theorem dX3_tryCuts_0 : decode cX3_tryCuts 0 = .ok (.iload_n 1, 1) := by decide +kernel
theorem dX3_tryCuts_1 : decode cX3_tryCuts 1 = .ok (.aload_n 0, 1) := by decide +kernel
theorem dX3_tryCuts_2 : decode cX3_tryCuts 2 = .ok (.getfield 79, 3) := by decide +kernel
theorem dX3_tryCuts_5 : decode cX3_tryCuts 5 = .ok (.if_icmp .ge 11, 3) := by decide +kernel
theorem dX3_tryCuts_8 : decode cX3_tryCuts 8 = .ok (.iload_n 2, 1) := by decide +kernel
theorem dX3_tryCuts_9 : decode cX3_tryCuts 9 = .ok (.aload_n 0, 1) := by decide +kernel
theorem dX3_tryCuts_10 : decode cX3_tryCuts 10 = .ok (.getfield 45, 3) := by decide +kernel
theorem dX3_tryCuts_13 : decode cX3_tryCuts 13 = .ok (.if_icmp .lt 5, 3) := by decide +kernel
theorem dX3_tryCuts_16 : decode cX3_tryCuts 16 = .ok (.iconst 0, 1) := by decide +kernel
theorem dX3_tryCuts_17 : decode cX3_tryCuts 17 = .ok (.ireturn, 1) := by decide +kernel
theorem dX3_tryCuts_18 : decode cX3_tryCuts 18 = .ok (.iconst 0, 1) := by decide +kernel
theorem dX3_tryCuts_19 : decode cX3_tryCuts 19 = .ok (.istore_n 3, 1) := by decide +kernel
theorem dX3_tryCuts_20 : decode cX3_tryCuts 20 = .ok (.iload_n 3, 1) := by decide +kernel
theorem dX3_tryCuts_21 : decode cX3_tryCuts 21 = .ok (.bipush 9, 2) := by decide +kernel
theorem dX3_tryCuts_23 : decode cX3_tryCuts 23 = .ok (.if_icmp .gt 62, 3) := by decide +kernel
theorem dX3_tryCuts_26 : decode cX3_tryCuts 26 = .ok (.aload_n 0, 1) := by decide +kernel
theorem dX3_tryCuts_27 : decode cX3_tryCuts 27 = .ok (.getfield 9, 3) := by decide +kernel
theorem dX3_tryCuts_30 : decode cX3_tryCuts 30 = .ok (.sipush 4000, 3) := by decide +kernel
theorem dX3_tryCuts_33 : decode cX3_tryCuts 33 = .ok (.if_icmp .lt 6, 3) := by decide +kernel
theorem dX3_tryCuts_36 : decode cX3_tryCuts 36 = .ok (.bipush (-5), 2) := by decide +kernel
theorem dX3_tryCuts_38 : decode cX3_tryCuts 38 = .ok (.ireturn, 1) := by decide +kernel
theorem dX3_tryCuts_39 : decode cX3_tryCuts 39 = .ok (.aload_n 0, 1) := by decide +kernel
theorem dX3_tryCuts_40 : decode cX3_tryCuts 40 = .ok (.dup, 1) := by decide +kernel
theorem dX3_tryCuts_41 : decode cX3_tryCuts 41 = .ok (.getfield 9, 3) := by decide +kernel
theorem dX3_tryCuts_44 : decode cX3_tryCuts 44 = .ok (.iconst 1, 1) := by decide +kernel
theorem dX3_tryCuts_45 : decode cX3_tryCuts 45 = .ok (.iadd, 1) := by decide +kernel
theorem dX3_tryCuts_46 : decode cX3_tryCuts 46 = .ok (.putfield 9, 3) := by decide +kernel
theorem dX3_tryCuts_49 : decode cX3_tryCuts 49 = .ok (.aload_n 0, 1) := by decide +kernel
theorem dX3_tryCuts_50 : decode cX3_tryCuts 50 = .ok (.iload_n 1, 1) := by decide +kernel
theorem dX3_tryCuts_51 : decode cX3_tryCuts 51 = .ok (.iload_n 2, 1) := by decide +kernel
theorem dX3_tryCuts_52 : decode cX3_tryCuts 52 = .ok (.iload_n 3, 1) := by decide +kernel
theorem dX3_tryCuts_53 : decode cX3_tryCuts 53 = .ok (.invokevirtual 104, 3) := by decide +kernel
theorem dX3_tryCuts_56 : decode cX3_tryCuts 56 = .ok (.ifCond .eq 12, 3) := by decide +kernel
theorem dX3_tryCuts_59 : decode cX3_tryCuts 59 = .ok (.aload_n 0, 1) := by decide +kernel
theorem dX3_tryCuts_60 : decode cX3_tryCuts 60 = .ok (.iload_n 1, 1) := by decide +kernel
theorem dX3_tryCuts_61 : decode cX3_tryCuts 61 = .ok (.iload_n 2, 1) := by decide +kernel
theorem dX3_tryCuts_62 : decode cX3_tryCuts 62 = .ok (.invokevirtual 108, 3) := by decide +kernel
theorem dX3_tryCuts_65 : decode cX3_tryCuts 65 = .ok (.goto 4, 3) := by decide +kernel
theorem dX3_tryCuts_68 : decode cX3_tryCuts 68 = .ok (.iconst 0, 1) := by decide +kernel
theorem dX3_tryCuts_69 : decode cX3_tryCuts 69 = .ok (.istore 4, 2) := by decide +kernel
theorem dX3_tryCuts_71 : decode cX3_tryCuts 71 = .ok (.iload 4, 2) := by decide +kernel
theorem dX3_tryCuts_73 : decode cX3_tryCuts 73 = .ok (.ifCond .eq 6, 3) := by decide +kernel
theorem dX3_tryCuts_76 : decode cX3_tryCuts 76 = .ok (.iload 4, 2) := by decide +kernel
theorem dX3_tryCuts_78 : decode cX3_tryCuts 78 = .ok (.ireturn, 1) := by decide +kernel
theorem dX3_tryCuts_79 : decode cX3_tryCuts 79 = .ok (.iinc 3 1, 3) := by decide +kernel
theorem dX3_tryCuts_82 : decode cX3_tryCuts 82 = .ok (.goto (-62), 3) := by decide +kernel
theorem dX3_tryCuts_85 : decode cX3_tryCuts 85 = .ok (.iconst 0, 1) := by decide +kernel
theorem dX3_tryCuts_86 : decode cX3_tryCuts 86 = .ok (.ireturn, 1) := by decide +kernel
theorem dX3_goOn_0 : decode cX3_goOn 0 = .ok (.iload_n 2, 1) := by decide +kernel
theorem dX3_goOn_1 : decode cX3_goOn 1 = .ok (.iconst 1, 1) := by decide +kernel
theorem dX3_goOn_2 : decode cX3_goOn 2 = .ok (.iadd, 1) := by decide +kernel
theorem dX3_goOn_3 : decode cX3_goOn 3 = .ok (.aload_n 0, 1) := by decide +kernel
theorem dX3_goOn_4 : decode cX3_goOn 4 = .ok (.getfield 45, 3) := by decide +kernel
theorem dX3_goOn_7 : decode cX3_goOn 7 = .ok (.if_icmp .ge 12, 3) := by decide +kernel
theorem dX3_goOn_10 : decode cX3_goOn 10 = .ok (.aload_n 0, 1) := by decide +kernel
theorem dX3_goOn_11 : decode cX3_goOn 11 = .ok (.iload_n 1, 1) := by decide +kernel
theorem dX3_goOn_12 : decode cX3_goOn 12 = .ok (.iload_n 2, 1) := by decide +kernel
theorem dX3_goOn_13 : decode cX3_goOn 13 = .ok (.iconst 1, 1) := by decide +kernel
theorem dX3_goOn_14 : decode cX3_goOn 14 = .ok (.iadd, 1) := by decide +kernel
theorem dX3_goOn_15 : decode cX3_goOn 15 = .ok (.invokevirtual 101, 3) := by decide +kernel
theorem dX3_goOn_18 : decode cX3_goOn 18 = .ok (.ireturn, 1) := by decide +kernel
theorem dX3_goOn_19 : decode cX3_goOn 19 = .ok (.iload_n 1, 1) := by decide +kernel
theorem dX3_goOn_20 : decode cX3_goOn 20 = .ok (.iconst 1, 1) := by decide +kernel
theorem dX3_goOn_21 : decode cX3_goOn 21 = .ok (.iadd, 1) := by decide +kernel
theorem dX3_goOn_22 : decode cX3_goOn 22 = .ok (.aload_n 0, 1) := by decide +kernel
theorem dX3_goOn_23 : decode cX3_goOn 23 = .ok (.getfield 79, 3) := by decide +kernel
theorem dX3_goOn_26 : decode cX3_goOn 26 = .ok (.if_icmp .ge 12, 3) := by decide +kernel
theorem dX3_goOn_29 : decode cX3_goOn 29 = .ok (.aload_n 0, 1) := by decide +kernel
theorem dX3_goOn_30 : decode cX3_goOn 30 = .ok (.iload_n 1, 1) := by decide +kernel
theorem dX3_goOn_31 : decode cX3_goOn 31 = .ok (.iconst 1, 1) := by decide +kernel
theorem dX3_goOn_32 : decode cX3_goOn 32 = .ok (.iadd, 1) := by decide +kernel
theorem dX3_goOn_33 : decode cX3_goOn 33 = .ok (.iconst 0, 1) := by decide +kernel
theorem dX3_goOn_34 : decode cX3_goOn 34 = .ok (.invokevirtual 101, 3) := by decide +kernel
theorem dX3_goOn_37 : decode cX3_goOn 37 = .ok (.ireturn, 1) := by decide +kernel
theorem dX3_goOn_38 : decode cX3_goOn 38 = .ok (.aload_n 0, 1) := by decide +kernel
theorem dX3_goOn_39 : decode cX3_goOn 39 = .ok (.invokevirtual 97, 3) := by decide +kernel
theorem dX3_goOn_42 : decode cX3_goOn 42 = .ok (.ifCond .eq 7, 3) := by decide +kernel
theorem dX3_goOn_45 : decode cX3_goOn 45 = .ok (.iconst 1, 1) := by decide +kernel
theorem dX3_goOn_46 : decode cX3_goOn 46 = .ok (.goto 4, 3) := by decide +kernel
theorem dX3_goOn_49 : decode cX3_goOn 49 = .ok (.iconst 0, 1) := by decide +kernel
theorem dX3_goOn_50 : decode cX3_goOn 50 = .ok (.ireturn, 1) := by decide +kernel
theorem dX3_stands_0 : decode cX3_stands 0 = .ok (.aload_n 0, 1) := by decide +kernel
theorem dX3_stands_1 : decode cX3_stands 1 = .ok (.getfield 15, 3) := by decide +kernel
theorem dX3_stands_4 : decode cX3_stands 4 = .ok (.iload_n 1, 1) := by decide +kernel
theorem dX3_stands_5 : decode cX3_stands 5 = .ok (.iaload, 1) := by decide +kernel
theorem dX3_stands_6 : decode cX3_stands 6 = .ok (.iconst 5, 1) := by decide +kernel
theorem dX3_stands_7 : decode cX3_stands 7 = .ok (.imul, 1) := by decide +kernel
theorem dX3_stands_8 : decode cX3_stands 8 = .ok (.iload_n 2, 1) := by decide +kernel
theorem dX3_stands_9 : decode cX3_stands 9 = .ok (.iadd, 1) := by decide +kernel
theorem dX3_stands_10 : decode cX3_stands 10 = .ok (.istore 4, 2) := by decide +kernel
theorem dX3_stands_12 : decode cX3_stands 12 = .ok (.aload_n 0, 1) := by decide +kernel
theorem dX3_stands_13 : decode cX3_stands 13 = .ok (.getfield 31, 3) := by decide +kernel
theorem dX3_stands_16 : decode cX3_stands 16 = .ok (.iload 4, 2) := by decide +kernel
theorem dX3_stands_18 : decode cX3_stands 18 = .ok (.iload_n 3, 1) := by decide +kernel
theorem dX3_stands_19 : decode cX3_stands 19 = .ok (.iastore, 1) := by decide +kernel
theorem dX3_stands_20 : decode cX3_stands 20 = .ok (.iload_n 2, 1) := by decide +kernel
theorem dX3_stands_21 : decode cX3_stands 21 = .ok (.ifCond .le 26, 3) := by decide +kernel
theorem dX3_stands_24 : decode cX3_stands 24 = .ok (.iload_n 3, 1) := by decide +kernel
theorem dX3_stands_25 : decode cX3_stands 25 = .ok (.aload_n 0, 1) := by decide +kernel
theorem dX3_stands_26 : decode cX3_stands 26 = .ok (.getfield 31, 3) := by decide +kernel
theorem dX3_stands_29 : decode cX3_stands 29 = .ok (.iload 4, 2) := by decide +kernel
theorem dX3_stands_31 : decode cX3_stands 31 = .ok (.iconst 1, 1) := by decide +kernel
theorem dX3_stands_32 : decode cX3_stands 32 = .ok (.isub, 1) := by decide +kernel
theorem dX3_stands_33 : decode cX3_stands 33 = .ok (.iaload, 1) := by decide +kernel
theorem dX3_stands_34 : decode cX3_stands 34 = .ok (.isub, 1) := by decide +kernel
theorem dX3_stands_35 : decode cX3_stands 35 = .ok (.invokestatic 111, 3) := by decide +kernel
theorem dX3_stands_38 : decode cX3_stands 38 = .ok (.aload_n 0, 1) := by decide +kernel
theorem dX3_stands_39 : decode cX3_stands 39 = .ok (.getfield 48, 3) := by decide +kernel
theorem dX3_stands_42 : decode cX3_stands 42 = .ok (.if_icmp .le 5, 3) := by decide +kernel
theorem dX3_stands_45 : decode cX3_stands 45 = .ok (.iconst 0, 1) := by decide +kernel
theorem dX3_stands_46 : decode cX3_stands 46 = .ok (.ireturn, 1) := by decide +kernel
theorem dX3_stands_47 : decode cX3_stands 47 = .ok (.aload_n 0, 1) := by decide +kernel
theorem dX3_stands_48 : decode cX3_stands 48 = .ok (.iload_n 1, 1) := by decide +kernel
theorem dX3_stands_49 : decode cX3_stands 49 = .ok (.iload_n 2, 1) := by decide +kernel
theorem dX3_stands_50 : decode cX3_stands 50 = .ok (.iload_n 3, 1) := by decide +kernel
theorem dX3_stands_51 : decode cX3_stands 51 = .ok (.invokevirtual 116, 3) := by decide +kernel
theorem dX3_stands_54 : decode cX3_stands 54 = .ok (.ifCond .ne 5, 3) := by decide +kernel
theorem dX3_stands_57 : decode cX3_stands 57 = .ok (.iconst 0, 1) := by decide +kernel
theorem dX3_stands_58 : decode cX3_stands 58 = .ok (.ireturn, 1) := by decide +kernel
theorem dX3_stands_59 : decode cX3_stands 59 = .ok (.iload_n 2, 1) := by decide +kernel
theorem dX3_stands_60 : decode cX3_stands 60 = .ok (.iconst 1, 1) := by decide +kernel
theorem dX3_stands_61 : decode cX3_stands 61 = .ok (.iadd, 1) := by decide +kernel
theorem dX3_stands_62 : decode cX3_stands 62 = .ok (.aload_n 0, 1) := by decide +kernel
theorem dX3_stands_63 : decode cX3_stands 63 = .ok (.getfield 45, 3) := by decide +kernel
theorem dX3_stands_66 : decode cX3_stands 66 = .ok (.if_icmp .lt 11, 3) := by decide +kernel
theorem dX3_stands_69 : decode cX3_stands 69 = .ok (.aload_n 0, 1) := by decide +kernel
theorem dX3_stands_70 : decode cX3_stands 70 = .ok (.iload_n 1, 1) := by decide +kernel
theorem dX3_stands_71 : decode cX3_stands 71 = .ok (.invokevirtual 119, 3) := by decide +kernel
theorem dX3_stands_74 : decode cX3_stands 74 = .ok (.ifCond .ne 7, 3) := by decide +kernel
theorem dX3_stands_77 : decode cX3_stands 77 = .ok (.iconst 1, 1) := by decide +kernel
theorem dX3_stands_78 : decode cX3_stands 78 = .ok (.goto 4, 3) := by decide +kernel
theorem dX3_stands_81 : decode cX3_stands 81 = .ok (.iconst 0, 1) := by decide +kernel
theorem dX3_stands_82 : decode cX3_stands 82 = .ok (.ireturn, 1) := by decide +kernel
theorem dX3_doorsTake_0 : decode cX3_doorsTake 0 = .ok (.aload_n 0, 1) := by decide +kernel
theorem dX3_doorsTake_1 : decode cX3_doorsTake 1 = .ok (.getfield 19, 3) := by decide +kernel
theorem dX3_doorsTake_4 : decode cX3_doorsTake 4 = .ok (.aload_n 0, 1) := by decide +kernel
theorem dX3_doorsTake_5 : decode cX3_doorsTake 5 = .ok (.getfield 15, 3) := by decide +kernel
theorem dX3_doorsTake_8 : decode cX3_doorsTake 8 = .ok (.iload_n 1, 1) := by decide +kernel
theorem dX3_doorsTake_9 : decode cX3_doorsTake 9 = .ok (.iaload, 1) := by decide +kernel
theorem dX3_doorsTake_10 : decode cX3_doorsTake 10 = .ok (.iaload, 1) := by decide +kernel
theorem dX3_doorsTake_11 : decode cX3_doorsTake 11 = .ok (.istore 4, 2) := by decide +kernel
theorem dX3_doorsTake_13 : decode cX3_doorsTake 13 = .ok (.iconst 0, 1) := by decide +kernel
theorem dX3_doorsTake_14 : decode cX3_doorsTake 14 = .ok (.istore 5, 2) := by decide +kernel
theorem dX3_doorsTake_16 : decode cX3_doorsTake 16 = .ok (.iload 5, 2) := by decide +kernel
theorem dX3_doorsTake_18 : decode cX3_doorsTake 18 = .ok (.aload_n 0, 1) := by decide +kernel
theorem dX3_doorsTake_19 : decode cX3_doorsTake 19 = .ok (.getfield 42, 3) := by decide +kernel
theorem dX3_doorsTake_22 : decode cX3_doorsTake 22 = .ok (.if_icmp .ge 84, 3) := by decide +kernel
theorem dX3_doorsTake_25 : decode cX3_doorsTake 25 = .ok (.iload 5, 2) := by decide +kernel
theorem dX3_doorsTake_27 : decode cX3_doorsTake 27 = .ok (.iconst 5, 1) := by decide +kernel
theorem dX3_doorsTake_28 : decode cX3_doorsTake 28 = .ok (.imul, 1) := by decide +kernel
theorem dX3_doorsTake_29 : decode cX3_doorsTake 29 = .ok (.iload_n 2, 1) := by decide +kernel
theorem dX3_doorsTake_30 : decode cX3_doorsTake 30 = .ok (.iadd, 1) := by decide +kernel
theorem dX3_doorsTake_31 : decode cX3_doorsTake 31 = .ok (.istore 6, 2) := by decide +kernel
theorem dX3_doorsTake_33 : decode cX3_doorsTake 33 = .ok (.iload_n 1, 1) := by decide +kernel
theorem dX3_doorsTake_34 : decode cX3_doorsTake 34 = .ok (.ifCond .ne 7, 3) := by decide +kernel
theorem dX3_doorsTake_37 : decode cX3_doorsTake 37 = .ok (.iconst 0, 1) := by decide +kernel
theorem dX3_doorsTake_38 : decode cX3_doorsTake 38 = .ok (.goto 14, 3) := by decide +kernel
theorem dX3_doorsTake_41 : decode cX3_doorsTake 41 = .ok (.aload_n 0, 1) := by decide +kernel
theorem dX3_doorsTake_42 : decode cX3_doorsTake 42 = .ok (.getfield 36, 3) := by decide +kernel
theorem dX3_doorsTake_45 : decode cX3_doorsTake 45 = .ok (.iload_n 1, 1) := by decide +kernel
theorem dX3_doorsTake_46 : decode cX3_doorsTake 46 = .ok (.iconst 1, 1) := by decide +kernel
theorem dX3_doorsTake_47 : decode cX3_doorsTake 47 = .ok (.isub, 1) := by decide +kernel
theorem dX3_doorsTake_48 : decode cX3_doorsTake 48 = .ok (.aaload, 1) := by decide +kernel
theorem dX3_doorsTake_49 : decode cX3_doorsTake 49 = .ok (.iload 6, 2) := by decide +kernel
theorem dX3_doorsTake_51 : decode cX3_doorsTake 51 = .ok (.iaload, 1) := by decide +kernel
theorem dX3_doorsTake_52 : decode cX3_doorsTake 52 = .ok (.istore 7, 2) := by decide +kernel
theorem dX3_doorsTake_54 : decode cX3_doorsTake 54 = .ok (.iload 4, 2) := by decide +kernel
theorem dX3_doorsTake_56 : decode cX3_doorsTake 56 = .ok (.iconst 1, 1) := by decide +kernel
theorem dX3_doorsTake_57 : decode cX3_doorsTake 57 = .ok (.iload 5, 2) := by decide +kernel
theorem dX3_doorsTake_59 : decode cX3_doorsTake 59 = .ok (.ishl, 1) := by decide +kernel
theorem dX3_doorsTake_60 : decode cX3_doorsTake 60 = .ok (.iand, 1) := by decide +kernel
theorem dX3_doorsTake_61 : decode cX3_doorsTake 61 = .ok (.ifCond .eq 28, 3) := by decide +kernel
theorem dX3_doorsTake_64 : decode cX3_doorsTake 64 = .ok (.iload 7, 2) := by decide +kernel
theorem dX3_doorsTake_66 : decode cX3_doorsTake 66 = .ok (.iconst 1, 1) := by decide +kernel
theorem dX3_doorsTake_67 : decode cX3_doorsTake 67 = .ok (.iload_n 3, 1) := by decide +kernel
theorem dX3_doorsTake_68 : decode cX3_doorsTake 68 = .ok (.ishl, 1) := by decide +kernel
theorem dX3_doorsTake_69 : decode cX3_doorsTake 69 = .ok (.ior, 1) := by decide +kernel
theorem dX3_doorsTake_70 : decode cX3_doorsTake 70 = .ok (.istore 7, 2) := by decide +kernel
theorem dX3_doorsTake_72 : decode cX3_doorsTake 72 = .ok (.iload 7, 2) := by decide +kernel
theorem dX3_doorsTake_74 : decode cX3_doorsTake 74 = .ok (.invokestatic 122, 3) := by decide +kernel
theorem dX3_doorsTake_77 : decode cX3_doorsTake 77 = .ok (.aload_n 0, 1) := by decide +kernel
theorem dX3_doorsTake_78 : decode cX3_doorsTake 78 = .ok (.getfield 25, 3) := by decide +kernel
theorem dX3_doorsTake_81 : decode cX3_doorsTake 81 = .ok (.iload 5, 2) := by decide +kernel
theorem dX3_doorsTake_83 : decode cX3_doorsTake 83 = .ok (.iaload, 1) := by decide +kernel
theorem dX3_doorsTake_84 : decode cX3_doorsTake 84 = .ok (.if_icmp .le 5, 3) := by decide +kernel
theorem dX3_doorsTake_87 : decode cX3_doorsTake 87 = .ok (.iconst 0, 1) := by decide +kernel
theorem dX3_doorsTake_88 : decode cX3_doorsTake 88 = .ok (.ireturn, 1) := by decide +kernel
theorem dX3_doorsTake_89 : decode cX3_doorsTake 89 = .ok (.aload_n 0, 1) := by decide +kernel
theorem dX3_doorsTake_90 : decode cX3_doorsTake 90 = .ok (.getfield 36, 3) := by decide +kernel
theorem dX3_doorsTake_93 : decode cX3_doorsTake 93 = .ok (.iload_n 1, 1) := by decide +kernel
theorem dX3_doorsTake_94 : decode cX3_doorsTake 94 = .ok (.aaload, 1) := by decide +kernel
theorem dX3_doorsTake_95 : decode cX3_doorsTake 95 = .ok (.iload 6, 2) := by decide +kernel
theorem dX3_doorsTake_97 : decode cX3_doorsTake 97 = .ok (.iload 7, 2) := by decide +kernel
theorem dX3_doorsTake_99 : decode cX3_doorsTake 99 = .ok (.iastore, 1) := by decide +kernel
theorem dX3_doorsTake_100 : decode cX3_doorsTake 100 = .ok (.iinc 5 1, 3) := by decide +kernel
theorem dX3_doorsTake_103 : decode cX3_doorsTake 103 = .ok (.goto (-87), 3) := by decide +kernel
theorem dX3_doorsTake_106 : decode cX3_doorsTake 106 = .ok (.iconst 1, 1) := by decide +kernel
theorem dX3_doorsTake_107 : decode cX3_doorsTake 107 = .ok (.ireturn, 1) := by decide +kernel
theorem dX3_isCutAlready_0 : decode cX3_isCutAlready 0 = .ok (.aload_n 0, 1) := by decide +kernel
theorem dX3_isCutAlready_1 : decode cX3_isCutAlready 1 = .ok (.getfield 15, 3) := by decide +kernel
theorem dX3_isCutAlready_4 : decode cX3_isCutAlready 4 = .ok (.iload_n 1, 1) := by decide +kernel
theorem dX3_isCutAlready_5 : decode cX3_isCutAlready 5 = .ok (.iaload, 1) := by decide +kernel
theorem dX3_isCutAlready_6 : decode cX3_isCutAlready 6 = .ok (.istore_n 2, 1) := by decide +kernel
theorem dX3_isCutAlready_7 : decode cX3_isCutAlready 7 = .ok (.iconst 0, 1) := by decide +kernel
theorem dX3_isCutAlready_8 : decode cX3_isCutAlready 8 = .ok (.istore_n 3, 1) := by decide +kernel
theorem dX3_isCutAlready_9 : decode cX3_isCutAlready 9 = .ok (.iload_n 3, 1) := by decide +kernel
theorem dX3_isCutAlready_10 : decode cX3_isCutAlready 10 = .ok (.iload_n 1, 1) := by decide +kernel
theorem dX3_isCutAlready_11 : decode cX3_isCutAlready 11 = .ok (.if_icmp .ge 25, 3) := by decide +kernel
theorem dX3_isCutAlready_14 : decode cX3_isCutAlready 14 = .ok (.aload_n 0, 1) := by decide +kernel
theorem dX3_isCutAlready_15 : decode cX3_isCutAlready 15 = .ok (.aload_n 0, 1) := by decide +kernel
theorem dX3_isCutAlready_16 : decode cX3_isCutAlready 16 = .ok (.getfield 15, 3) := by decide +kernel
theorem dX3_isCutAlready_19 : decode cX3_isCutAlready 19 = .ok (.iload_n 3, 1) := by decide +kernel
theorem dX3_isCutAlready_20 : decode cX3_isCutAlready 20 = .ok (.iaload, 1) := by decide +kernel
theorem dX3_isCutAlready_21 : decode cX3_isCutAlready 21 = .ok (.iload_n 2, 1) := by decide +kernel
theorem dX3_isCutAlready_22 : decode cX3_isCutAlready 22 = .ok (.invokevirtual 127, 3) := by decide +kernel
theorem dX3_isCutAlready_25 : decode cX3_isCutAlready 25 = .ok (.ifCond .eq 5, 3) := by decide +kernel
theorem dX3_isCutAlready_28 : decode cX3_isCutAlready 28 = .ok (.iconst 1, 1) := by decide +kernel
theorem dX3_isCutAlready_29 : decode cX3_isCutAlready 29 = .ok (.ireturn, 1) := by decide +kernel
theorem dX3_isCutAlready_30 : decode cX3_isCutAlready 30 = .ok (.iinc 3 1, 3) := by decide +kernel
theorem dX3_isCutAlready_33 : decode cX3_isCutAlready 33 = .ok (.goto (-24), 3) := by decide +kernel
theorem dX3_isCutAlready_36 : decode cX3_isCutAlready 36 = .ok (.aload_n 0, 1) := by decide +kernel
theorem dX3_isCutAlready_37 : decode cX3_isCutAlready 37 = .ok (.getfield 76, 3) := by decide +kernel
theorem dX3_isCutAlready_40 : decode cX3_isCutAlready 40 = .ok (.iconst (-1), 1) := by decide +kernel
theorem dX3_isCutAlready_41 : decode cX3_isCutAlready 41 = .ok (.if_icmp .eq 19, 3) := by decide +kernel
theorem dX3_isCutAlready_44 : decode cX3_isCutAlready 44 = .ok (.aload_n 0, 1) := by decide +kernel
theorem dX3_isCutAlready_45 : decode cX3_isCutAlready 45 = .ok (.aload_n 0, 1) := by decide +kernel
theorem dX3_isCutAlready_46 : decode cX3_isCutAlready 46 = .ok (.getfield 76, 3) := by decide +kernel
theorem dX3_isCutAlready_49 : decode cX3_isCutAlready 49 = .ok (.iload_n 2, 1) := by decide +kernel
theorem dX3_isCutAlready_50 : decode cX3_isCutAlready 50 = .ok (.invokevirtual 127, 3) := by decide +kernel
theorem dX3_isCutAlready_53 : decode cX3_isCutAlready 53 = .ok (.ifCond .eq 7, 3) := by decide +kernel
theorem dX3_isCutAlready_56 : decode cX3_isCutAlready 56 = .ok (.iconst 1, 1) := by decide +kernel
theorem dX3_isCutAlready_57 : decode cX3_isCutAlready 57 = .ok (.goto 4, 3) := by decide +kernel
theorem dX3_isCutAlready_60 : decode cX3_isCutAlready 60 = .ok (.iconst 0, 1) := by decide +kernel
theorem dX3_isCutAlready_61 : decode cX3_isCutAlready 61 = .ok (.ireturn, 1) := by decide +kernel
theorem dX3_haveSameCuts_0 : decode cX3_haveSameCuts 0 = .ok (.iconst 0, 1) := by decide +kernel
theorem dX3_haveSameCuts_1 : decode cX3_haveSameCuts 1 = .ok (.istore_n 3, 1) := by decide +kernel
theorem dX3_haveSameCuts_2 : decode cX3_haveSameCuts 2 = .ok (.iload_n 3, 1) := by decide +kernel
theorem dX3_haveSameCuts_3 : decode cX3_haveSameCuts 3 = .ok (.aload_n 0, 1) := by decide +kernel
theorem dX3_haveSameCuts_4 : decode cX3_haveSameCuts 4 = .ok (.getfield 45, 3) := by decide +kernel
theorem dX3_haveSameCuts_7 : decode cX3_haveSameCuts 7 = .ok (.if_icmp .ge 34, 3) := by decide +kernel
theorem dX3_haveSameCuts_10 : decode cX3_haveSameCuts 10 = .ok (.aload_n 0, 1) := by decide +kernel
theorem dX3_haveSameCuts_11 : decode cX3_haveSameCuts 11 = .ok (.getfield 31, 3) := by decide +kernel
theorem dX3_haveSameCuts_14 : decode cX3_haveSameCuts 14 = .ok (.iload_n 1, 1) := by decide +kernel
theorem dX3_haveSameCuts_15 : decode cX3_haveSameCuts 15 = .ok (.iconst 5, 1) := by decide +kernel
theorem dX3_haveSameCuts_16 : decode cX3_haveSameCuts 16 = .ok (.imul, 1) := by decide +kernel
theorem dX3_haveSameCuts_17 : decode cX3_haveSameCuts 17 = .ok (.iload_n 3, 1) := by decide +kernel
theorem dX3_haveSameCuts_18 : decode cX3_haveSameCuts 18 = .ok (.iadd, 1) := by decide +kernel
theorem dX3_haveSameCuts_19 : decode cX3_haveSameCuts 19 = .ok (.iaload, 1) := by decide +kernel
theorem dX3_haveSameCuts_20 : decode cX3_haveSameCuts 20 = .ok (.aload_n 0, 1) := by decide +kernel
theorem dX3_haveSameCuts_21 : decode cX3_haveSameCuts 21 = .ok (.getfield 31, 3) := by decide +kernel
theorem dX3_haveSameCuts_24 : decode cX3_haveSameCuts 24 = .ok (.iload_n 2, 1) := by decide +kernel
theorem dX3_haveSameCuts_25 : decode cX3_haveSameCuts 25 = .ok (.iconst 5, 1) := by decide +kernel
theorem dX3_haveSameCuts_26 : decode cX3_haveSameCuts 26 = .ok (.imul, 1) := by decide +kernel
theorem dX3_haveSameCuts_27 : decode cX3_haveSameCuts 27 = .ok (.iload_n 3, 1) := by decide +kernel
theorem dX3_haveSameCuts_28 : decode cX3_haveSameCuts 28 = .ok (.iadd, 1) := by decide +kernel
theorem dX3_haveSameCuts_29 : decode cX3_haveSameCuts 29 = .ok (.iaload, 1) := by decide +kernel
theorem dX3_haveSameCuts_30 : decode cX3_haveSameCuts 30 = .ok (.if_icmp .eq 5, 3) := by decide +kernel
theorem dX3_haveSameCuts_33 : decode cX3_haveSameCuts 33 = .ok (.iconst 0, 1) := by decide +kernel
theorem dX3_haveSameCuts_34 : decode cX3_haveSameCuts 34 = .ok (.ireturn, 1) := by decide +kernel
theorem dX3_haveSameCuts_35 : decode cX3_haveSameCuts 35 = .ok (.iinc 3 1, 3) := by decide +kernel
theorem dX3_haveSameCuts_38 : decode cX3_haveSameCuts 38 = .ok (.goto (-36), 3) := by decide +kernel
theorem dX3_haveSameCuts_41 : decode cX3_haveSameCuts 41 = .ok (.iconst 1, 1) := by decide +kernel
theorem dX3_haveSameCuts_42 : decode cX3_haveSameCuts 42 = .ok (.ireturn, 1) := by decide +kernel
theorem dX3_everyNeverIsMet_0 : decode cX3_everyNeverIsMet 0 = .ok (.iconst 0, 1) := by decide +kernel
theorem dX3_everyNeverIsMet_1 : decode cX3_everyNeverIsMet 1 = .ok (.istore_n 1, 1) := by decide +kernel
theorem dX3_everyNeverIsMet_2 : decode cX3_everyNeverIsMet 2 = .ok (.iload_n 1, 1) := by decide +kernel
theorem dX3_everyNeverIsMet_3 : decode cX3_everyNeverIsMet 3 = .ok (.aload_n 0, 1) := by decide +kernel
theorem dX3_everyNeverIsMet_4 : decode cX3_everyNeverIsMet 4 = .ok (.getfield 39, 3) := by decide +kernel
theorem dX3_everyNeverIsMet_7 : decode cX3_everyNeverIsMet 7 = .ok (.if_icmp .ge 49, 3) := by decide +kernel
theorem dX3_everyNeverIsMet_10 : decode cX3_everyNeverIsMet 10 = .ok (.iconst 0, 1) := by decide +kernel
theorem dX3_everyNeverIsMet_11 : decode cX3_everyNeverIsMet 11 = .ok (.istore_n 2, 1) := by decide +kernel
theorem dX3_everyNeverIsMet_12 : decode cX3_everyNeverIsMet 12 = .ok (.iload_n 2, 1) := by decide +kernel
theorem dX3_everyNeverIsMet_13 : decode cX3_everyNeverIsMet 13 = .ok (.aload_n 0, 1) := by decide +kernel
theorem dX3_everyNeverIsMet_14 : decode cX3_everyNeverIsMet 14 = .ok (.getfield 42, 3) := by decide +kernel
theorem dX3_everyNeverIsMet_17 : decode cX3_everyNeverIsMet 17 = .ok (.if_icmp .ge 33, 3) := by decide +kernel
theorem dX3_everyNeverIsMet_20 : decode cX3_everyNeverIsMet 20 = .ok (.aload_n 0, 1) := by decide +kernel
theorem dX3_everyNeverIsMet_21 : decode cX3_everyNeverIsMet 21 = .ok (.getfield 22, 3) := by decide +kernel
theorem dX3_everyNeverIsMet_24 : decode cX3_everyNeverIsMet 24 = .ok (.iload_n 1, 1) := by decide +kernel
theorem dX3_everyNeverIsMet_25 : decode cX3_everyNeverIsMet 25 = .ok (.iaload, 1) := by decide +kernel
theorem dX3_everyNeverIsMet_26 : decode cX3_everyNeverIsMet 26 = .ok (.iconst 1, 1) := by decide +kernel
theorem dX3_everyNeverIsMet_27 : decode cX3_everyNeverIsMet 27 = .ok (.iload_n 2, 1) := by decide +kernel
theorem dX3_everyNeverIsMet_28 : decode cX3_everyNeverIsMet 28 = .ok (.ishl, 1) := by decide +kernel
theorem dX3_everyNeverIsMet_29 : decode cX3_everyNeverIsMet 29 = .ok (.iand, 1) := by decide +kernel
theorem dX3_everyNeverIsMet_30 : decode cX3_everyNeverIsMet 30 = .ok (.ifCond .eq 14, 3) := by decide +kernel
theorem dX3_everyNeverIsMet_33 : decode cX3_everyNeverIsMet 33 = .ok (.aload_n 0, 1) := by decide +kernel
theorem dX3_everyNeverIsMet_34 : decode cX3_everyNeverIsMet 34 = .ok (.iload_n 1, 1) := by decide +kernel
theorem dX3_everyNeverIsMet_35 : decode cX3_everyNeverIsMet 35 = .ok (.iload_n 2, 1) := by decide +kernel
theorem dX3_everyNeverIsMet_36 : decode cX3_everyNeverIsMet 36 = .ok (.invokevirtual 131, 3) := by decide +kernel
theorem dX3_everyNeverIsMet_39 : decode cX3_everyNeverIsMet 39 = .ok (.ifCond .ne 5, 3) := by decide +kernel
theorem dX3_everyNeverIsMet_42 : decode cX3_everyNeverIsMet 42 = .ok (.iconst 0, 1) := by decide +kernel
theorem dX3_everyNeverIsMet_43 : decode cX3_everyNeverIsMet 43 = .ok (.ireturn, 1) := by decide +kernel
theorem dX3_everyNeverIsMet_44 : decode cX3_everyNeverIsMet 44 = .ok (.iinc 2 1, 3) := by decide +kernel
theorem dX3_everyNeverIsMet_47 : decode cX3_everyNeverIsMet 47 = .ok (.goto (-35), 3) := by decide +kernel
theorem dX3_everyNeverIsMet_50 : decode cX3_everyNeverIsMet 50 = .ok (.iinc 1 1, 3) := by decide +kernel
theorem dX3_everyNeverIsMet_53 : decode cX3_everyNeverIsMet 53 = .ok (.goto (-51), 3) := by decide +kernel
theorem dX3_everyNeverIsMet_56 : decode cX3_everyNeverIsMet 56 = .ok (.iconst 1, 1) := by decide +kernel
theorem dX3_everyNeverIsMet_57 : decode cX3_everyNeverIsMet 57 = .ok (.ireturn, 1) := by decide +kernel
theorem dX3_isBarred_0 : decode cX3_isBarred 0 = .ok (.aload_n 0, 1) := by decide +kernel
theorem dX3_isBarred_1 : decode cX3_isBarred 1 = .ok (.getfield 51, 3) := by decide +kernel
theorem dX3_isBarred_4 : decode cX3_isBarred 4 = .ok (.iconst 1, 1) := by decide +kernel
theorem dX3_isBarred_5 : decode cX3_isBarred 5 = .ok (.iload_n 2, 1) := by decide +kernel
theorem dX3_isBarred_6 : decode cX3_isBarred 6 = .ok (.ishl, 1) := by decide +kernel
theorem dX3_isBarred_7 : decode cX3_isBarred 7 = .ok (.iand, 1) := by decide +kernel
theorem dX3_isBarred_8 : decode cX3_isBarred 8 = .ok (.ifCond .eq 5, 3) := by decide +kernel
theorem dX3_isBarred_11 : decode cX3_isBarred 11 = .ok (.iconst 1, 1) := by decide +kernel
theorem dX3_isBarred_12 : decode cX3_isBarred 12 = .ok (.ireturn, 1) := by decide +kernel
theorem dX3_isBarred_13 : decode cX3_isBarred 13 = .ok (.aload_n 0, 1) := by decide +kernel
theorem dX3_isBarred_14 : decode cX3_isBarred 14 = .ok (.iload_n 2, 1) := by decide +kernel
theorem dX3_isBarred_15 : decode cX3_isBarred 15 = .ok (.invokevirtual 134, 3) := by decide +kernel
theorem dX3_isBarred_18 : decode cX3_isBarred 18 = .ok (.ifCond .eq 17, 3) := by decide +kernel
theorem dX3_isBarred_21 : decode cX3_isBarred 21 = .ok (.aload_n 0, 1) := by decide +kernel
theorem dX3_isBarred_22 : decode cX3_isBarred 22 = .ok (.getfield 36, 3) := by decide +kernel
theorem dX3_isBarred_25 : decode cX3_isBarred 25 = .ok (.aload_n 0, 1) := by decide +kernel
theorem dX3_isBarred_26 : decode cX3_isBarred 26 = .ok (.getfield 79, 3) := by decide +kernel
theorem dX3_isBarred_29 : decode cX3_isBarred 29 = .ok (.iconst 1, 1) := by decide +kernel
theorem dX3_isBarred_30 : decode cX3_isBarred 30 = .ok (.isub, 1) := by decide +kernel
theorem dX3_isBarred_31 : decode cX3_isBarred 31 = .ok (.aaload, 1) := by decide +kernel
theorem dX3_isBarred_32 : decode cX3_isBarred 32 = .ok (.goto 7, 3) := by decide +kernel
theorem dX3_isBarred_35 : decode cX3_isBarred 35 = .ok (.aload_n 0, 1) := by decide +kernel
theorem dX3_isBarred_36 : decode cX3_isBarred 36 = .ok (.getfield 28, 3) := by decide +kernel
theorem dX3_isBarred_39 : decode cX3_isBarred 39 = .ok (.astore_n 3, 1) := by decide +kernel
theorem dX3_isBarred_40 : decode cX3_isBarred 40 = .ok (.iconst 0, 1) := by decide +kernel
theorem dX3_isBarred_41 : decode cX3_isBarred 41 = .ok (.istore 4, 2) := by decide +kernel
theorem dX3_isBarred_43 : decode cX3_isBarred 43 = .ok (.iload 4, 2) := by decide +kernel
theorem dX3_isBarred_45 : decode cX3_isBarred 45 = .ok (.aload_n 0, 1) := by decide +kernel
theorem dX3_isBarred_46 : decode cX3_isBarred 46 = .ok (.getfield 45, 3) := by decide +kernel
theorem dX3_isBarred_49 : decode cX3_isBarred 49 = .ok (.if_icmp .ge 45, 3) := by decide +kernel
theorem dX3_isBarred_52 : decode cX3_isBarred 52 = .ok (.aload_n 3, 1) := by decide +kernel
theorem dX3_isBarred_53 : decode cX3_isBarred 53 = .ok (.iload_n 2, 1) := by decide +kernel
theorem dX3_isBarred_54 : decode cX3_isBarred 54 = .ok (.iconst 5, 1) := by decide +kernel
theorem dX3_isBarred_55 : decode cX3_isBarred 55 = .ok (.imul, 1) := by decide +kernel
theorem dX3_isBarred_56 : decode cX3_isBarred 56 = .ok (.iload 4, 2) := by decide +kernel
theorem dX3_isBarred_58 : decode cX3_isBarred 58 = .ok (.iadd, 1) := by decide +kernel
theorem dX3_isBarred_59 : decode cX3_isBarred 59 = .ok (.iaload, 1) := by decide +kernel
theorem dX3_isBarred_60 : decode cX3_isBarred 60 = .ok (.istore 5, 2) := by decide +kernel
theorem dX3_isBarred_62 : decode cX3_isBarred 62 = .ok (.iload 5, 2) := by decide +kernel
theorem dX3_isBarred_64 : decode cX3_isBarred 64 = .ok (.ifCond .eq 24, 3) := by decide +kernel
theorem dX3_isBarred_67 : decode cX3_isBarred 67 = .ok (.iload 5, 2) := by decide +kernel
theorem dX3_isBarred_69 : decode cX3_isBarred 69 = .ok (.iconst 1, 1) := by decide +kernel
theorem dX3_isBarred_70 : decode cX3_isBarred 70 = .ok (.aload_n 0, 1) := by decide +kernel
theorem dX3_isBarred_71 : decode cX3_isBarred 71 = .ok (.getfield 31, 3) := by decide +kernel
theorem dX3_isBarred_74 : decode cX3_isBarred 74 = .ok (.iload_n 1, 1) := by decide +kernel
theorem dX3_isBarred_75 : decode cX3_isBarred 75 = .ok (.iconst 5, 1) := by decide +kernel
theorem dX3_isBarred_76 : decode cX3_isBarred 76 = .ok (.imul, 1) := by decide +kernel
theorem dX3_isBarred_77 : decode cX3_isBarred 77 = .ok (.iload 4, 2) := by decide +kernel
theorem dX3_isBarred_79 : decode cX3_isBarred 79 = .ok (.iadd, 1) := by decide +kernel
theorem dX3_isBarred_80 : decode cX3_isBarred 80 = .ok (.iaload, 1) := by decide +kernel
theorem dX3_isBarred_81 : decode cX3_isBarred 81 = .ok (.ishl, 1) := by decide +kernel
theorem dX3_isBarred_82 : decode cX3_isBarred 82 = .ok (.iand, 1) := by decide +kernel
theorem dX3_isBarred_83 : decode cX3_isBarred 83 = .ok (.ifCond .ne 5, 3) := by decide +kernel
theorem dX3_isBarred_86 : decode cX3_isBarred 86 = .ok (.iconst 1, 1) := by decide +kernel
theorem dX3_isBarred_87 : decode cX3_isBarred 87 = .ok (.ireturn, 1) := by decide +kernel
theorem dX3_isBarred_88 : decode cX3_isBarred 88 = .ok (.iinc 4 1, 3) := by decide +kernel
theorem dX3_isBarred_91 : decode cX3_isBarred 91 = .ok (.goto (-48), 3) := by decide +kernel
theorem dX3_isBarred_94 : decode cX3_isBarred 94 = .ok (.iconst 0, 1) := by decide +kernel
theorem dX3_isBarred_95 : decode cX3_isBarred 95 = .ok (.ireturn, 1) := by decide +kernel
theorem dX3_isOpened_0 : decode cX3_isOpened 0 = .ok (.aload_n 0, 1) := by decide +kernel
theorem dX3_isOpened_1 : decode cX3_isOpened 1 = .ok (.getfield 79, 3) := by decide +kernel
theorem dX3_isOpened_4 : decode cX3_isOpened 4 = .ok (.ifCond .le 18, 3) := by decide +kernel
theorem dX3_isOpened_7 : decode cX3_isOpened 7 = .ok (.aload_n 0, 1) := by decide +kernel
theorem dX3_isOpened_8 : decode cX3_isOpened 8 = .ok (.getfield 82, 3) := by decide +kernel
theorem dX3_isOpened_11 : decode cX3_isOpened 11 = .ok (.iconst 1, 1) := by decide +kernel
theorem dX3_isOpened_12 : decode cX3_isOpened 12 = .ok (.iload_n 1, 1) := by decide +kernel
theorem dX3_isOpened_13 : decode cX3_isOpened 13 = .ok (.ishl, 1) := by decide +kernel
theorem dX3_isOpened_14 : decode cX3_isOpened 14 = .ok (.iand, 1) := by decide +kernel
theorem dX3_isOpened_15 : decode cX3_isOpened 15 = .ok (.ifCond .eq 7, 3) := by decide +kernel
theorem dX3_isOpened_18 : decode cX3_isOpened 18 = .ok (.iconst 1, 1) := by decide +kernel
theorem dX3_isOpened_19 : decode cX3_isOpened 19 = .ok (.goto 4, 3) := by decide +kernel
theorem dX3_isOpened_22 : decode cX3_isOpened 22 = .ok (.iconst 0, 1) := by decide +kernel
theorem dX3_isOpened_23 : decode cX3_isOpened 23 = .ok (.ireturn, 1) := by decide +kernel
theorem dX3_carryOut_0 : decode cX3_carryOut 0 = .ok (.iconst 0, 1) := by decide +kernel
theorem dX3_carryOut_1 : decode cX3_carryOut 1 = .ok (.istore_n 2, 1) := by decide +kernel
theorem dX3_carryOut_2 : decode cX3_carryOut 2 = .ok (.iload_n 2, 1) := by decide +kernel
theorem dX3_carryOut_3 : decode cX3_carryOut 3 = .ok (.aload_n 0, 1) := by decide +kernel
theorem dX3_carryOut_4 : decode cX3_carryOut 4 = .ok (.getfield 79, 3) := by decide +kernel
theorem dX3_carryOut_7 : decode cX3_carryOut 7 = .ok (.if_icmp .ge 68, 3) := by decide +kernel
theorem dX3_carryOut_10 : decode cX3_carryOut 10 = .ok (.aload_n 0, 1) := by decide +kernel
theorem dX3_carryOut_11 : decode cX3_carryOut 11 = .ok (.getfield 15, 3) := by decide +kernel
theorem dX3_carryOut_14 : decode cX3_carryOut 14 = .ok (.iload_n 2, 1) := by decide +kernel
theorem dX3_carryOut_15 : decode cX3_carryOut 15 = .ok (.iaload, 1) := by decide +kernel
theorem dX3_carryOut_16 : decode cX3_carryOut 16 = .ok (.istore_n 3, 1) := by decide +kernel
theorem dX3_carryOut_17 : decode cX3_carryOut 17 = .ok (.aload_n 1, 1) := by decide +kernel
theorem dX3_carryOut_18 : decode cX3_carryOut 18 = .ok (.getfield 137, 3) := by decide +kernel
theorem dX3_carryOut_21 : decode cX3_carryOut 21 = .ok (.getfield 140, 3) := by decide +kernel
theorem dX3_carryOut_24 : decode cX3_carryOut 24 = .ok (.iload_n 3, 1) := by decide +kernel
theorem dX3_carryOut_25 : decode cX3_carryOut 25 = .ok (.aload_n 0, 1) := by decide +kernel
theorem dX3_carryOut_26 : decode cX3_carryOut 26 = .ok (.getfield 45, 3) := by decide +kernel
theorem dX3_carryOut_29 : decode cX3_carryOut 29 = .ok (.iastore, 1) := by decide +kernel
theorem dX3_carryOut_30 : decode cX3_carryOut 30 = .ok (.iconst 0, 1) := by decide +kernel
theorem dX3_carryOut_31 : decode cX3_carryOut 31 = .ok (.istore 4, 2) := by decide +kernel
theorem dX3_carryOut_33 : decode cX3_carryOut 33 = .ok (.iload 4, 2) := by decide +kernel
theorem dX3_carryOut_35 : decode cX3_carryOut 35 = .ok (.aload_n 0, 1) := by decide +kernel
theorem dX3_carryOut_36 : decode cX3_carryOut 36 = .ok (.getfield 45, 3) := by decide +kernel
theorem dX3_carryOut_39 : decode cX3_carryOut 39 = .ok (.if_icmp .ge 30, 3) := by decide +kernel
theorem dX3_carryOut_42 : decode cX3_carryOut 42 = .ok (.aload_n 1, 1) := by decide +kernel
theorem dX3_carryOut_43 : decode cX3_carryOut 43 = .ok (.getfield 137, 3) := by decide +kernel
theorem dX3_carryOut_46 : decode cX3_carryOut 46 = .ok (.iload_n 3, 1) := by decide +kernel
theorem dX3_carryOut_47 : decode cX3_carryOut 47 = .ok (.iload 4, 2) := by decide +kernel
theorem dX3_carryOut_49 : decode cX3_carryOut 49 = .ok (.aload_n 0, 1) := by decide +kernel
theorem dX3_carryOut_50 : decode cX3_carryOut 50 = .ok (.getfield 31, 3) := by decide +kernel
theorem dX3_carryOut_53 : decode cX3_carryOut 53 = .ok (.iload_n 3, 1) := by decide +kernel
theorem dX3_carryOut_54 : decode cX3_carryOut 54 = .ok (.iconst 5, 1) := by decide +kernel
theorem dX3_carryOut_55 : decode cX3_carryOut 55 = .ok (.imul, 1) := by decide +kernel
theorem dX3_carryOut_56 : decode cX3_carryOut 56 = .ok (.iload 4, 2) := by decide +kernel
theorem dX3_carryOut_58 : decode cX3_carryOut 58 = .ok (.iadd, 1) := by decide +kernel
theorem dX3_carryOut_59 : decode cX3_carryOut 59 = .ok (.iaload, 1) := by decide +kernel
theorem dX3_carryOut_60 : decode cX3_carryOut 60 = .ok (.invokevirtual 143, 3) := by decide +kernel
theorem dX3_carryOut_63 : decode cX3_carryOut 63 = .ok (.iinc 4 1, 3) := by decide +kernel
theorem dX3_carryOut_66 : decode cX3_carryOut 66 = .ok (.goto (-33), 3) := by decide +kernel
theorem dX3_carryOut_69 : decode cX3_carryOut 69 = .ok (.iinc 2 1, 3) := by decide +kernel
theorem dX3_carryOut_72 : decode cX3_carryOut 72 = .ok (.goto (-70), 3) := by decide +kernel
theorem dX3_carryOut_75 : decode cX3_carryOut 75 = .ok (.iconst 0, 1) := by decide +kernel
theorem dX3_carryOut_76 : decode cX3_carryOut 76 = .ok (.istore_n 2, 1) := by decide +kernel
theorem dX3_carryOut_77 : decode cX3_carryOut 77 = .ok (.iload_n 2, 1) := by decide +kernel
theorem dX3_carryOut_78 : decode cX3_carryOut 78 = .ok (.aload_n 0, 1) := by decide +kernel
theorem dX3_carryOut_79 : decode cX3_carryOut 79 = .ok (.getfield 42, 3) := by decide +kernel
theorem dX3_carryOut_82 : decode cX3_carryOut 82 = .ok (.if_icmp .ge 32, 3) := by decide +kernel
theorem dX3_carryOut_85 : decode cX3_carryOut 85 = .ok (.aload_n 0, 1) := by decide +kernel
theorem dX3_carryOut_86 : decode cX3_carryOut 86 = .ok (.iload_n 2, 1) := by decide +kernel
theorem dX3_carryOut_87 : decode cX3_carryOut 87 = .ok (.invokevirtual 134, 3) := by decide +kernel
theorem dX3_carryOut_90 : decode cX3_carryOut 90 = .ok (.ifCond .eq 18, 3) := by decide +kernel
theorem dX3_carryOut_93 : decode cX3_carryOut 93 = .ok (.aload_n 0, 1) := by decide +kernel
theorem dX3_carryOut_94 : decode cX3_carryOut 94 = .ok (.aload_n 1, 1) := by decide +kernel
theorem dX3_carryOut_95 : decode cX3_carryOut 95 = .ok (.getfield 59, 3) := by decide +kernel
theorem dX3_carryOut_98 : decode cX3_carryOut 98 = .ok (.aload_n 1, 1) := by decide +kernel
theorem dX3_carryOut_99 : decode cX3_carryOut 99 = .ok (.getfield 54, 3) := by decide +kernel
theorem dX3_carryOut_102 : decode cX3_carryOut 102 = .ok (.iload_n 2, 1) := by decide +kernel
theorem dX3_carryOut_103 : decode cX3_carryOut 103 = .ok (.iaload, 1) := by decide +kernel
theorem dX3_carryOut_104 : decode cX3_carryOut 104 = .ok (.iload_n 2, 1) := by decide +kernel
theorem dX3_carryOut_105 : decode cX3_carryOut 105 = .ok (.invokevirtual 147, 3) := by decide +kernel
theorem dX3_carryOut_108 : decode cX3_carryOut 108 = .ok (.iinc 2 1, 3) := by decide +kernel
theorem dX3_carryOut_111 : decode cX3_carryOut 111 = .ok (.goto (-34), 3) := by decide +kernel
theorem dX3_carryOut_114 : decode cX3_carryOut 114 = .ok (.return_, 1) := by decide +kernel
theorem dX3_fillChambers_0 : decode cX3_fillChambers 0 = .ok (.iconst 0, 1) := by decide +kernel
theorem dX3_fillChambers_1 : decode cX3_fillChambers 1 = .ok (.istore 4, 2) := by decide +kernel
theorem dX3_fillChambers_3 : decode cX3_fillChambers 3 = .ok (.iload 4, 2) := by decide +kernel
theorem dX3_fillChambers_5 : decode cX3_fillChambers 5 = .ok (.aload_n 0, 1) := by decide +kernel
theorem dX3_fillChambers_6 : decode cX3_fillChambers 6 = .ok (.getfield 45, 3) := by decide +kernel
theorem dX3_fillChambers_9 : decode cX3_fillChambers 9 = .ok (.if_icmp .ge 34, 3) := by decide +kernel
theorem dX3_fillChambers_12 : decode cX3_fillChambers 12 = .ok (.aload_n 1, 1) := by decide +kernel
theorem dX3_fillChambers_13 : decode cX3_fillChambers 13 = .ok (.iload_n 2, 1) := by decide +kernel
theorem dX3_fillChambers_14 : decode cX3_fillChambers 14 = .ok (.iload 4, 2) := by decide +kernel
theorem dX3_fillChambers_16 : decode cX3_fillChambers 16 = .ok (.aload_n 0, 1) := by decide +kernel
theorem dX3_fillChambers_17 : decode cX3_fillChambers 17 = .ok (.getfield 36, 3) := by decide +kernel
theorem dX3_fillChambers_20 : decode cX3_fillChambers 20 = .ok (.aload_n 0, 1) := by decide +kernel
theorem dX3_fillChambers_21 : decode cX3_fillChambers 21 = .ok (.getfield 79, 3) := by decide +kernel
theorem dX3_fillChambers_24 : decode cX3_fillChambers 24 = .ok (.iconst 1, 1) := by decide +kernel
theorem dX3_fillChambers_25 : decode cX3_fillChambers 25 = .ok (.isub, 1) := by decide +kernel
theorem dX3_fillChambers_26 : decode cX3_fillChambers 26 = .ok (.aaload, 1) := by decide +kernel
theorem dX3_fillChambers_27 : decode cX3_fillChambers 27 = .ok (.iload_n 3, 1) := by decide +kernel
theorem dX3_fillChambers_28 : decode cX3_fillChambers 28 = .ok (.iconst 5, 1) := by decide +kernel
theorem dX3_fillChambers_29 : decode cX3_fillChambers 29 = .ok (.imul, 1) := by decide +kernel
theorem dX3_fillChambers_30 : decode cX3_fillChambers 30 = .ok (.iload 4, 2) := by decide +kernel
theorem dX3_fillChambers_32 : decode cX3_fillChambers 32 = .ok (.iadd, 1) := by decide +kernel
theorem dX3_fillChambers_33 : decode cX3_fillChambers 33 = .ok (.iaload, 1) := by decide +kernel
theorem dX3_fillChambers_34 : decode cX3_fillChambers 34 = .ok (.invokevirtual 151, 3) := by decide +kernel
theorem dX3_fillChambers_37 : decode cX3_fillChambers 37 = .ok (.iinc 4 1, 3) := by decide +kernel
theorem dX3_fillChambers_40 : decode cX3_fillChambers 40 = .ok (.goto (-37), 3) := by decide +kernel
theorem dX3_fillChambers_43 : decode cX3_fillChambers 43 = .ok (.return_, 1) := by decide +kernel
theorem dX4_init_0 : decode cX4_init 0 = .ok (.aload_n 0, 1) := by decide +kernel
theorem dX4_init_1 : decode cX4_init 1 = .ok (.invokespecial 3, 3) := by decide +kernel
theorem dX4_init_4 : decode cX4_init 4 = .ok (.aload_n 0, 1) := by decide +kernel
theorem dX4_init_5 : decode cX4_init 5 = .ok (.bipush 100, 2) := by decide +kernel
theorem dX4_init_7 : decode cX4_init 7 = .ok (.newarray .int, 2) := by decide +kernel
theorem dX4_init_9 : decode cX4_init 9 = .ok (.putfield 9, 3) := by decide +kernel
theorem dX4_init_12 : decode cX4_init 12 = .ok (.aload_n 0, 1) := by decide +kernel
theorem dX4_init_13 : decode cX4_init 13 = .ok (.bipush 100, 2) := by decide +kernel
theorem dX4_init_15 : decode cX4_init 15 = .ok (.newarray .int, 2) := by decide +kernel
theorem dX4_init_17 : decode cX4_init 17 = .ok (.putfield 15, 3) := by decide +kernel
theorem dX4_init_20 : decode cX4_init 20 = .ok (.aload_n 0, 1) := by decide +kernel
theorem dX4_init_21 : decode cX4_init 21 = .ok (.sipush 1800, 3) := by decide +kernel
theorem dX4_init_24 : decode cX4_init 24 = .ok (.newarray .int, 2) := by decide +kernel
theorem dX4_init_26 : decode cX4_init 26 = .ok (.putfield 18, 3) := by decide +kernel
theorem dX4_init_29 : decode cX4_init 29 = .ok (.aload_n 0, 1) := by decide +kernel
theorem dX4_init_30 : decode cX4_init 30 = .ok (.bipush 100, 2) := by decide +kernel
theorem dX4_init_32 : decode cX4_init 32 = .ok (.newarray .int, 2) := by decide +kernel
theorem dX4_init_34 : decode cX4_init 34 = .ok (.putfield 21, 3) := by decide +kernel
theorem dX4_init_37 : decode cX4_init 37 = .ok (.aload_n 0, 1) := by decide +kernel
theorem dX4_init_38 : decode cX4_init 38 = .ok (.bipush 100, 2) := by decide +kernel
theorem dX4_init_40 : decode cX4_init 40 = .ok (.newarray .int, 2) := by decide +kernel
theorem dX4_init_42 : decode cX4_init 42 = .ok (.putfield 24, 3) := by decide +kernel
theorem dX4_init_45 : decode cX4_init 45 = .ok (.aload_n 0, 1) := by decide +kernel
theorem dX4_init_46 : decode cX4_init 46 = .ok (.iconst 0, 1) := by decide +kernel
theorem dX4_init_47 : decode cX4_init 47 = .ok (.putfield 27, 3) := by decide +kernel
theorem dX4_init_50 : decode cX4_init 50 = .ok (.aload_n 0, 1) := by decide +kernel
theorem dX4_init_51 : decode cX4_init 51 = .ok (.iconst (-1), 1) := by decide +kernel
theorem dX4_init_52 : decode cX4_init 52 = .ok (.putfield 31, 3) := by decide +kernel
theorem dX4_init_55 : decode cX4_init 55 = .ok (.aload_n 0, 1) := by decide +kernel
theorem dX4_init_56 : decode cX4_init 56 = .ok (.bipush 18, 2) := by decide +kernel
theorem dX4_init_58 : decode cX4_init 58 = .ok (.newarray .int, 2) := by decide +kernel
theorem dX4_init_60 : decode cX4_init 60 = .ok (.putfield 34, 3) := by decide +kernel
theorem dX4_init_63 : decode cX4_init 63 = .ok (.return_, 1) := by decide +kernel
theorem dX4_has_0 : decode cX4_has 0 = .ok (.iload_n 1, 1) := by decide +kernel
theorem dX4_has_1 : decode cX4_has 1 = .ok (.ifCond .lt 15, 3) := by decide +kernel
theorem dX4_has_4 : decode cX4_has 4 = .ok (.iload_n 1, 1) := by decide +kernel
theorem dX4_has_5 : decode cX4_has 5 = .ok (.aload_n 0, 1) := by decide +kernel
theorem dX4_has_6 : decode cX4_has 6 = .ok (.getfield 27, 3) := by decide +kernel
theorem dX4_has_9 : decode cX4_has 9 = .ok (.if_icmp .ge 7, 3) := by decide +kernel
theorem dX4_has_12 : decode cX4_has 12 = .ok (.iconst 1, 1) := by decide +kernel
theorem dX4_has_13 : decode cX4_has 13 = .ok (.goto 4, 3) := by decide +kernel
theorem dX4_has_16 : decode cX4_has 16 = .ok (.iconst 0, 1) := by decide +kernel
theorem dX4_has_17 : decode cX4_has 17 = .ok (.ireturn, 1) := by decide +kernel
theorem dX4_hasOrNone_0 : decode cX4_hasOrNone 0 = .ok (.iload_n 1, 1) := by decide +kernel
theorem dX4_hasOrNone_1 : decode cX4_hasOrNone 1 = .ok (.iconst (-1), 1) := by decide +kernel
theorem dX4_hasOrNone_2 : decode cX4_hasOrNone 2 = .ok (.if_icmp .eq 11, 3) := by decide +kernel
theorem dX4_hasOrNone_5 : decode cX4_hasOrNone 5 = .ok (.aload_n 0, 1) := by decide +kernel
theorem dX4_hasOrNone_6 : decode cX4_hasOrNone 6 = .ok (.iload_n 1, 1) := by decide +kernel
theorem dX4_hasOrNone_7 : decode cX4_hasOrNone 7 = .ok (.invokevirtual 37, 3) := by decide +kernel
theorem dX4_hasOrNone_10 : decode cX4_hasOrNone 10 = .ok (.ifCond .eq 7, 3) := by decide +kernel
theorem dX4_hasOrNone_13 : decode cX4_hasOrNone 13 = .ok (.iconst 1, 1) := by decide +kernel
theorem dX4_hasOrNone_14 : decode cX4_hasOrNone 14 = .ok (.goto 4, 3) := by decide +kernel
theorem dX4_hasOrNone_17 : decode cX4_hasOrNone 17 = .ok (.iconst 0, 1) := by decide +kernel
theorem dX4_hasOrNone_18 : decode cX4_hasOrNone 18 = .ok (.ireturn, 1) := by decide +kernel
theorem dX4_isDouble_0 : decode cX4_isDouble 0 = .ok (.aload_n 0, 1) := by decide +kernel
theorem dX4_isDouble_1 : decode cX4_isDouble 1 = .ok (.iload_n 1, 1) := by decide +kernel
theorem dX4_isDouble_2 : decode cX4_isDouble 2 = .ok (.invokevirtual 37, 3) := by decide +kernel
theorem dX4_isDouble_5 : decode cX4_isDouble 5 = .ok (.ifCond .eq 17, 3) := by decide +kernel
theorem dX4_isDouble_8 : decode cX4_isDouble 8 = .ok (.aload_n 0, 1) := by decide +kernel
theorem dX4_isDouble_9 : decode cX4_isDouble 9 = .ok (.getfield 9, 3) := by decide +kernel
theorem dX4_isDouble_12 : decode cX4_isDouble 12 = .ok (.iload_n 1, 1) := by decide +kernel
theorem dX4_isDouble_13 : decode cX4_isDouble 13 = .ok (.iaload, 1) := by decide +kernel
theorem dX4_isDouble_14 : decode cX4_isDouble 14 = .ok (.iconst 4, 1) := by decide +kernel
theorem dX4_isDouble_15 : decode cX4_isDouble 15 = .ok (.if_icmp .ne 7, 3) := by decide +kernel
theorem dX4_isDouble_18 : decode cX4_isDouble 18 = .ok (.iconst 1, 1) := by decide +kernel
theorem dX4_isDouble_19 : decode cX4_isDouble 19 = .ok (.goto 4, 3) := by decide +kernel
theorem dX4_isDouble_22 : decode cX4_isDouble 22 = .ok (.iconst 0, 1) := by decide +kernel
theorem dX4_isDouble_23 : decode cX4_isDouble 23 = .ok (.ireturn, 1) := by decide +kernel
theorem dX4_isCore_0 : decode cX4_isCore 0 = .ok (.aload_n 0, 1) := by decide +kernel
theorem dX4_isCore_1 : decode cX4_isCore 1 = .ok (.iload_n 1, 1) := by decide +kernel
theorem dX4_isCore_2 : decode cX4_isCore 2 = .ok (.invokevirtual 37, 3) := by decide +kernel
theorem dX4_isCore_5 : decode cX4_isCore 5 = .ok (.ifCond .eq 17, 3) := by decide +kernel
theorem dX4_isCore_8 : decode cX4_isCore 8 = .ok (.aload_n 0, 1) := by decide +kernel
theorem dX4_isCore_9 : decode cX4_isCore 9 = .ok (.getfield 9, 3) := by decide +kernel
theorem dX4_isCore_12 : decode cX4_isCore 12 = .ok (.iload_n 1, 1) := by decide +kernel
theorem dX4_isCore_13 : decode cX4_isCore 13 = .ok (.iaload, 1) := by decide +kernel
theorem dX4_isCore_14 : decode cX4_isCore 14 = .ok (.iconst 2, 1) := by decide +kernel
theorem dX4_isCore_15 : decode cX4_isCore 15 = .ok (.if_icmp .ne 7, 3) := by decide +kernel
theorem dX4_isCore_18 : decode cX4_isCore 18 = .ok (.iconst 1, 1) := by decide +kernel
theorem dX4_isCore_19 : decode cX4_isCore 19 = .ok (.goto 4, 3) := by decide +kernel
theorem dX4_isCore_22 : decode cX4_isCore 22 = .ok (.iconst 0, 1) := by decide +kernel
theorem dX4_isCore_23 : decode cX4_isCore 23 = .ok (.ireturn, 1) := by decide +kernel
theorem dX4_isBlind_0 : decode cX4_isBlind 0 = .ok (.aload_n 0, 1) := by decide +kernel
theorem dX4_isBlind_1 : decode cX4_isBlind 1 = .ok (.iload_n 1, 1) := by decide +kernel
theorem dX4_isBlind_2 : decode cX4_isBlind 2 = .ok (.invokevirtual 37, 3) := by decide +kernel
theorem dX4_isBlind_5 : decode cX4_isBlind 5 = .ok (.ifCond .eq 17, 3) := by decide +kernel
theorem dX4_isBlind_8 : decode cX4_isBlind 8 = .ok (.aload_n 0, 1) := by decide +kernel
theorem dX4_isBlind_9 : decode cX4_isBlind 9 = .ok (.getfield 9, 3) := by decide +kernel
theorem dX4_isBlind_12 : decode cX4_isBlind 12 = .ok (.iload_n 1, 1) := by decide +kernel
theorem dX4_isBlind_13 : decode cX4_isBlind 13 = .ok (.iaload, 1) := by decide +kernel
theorem dX4_isBlind_14 : decode cX4_isBlind 14 = .ok (.iconst 3, 1) := by decide +kernel
theorem dX4_isBlind_15 : decode cX4_isBlind 15 = .ok (.if_icmp .ne 7, 3) := by decide +kernel
theorem dX4_isBlind_18 : decode cX4_isBlind 18 = .ok (.iconst 1, 1) := by decide +kernel
theorem dX4_isBlind_19 : decode cX4_isBlind 19 = .ok (.goto 4, 3) := by decide +kernel
theorem dX4_isBlind_22 : decode cX4_isBlind 22 = .ok (.iconst 0, 1) := by decide +kernel
theorem dX4_isBlind_23 : decode cX4_isBlind 23 = .ok (.ireturn, 1) := by decide +kernel
theorem dX4_isOut_0 : decode cX4_isOut 0 = .ok (.aload_n 0, 1) := by decide +kernel
theorem dX4_isOut_1 : decode cX4_isOut 1 = .ok (.iload_n 1, 1) := by decide +kernel
theorem dX4_isOut_2 : decode cX4_isOut 2 = .ok (.invokevirtual 37, 3) := by decide +kernel
theorem dX4_isOut_5 : decode cX4_isOut 5 = .ok (.ifCond .eq 27, 3) := by decide +kernel
theorem dX4_isOut_8 : decode cX4_isOut 8 = .ok (.aload_n 0, 1) := by decide +kernel
theorem dX4_isOut_9 : decode cX4_isOut 9 = .ok (.getfield 9, 3) := by decide +kernel
theorem dX4_isOut_12 : decode cX4_isOut 12 = .ok (.iload_n 1, 1) := by decide +kernel
theorem dX4_isOut_13 : decode cX4_isOut 13 = .ok (.iaload, 1) := by decide +kernel
theorem dX4_isOut_14 : decode cX4_isOut 14 = .ok (.iconst 2, 1) := by decide +kernel
theorem dX4_isOut_15 : decode cX4_isOut 15 = .ok (.if_icmp .ne 17, 3) := by decide +kernel
theorem dX4_isOut_18 : decode cX4_isOut 18 = .ok (.aload_n 0, 1) := by decide +kernel
theorem dX4_isOut_19 : decode cX4_isOut 19 = .ok (.getfield 15, 3) := by decide +kernel
theorem dX4_isOut_22 : decode cX4_isOut 22 = .ok (.iload_n 1, 1) := by decide +kernel
theorem dX4_isOut_23 : decode cX4_isOut 23 = .ok (.iaload, 1) := by decide +kernel
theorem dX4_isOut_24 : decode cX4_isOut 24 = .ok (.iconst (-1), 1) := by decide +kernel
theorem dX4_isOut_25 : decode cX4_isOut 25 = .ok (.if_icmp .ne 7, 3) := by decide +kernel
theorem dX4_isOut_28 : decode cX4_isOut 28 = .ok (.iconst 1, 1) := by decide +kernel
theorem dX4_isOut_29 : decode cX4_isOut 29 = .ok (.goto 4, 3) := by decide +kernel
theorem dX4_isOut_32 : decode cX4_isOut 32 = .ok (.iconst 0, 1) := by decide +kernel
theorem dX4_isOut_33 : decode cX4_isOut 33 = .ok (.ireturn, 1) := by decide +kernel
theorem dX4_isOf_0 : decode cX4_isOf 0 = .ok (.aload_n 0, 1) := by decide +kernel
theorem dX4_isOf_1 : decode cX4_isOf 1 = .ok (.iload_n 1, 1) := by decide +kernel
theorem dX4_isOf_2 : decode cX4_isOf 2 = .ok (.invokevirtual 37, 3) := by decide +kernel
theorem dX4_isOf_5 : decode cX4_isOf 5 = .ok (.ifCond .ne 5, 3) := by decide +kernel
theorem dX4_isOf_8 : decode cX4_isOf 8 = .ok (.iconst 0, 1) := by decide +kernel
theorem dX4_isOf_9 : decode cX4_isOf 9 = .ok (.ireturn, 1) := by decide +kernel
theorem dX4_isOf_10 : decode cX4_isOf 10 = .ok (.aload_n 0, 1) := by decide +kernel
theorem dX4_isOf_11 : decode cX4_isOf 11 = .ok (.getfield 9, 3) := by decide +kernel
theorem dX4_isOf_14 : decode cX4_isOf 14 = .ok (.iload_n 1, 1) := by decide +kernel
theorem dX4_isOf_15 : decode cX4_isOf 15 = .ok (.iaload, 1) := by decide +kernel
theorem dX4_isOf_16 : decode cX4_isOf 16 = .ok (.istore_n 3, 1) := by decide +kernel
theorem dX4_isOf_17 : decode cX4_isOf 17 = .ok (.iload_n 3, 1) := by decide +kernel
theorem dX4_isOf_18 : decode cX4_isOf 18 = .ok (.iload_n 2, 1) := by decide +kernel
theorem dX4_isOf_19 : decode cX4_isOf 19 = .ok (.if_icmp .eq 22, 3) := by decide +kernel
theorem dX4_isOf_22 : decode cX4_isOf 22 = .ok (.iload_n 2, 1) := by decide +kernel
theorem dX4_isOf_23 : decode cX4_isOf 23 = .ok (.ifCond .ne 8, 3) := by decide +kernel
theorem dX4_isOf_26 : decode cX4_isOf 26 = .ok (.iload_n 3, 1) := by decide +kernel
theorem dX4_isOf_27 : decode cX4_isOf 27 = .ok (.iconst 4, 1) := by decide +kernel
theorem dX4_isOf_28 : decode cX4_isOf 28 = .ok (.if_icmp .ne 13, 3) := by decide +kernel
theorem dX4_isOf_31 : decode cX4_isOf 31 = .ok (.iload_n 2, 1) := by decide +kernel
theorem dX4_isOf_32 : decode cX4_isOf 32 = .ok (.iconst 1, 1) := by decide +kernel
theorem dX4_isOf_33 : decode cX4_isOf 33 = .ok (.if_icmp .ne 12, 3) := by decide +kernel
theorem dX4_isOf_36 : decode cX4_isOf 36 = .ok (.iload_n 3, 1) := by decide +kernel
theorem dX4_isOf_37 : decode cX4_isOf 37 = .ok (.iconst 2, 1) := by decide +kernel
theorem dX4_isOf_38 : decode cX4_isOf 38 = .ok (.if_icmp .ne 7, 3) := by decide +kernel
theorem dX4_isOf_41 : decode cX4_isOf 41 = .ok (.iconst 1, 1) := by decide +kernel
theorem dX4_isOf_42 : decode cX4_isOf 42 = .ok (.goto 4, 3) := by decide +kernel
theorem dX4_isOf_45 : decode cX4_isOf 45 = .ok (.iconst 0, 1) := by decide +kernel
theorem dX4_isOf_46 : decode cX4_isOf 46 = .ok (.ireturn, 1) := by decide +kernel
theorem dX4_most_0 : decode cX4_most 0 = .ok (.aload_n 0, 1) := by decide +kernel
theorem dX4_most_1 : decode cX4_most 1 = .ok (.iload_n 1, 1) := by decide +kernel
theorem dX4_most_2 : decode cX4_most 2 = .ok (.iconst 1, 1) := by decide +kernel
theorem dX4_most_3 : decode cX4_most 3 = .ok (.invokevirtual 41, 3) := by decide +kernel
theorem dX4_most_6 : decode cX4_most 6 = .ok (.ifCond .eq 5, 3) := by decide +kernel
theorem dX4_most_9 : decode cX4_most 9 = .ok (.iconst 4, 1) := by decide +kernel
theorem dX4_most_10 : decode cX4_most 10 = .ok (.ireturn, 1) := by decide +kernel
theorem dX4_most_11 : decode cX4_most 11 = .ok (.aload_n 0, 1) := by decide +kernel
theorem dX4_most_12 : decode cX4_most 12 = .ok (.iload_n 1, 1) := by decide +kernel
theorem dX4_most_13 : decode cX4_most 13 = .ok (.invokevirtual 45, 3) := by decide +kernel
theorem dX4_most_16 : decode cX4_most 16 = .ok (.ifCond .eq 7, 3) := by decide +kernel
theorem dX4_most_19 : decode cX4_most 19 = .ok (.iconst 0, 1) := by decide +kernel
theorem dX4_most_20 : decode cX4_most 20 = .ok (.goto 4, 3) := by decide +kernel
theorem dX4_most_23 : decode cX4_most 23 = .ok (.iconst 1, 1) := by decide +kernel
theorem dX4_most_24 : decode cX4_most 24 = .ok (.ireturn, 1) := by decide +kernel
theorem dX4_rowFinding_0 : decode cX4_rowFinding 0 = .ok (.aload_n 0, 1) := by decide +kernel
theorem dX4_rowFinding_1 : decode cX4_rowFinding 1 = .ok (.iload_n 1, 1) := by decide +kernel
theorem dX4_rowFinding_2 : decode cX4_rowFinding 2 = .ok (.invokevirtual 48, 3) := by decide +kernel
theorem dX4_rowFinding_5 : decode cX4_rowFinding 5 = .ok (.ifCond .eq 6, 3) := by decide +kernel
theorem dX4_rowFinding_8 : decode cX4_rowFinding 8 = .ok (.bipush (-13), 2) := by decide +kernel
theorem dX4_rowFinding_10 : decode cX4_rowFinding 10 = .ok (.ireturn, 1) := by decide +kernel
theorem dX4_rowFinding_11 : decode cX4_rowFinding 11 = .ok (.aload_n 0, 1) := by decide +kernel
theorem dX4_rowFinding_12 : decode cX4_rowFinding 12 = .ok (.iload_n 1, 1) := by decide +kernel
theorem dX4_rowFinding_13 : decode cX4_rowFinding 13 = .ok (.invokevirtual 51, 3) := by decide +kernel
theorem dX4_rowFinding_16 : decode cX4_rowFinding 16 = .ok (.ifCond .eq 8, 3) := by decide +kernel
theorem dX4_rowFinding_19 : decode cX4_rowFinding 19 = .ok (.bipush (-11), 2) := by decide +kernel
theorem dX4_rowFinding_21 : decode cX4_rowFinding 21 = .ok (.goto 4, 3) := by decide +kernel
theorem dX4_rowFinding_24 : decode cX4_rowFinding 24 = .ok (.iconst 0, 1) := by decide +kernel
theorem dX4_rowFinding_25 : decode cX4_rowFinding 25 = .ok (.ireturn, 1) := by decide +kernel
theorem dX4_chamberFinding_0 : decode cX4_chamberFinding 0 = .ok (.aload_n 0, 1) := by decide +kernel
theorem dX4_chamberFinding_1 : decode cX4_chamberFinding 1 = .ok (.iload_n 1, 1) := by decide +kernel
theorem dX4_chamberFinding_2 : decode cX4_chamberFinding 2 = .ok (.invokevirtual 54, 3) := by decide +kernel
theorem dX4_chamberFinding_5 : decode cX4_chamberFinding 5 = .ok (.istore_n 3, 1) := by decide +kernel
theorem dX4_chamberFinding_6 : decode cX4_chamberFinding 6 = .ok (.iload_n 3, 1) := by decide +kernel
theorem dX4_chamberFinding_7 : decode cX4_chamberFinding 7 = .ok (.ifCond .eq 5, 3) := by decide +kernel
theorem dX4_chamberFinding_10 : decode cX4_chamberFinding 10 = .ok (.iload_n 3, 1) := by decide +kernel
theorem dX4_chamberFinding_11 : decode cX4_chamberFinding 11 = .ok (.ireturn, 1) := by decide +kernel
theorem dX4_chamberFinding_12 : decode cX4_chamberFinding 12 = .ok (.aload_n 0, 1) := by decide +kernel
theorem dX4_chamberFinding_13 : decode cX4_chamberFinding 13 = .ok (.iload_n 1, 1) := by decide +kernel
theorem dX4_chamberFinding_14 : decode cX4_chamberFinding 14 = .ok (.iload_n 2, 1) := by decide +kernel
theorem dX4_chamberFinding_15 : decode cX4_chamberFinding 15 = .ok (.invokevirtual 58, 3) := by decide +kernel
theorem dX4_chamberFinding_18 : decode cX4_chamberFinding 18 = .ok (.ifCond .eq 7, 3) := by decide +kernel
theorem dX4_chamberFinding_21 : decode cX4_chamberFinding 21 = .ok (.iconst 0, 1) := by decide +kernel
theorem dX4_chamberFinding_22 : decode cX4_chamberFinding 22 = .ok (.goto 5, 3) := by decide +kernel
theorem dX4_chamberFinding_25 : decode cX4_chamberFinding 25 = .ok (.bipush (-12), 2) := by decide +kernel
theorem dX4_chamberFinding_27 : decode cX4_chamberFinding 27 = .ok (.ireturn, 1) := by decide +kernel
theorem dX4_hasChamber_0 : decode cX4_hasChamber 0 = .ok (.aload_n 0, 1) := by decide +kernel
theorem dX4_hasChamber_1 : decode cX4_hasChamber 1 = .ok (.iload_n 1, 1) := by decide +kernel
theorem dX4_hasChamber_2 : decode cX4_hasChamber 2 = .ok (.invokevirtual 37, 3) := by decide +kernel
theorem dX4_hasChamber_5 : decode cX4_hasChamber 5 = .ok (.ifCond .eq 21, 3) := by decide +kernel
theorem dX4_hasChamber_8 : decode cX4_hasChamber 8 = .ok (.iload_n 2, 1) := by decide +kernel
theorem dX4_hasChamber_9 : decode cX4_hasChamber 9 = .ok (.ifCond .lt 17, 3) := by decide +kernel
theorem dX4_hasChamber_12 : decode cX4_hasChamber 12 = .ok (.iload_n 2, 1) := by decide +kernel
theorem dX4_hasChamber_13 : decode cX4_hasChamber 13 = .ok (.aload_n 0, 1) := by decide +kernel
theorem dX4_hasChamber_14 : decode cX4_hasChamber 14 = .ok (.getfield 15, 3) := by decide +kernel
theorem dX4_hasChamber_17 : decode cX4_hasChamber 17 = .ok (.iload_n 1, 1) := by decide +kernel
theorem dX4_hasChamber_18 : decode cX4_hasChamber 18 = .ok (.iaload, 1) := by decide +kernel
theorem dX4_hasChamber_19 : decode cX4_hasChamber 19 = .ok (.if_icmp .ge 7, 3) := by decide +kernel
theorem dX4_hasChamber_22 : decode cX4_hasChamber 22 = .ok (.iconst 1, 1) := by decide +kernel
theorem dX4_hasChamber_23 : decode cX4_hasChamber 23 = .ok (.goto 4, 3) := by decide +kernel
theorem dX4_hasChamber_26 : decode cX4_hasChamber 26 = .ok (.iconst 0, 1) := by decide +kernel
theorem dX4_hasChamber_27 : decode cX4_hasChamber 27 = .ok (.ireturn, 1) := by decide +kernel
theorem dX4_heightsIn_0 : decode cX4_heightsIn 0 = .ok (.aload_n 0, 1) := by decide +kernel
theorem dX4_heightsIn_1 : decode cX4_heightsIn 1 = .ok (.iload_n 1, 1) := by decide +kernel
theorem dX4_heightsIn_2 : decode cX4_heightsIn 2 = .ok (.iload_n 2, 1) := by decide +kernel
theorem dX4_heightsIn_3 : decode cX4_heightsIn 3 = .ok (.invokevirtual 58, 3) := by decide +kernel
theorem dX4_heightsIn_6 : decode cX4_heightsIn 6 = .ok (.ifCond .eq 17, 3) := by decide +kernel
theorem dX4_heightsIn_9 : decode cX4_heightsIn 9 = .ok (.aload_n 0, 1) := by decide +kernel
theorem dX4_heightsIn_10 : decode cX4_heightsIn 10 = .ok (.getfield 18, 3) := by decide +kernel
theorem dX4_heightsIn_13 : decode cX4_heightsIn 13 = .ok (.iload_n 1, 1) := by decide +kernel
theorem dX4_heightsIn_14 : decode cX4_heightsIn 14 = .ok (.bipush 18, 2) := by decide +kernel
theorem dX4_heightsIn_16 : decode cX4_heightsIn 16 = .ok (.imul, 1) := by decide +kernel
theorem dX4_heightsIn_17 : decode cX4_heightsIn 17 = .ok (.iload_n 2, 1) := by decide +kernel
theorem dX4_heightsIn_18 : decode cX4_heightsIn 18 = .ok (.iadd, 1) := by decide +kernel
theorem dX4_heightsIn_19 : decode cX4_heightsIn 19 = .ok (.iaload, 1) := by decide +kernel
theorem dX4_heightsIn_20 : decode cX4_heightsIn 20 = .ok (.goto 4, 3) := by decide +kernel
theorem dX4_heightsIn_23 : decode cX4_heightsIn 23 = .ok (.iconst 0, 1) := by decide +kernel
theorem dX4_heightsIn_24 : decode cX4_heightsIn 24 = .ok (.ireturn, 1) := by decide +kernel
theorem dX4_setHeights_0 : decode cX4_setHeights 0 = .ok (.aload_n 0, 1) := by decide +kernel
theorem dX4_setHeights_1 : decode cX4_setHeights 1 = .ok (.iload_n 1, 1) := by decide +kernel
theorem dX4_setHeights_2 : decode cX4_setHeights 2 = .ok (.iload_n 2, 1) := by decide +kernel
theorem dX4_setHeights_3 : decode cX4_setHeights 3 = .ok (.invokevirtual 58, 3) := by decide +kernel
theorem dX4_setHeights_6 : decode cX4_setHeights 6 = .ok (.ifCond .eq 15, 3) := by decide +kernel
theorem dX4_setHeights_9 : decode cX4_setHeights 9 = .ok (.aload_n 0, 1) := by decide +kernel
theorem dX4_setHeights_10 : decode cX4_setHeights 10 = .ok (.getfield 18, 3) := by decide +kernel
theorem dX4_setHeights_13 : decode cX4_setHeights 13 = .ok (.iload_n 1, 1) := by decide +kernel
theorem dX4_setHeights_14 : decode cX4_setHeights 14 = .ok (.bipush 18, 2) := by decide +kernel
theorem dX4_setHeights_16 : decode cX4_setHeights 16 = .ok (.imul, 1) := by decide +kernel
theorem dX4_setHeights_17 : decode cX4_setHeights 17 = .ok (.iload_n 2, 1) := by decide +kernel
theorem dX4_setHeights_18 : decode cX4_setHeights 18 = .ok (.iadd, 1) := by decide +kernel
theorem dX4_setHeights_19 : decode cX4_setHeights 19 = .ok (.iload_n 3, 1) := by decide +kernel
theorem dX4_setHeights_20 : decode cX4_setHeights 20 = .ok (.iastore, 1) := by decide +kernel
theorem dX4_setHeights_21 : decode cX4_setHeights 21 = .ok (.return_, 1) := by decide +kernel
theorem dX4_add_0 : decode cX4_add 0 = .ok (.aload_n 0, 1) := by decide +kernel
theorem dX4_add_1 : decode cX4_add 1 = .ok (.getfield 27, 3) := by decide +kernel
theorem dX4_add_4 : decode cX4_add 4 = .ok (.istore_n 3, 1) := by decide +kernel
theorem dX4_add_5 : decode cX4_add 5 = .ok (.aload_n 0, 1) := by decide +kernel
theorem dX4_add_6 : decode cX4_add 6 = .ok (.dup, 1) := by decide +kernel
theorem dX4_add_7 : decode cX4_add 7 = .ok (.getfield 27, 3) := by decide +kernel
theorem dX4_add_10 : decode cX4_add 10 = .ok (.iconst 1, 1) := by decide +kernel
theorem dX4_add_11 : decode cX4_add 11 = .ok (.iadd, 1) := by decide +kernel
theorem dX4_add_12 : decode cX4_add 12 = .ok (.putfield 27, 3) := by decide +kernel
theorem dX4_add_15 : decode cX4_add 15 = .ok (.aload_n 0, 1) := by decide +kernel
theorem dX4_add_16 : decode cX4_add 16 = .ok (.getfield 9, 3) := by decide +kernel
theorem dX4_add_19 : decode cX4_add 19 = .ok (.iload_n 3, 1) := by decide +kernel
theorem dX4_add_20 : decode cX4_add 20 = .ok (.iload_n 1, 1) := by decide +kernel
theorem dX4_add_21 : decode cX4_add 21 = .ok (.iastore, 1) := by decide +kernel
theorem dX4_add_22 : decode cX4_add 22 = .ok (.aload_n 0, 1) := by decide +kernel
theorem dX4_add_23 : decode cX4_add 23 = .ok (.getfield 15, 3) := by decide +kernel
theorem dX4_add_26 : decode cX4_add 26 = .ok (.iload_n 3, 1) := by decide +kernel
theorem dX4_add_27 : decode cX4_add 27 = .ok (.iload_n 2, 1) := by decide +kernel
theorem dX4_add_28 : decode cX4_add 28 = .ok (.iastore, 1) := by decide +kernel
theorem dX4_add_29 : decode cX4_add 29 = .ok (.aload_n 0, 1) := by decide +kernel
theorem dX4_add_30 : decode cX4_add 30 = .ok (.getfield 21, 3) := by decide +kernel
theorem dX4_add_33 : decode cX4_add 33 = .ok (.iload_n 3, 1) := by decide +kernel
theorem dX4_add_34 : decode cX4_add 34 = .ok (.iconst (-1), 1) := by decide +kernel
theorem dX4_add_35 : decode cX4_add 35 = .ok (.iastore, 1) := by decide +kernel
theorem dX4_add_36 : decode cX4_add 36 = .ok (.aload_n 0, 1) := by decide +kernel
theorem dX4_add_37 : decode cX4_add 37 = .ok (.getfield 24, 3) := by decide +kernel
theorem dX4_add_40 : decode cX4_add 40 = .ok (.iload_n 3, 1) := by decide +kernel
theorem dX4_add_41 : decode cX4_add 41 = .ok (.iconst (-1), 1) := by decide +kernel
theorem dX4_add_42 : decode cX4_add 42 = .ok (.iastore, 1) := by decide +kernel
theorem dX4_add_43 : decode cX4_add 43 = .ok (.iconst 0, 1) := by decide +kernel
theorem dX4_add_44 : decode cX4_add 44 = .ok (.istore 4, 2) := by decide +kernel
theorem dX4_add_46 : decode cX4_add 46 = .ok (.iload 4, 2) := by decide +kernel
theorem dX4_add_48 : decode cX4_add 48 = .ok (.iload_n 2, 1) := by decide +kernel
theorem dX4_add_49 : decode cX4_add 49 = .ok (.if_icmp .ge 17, 3) := by decide +kernel
theorem dX4_add_52 : decode cX4_add 52 = .ok (.aload_n 0, 1) := by decide +kernel
theorem dX4_add_53 : decode cX4_add 53 = .ok (.iload_n 3, 1) := by decide +kernel
theorem dX4_add_54 : decode cX4_add 54 = .ok (.iload 4, 2) := by decide +kernel
theorem dX4_add_56 : decode cX4_add 56 = .ok (.iconst 0, 1) := by decide +kernel
theorem dX4_add_57 : decode cX4_add 57 = .ok (.invokevirtual 61, 3) := by decide +kernel
theorem dX4_add_60 : decode cX4_add 60 = .ok (.iinc 4 1, 3) := by decide +kernel
theorem dX4_add_63 : decode cX4_add 63 = .ok (.goto (-17), 3) := by decide +kernel
theorem dX4_add_66 : decode cX4_add 66 = .ok (.iload_n 3, 1) := by decide +kernel
theorem dX4_add_67 : decode cX4_add 67 = .ok (.ireturn, 1) := by decide +kernel
theorem dX4_addDouble_0 : decode cX4_addDouble 0 = .ok (.aload_n 0, 1) := by decide +kernel
theorem dX4_addDouble_1 : decode cX4_addDouble 1 = .ok (.iconst 4, 1) := by decide +kernel
theorem dX4_addDouble_2 : decode cX4_addDouble 2 = .ok (.iconst 0, 1) := by decide +kernel
theorem dX4_addDouble_3 : decode cX4_addDouble 3 = .ok (.invokevirtual 65, 3) := by decide +kernel
theorem dX4_addDouble_6 : decode cX4_addDouble 6 = .ok (.istore_n 3, 1) := by decide +kernel
theorem dX4_addDouble_7 : decode cX4_addDouble 7 = .ok (.aload_n 0, 1) := by decide +kernel
theorem dX4_addDouble_8 : decode cX4_addDouble 8 = .ok (.getfield 21, 3) := by decide +kernel
theorem dX4_addDouble_11 : decode cX4_addDouble 11 = .ok (.iload_n 3, 1) := by decide +kernel
theorem dX4_addDouble_12 : decode cX4_addDouble 12 = .ok (.iload_n 1, 1) := by decide +kernel
theorem dX4_addDouble_13 : decode cX4_addDouble 13 = .ok (.iastore, 1) := by decide +kernel
theorem dX4_addDouble_14 : decode cX4_addDouble 14 = .ok (.aload_n 0, 1) := by decide +kernel
theorem dX4_addDouble_15 : decode cX4_addDouble 15 = .ok (.getfield 24, 3) := by decide +kernel
theorem dX4_addDouble_18 : decode cX4_addDouble 18 = .ok (.iload_n 3, 1) := by decide +kernel
theorem dX4_addDouble_19 : decode cX4_addDouble 19 = .ok (.iload_n 2, 1) := by decide +kernel
theorem dX4_addDouble_20 : decode cX4_addDouble 20 = .ok (.iastore, 1) := by decide +kernel
theorem dX4_addDouble_21 : decode cX4_addDouble 21 = .ok (.iload_n 3, 1) := by decide +kernel
theorem dX4_addDouble_22 : decode cX4_addDouble 22 = .ok (.ireturn, 1) := by decide +kernel
theorem dX4_rowToTray_0 : decode cX4_rowToTray 0 = .ok (.aload_n 0, 1) := by decide +kernel
theorem dX4_rowToTray_1 : decode cX4_rowToTray 1 = .ok (.getfield 18, 3) := by decide +kernel
theorem dX4_rowToTray_4 : decode cX4_rowToTray 4 = .ok (.iload_n 1, 1) := by decide +kernel
theorem dX4_rowToTray_5 : decode cX4_rowToTray 5 = .ok (.bipush 18, 2) := by decide +kernel
theorem dX4_rowToTray_7 : decode cX4_rowToTray 7 = .ok (.imul, 1) := by decide +kernel
theorem dX4_rowToTray_8 : decode cX4_rowToTray 8 = .ok (.aload_n 0, 1) := by decide +kernel
theorem dX4_rowToTray_9 : decode cX4_rowToTray 9 = .ok (.getfield 34, 3) := by decide +kernel
theorem dX4_rowToTray_12 : decode cX4_rowToTray 12 = .ok (.iconst 0, 1) := by decide +kernel
theorem dX4_rowToTray_13 : decode cX4_rowToTray 13 = .ok (.aload_n 0, 1) := by decide +kernel
theorem dX4_rowToTray_14 : decode cX4_rowToTray 14 = .ok (.getfield 15, 3) := by decide +kernel
theorem dX4_rowToTray_17 : decode cX4_rowToTray 17 = .ok (.iload_n 1, 1) := by decide +kernel
theorem dX4_rowToTray_18 : decode cX4_rowToTray 18 = .ok (.iaload, 1) := by decide +kernel
theorem dX4_rowToTray_19 : decode cX4_rowToTray 19 = .ok (.invokestatic 69, 3) := by decide +kernel
theorem dX4_rowToTray_22 : decode cX4_rowToTray 22 = .ok (.aload_n 0, 1) := by decide +kernel
theorem dX4_rowToTray_23 : decode cX4_rowToTray 23 = .ok (.aload_n 0, 1) := by decide +kernel
theorem dX4_rowToTray_24 : decode cX4_rowToTray 24 = .ok (.getfield 15, 3) := by decide +kernel
theorem dX4_rowToTray_27 : decode cX4_rowToTray 27 = .ok (.iload_n 1, 1) := by decide +kernel
theorem dX4_rowToTray_28 : decode cX4_rowToTray 28 = .ok (.iaload, 1) := by decide +kernel
theorem dX4_rowToTray_29 : decode cX4_rowToTray 29 = .ok (.putfield 31, 3) := by decide +kernel
theorem dX4_rowToTray_32 : decode cX4_rowToTray 32 = .ok (.aload_n 0, 1) := by decide +kernel
theorem dX4_rowToTray_33 : decode cX4_rowToTray 33 = .ok (.getfield 15, 3) := by decide +kernel
theorem dX4_rowToTray_36 : decode cX4_rowToTray 36 = .ok (.iload_n 1, 1) := by decide +kernel
theorem dX4_rowToTray_37 : decode cX4_rowToTray 37 = .ok (.iconst (-1), 1) := by decide +kernel
theorem dX4_rowToTray_38 : decode cX4_rowToTray 38 = .ok (.iastore, 1) := by decide +kernel
theorem dX4_rowToTray_39 : decode cX4_rowToTray 39 = .ok (.aload_n 0, 1) := by decide +kernel
theorem dX4_rowToTray_40 : decode cX4_rowToTray 40 = .ok (.getfield 31, 3) := by decide +kernel
theorem dX4_rowToTray_43 : decode cX4_rowToTray 43 = .ok (.ireturn, 1) := by decide +kernel
theorem dX4_rowFromTray_0 : decode cX4_rowFromTray 0 = .ok (.aload_n 0, 1) := by decide +kernel
theorem dX4_rowFromTray_1 : decode cX4_rowFromTray 1 = .ok (.getfield 34, 3) := by decide +kernel
theorem dX4_rowFromTray_4 : decode cX4_rowFromTray 4 = .ok (.iconst 0, 1) := by decide +kernel
theorem dX4_rowFromTray_5 : decode cX4_rowFromTray 5 = .ok (.aload_n 0, 1) := by decide +kernel
theorem dX4_rowFromTray_6 : decode cX4_rowFromTray 6 = .ok (.getfield 18, 3) := by decide +kernel
theorem dX4_rowFromTray_9 : decode cX4_rowFromTray 9 = .ok (.iload_n 1, 1) := by decide +kernel
theorem dX4_rowFromTray_10 : decode cX4_rowFromTray 10 = .ok (.bipush 18, 2) := by decide +kernel
theorem dX4_rowFromTray_12 : decode cX4_rowFromTray 12 = .ok (.imul, 1) := by decide +kernel
theorem dX4_rowFromTray_13 : decode cX4_rowFromTray 13 = .ok (.aload_n 0, 1) := by decide +kernel
theorem dX4_rowFromTray_14 : decode cX4_rowFromTray 14 = .ok (.getfield 31, 3) := by decide +kernel
theorem dX4_rowFromTray_17 : decode cX4_rowFromTray 17 = .ok (.invokestatic 69, 3) := by decide +kernel
theorem dX4_rowFromTray_20 : decode cX4_rowFromTray 20 = .ok (.aload_n 0, 1) := by decide +kernel
theorem dX4_rowFromTray_21 : decode cX4_rowFromTray 21 = .ok (.getfield 15, 3) := by decide +kernel
theorem dX4_rowFromTray_24 : decode cX4_rowFromTray 24 = .ok (.iload_n 1, 1) := by decide +kernel
theorem dX4_rowFromTray_25 : decode cX4_rowFromTray 25 = .ok (.aload_n 0, 1) := by decide +kernel
theorem dX4_rowFromTray_26 : decode cX4_rowFromTray 26 = .ok (.getfield 31, 3) := by decide +kernel
theorem dX4_rowFromTray_29 : decode cX4_rowFromTray 29 = .ok (.iastore, 1) := by decide +kernel
theorem dX4_rowFromTray_30 : decode cX4_rowFromTray 30 = .ok (.aload_n 0, 1) := by decide +kernel
theorem dX4_rowFromTray_31 : decode cX4_rowFromTray 31 = .ok (.iconst (-1), 1) := by decide +kernel
theorem dX4_rowFromTray_32 : decode cX4_rowFromTray 32 = .ok (.putfield 31, 3) := by decide +kernel
theorem dX4_rowFromTray_35 : decode cX4_rowFromTray 35 = .ok (.aload_n 0, 1) := by decide +kernel
theorem dX4_rowFromTray_36 : decode cX4_rowFromTray 36 = .ok (.getfield 15, 3) := by decide +kernel
theorem dX4_rowFromTray_39 : decode cX4_rowFromTray 39 = .ok (.iload_n 1, 1) := by decide +kernel
theorem dX4_rowFromTray_40 : decode cX4_rowFromTray 40 = .ok (.iaload, 1) := by decide +kernel
theorem dX4_rowFromTray_41 : decode cX4_rowFromTray 41 = .ok (.ireturn, 1) := by decide +kernel
theorem dX4_become_0 : decode cX4_become 0 = .ok (.aload_n 0, 1) := by decide +kernel
theorem dX4_become_1 : decode cX4_become 1 = .ok (.aload_n 1, 1) := by decide +kernel
theorem dX4_become_2 : decode cX4_become 2 = .ok (.getfield 27, 3) := by decide +kernel
theorem dX4_become_5 : decode cX4_become 5 = .ok (.putfield 27, 3) := by decide +kernel
theorem dX4_become_8 : decode cX4_become 8 = .ok (.aload_n 1, 1) := by decide +kernel
theorem dX4_become_9 : decode cX4_become 9 = .ok (.getfield 9, 3) := by decide +kernel
theorem dX4_become_12 : decode cX4_become 12 = .ok (.iconst 0, 1) := by decide +kernel
theorem dX4_become_13 : decode cX4_become 13 = .ok (.aload_n 0, 1) := by decide +kernel
theorem dX4_become_14 : decode cX4_become 14 = .ok (.getfield 9, 3) := by decide +kernel
theorem dX4_become_17 : decode cX4_become 17 = .ok (.iconst 0, 1) := by decide +kernel
theorem dX4_become_18 : decode cX4_become 18 = .ok (.aload_n 0, 1) := by decide +kernel
theorem dX4_become_19 : decode cX4_become 19 = .ok (.getfield 27, 3) := by decide +kernel
theorem dX4_become_22 : decode cX4_become 22 = .ok (.invokestatic 69, 3) := by decide +kernel
theorem dX4_become_25 : decode cX4_become 25 = .ok (.aload_n 1, 1) := by decide +kernel
theorem dX4_become_26 : decode cX4_become 26 = .ok (.getfield 15, 3) := by decide +kernel
theorem dX4_become_29 : decode cX4_become 29 = .ok (.iconst 0, 1) := by decide +kernel
theorem dX4_become_30 : decode cX4_become 30 = .ok (.aload_n 0, 1) := by decide +kernel
theorem dX4_become_31 : decode cX4_become 31 = .ok (.getfield 15, 3) := by decide +kernel
theorem dX4_become_34 : decode cX4_become 34 = .ok (.iconst 0, 1) := by decide +kernel
theorem dX4_become_35 : decode cX4_become 35 = .ok (.aload_n 0, 1) := by decide +kernel
theorem dX4_become_36 : decode cX4_become 36 = .ok (.getfield 27, 3) := by decide +kernel
theorem dX4_become_39 : decode cX4_become 39 = .ok (.invokestatic 69, 3) := by decide +kernel
theorem dX4_become_42 : decode cX4_become 42 = .ok (.aload_n 1, 1) := by decide +kernel
theorem dX4_become_43 : decode cX4_become 43 = .ok (.getfield 18, 3) := by decide +kernel
theorem dX4_become_46 : decode cX4_become 46 = .ok (.iconst 0, 1) := by decide +kernel
theorem dX4_become_47 : decode cX4_become 47 = .ok (.aload_n 0, 1) := by decide +kernel
theorem dX4_become_48 : decode cX4_become 48 = .ok (.getfield 18, 3) := by decide +kernel
theorem dX4_become_51 : decode cX4_become 51 = .ok (.iconst 0, 1) := by decide +kernel
theorem dX4_become_52 : decode cX4_become 52 = .ok (.aload_n 0, 1) := by decide +kernel
theorem dX4_become_53 : decode cX4_become 53 = .ok (.getfield 27, 3) := by decide +kernel
theorem dX4_become_56 : decode cX4_become 56 = .ok (.bipush 18, 2) := by decide +kernel
theorem dX4_become_58 : decode cX4_become 58 = .ok (.imul, 1) := by decide +kernel
theorem dX4_become_59 : decode cX4_become 59 = .ok (.invokestatic 69, 3) := by decide +kernel
theorem dX4_become_62 : decode cX4_become 62 = .ok (.aload_n 1, 1) := by decide +kernel
theorem dX4_become_63 : decode cX4_become 63 = .ok (.getfield 21, 3) := by decide +kernel
theorem dX4_become_66 : decode cX4_become 66 = .ok (.iconst 0, 1) := by decide +kernel
theorem dX4_become_67 : decode cX4_become 67 = .ok (.aload_n 0, 1) := by decide +kernel
theorem dX4_become_68 : decode cX4_become 68 = .ok (.getfield 21, 3) := by decide +kernel
theorem dX4_become_71 : decode cX4_become 71 = .ok (.iconst 0, 1) := by decide +kernel
theorem dX4_become_72 : decode cX4_become 72 = .ok (.aload_n 0, 1) := by decide +kernel
theorem dX4_become_73 : decode cX4_become 73 = .ok (.getfield 27, 3) := by decide +kernel
theorem dX4_become_76 : decode cX4_become 76 = .ok (.invokestatic 69, 3) := by decide +kernel
theorem dX4_become_79 : decode cX4_become 79 = .ok (.aload_n 1, 1) := by decide +kernel
theorem dX4_become_80 : decode cX4_become 80 = .ok (.getfield 24, 3) := by decide +kernel
theorem dX4_become_83 : decode cX4_become 83 = .ok (.iconst 0, 1) := by decide +kernel
theorem dX4_become_84 : decode cX4_become 84 = .ok (.aload_n 0, 1) := by decide +kernel
theorem dX4_become_85 : decode cX4_become 85 = .ok (.getfield 24, 3) := by decide +kernel
theorem dX4_become_88 : decode cX4_become 88 = .ok (.iconst 0, 1) := by decide +kernel
theorem dX4_become_89 : decode cX4_become 89 = .ok (.aload_n 0, 1) := by decide +kernel
theorem dX4_become_90 : decode cX4_become 90 = .ok (.getfield 27, 3) := by decide +kernel
theorem dX4_become_93 : decode cX4_become 93 = .ok (.invokestatic 69, 3) := by decide +kernel
theorem dX4_become_96 : decode cX4_become 96 = .ok (.aload_n 0, 1) := by decide +kernel
theorem dX4_become_97 : decode cX4_become 97 = .ok (.aload_n 1, 1) := by decide +kernel
theorem dX4_become_98 : decode cX4_become 98 = .ok (.getfield 31, 3) := by decide +kernel
theorem dX4_become_101 : decode cX4_become 101 = .ok (.putfield 31, 3) := by decide +kernel
theorem dX4_become_104 : decode cX4_become 104 = .ok (.aload_n 1, 1) := by decide +kernel
theorem dX4_become_105 : decode cX4_become 105 = .ok (.getfield 34, 3) := by decide +kernel
theorem dX4_become_108 : decode cX4_become 108 = .ok (.iconst 0, 1) := by decide +kernel
theorem dX4_become_109 : decode cX4_become 109 = .ok (.aload_n 0, 1) := by decide +kernel
theorem dX4_become_110 : decode cX4_become 110 = .ok (.getfield 34, 3) := by decide +kernel
theorem dX4_become_113 : decode cX4_become 113 = .ok (.iconst 0, 1) := by decide +kernel
theorem dX4_become_114 : decode cX4_become 114 = .ok (.bipush 18, 2) := by decide +kernel
theorem dX4_become_116 : decode cX4_become 116 = .ok (.invokestatic 69, 3) := by decide +kernel
theorem dX4_become_119 : decode cX4_become 119 = .ok (.return_, 1) := by decide +kernel
theorem dX5_init_0 : decode cX5_init 0 = .ok (.aload_n 0, 1) := by decide +kernel
theorem dX5_init_1 : decode cX5_init 1 = .ok (.invokespecial 3, 3) := by decide +kernel
theorem dX5_init_4 : decode cX5_init 4 = .ok (.aload_n 0, 1) := by decide +kernel
theorem dX5_init_5 : decode cX5_init 5 = .ok (.bipush 100, 2) := by decide +kernel
theorem dX5_init_7 : decode cX5_init 7 = .ok (.newarray .int, 2) := by decide +kernel
theorem dX5_init_9 : decode cX5_init 9 = .ok (.putfield 9, 3) := by decide +kernel
theorem dX5_init_12 : decode cX5_init 12 = .ok (.aload_n 0, 1) := by decide +kernel
theorem dX5_init_13 : decode cX5_init 13 = .ok (.sipush 1800, 3) := by decide +kernel
theorem dX5_init_16 : decode cX5_init 16 = .ok (.newarray .int, 2) := by decide +kernel
theorem dX5_init_18 : decode cX5_init 18 = .ok (.putfield 15, 3) := by decide +kernel
theorem dX5_init_21 : decode cX5_init 21 = .ok (.aload_n 0, 1) := by decide +kernel
theorem dX5_init_22 : decode cX5_init 22 = .ok (.bipush 100, 2) := by decide +kernel
theorem dX5_init_24 : decode cX5_init 24 = .ok (.newarray .int, 2) := by decide +kernel
theorem dX5_init_26 : decode cX5_init 26 = .ok (.putfield 18, 3) := by decide +kernel
theorem dX5_init_29 : decode cX5_init 29 = .ok (.aload_n 0, 1) := by decide +kernel
theorem dX5_init_30 : decode cX5_init 30 = .ok (.bipush 100, 2) := by decide +kernel
theorem dX5_init_32 : decode cX5_init 32 = .ok (.newarray .long, 2) := by decide +kernel
theorem dX5_init_34 : decode cX5_init 34 = .ok (.putfield 21, 3) := by decide +kernel
theorem dX5_init_37 : decode cX5_init 37 = .ok (.aload_n 0, 1) := by decide +kernel
theorem dX5_init_38 : decode cX5_init 38 = .ok (.bipush 100, 2) := by decide +kernel
theorem dX5_init_40 : decode cX5_init 40 = .ok (.newarray .long, 2) := by decide +kernel
theorem dX5_init_42 : decode cX5_init 42 = .ok (.putfield 25, 3) := by decide +kernel
theorem dX5_init_45 : decode cX5_init 45 = .ok (.aload_n 0, 1) := by decide +kernel
theorem dX5_init_46 : decode cX5_init 46 = .ok (.iconst 0, 1) := by decide +kernel
theorem dX5_init_47 : decode cX5_init 47 = .ok (.putfield 28, 3) := by decide +kernel
theorem dX5_init_50 : decode cX5_init 50 = .ok (.return_, 1) := by decide +kernel
theorem dX5_has_0 : decode cX5_has 0 = .ok (.iload_n 1, 1) := by decide +kernel
theorem dX5_has_1 : decode cX5_has 1 = .ok (.ifCond .lt 15, 3) := by decide +kernel
theorem dX5_has_4 : decode cX5_has 4 = .ok (.iload_n 1, 1) := by decide +kernel
theorem dX5_has_5 : decode cX5_has 5 = .ok (.aload_n 0, 1) := by decide +kernel
theorem dX5_has_6 : decode cX5_has 6 = .ok (.getfield 28, 3) := by decide +kernel
theorem dX5_has_9 : decode cX5_has 9 = .ok (.if_icmp .ge 7, 3) := by decide +kernel
theorem dX5_has_12 : decode cX5_has 12 = .ok (.iconst 1, 1) := by decide +kernel
theorem dX5_has_13 : decode cX5_has 13 = .ok (.goto 4, 3) := by decide +kernel
theorem dX5_has_16 : decode cX5_has 16 = .ok (.iconst 0, 1) := by decide +kernel
theorem dX5_has_17 : decode cX5_has 17 = .ok (.ireturn, 1) := by decide +kernel
theorem dX5_hasCut_0 : decode cX5_hasCut 0 = .ok (.aload_n 0, 1) := by decide +kernel
theorem dX5_hasCut_1 : decode cX5_hasCut 1 = .ok (.iload_n 1, 1) := by decide +kernel
theorem dX5_hasCut_2 : decode cX5_hasCut 2 = .ok (.invokevirtual 32, 3) := by decide +kernel
theorem dX5_hasCut_5 : decode cX5_hasCut 5 = .ok (.ifCond .eq 21, 3) := by decide +kernel
theorem dX5_hasCut_8 : decode cX5_hasCut 8 = .ok (.iload_n 2, 1) := by decide +kernel
theorem dX5_hasCut_9 : decode cX5_hasCut 9 = .ok (.ifCond .lt 17, 3) := by decide +kernel
theorem dX5_hasCut_12 : decode cX5_hasCut 12 = .ok (.iload_n 2, 1) := by decide +kernel
theorem dX5_hasCut_13 : decode cX5_hasCut 13 = .ok (.aload_n 0, 1) := by decide +kernel
theorem dX5_hasCut_14 : decode cX5_hasCut 14 = .ok (.getfield 9, 3) := by decide +kernel
theorem dX5_hasCut_17 : decode cX5_hasCut 17 = .ok (.iload_n 1, 1) := by decide +kernel
theorem dX5_hasCut_18 : decode cX5_hasCut 18 = .ok (.iaload, 1) := by decide +kernel
theorem dX5_hasCut_19 : decode cX5_hasCut 19 = .ok (.if_icmp .ge 7, 3) := by decide +kernel
theorem dX5_hasCut_22 : decode cX5_hasCut 22 = .ok (.iconst 1, 1) := by decide +kernel
theorem dX5_hasCut_23 : decode cX5_hasCut 23 = .ok (.goto 4, 3) := by decide +kernel
theorem dX5_hasCut_26 : decode cX5_hasCut 26 = .ok (.iconst 0, 1) := by decide +kernel
theorem dX5_hasCut_27 : decode cX5_hasCut 27 = .ok (.ireturn, 1) := by decide +kernel
theorem dX5_cutAt_0 : decode cX5_cutAt 0 = .ok (.aload_n 0, 1) := by decide +kernel
theorem dX5_cutAt_1 : decode cX5_cutAt 1 = .ok (.iload_n 1, 1) := by decide +kernel
theorem dX5_cutAt_2 : decode cX5_cutAt 2 = .ok (.iload_n 2, 1) := by decide +kernel
theorem dX5_cutAt_3 : decode cX5_cutAt 3 = .ok (.invokevirtual 36, 3) := by decide +kernel
theorem dX5_cutAt_6 : decode cX5_cutAt 6 = .ok (.ifCond .eq 17, 3) := by decide +kernel
theorem dX5_cutAt_9 : decode cX5_cutAt 9 = .ok (.aload_n 0, 1) := by decide +kernel
theorem dX5_cutAt_10 : decode cX5_cutAt 10 = .ok (.getfield 15, 3) := by decide +kernel
theorem dX5_cutAt_13 : decode cX5_cutAt 13 = .ok (.iload_n 1, 1) := by decide +kernel
theorem dX5_cutAt_14 : decode cX5_cutAt 14 = .ok (.bipush 18, 2) := by decide +kernel
theorem dX5_cutAt_16 : decode cX5_cutAt 16 = .ok (.imul, 1) := by decide +kernel
theorem dX5_cutAt_17 : decode cX5_cutAt 17 = .ok (.iload_n 2, 1) := by decide +kernel
theorem dX5_cutAt_18 : decode cX5_cutAt 18 = .ok (.iadd, 1) := by decide +kernel
theorem dX5_cutAt_19 : decode cX5_cutAt 19 = .ok (.iaload, 1) := by decide +kernel
theorem dX5_cutAt_20 : decode cX5_cutAt 20 = .ok (.goto 4, 3) := by decide +kernel
theorem dX5_cutAt_23 : decode cX5_cutAt 23 = .ok (.iconst (-1), 1) := by decide +kernel
theorem dX5_cutAt_24 : decode cX5_cutAt 24 = .ok (.ireturn, 1) := by decide +kernel
theorem dX5_setCut_0 : decode cX5_setCut 0 = .ok (.aload_n 0, 1) := by decide +kernel
theorem dX5_setCut_1 : decode cX5_setCut 1 = .ok (.iload_n 1, 1) := by decide +kernel
theorem dX5_setCut_2 : decode cX5_setCut 2 = .ok (.iload_n 2, 1) := by decide +kernel
theorem dX5_setCut_3 : decode cX5_setCut 3 = .ok (.invokevirtual 36, 3) := by decide +kernel
theorem dX5_setCut_6 : decode cX5_setCut 6 = .ok (.ifCond .eq 15, 3) := by decide +kernel
theorem dX5_setCut_9 : decode cX5_setCut 9 = .ok (.aload_n 0, 1) := by decide +kernel
theorem dX5_setCut_10 : decode cX5_setCut 10 = .ok (.getfield 15, 3) := by decide +kernel
theorem dX5_setCut_13 : decode cX5_setCut 13 = .ok (.iload_n 1, 1) := by decide +kernel
theorem dX5_setCut_14 : decode cX5_setCut 14 = .ok (.bipush 18, 2) := by decide +kernel
theorem dX5_setCut_16 : decode cX5_setCut 16 = .ok (.imul, 1) := by decide +kernel
theorem dX5_setCut_17 : decode cX5_setCut 17 = .ok (.iload_n 2, 1) := by decide +kernel
theorem dX5_setCut_18 : decode cX5_setCut 18 = .ok (.iadd, 1) := by decide +kernel
theorem dX5_setCut_19 : decode cX5_setCut 19 = .ok (.iload_n 3, 1) := by decide +kernel
theorem dX5_setCut_20 : decode cX5_setCut 20 = .ok (.iastore, 1) := by decide +kernel
theorem dX5_setCut_21 : decode cX5_setCut 21 = .ok (.return_, 1) := by decide +kernel
theorem dX5_add_0 : decode cX5_add 0 = .ok (.aload_n 0, 1) := by decide +kernel
theorem dX5_add_1 : decode cX5_add 1 = .ok (.iload_n 1, 1) := by decide +kernel
theorem dX5_add_2 : decode cX5_add 2 = .ok (.invokevirtual 40, 3) := by decide +kernel
theorem dX5_add_5 : decode cX5_add 5 = .ok (.istore 4, 2) := by decide +kernel
theorem dX5_add_7 : decode cX5_add 7 = .ok (.lload_n 2, 1) := by decide +kernel
theorem dX5_add_8 : decode cX5_add 8 = .ok (.lstore 5, 2) := by decide +kernel
theorem dX5_add_10 : decode cX5_add 10 = .ok (.iconst 0, 1) := by decide +kernel
theorem dX5_add_11 : decode cX5_add 11 = .ok (.istore 7, 2) := by decide +kernel
theorem dX5_add_13 : decode cX5_add 13 = .ok (.iload 7, 2) := by decide +kernel
theorem dX5_add_15 : decode cX5_add 15 = .ok (.iload_n 1, 1) := by decide +kernel
theorem dX5_add_16 : decode cX5_add 16 = .ok (.if_icmp .ge 32, 3) := by decide +kernel
theorem dX5_add_19 : decode cX5_add 19 = .ok (.aload_n 0, 1) := by decide +kernel
theorem dX5_add_20 : decode cX5_add 20 = .ok (.iload 4, 2) := by decide +kernel
theorem dX5_add_22 : decode cX5_add 22 = .ok (.iload 7, 2) := by decide +kernel
theorem dX5_add_24 : decode cX5_add 24 = .ok (.lload 5, 2) := by decide +kernel
theorem dX5_add_26 : decode cX5_add 26 = .ok (.ldc2_w 44, 3) := by decide +kernel
theorem dX5_add_29 : decode cX5_add 29 = .ok (.lrem, 1) := by decide +kernel
theorem dX5_add_30 : decode cX5_add 30 = .ok (.l2i, 1) := by decide +kernel
theorem dX5_add_31 : decode cX5_add 31 = .ok (.invokevirtual 46, 3) := by decide +kernel
theorem dX5_add_34 : decode cX5_add 34 = .ok (.lload 5, 2) := by decide +kernel
theorem dX5_add_36 : decode cX5_add 36 = .ok (.ldc2_w 44, 3) := by decide +kernel
theorem dX5_add_39 : decode cX5_add 39 = .ok (.ldiv, 1) := by decide +kernel
theorem dX5_add_40 : decode cX5_add 40 = .ok (.lstore 5, 2) := by decide +kernel
theorem dX5_add_42 : decode cX5_add 42 = .ok (.iinc 7 1, 3) := by decide +kernel
theorem dX5_add_45 : decode cX5_add 45 = .ok (.goto (-32), 3) := by decide +kernel
theorem dX5_add_48 : decode cX5_add 48 = .ok (.iload 4, 2) := by decide +kernel
theorem dX5_add_50 : decode cX5_add 50 = .ok (.ireturn, 1) := by decide +kernel
theorem dX5_addTurned_0 : decode cX5_addTurned 0 = .ok (.aload_n 0, 1) := by decide +kernel
theorem dX5_addTurned_1 : decode cX5_addTurned 1 = .ok (.iload_n 2, 1) := by decide +kernel
theorem dX5_addTurned_2 : decode cX5_addTurned 2 = .ok (.invokevirtual 40, 3) := by decide +kernel
theorem dX5_addTurned_5 : decode cX5_addTurned 5 = .ok (.istore_n 3, 1) := by decide +kernel
theorem dX5_addTurned_6 : decode cX5_addTurned 6 = .ok (.iconst 0, 1) := by decide +kernel
theorem dX5_addTurned_7 : decode cX5_addTurned 7 = .ok (.istore 4, 2) := by decide +kernel
theorem dX5_addTurned_9 : decode cX5_addTurned 9 = .ok (.iload 4, 2) := by decide +kernel
theorem dX5_addTurned_11 : decode cX5_addTurned 11 = .ok (.iload_n 2, 1) := by decide +kernel
theorem dX5_addTurned_12 : decode cX5_addTurned 12 = .ok (.if_icmp .ge 27, 3) := by decide +kernel
theorem dX5_addTurned_15 : decode cX5_addTurned 15 = .ok (.aload_n 0, 1) := by decide +kernel
theorem dX5_addTurned_16 : decode cX5_addTurned 16 = .ok (.iload_n 3, 1) := by decide +kernel
theorem dX5_addTurned_17 : decode cX5_addTurned 17 = .ok (.iload 4, 2) := by decide +kernel
theorem dX5_addTurned_19 : decode cX5_addTurned 19 = .ok (.aload_n 0, 1) := by decide +kernel
theorem dX5_addTurned_20 : decode cX5_addTurned 20 = .ok (.iload_n 1, 1) := by decide +kernel
theorem dX5_addTurned_21 : decode cX5_addTurned 21 = .ok (.iload_n 2, 1) := by decide +kernel
theorem dX5_addTurned_22 : decode cX5_addTurned 22 = .ok (.iconst 1, 1) := by decide +kernel
theorem dX5_addTurned_23 : decode cX5_addTurned 23 = .ok (.isub, 1) := by decide +kernel
theorem dX5_addTurned_24 : decode cX5_addTurned 24 = .ok (.iload 4, 2) := by decide +kernel
theorem dX5_addTurned_26 : decode cX5_addTurned 26 = .ok (.isub, 1) := by decide +kernel
theorem dX5_addTurned_27 : decode cX5_addTurned 27 = .ok (.invokevirtual 50, 3) := by decide +kernel
theorem dX5_addTurned_30 : decode cX5_addTurned 30 = .ok (.invokevirtual 46, 3) := by decide +kernel
theorem dX5_addTurned_33 : decode cX5_addTurned 33 = .ok (.iinc 4 1, 3) := by decide +kernel
theorem dX5_addTurned_36 : decode cX5_addTurned 36 = .ok (.goto (-27), 3) := by decide +kernel
theorem dX5_addTurned_39 : decode cX5_addTurned 39 = .ok (.iload_n 3, 1) := by decide +kernel
theorem dX5_addTurned_40 : decode cX5_addTurned 40 = .ok (.ireturn, 1) := by decide +kernel
theorem dX5_addEmpty_0 : decode cX5_addEmpty 0 = .ok (.aload_n 0, 1) := by decide +kernel
theorem dX5_addEmpty_1 : decode cX5_addEmpty 1 = .ok (.getfield 28, 3) := by decide +kernel
theorem dX5_addEmpty_4 : decode cX5_addEmpty 4 = .ok (.istore_n 2, 1) := by decide +kernel
theorem dX5_addEmpty_5 : decode cX5_addEmpty 5 = .ok (.aload_n 0, 1) := by decide +kernel
theorem dX5_addEmpty_6 : decode cX5_addEmpty 6 = .ok (.dup, 1) := by decide +kernel
theorem dX5_addEmpty_7 : decode cX5_addEmpty 7 = .ok (.getfield 28, 3) := by decide +kernel
theorem dX5_addEmpty_10 : decode cX5_addEmpty 10 = .ok (.iconst 1, 1) := by decide +kernel
theorem dX5_addEmpty_11 : decode cX5_addEmpty 11 = .ok (.iadd, 1) := by decide +kernel
theorem dX5_addEmpty_12 : decode cX5_addEmpty 12 = .ok (.putfield 28, 3) := by decide +kernel
theorem dX5_addEmpty_15 : decode cX5_addEmpty 15 = .ok (.aload_n 0, 1) := by decide +kernel
theorem dX5_addEmpty_16 : decode cX5_addEmpty 16 = .ok (.getfield 9, 3) := by decide +kernel
theorem dX5_addEmpty_19 : decode cX5_addEmpty 19 = .ok (.iload_n 2, 1) := by decide +kernel
theorem dX5_addEmpty_20 : decode cX5_addEmpty 20 = .ok (.iload_n 1, 1) := by decide +kernel
theorem dX5_addEmpty_21 : decode cX5_addEmpty 21 = .ok (.iastore, 1) := by decide +kernel
theorem dX5_addEmpty_22 : decode cX5_addEmpty 22 = .ok (.aload_n 0, 1) := by decide +kernel
theorem dX5_addEmpty_23 : decode cX5_addEmpty 23 = .ok (.getfield 18, 3) := by decide +kernel
theorem dX5_addEmpty_26 : decode cX5_addEmpty 26 = .ok (.iload_n 2, 1) := by decide +kernel
theorem dX5_addEmpty_27 : decode cX5_addEmpty 27 = .ok (.iconst (-1), 1) := by decide +kernel
theorem dX5_addEmpty_28 : decode cX5_addEmpty 28 = .ok (.iastore, 1) := by decide +kernel
theorem dX5_addEmpty_29 : decode cX5_addEmpty 29 = .ok (.aload_n 0, 1) := by decide +kernel
theorem dX5_addEmpty_30 : decode cX5_addEmpty 30 = .ok (.getfield 21, 3) := by decide +kernel
theorem dX5_addEmpty_33 : decode cX5_addEmpty 33 = .ok (.iload_n 2, 1) := by decide +kernel
theorem dX5_addEmpty_34 : decode cX5_addEmpty 34 = .ok (.lconst 0, 1) := by decide +kernel
theorem dX5_addEmpty_35 : decode cX5_addEmpty 35 = .ok (.lastore, 1) := by decide +kernel
theorem dX5_addEmpty_36 : decode cX5_addEmpty 36 = .ok (.aload_n 0, 1) := by decide +kernel
theorem dX5_addEmpty_37 : decode cX5_addEmpty 37 = .ok (.getfield 25, 3) := by decide +kernel
theorem dX5_addEmpty_40 : decode cX5_addEmpty 40 = .ok (.iload_n 2, 1) := by decide +kernel
theorem dX5_addEmpty_41 : decode cX5_addEmpty 41 = .ok (.lconst 0, 1) := by decide +kernel
theorem dX5_addEmpty_42 : decode cX5_addEmpty 42 = .ok (.lastore, 1) := by decide +kernel
theorem dX5_addEmpty_43 : decode cX5_addEmpty 43 = .ok (.iload_n 2, 1) := by decide +kernel
theorem dX5_addEmpty_44 : decode cX5_addEmpty 44 = .ok (.ireturn, 1) := by decide +kernel
theorem dX5_heldBy_0 : decode cX5_heldBy 0 = .ok (.iconst 0, 1) := by decide +kernel
theorem dX5_heldBy_1 : decode cX5_heldBy 1 = .ok (.istore_n 2, 1) := by decide +kernel
theorem dX5_heldBy_2 : decode cX5_heldBy 2 = .ok (.iconst 0, 1) := by decide +kernel
theorem dX5_heldBy_3 : decode cX5_heldBy 3 = .ok (.istore_n 3, 1) := by decide +kernel
theorem dX5_heldBy_4 : decode cX5_heldBy 4 = .ok (.iload_n 3, 1) := by decide +kernel
theorem dX5_heldBy_5 : decode cX5_heldBy 5 = .ok (.aload_n 0, 1) := by decide +kernel
theorem dX5_heldBy_6 : decode cX5_heldBy 6 = .ok (.getfield 28, 3) := by decide +kernel
theorem dX5_heldBy_9 : decode cX5_heldBy 9 = .ok (.if_icmp .ge 22, 3) := by decide +kernel
theorem dX5_heldBy_12 : decode cX5_heldBy 12 = .ok (.aload_n 0, 1) := by decide +kernel
theorem dX5_heldBy_13 : decode cX5_heldBy 13 = .ok (.getfield 18, 3) := by decide +kernel
theorem dX5_heldBy_16 : decode cX5_heldBy 16 = .ok (.iload_n 3, 1) := by decide +kernel
theorem dX5_heldBy_17 : decode cX5_heldBy 17 = .ok (.iaload, 1) := by decide +kernel
theorem dX5_heldBy_18 : decode cX5_heldBy 18 = .ok (.iload_n 1, 1) := by decide +kernel
theorem dX5_heldBy_19 : decode cX5_heldBy 19 = .ok (.if_icmp .ne 6, 3) := by decide +kernel
theorem dX5_heldBy_22 : decode cX5_heldBy 22 = .ok (.iinc 2 1, 3) := by decide +kernel
theorem dX5_heldBy_25 : decode cX5_heldBy 25 = .ok (.iinc 3 1, 3) := by decide +kernel
theorem dX5_heldBy_28 : decode cX5_heldBy 28 = .ok (.goto (-24), 3) := by decide +kernel
theorem dX5_heldBy_31 : decode cX5_heldBy 31 = .ok (.iload_n 2, 1) := by decide +kernel
theorem dX5_heldBy_32 : decode cX5_heldBy 32 = .ok (.ireturn, 1) := by decide +kernel
theorem dX5_wishFor_0 : decode cX5_wishFor 0 = .ok (.lconst 1, 1) := by decide +kernel
theorem dX5_wishFor_1 : decode cX5_wishFor 1 = .ok (.iload_n 2, 1) := by decide +kernel
theorem dX5_wishFor_2 : decode cX5_wishFor 2 = .ok (.lshl, 1) := by decide +kernel
theorem dX5_wishFor_3 : decode cX5_wishFor 3 = .ok (.lstore_n 3, 1) := by decide +kernel
theorem dX5_wishFor_4 : decode cX5_wishFor 4 = .ok (.aload_n 0, 1) := by decide +kernel
theorem dX5_wishFor_5 : decode cX5_wishFor 5 = .ok (.getfield 21, 3) := by decide +kernel
theorem dX5_wishFor_8 : decode cX5_wishFor 8 = .ok (.iload_n 1, 1) := by decide +kernel
theorem dX5_wishFor_9 : decode cX5_wishFor 9 = .ok (.laload, 1) := by decide +kernel
theorem dX5_wishFor_10 : decode cX5_wishFor 10 = .ok (.lload_n 3, 1) := by decide +kernel
theorem dX5_wishFor_11 : decode cX5_wishFor 11 = .ok (.land, 1) := by decide +kernel
theorem dX5_wishFor_12 : decode cX5_wishFor 12 = .ok (.lconst 0, 1) := by decide +kernel
theorem dX5_wishFor_13 : decode cX5_wishFor 13 = .ok (.lcmp, 1) := by decide +kernel
theorem dX5_wishFor_14 : decode cX5_wishFor 14 = .ok (.ifCond .eq 5, 3) := by decide +kernel
theorem dX5_wishFor_17 : decode cX5_wishFor 17 = .ok (.iconst 1, 1) := by decide +kernel
theorem dX5_wishFor_18 : decode cX5_wishFor 18 = .ok (.ireturn, 1) := by decide +kernel
theorem dX5_wishFor_19 : decode cX5_wishFor 19 = .ok (.aload_n 0, 1) := by decide +kernel
theorem dX5_wishFor_20 : decode cX5_wishFor 20 = .ok (.getfield 25, 3) := by decide +kernel
theorem dX5_wishFor_23 : decode cX5_wishFor 23 = .ok (.iload_n 1, 1) := by decide +kernel
theorem dX5_wishFor_24 : decode cX5_wishFor 24 = .ok (.laload, 1) := by decide +kernel
theorem dX5_wishFor_25 : decode cX5_wishFor 25 = .ok (.lload_n 3, 1) := by decide +kernel
theorem dX5_wishFor_26 : decode cX5_wishFor 26 = .ok (.land, 1) := by decide +kernel
theorem dX5_wishFor_27 : decode cX5_wishFor 27 = .ok (.lconst 0, 1) := by decide +kernel
theorem dX5_wishFor_28 : decode cX5_wishFor 28 = .ok (.lcmp, 1) := by decide +kernel
theorem dX5_wishFor_29 : decode cX5_wishFor 29 = .ok (.ifCond .eq 7, 3) := by decide +kernel
theorem dX5_wishFor_32 : decode cX5_wishFor 32 = .ok (.iconst 2, 1) := by decide +kernel
theorem dX5_wishFor_33 : decode cX5_wishFor 33 = .ok (.goto 4, 3) := by decide +kernel
theorem dX5_wishFor_36 : decode cX5_wishFor 36 = .ok (.iconst 0, 1) := by decide +kernel
theorem dX5_wishFor_37 : decode cX5_wishFor 37 = .ok (.ireturn, 1) := by decide +kernel
theorem dX5_exchangeWish_0 : decode cX5_exchangeWish 0 = .ok (.aload_n 0, 1) := by decide +kernel
theorem dX5_exchangeWish_1 : decode cX5_exchangeWish 1 = .ok (.iload_n 1, 1) := by decide +kernel
theorem dX5_exchangeWish_2 : decode cX5_exchangeWish 2 = .ok (.iload_n 2, 1) := by decide +kernel
theorem dX5_exchangeWish_3 : decode cX5_exchangeWish 3 = .ok (.invokevirtual 54, 3) := by decide +kernel
theorem dX5_exchangeWish_6 : decode cX5_exchangeWish 6 = .ok (.istore 4, 2) := by decide +kernel
theorem dX5_exchangeWish_8 : decode cX5_exchangeWish 8 = .ok (.lconst 1, 1) := by decide +kernel
theorem dX5_exchangeWish_9 : decode cX5_exchangeWish 9 = .ok (.iload_n 2, 1) := by decide +kernel
theorem dX5_exchangeWish_10 : decode cX5_exchangeWish 10 = .ok (.lshl, 1) := by decide +kernel
theorem dX5_exchangeWish_11 : decode cX5_exchangeWish 11 = .ok (.lstore 5, 2) := by decide +kernel
theorem dX5_exchangeWish_13 : decode cX5_exchangeWish 13 = .ok (.aload_n 0, 1) := by decide +kernel
theorem dX5_exchangeWish_14 : decode cX5_exchangeWish 14 = .ok (.getfield 21, 3) := by decide +kernel
theorem dX5_exchangeWish_17 : decode cX5_exchangeWish 17 = .ok (.iload_n 1, 1) := by decide +kernel
theorem dX5_exchangeWish_18 : decode cX5_exchangeWish 18 = .ok (.iload_n 3, 1) := by decide +kernel
theorem dX5_exchangeWish_19 : decode cX5_exchangeWish 19 = .ok (.iconst 1, 1) := by decide +kernel
theorem dX5_exchangeWish_20 : decode cX5_exchangeWish 20 = .ok (.if_icmp .ne 15, 3) := by decide +kernel
theorem dX5_exchangeWish_23 : decode cX5_exchangeWish 23 = .ok (.aload_n 0, 1) := by decide +kernel
theorem dX5_exchangeWish_24 : decode cX5_exchangeWish 24 = .ok (.getfield 21, 3) := by decide +kernel
theorem dX5_exchangeWish_27 : decode cX5_exchangeWish 27 = .ok (.iload_n 1, 1) := by decide +kernel
theorem dX5_exchangeWish_28 : decode cX5_exchangeWish 28 = .ok (.laload, 1) := by decide +kernel
theorem dX5_exchangeWish_29 : decode cX5_exchangeWish 29 = .ok (.lload 5, 2) := by decide +kernel
theorem dX5_exchangeWish_31 : decode cX5_exchangeWish 31 = .ok (.lor, 1) := by decide +kernel
theorem dX5_exchangeWish_32 : decode cX5_exchangeWish 32 = .ok (.goto 16, 3) := by decide +kernel
theorem dX5_exchangeWish_35 : decode cX5_exchangeWish 35 = .ok (.aload_n 0, 1) := by decide +kernel
theorem dX5_exchangeWish_36 : decode cX5_exchangeWish 36 = .ok (.getfield 21, 3) := by decide +kernel
theorem dX5_exchangeWish_39 : decode cX5_exchangeWish 39 = .ok (.iload_n 1, 1) := by decide +kernel
theorem dX5_exchangeWish_40 : decode cX5_exchangeWish 40 = .ok (.laload, 1) := by decide +kernel
theorem dX5_exchangeWish_41 : decode cX5_exchangeWish 41 = .ok (.lload 5, 2) := by decide +kernel
theorem dX5_exchangeWish_43 : decode cX5_exchangeWish 43 = .ok (.ldc2_w 57, 3) := by decide +kernel
theorem dX5_exchangeWish_46 : decode cX5_exchangeWish 46 = .ok (.lxor, 1) := by decide +kernel
theorem dX5_exchangeWish_47 : decode cX5_exchangeWish 47 = .ok (.land, 1) := by decide +kernel
theorem dX5_exchangeWish_48 : decode cX5_exchangeWish 48 = .ok (.lastore, 1) := by decide +kernel
theorem dX5_exchangeWish_49 : decode cX5_exchangeWish 49 = .ok (.aload_n 0, 1) := by decide +kernel
theorem dX5_exchangeWish_50 : decode cX5_exchangeWish 50 = .ok (.getfield 25, 3) := by decide +kernel
theorem dX5_exchangeWish_53 : decode cX5_exchangeWish 53 = .ok (.iload_n 1, 1) := by decide +kernel
theorem dX5_exchangeWish_54 : decode cX5_exchangeWish 54 = .ok (.iload_n 3, 1) := by decide +kernel
theorem dX5_exchangeWish_55 : decode cX5_exchangeWish 55 = .ok (.iconst 2, 1) := by decide +kernel
theorem dX5_exchangeWish_56 : decode cX5_exchangeWish 56 = .ok (.if_icmp .ne 15, 3) := by decide +kernel
theorem dX5_exchangeWish_59 : decode cX5_exchangeWish 59 = .ok (.aload_n 0, 1) := by decide +kernel
theorem dX5_exchangeWish_60 : decode cX5_exchangeWish 60 = .ok (.getfield 25, 3) := by decide +kernel
theorem dX5_exchangeWish_63 : decode cX5_exchangeWish 63 = .ok (.iload_n 1, 1) := by decide +kernel
theorem dX5_exchangeWish_64 : decode cX5_exchangeWish 64 = .ok (.laload, 1) := by decide +kernel
theorem dX5_exchangeWish_65 : decode cX5_exchangeWish 65 = .ok (.lload 5, 2) := by decide +kernel
theorem dX5_exchangeWish_67 : decode cX5_exchangeWish 67 = .ok (.lor, 1) := by decide +kernel
theorem dX5_exchangeWish_68 : decode cX5_exchangeWish 68 = .ok (.goto 16, 3) := by decide +kernel
theorem dX5_exchangeWish_71 : decode cX5_exchangeWish 71 = .ok (.aload_n 0, 1) := by decide +kernel
theorem dX5_exchangeWish_72 : decode cX5_exchangeWish 72 = .ok (.getfield 25, 3) := by decide +kernel
theorem dX5_exchangeWish_75 : decode cX5_exchangeWish 75 = .ok (.iload_n 1, 1) := by decide +kernel
theorem dX5_exchangeWish_76 : decode cX5_exchangeWish 76 = .ok (.laload, 1) := by decide +kernel
theorem dX5_exchangeWish_77 : decode cX5_exchangeWish 77 = .ok (.lload 5, 2) := by decide +kernel
theorem dX5_exchangeWish_79 : decode cX5_exchangeWish 79 = .ok (.ldc2_w 57, 3) := by decide +kernel
theorem dX5_exchangeWish_82 : decode cX5_exchangeWish 82 = .ok (.lxor, 1) := by decide +kernel
theorem dX5_exchangeWish_83 : decode cX5_exchangeWish 83 = .ok (.land, 1) := by decide +kernel
theorem dX5_exchangeWish_84 : decode cX5_exchangeWish 84 = .ok (.lastore, 1) := by decide +kernel
theorem dX5_exchangeWish_85 : decode cX5_exchangeWish 85 = .ok (.iload 4, 2) := by decide +kernel
theorem dX5_exchangeWish_87 : decode cX5_exchangeWish 87 = .ok (.ireturn, 1) := by decide +kernel
theorem dX5_become_0 : decode cX5_become 0 = .ok (.aload_n 0, 1) := by decide +kernel
theorem dX5_become_1 : decode cX5_become 1 = .ok (.aload_n 1, 1) := by decide +kernel
theorem dX5_become_2 : decode cX5_become 2 = .ok (.getfield 28, 3) := by decide +kernel
theorem dX5_become_5 : decode cX5_become 5 = .ok (.putfield 28, 3) := by decide +kernel
theorem dX5_become_8 : decode cX5_become 8 = .ok (.aload_n 1, 1) := by decide +kernel
theorem dX5_become_9 : decode cX5_become 9 = .ok (.getfield 9, 3) := by decide +kernel
theorem dX5_become_12 : decode cX5_become 12 = .ok (.iconst 0, 1) := by decide +kernel
theorem dX5_become_13 : decode cX5_become 13 = .ok (.aload_n 0, 1) := by decide +kernel
theorem dX5_become_14 : decode cX5_become 14 = .ok (.getfield 9, 3) := by decide +kernel
theorem dX5_become_17 : decode cX5_become 17 = .ok (.iconst 0, 1) := by decide +kernel
theorem dX5_become_18 : decode cX5_become 18 = .ok (.aload_n 0, 1) := by decide +kernel
theorem dX5_become_19 : decode cX5_become 19 = .ok (.getfield 28, 3) := by decide +kernel
theorem dX5_become_22 : decode cX5_become 22 = .ok (.invokestatic 59, 3) := by decide +kernel
theorem dX5_become_25 : decode cX5_become 25 = .ok (.aload_n 1, 1) := by decide +kernel
theorem dX5_become_26 : decode cX5_become 26 = .ok (.getfield 15, 3) := by decide +kernel
theorem dX5_become_29 : decode cX5_become 29 = .ok (.iconst 0, 1) := by decide +kernel
theorem dX5_become_30 : decode cX5_become 30 = .ok (.aload_n 0, 1) := by decide +kernel
theorem dX5_become_31 : decode cX5_become 31 = .ok (.getfield 15, 3) := by decide +kernel
theorem dX5_become_34 : decode cX5_become 34 = .ok (.iconst 0, 1) := by decide +kernel
theorem dX5_become_35 : decode cX5_become 35 = .ok (.aload_n 0, 1) := by decide +kernel
theorem dX5_become_36 : decode cX5_become 36 = .ok (.getfield 28, 3) := by decide +kernel
theorem dX5_become_39 : decode cX5_become 39 = .ok (.bipush 18, 2) := by decide +kernel
theorem dX5_become_41 : decode cX5_become 41 = .ok (.imul, 1) := by decide +kernel
theorem dX5_become_42 : decode cX5_become 42 = .ok (.invokestatic 59, 3) := by decide +kernel
theorem dX5_become_45 : decode cX5_become 45 = .ok (.aload_n 1, 1) := by decide +kernel
theorem dX5_become_46 : decode cX5_become 46 = .ok (.getfield 18, 3) := by decide +kernel
theorem dX5_become_49 : decode cX5_become 49 = .ok (.iconst 0, 1) := by decide +kernel
theorem dX5_become_50 : decode cX5_become 50 = .ok (.aload_n 0, 1) := by decide +kernel
theorem dX5_become_51 : decode cX5_become 51 = .ok (.getfield 18, 3) := by decide +kernel
theorem dX5_become_54 : decode cX5_become 54 = .ok (.iconst 0, 1) := by decide +kernel
theorem dX5_become_55 : decode cX5_become 55 = .ok (.aload_n 0, 1) := by decide +kernel
theorem dX5_become_56 : decode cX5_become 56 = .ok (.getfield 28, 3) := by decide +kernel
theorem dX5_become_59 : decode cX5_become 59 = .ok (.invokestatic 59, 3) := by decide +kernel
theorem dX5_become_62 : decode cX5_become 62 = .ok (.aload_n 1, 1) := by decide +kernel
theorem dX5_become_63 : decode cX5_become 63 = .ok (.getfield 21, 3) := by decide +kernel
theorem dX5_become_66 : decode cX5_become 66 = .ok (.iconst 0, 1) := by decide +kernel
theorem dX5_become_67 : decode cX5_become 67 = .ok (.aload_n 0, 1) := by decide +kernel
theorem dX5_become_68 : decode cX5_become 68 = .ok (.getfield 21, 3) := by decide +kernel
theorem dX5_become_71 : decode cX5_become 71 = .ok (.iconst 0, 1) := by decide +kernel
theorem dX5_become_72 : decode cX5_become 72 = .ok (.aload_n 0, 1) := by decide +kernel
theorem dX5_become_73 : decode cX5_become 73 = .ok (.getfield 28, 3) := by decide +kernel
theorem dX5_become_76 : decode cX5_become 76 = .ok (.invokestatic 59, 3) := by decide +kernel
theorem dX5_become_79 : decode cX5_become 79 = .ok (.aload_n 1, 1) := by decide +kernel
theorem dX5_become_80 : decode cX5_become 80 = .ok (.getfield 25, 3) := by decide +kernel
theorem dX5_become_83 : decode cX5_become 83 = .ok (.iconst 0, 1) := by decide +kernel
theorem dX5_become_84 : decode cX5_become 84 = .ok (.aload_n 0, 1) := by decide +kernel
theorem dX5_become_85 : decode cX5_become 85 = .ok (.getfield 25, 3) := by decide +kernel
theorem dX5_become_88 : decode cX5_become 88 = .ok (.iconst 0, 1) := by decide +kernel
theorem dX5_become_89 : decode cX5_become 89 = .ok (.aload_n 0, 1) := by decide +kernel
theorem dX5_become_90 : decode cX5_become 90 = .ok (.getfield 28, 3) := by decide +kernel
theorem dX5_become_93 : decode cX5_become 93 = .ok (.invokestatic 59, 3) := by decide +kernel
theorem dX5_become_96 : decode cX5_become 96 = .ok (.return_, 1) := by decide +kernel
theorem dX6_init_0 : decode cX6_init 0 = .ok (.aload_n 0, 1) := by decide +kernel
theorem dX6_init_1 : decode cX6_init 1 = .ok (.invokespecial 3, 3) := by decide +kernel
theorem dX6_init_4 : decode cX6_init 4 = .ok (.aload_n 0, 1) := by decide +kernel
theorem dX6_init_5 : decode cX6_init 5 = .ok (.new 9, 3) := by decide +kernel
theorem dX6_init_8 : decode cX6_init 8 = .ok (.dup, 1) := by decide +kernel
theorem dX6_init_9 : decode cX6_init 9 = .ok (.invokespecial 11, 3) := by decide +kernel
theorem dX6_init_12 : decode cX6_init 12 = .ok (.putfield 12, 3) := by decide +kernel
theorem dX6_init_15 : decode cX6_init 15 = .ok (.aload_n 0, 1) := by decide +kernel
theorem dX6_init_16 : decode cX6_init 16 = .ok (.new 18, 3) := by decide +kernel
theorem dX6_init_19 : decode cX6_init 19 = .ok (.dup, 1) := by decide +kernel
theorem dX6_init_20 : decode cX6_init 20 = .ok (.invokespecial 20, 3) := by decide +kernel
theorem dX6_init_23 : decode cX6_init 23 = .ok (.putfield 21, 3) := by decide +kernel
theorem dX6_init_26 : decode cX6_init 26 = .ok (.aload_n 0, 1) := by decide +kernel
theorem dX6_init_27 : decode cX6_init 27 = .ok (.new 25, 3) := by decide +kernel
theorem dX6_init_30 : decode cX6_init 30 = .ok (.dup, 1) := by decide +kernel
theorem dX6_init_31 : decode cX6_init 31 = .ok (.invokespecial 27, 3) := by decide +kernel
theorem dX6_init_34 : decode cX6_init 34 = .ok (.putfield 28, 3) := by decide +kernel
theorem dX6_init_37 : decode cX6_init 37 = .ok (.aload_n 0, 1) := by decide +kernel
theorem dX6_init_38 : decode cX6_init 38 = .ok (.bipush 40, 2) := by decide +kernel
theorem dX6_init_40 : decode cX6_init 40 = .ok (.newarray .int, 2) := by decide +kernel
theorem dX6_init_42 : decode cX6_init 42 = .ok (.putfield 32, 3) := by decide +kernel
theorem dX6_init_45 : decode cX6_init 45 = .ok (.aload_n 0, 1) := by decide +kernel
theorem dX6_init_46 : decode cX6_init 46 = .ok (.iconst 0, 1) := by decide +kernel
theorem dX6_init_47 : decode cX6_init 47 = .ok (.putfield 36, 3) := by decide +kernel
theorem dX6_init_50 : decode cX6_init 50 = .ok (.aload_n 0, 1) := by decide +kernel
theorem dX6_init_51 : decode cX6_init 51 = .ok (.iconst 0, 1) := by decide +kernel
theorem dX6_init_52 : decode cX6_init 52 = .ok (.putfield 40, 3) := by decide +kernel
theorem dX6_init_55 : decode cX6_init 55 = .ok (.aload_n 0, 1) := by decide +kernel
theorem dX6_init_56 : decode cX6_init 56 = .ok (.iconst 0, 1) := by decide +kernel
theorem dX6_init_57 : decode cX6_init 57 = .ok (.putfield 43, 3) := by decide +kernel
theorem dX6_init_60 : decode cX6_init 60 = .ok (.return_, 1) := by decide +kernel
theorem dX6_hasDoor_0 : decode cX6_hasDoor 0 = .ok (.iload_n 1, 1) := by decide +kernel
theorem dX6_hasDoor_1 : decode cX6_hasDoor 1 = .ok (.ifCond .lt 15, 3) := by decide +kernel
theorem dX6_hasDoor_4 : decode cX6_hasDoor 4 = .ok (.iload_n 1, 1) := by decide +kernel
theorem dX6_hasDoor_5 : decode cX6_hasDoor 5 = .ok (.aload_n 0, 1) := by decide +kernel
theorem dX6_hasDoor_6 : decode cX6_hasDoor 6 = .ok (.getfield 36, 3) := by decide +kernel
theorem dX6_hasDoor_9 : decode cX6_hasDoor 9 = .ok (.if_icmp .ge 7, 3) := by decide +kernel
theorem dX6_hasDoor_12 : decode cX6_hasDoor 12 = .ok (.iconst 1, 1) := by decide +kernel
theorem dX6_hasDoor_13 : decode cX6_hasDoor 13 = .ok (.goto 4, 3) := by decide +kernel
theorem dX6_hasDoor_16 : decode cX6_hasDoor 16 = .ok (.iconst 0, 1) := by decide +kernel
theorem dX6_hasDoor_17 : decode cX6_hasDoor 17 = .ok (.ireturn, 1) := by decide +kernel
theorem dX6_become_0 : decode cX6_become 0 = .ok (.aload_n 0, 1) := by decide +kernel
theorem dX6_become_1 : decode cX6_become 1 = .ok (.getfield 12, 3) := by decide +kernel
theorem dX6_become_4 : decode cX6_become 4 = .ok (.aload_n 1, 1) := by decide +kernel
theorem dX6_become_5 : decode cX6_become 5 = .ok (.getfield 12, 3) := by decide +kernel
theorem dX6_become_8 : decode cX6_become 8 = .ok (.invokevirtual 46, 3) := by decide +kernel
theorem dX6_become_11 : decode cX6_become 11 = .ok (.aload_n 0, 1) := by decide +kernel
theorem dX6_become_12 : decode cX6_become 12 = .ok (.getfield 21, 3) := by decide +kernel
theorem dX6_become_15 : decode cX6_become 15 = .ok (.aload_n 1, 1) := by decide +kernel
theorem dX6_become_16 : decode cX6_become 16 = .ok (.getfield 21, 3) := by decide +kernel
theorem dX6_become_19 : decode cX6_become 19 = .ok (.invokevirtual 50, 3) := by decide +kernel
theorem dX6_become_22 : decode cX6_become 22 = .ok (.aload_n 0, 1) := by decide +kernel
theorem dX6_become_23 : decode cX6_become 23 = .ok (.getfield 28, 3) := by decide +kernel
theorem dX6_become_26 : decode cX6_become 26 = .ok (.aload_n 1, 1) := by decide +kernel
theorem dX6_become_27 : decode cX6_become 27 = .ok (.getfield 28, 3) := by decide +kernel
theorem dX6_become_30 : decode cX6_become 30 = .ok (.invokevirtual 53, 3) := by decide +kernel
theorem dX6_become_33 : decode cX6_become 33 = .ok (.aload_n 1, 1) := by decide +kernel
theorem dX6_become_34 : decode cX6_become 34 = .ok (.getfield 32, 3) := by decide +kernel
theorem dX6_become_37 : decode cX6_become 37 = .ok (.iconst 0, 1) := by decide +kernel
theorem dX6_become_38 : decode cX6_become 38 = .ok (.aload_n 0, 1) := by decide +kernel
theorem dX6_become_39 : decode cX6_become 39 = .ok (.getfield 32, 3) := by decide +kernel
theorem dX6_become_42 : decode cX6_become 42 = .ok (.iconst 0, 1) := by decide +kernel
theorem dX6_become_43 : decode cX6_become 43 = .ok (.aload_n 1, 1) := by decide +kernel
theorem dX6_become_44 : decode cX6_become 44 = .ok (.getfield 36, 3) := by decide +kernel
theorem dX6_become_47 : decode cX6_become 47 = .ok (.invokestatic 56, 3) := by decide +kernel
theorem dX6_become_50 : decode cX6_become 50 = .ok (.aload_n 0, 1) := by decide +kernel
theorem dX6_become_51 : decode cX6_become 51 = .ok (.aload_n 1, 1) := by decide +kernel
theorem dX6_become_52 : decode cX6_become 52 = .ok (.getfield 36, 3) := by decide +kernel
theorem dX6_become_55 : decode cX6_become 55 = .ok (.putfield 36, 3) := by decide +kernel
theorem dX6_become_58 : decode cX6_become 58 = .ok (.aload_n 0, 1) := by decide +kernel
theorem dX6_become_59 : decode cX6_become 59 = .ok (.aload_n 1, 1) := by decide +kernel
theorem dX6_become_60 : decode cX6_become 60 = .ok (.getfield 40, 3) := by decide +kernel
theorem dX6_become_63 : decode cX6_become 63 = .ok (.putfield 40, 3) := by decide +kernel
theorem dX6_become_66 : decode cX6_become 66 = .ok (.aload_n 0, 1) := by decide +kernel
theorem dX6_become_67 : decode cX6_become 67 = .ok (.aload_n 1, 1) := by decide +kernel
theorem dX6_become_68 : decode cX6_become 68 = .ok (.getfield 43, 3) := by decide +kernel
theorem dX6_become_71 : decode cX6_become 71 = .ok (.putfield 43, 3) := by decide +kernel
theorem dX6_become_74 : decode cX6_become 74 = .ok (.return_, 1) := by decide +kernel
theorem dX7_init_0 : decode cX7_init 0 = .ok (.aload_n 0, 1) := by decide +kernel
theorem dX7_init_1 : decode cX7_init 1 = .ok (.invokespecial 3, 3) := by decide +kernel
theorem dX7_init_4 : decode cX7_init 4 = .ok (.aload_n 0, 1) := by decide +kernel
theorem dX7_init_5 : decode cX7_init 5 = .ok (.bipush 40, 2) := by decide +kernel
theorem dX7_init_7 : decode cX7_init 7 = .ok (.newarray .int, 2) := by decide +kernel
theorem dX7_init_9 : decode cX7_init 9 = .ok (.putfield 9, 3) := by decide +kernel
theorem dX7_init_12 : decode cX7_init 12 = .ok (.aload_n 0, 1) := by decide +kernel
theorem dX7_init_13 : decode cX7_init 13 = .ok (.iconst 0, 1) := by decide +kernel
theorem dX7_init_14 : decode cX7_init 14 = .ok (.putfield 15, 3) := by decide +kernel
theorem dX7_init_17 : decode cX7_init 17 = .ok (.return_, 1) := by decide +kernel
theorem dX7_begin_0 : decode cX7_begin 0 = .ok (.aload_n 0, 1) := by decide +kernel
theorem dX7_begin_1 : decode cX7_begin 1 = .ok (.iconst 0, 1) := by decide +kernel
theorem dX7_begin_2 : decode cX7_begin 2 = .ok (.putfield 15, 3) := by decide +kernel
theorem dX7_begin_5 : decode cX7_begin 5 = .ok (.return_, 1) := by decide +kernel
theorem dX7_add_0 : decode cX7_add 0 = .ok (.aload_n 0, 1) := by decide +kernel
theorem dX7_add_1 : decode cX7_add 1 = .ok (.getfield 15, 3) := by decide +kernel
theorem dX7_add_4 : decode cX7_add 4 = .ok (.bipush 40, 2) := by decide +kernel
theorem dX7_add_6 : decode cX7_add 6 = .ok (.if_icmp .ge 13, 3) := by decide +kernel
theorem dX7_add_9 : decode cX7_add 9 = .ok (.aload_n 0, 1) := by decide +kernel
theorem dX7_add_10 : decode cX7_add 10 = .ok (.getfield 9, 3) := by decide +kernel
theorem dX7_add_13 : decode cX7_add 13 = .ok (.aload_n 0, 1) := by decide +kernel
theorem dX7_add_14 : decode cX7_add 14 = .ok (.getfield 15, 3) := by decide +kernel
theorem dX7_add_17 : decode cX7_add 17 = .ok (.iload_n 1, 1) := by decide +kernel
theorem dX7_add_18 : decode cX7_add 18 = .ok (.iastore, 1) := by decide +kernel
theorem dX7_add_19 : decode cX7_add 19 = .ok (.aload_n 0, 1) := by decide +kernel
theorem dX7_add_20 : decode cX7_add 20 = .ok (.dup, 1) := by decide +kernel
theorem dX7_add_21 : decode cX7_add 21 = .ok (.getfield 15, 3) := by decide +kernel
theorem dX7_add_24 : decode cX7_add 24 = .ok (.iconst 1, 1) := by decide +kernel
theorem dX7_add_25 : decode cX7_add 25 = .ok (.iadd, 1) := by decide +kernel
theorem dX7_add_26 : decode cX7_add 26 = .ok (.putfield 15, 3) := by decide +kernel
theorem dX7_add_29 : decode cX7_add 29 = .ok (.return_, 1) := by decide +kernel
theorem dX7_entryAt_0 : decode cX7_entryAt 0 = .ok (.iload_n 1, 1) := by decide +kernel
theorem dX7_entryAt_1 : decode cX7_entryAt 1 = .ok (.ifCond .lt 26, 3) := by decide +kernel
theorem dX7_entryAt_4 : decode cX7_entryAt 4 = .ok (.iload_n 1, 1) := by decide +kernel
theorem dX7_entryAt_5 : decode cX7_entryAt 5 = .ok (.aload_n 0, 1) := by decide +kernel
theorem dX7_entryAt_6 : decode cX7_entryAt 6 = .ok (.getfield 15, 3) := by decide +kernel
theorem dX7_entryAt_9 : decode cX7_entryAt 9 = .ok (.if_icmp .ge 18, 3) := by decide +kernel
theorem dX7_entryAt_12 : decode cX7_entryAt 12 = .ok (.iload_n 1, 1) := by decide +kernel
theorem dX7_entryAt_13 : decode cX7_entryAt 13 = .ok (.bipush 40, 2) := by decide +kernel
theorem dX7_entryAt_15 : decode cX7_entryAt 15 = .ok (.if_icmp .ge 12, 3) := by decide +kernel
theorem dX7_entryAt_18 : decode cX7_entryAt 18 = .ok (.aload_n 0, 1) := by decide +kernel
theorem dX7_entryAt_19 : decode cX7_entryAt 19 = .ok (.getfield 9, 3) := by decide +kernel
theorem dX7_entryAt_22 : decode cX7_entryAt 22 = .ok (.iload_n 1, 1) := by decide +kernel
theorem dX7_entryAt_23 : decode cX7_entryAt 23 = .ok (.iaload, 1) := by decide +kernel
theorem dX7_entryAt_24 : decode cX7_entryAt 24 = .ok (.goto 4, 3) := by decide +kernel
theorem dX7_entryAt_27 : decode cX7_entryAt 27 = .ok (.iconst (-1), 1) := by decide +kernel
theorem dX7_entryAt_28 : decode cX7_entryAt 28 = .ok (.ireturn, 1) := by decide +kernel
theorem dX8_init_0 : decode cX8_init 0 = .ok (.aload_n 0, 1) := by decide +kernel
theorem dX8_init_1 : decode cX8_init 1 = .ok (.invokespecial 3, 3) := by decide +kernel
theorem dX8_init_4 : decode cX8_init 4 = .ok (.aload_n 0, 1) := by decide +kernel
theorem dX8_init_5 : decode cX8_init 5 = .ok (.new 9, 3) := by decide +kernel
theorem dX8_init_8 : decode cX8_init 8 = .ok (.dup, 1) := by decide +kernel
theorem dX8_init_9 : decode cX8_init 9 = .ok (.invokespecial 11, 3) := by decide +kernel
theorem dX8_init_12 : decode cX8_init 12 = .ok (.putfield 12, 3) := by decide +kernel
theorem dX8_init_15 : decode cX8_init 15 = .ok (.aload_n 0, 1) := by decide +kernel
theorem dX8_init_16 : decode cX8_init 16 = .ok (.iconst (-1), 1) := by decide +kernel
theorem dX8_init_17 : decode cX8_init 17 = .ok (.putfield 18, 3) := by decide +kernel
theorem dX8_init_20 : decode cX8_init 20 = .ok (.return_, 1) := by decide +kernel
theorem dX8_begin_0 : decode cX8_begin 0 = .ok (.aload_n 0, 1) := by decide +kernel
theorem dX8_begin_1 : decode cX8_begin 1 = .ok (.getfield 12, 3) := by decide +kernel
theorem dX8_begin_4 : decode cX8_begin 4 = .ok (.invokevirtual 22, 3) := by decide +kernel
theorem dX8_begin_7 : decode cX8_begin 7 = .ok (.aload_n 0, 1) := by decide +kernel
theorem dX8_begin_8 : decode cX8_begin 8 = .ok (.iconst (-1), 1) := by decide +kernel
theorem dX8_begin_9 : decode cX8_begin 9 = .ok (.putfield 18, 3) := by decide +kernel
theorem dX8_begin_12 : decode cX8_begin 12 = .ok (.return_, 1) := by decide +kernel
theorem dX8_tryKey_0 : decode cX8_tryKey 0 = .ok (.aload_n 1, 1) := by decide +kernel
theorem dX8_tryKey_1 : decode cX8_tryKey 1 = .ok (.getfield 25, 3) := by decide +kernel
theorem dX8_tryKey_4 : decode cX8_tryKey 4 = .ok (.iload_n 3, 1) := by decide +kernel
theorem dX8_tryKey_5 : decode cX8_tryKey 5 = .ok (.invokevirtual 31, 3) := by decide +kernel
theorem dX8_tryKey_8 : decode cX8_tryKey 8 = .ok (.ifCond .ne 12, 3) := by decide +kernel
theorem dX8_tryKey_11 : decode cX8_tryKey 11 = .ok (.aload_n 0, 1) := by decide +kernel
theorem dX8_tryKey_12 : decode cX8_tryKey 12 = .ok (.aload_n 1, 1) := by decide +kernel
theorem dX8_tryKey_13 : decode cX8_tryKey 13 = .ok (.iload_n 2, 1) := by decide +kernel
theorem dX8_tryKey_14 : decode cX8_tryKey 14 = .ok (.iload_n 3, 1) := by decide +kernel
theorem dX8_tryKey_15 : decode cX8_tryKey 15 = .ok (.iconst 0, 1) := by decide +kernel
theorem dX8_tryKey_16 : decode cX8_tryKey 16 = .ok (.invokevirtual 37, 3) := by decide +kernel
theorem dX8_tryKey_19 : decode cX8_tryKey 19 = .ok (.ireturn, 1) := by decide +kernel
theorem dX8_tryKey_20 : decode cX8_tryKey 20 = .ok (.aload_n 0, 1) := by decide +kernel
theorem dX8_tryKey_21 : decode cX8_tryKey 21 = .ok (.getfield 12, 3) := by decide +kernel
theorem dX8_tryKey_24 : decode cX8_tryKey 24 = .ok (.iconst 4, 1) := by decide +kernel
theorem dX8_tryKey_25 : decode cX8_tryKey 25 = .ok (.invokevirtual 41, 3) := by decide +kernel
theorem dX8_tryKey_28 : decode cX8_tryKey 28 = .ok (.aload_n 0, 1) := by decide +kernel
theorem dX8_tryKey_29 : decode cX8_tryKey 29 = .ok (.aload_n 1, 1) := by decide +kernel
theorem dX8_tryKey_30 : decode cX8_tryKey 30 = .ok (.iload_n 2, 1) := by decide +kernel
theorem dX8_tryKey_31 : decode cX8_tryKey 31 = .ok (.aload_n 1, 1) := by decide +kernel
theorem dX8_tryKey_32 : decode cX8_tryKey 32 = .ok (.getfield 25, 3) := by decide +kernel
theorem dX8_tryKey_35 : decode cX8_tryKey 35 = .ok (.getfield 45, 3) := by decide +kernel
theorem dX8_tryKey_38 : decode cX8_tryKey 38 = .ok (.iload_n 3, 1) := by decide +kernel
theorem dX8_tryKey_39 : decode cX8_tryKey 39 = .ok (.iaload, 1) := by decide +kernel
theorem dX8_tryKey_40 : decode cX8_tryKey 40 = .ok (.iconst 0, 1) := by decide +kernel
theorem dX8_tryKey_41 : decode cX8_tryKey 41 = .ok (.invokevirtual 37, 3) := by decide +kernel
theorem dX8_tryKey_44 : decode cX8_tryKey 44 = .ok (.istore 4, 2) := by decide +kernel
theorem dX8_tryKey_46 : decode cX8_tryKey 46 = .ok (.iload 4, 2) := by decide +kernel
theorem dX8_tryKey_48 : decode cX8_tryKey 48 = .ok (.iconst 1, 1) := by decide +kernel
theorem dX8_tryKey_49 : decode cX8_tryKey 49 = .ok (.if_icmp .eq 6, 3) := by decide +kernel
theorem dX8_tryKey_52 : decode cX8_tryKey 52 = .ok (.iload 4, 2) := by decide +kernel
theorem dX8_tryKey_54 : decode cX8_tryKey 54 = .ok (.ireturn, 1) := by decide +kernel
theorem dX8_tryKey_55 : decode cX8_tryKey 55 = .ok (.aload_n 0, 1) := by decide +kernel
theorem dX8_tryKey_56 : decode cX8_tryKey 56 = .ok (.aload_n 1, 1) := by decide +kernel
theorem dX8_tryKey_57 : decode cX8_tryKey 57 = .ok (.iload_n 2, 1) := by decide +kernel
theorem dX8_tryKey_58 : decode cX8_tryKey 58 = .ok (.aload_n 1, 1) := by decide +kernel
theorem dX8_tryKey_59 : decode cX8_tryKey 59 = .ok (.getfield 25, 3) := by decide +kernel
theorem dX8_tryKey_62 : decode cX8_tryKey 62 = .ok (.getfield 49, 3) := by decide +kernel
theorem dX8_tryKey_65 : decode cX8_tryKey 65 = .ok (.iload_n 3, 1) := by decide +kernel
theorem dX8_tryKey_66 : decode cX8_tryKey 66 = .ok (.iaload, 1) := by decide +kernel
theorem dX8_tryKey_67 : decode cX8_tryKey 67 = .ok (.bipush 18, 2) := by decide +kernel
theorem dX8_tryKey_69 : decode cX8_tryKey 69 = .ok (.invokevirtual 37, 3) := by decide +kernel
theorem dX8_tryKey_72 : decode cX8_tryKey 72 = .ok (.ireturn, 1) := by decide +kernel
theorem dX8_trySingle_0 : decode cX8_trySingle 0 = .ok (.aload_n 1, 1) := by decide +kernel
theorem dX8_trySingle_1 : decode cX8_trySingle 1 = .ok (.getfield 25, 3) := by decide +kernel
theorem dX8_trySingle_4 : decode cX8_trySingle 4 = .ok (.iload_n 3, 1) := by decide +kernel
theorem dX8_trySingle_5 : decode cX8_trySingle 5 = .ok (.invokevirtual 52, 3) := by decide +kernel
theorem dX8_trySingle_8 : decode cX8_trySingle 8 = .ok (.ifCond .ne 6, 3) := by decide +kernel
theorem dX8_trySingle_11 : decode cX8_trySingle 11 = .ok (.bipush (-11), 2) := by decide +kernel
theorem dX8_trySingle_13 : decode cX8_trySingle 13 = .ok (.ireturn, 1) := by decide +kernel
theorem dX8_trySingle_14 : decode cX8_trySingle 14 = .ok (.aload_n 1, 1) := by decide +kernel
theorem dX8_trySingle_15 : decode cX8_trySingle 15 = .ok (.getfield 25, 3) := by decide +kernel
theorem dX8_trySingle_18 : decode cX8_trySingle 18 = .ok (.iload_n 3, 1) := by decide +kernel
theorem dX8_trySingle_19 : decode cX8_trySingle 19 = .ok (.invokevirtual 55, 3) := by decide +kernel
theorem dX8_trySingle_22 : decode cX8_trySingle 22 = .ok (.ifCond .eq 19, 3) := by decide +kernel
theorem dX8_trySingle_25 : decode cX8_trySingle 25 = .ok (.aload_n 0, 1) := by decide +kernel
theorem dX8_trySingle_26 : decode cX8_trySingle 26 = .ok (.getfield 12, 3) := by decide +kernel
theorem dX8_trySingle_29 : decode cX8_trySingle 29 = .ok (.iconst 3, 1) := by decide +kernel
theorem dX8_trySingle_30 : decode cX8_trySingle 30 = .ok (.invokevirtual 41, 3) := by decide +kernel
theorem dX8_trySingle_33 : decode cX8_trySingle 33 = .ok (.aload_n 0, 1) := by decide +kernel
theorem dX8_trySingle_34 : decode cX8_trySingle 34 = .ok (.iload 4, 2) := by decide +kernel
theorem dX8_trySingle_36 : decode cX8_trySingle 36 = .ok (.putfield 18, 3) := by decide +kernel
theorem dX8_trySingle_39 : decode cX8_trySingle 39 = .ok (.iconst 0, 1) := by decide +kernel
theorem dX8_trySingle_40 : decode cX8_trySingle 40 = .ok (.ireturn, 1) := by decide +kernel
theorem dX8_trySingle_41 : decode cX8_trySingle 41 = .ok (.aload_n 1, 1) := by decide +kernel
theorem dX8_trySingle_42 : decode cX8_trySingle 42 = .ok (.getfield 25, 3) := by decide +kernel
theorem dX8_trySingle_45 : decode cX8_trySingle 45 = .ok (.iload_n 3, 1) := by decide +kernel
theorem dX8_trySingle_46 : decode cX8_trySingle 46 = .ok (.iconst 1, 1) := by decide +kernel
theorem dX8_trySingle_47 : decode cX8_trySingle 47 = .ok (.invokevirtual 58, 3) := by decide +kernel
theorem dX8_trySingle_50 : decode cX8_trySingle 50 = .ok (.ifCond .eq 11, 3) := by decide +kernel
theorem dX8_trySingle_53 : decode cX8_trySingle 53 = .ok (.aload_n 0, 1) := by decide +kernel
theorem dX8_trySingle_54 : decode cX8_trySingle 54 = .ok (.getfield 12, 3) := by decide +kernel
theorem dX8_trySingle_57 : decode cX8_trySingle 57 = .ok (.iconst 2, 1) := by decide +kernel
theorem dX8_trySingle_58 : decode cX8_trySingle 58 = .ok (.invokevirtual 41, 3) := by decide +kernel
theorem dX8_trySingle_61 : decode cX8_trySingle 61 = .ok (.aload_n 0, 1) := by decide +kernel
theorem dX8_trySingle_62 : decode cX8_trySingle 62 = .ok (.getfield 12, 3) := by decide +kernel
theorem dX8_trySingle_65 : decode cX8_trySingle 65 = .ok (.iconst 1, 1) := by decide +kernel
theorem dX8_trySingle_66 : decode cX8_trySingle 66 = .ok (.invokevirtual 41, 3) := by decide +kernel
theorem dX8_trySingle_69 : decode cX8_trySingle 69 = .ok (.aload_n 1, 1) := by decide +kernel
theorem dX8_trySingle_70 : decode cX8_trySingle 70 = .ok (.getfield 25, 3) := by decide +kernel
theorem dX8_trySingle_73 : decode cX8_trySingle 73 = .ok (.iload_n 3, 1) := by decide +kernel
theorem dX8_trySingle_74 : decode cX8_trySingle 74 = .ok (.invokevirtual 62, 3) := by decide +kernel
theorem dX8_trySingle_77 : decode cX8_trySingle 77 = .ok (.ifCond .eq 6, 3) := by decide +kernel
theorem dX8_trySingle_80 : decode cX8_trySingle 80 = .ok (.bipush (-11), 2) := by decide +kernel
theorem dX8_trySingle_82 : decode cX8_trySingle 82 = .ok (.ireturn, 1) := by decide +kernel
theorem dX8_trySingle_83 : decode cX8_trySingle 83 = .ok (.aload_n 0, 1) := by decide +kernel
theorem dX8_trySingle_84 : decode cX8_trySingle 84 = .ok (.aload_n 1, 1) := by decide +kernel
theorem dX8_trySingle_85 : decode cX8_trySingle 85 = .ok (.iload_n 2, 1) := by decide +kernel
theorem dX8_trySingle_86 : decode cX8_trySingle 86 = .ok (.iload_n 3, 1) := by decide +kernel
theorem dX8_trySingle_87 : decode cX8_trySingle 87 = .ok (.iload 4, 2) := by decide +kernel
theorem dX8_trySingle_89 : decode cX8_trySingle 89 = .ok (.invokevirtual 65, 3) := by decide +kernel
theorem dX8_trySingle_92 : decode cX8_trySingle 92 = .ok (.ireturn, 1) := by decide +kernel
theorem dX8_tryRow_0 : decode cX8_tryRow 0 = .ok (.aload_n 1, 1) := by decide +kernel
theorem dX8_tryRow_1 : decode cX8_tryRow 1 = .ok (.getfield 25, 3) := by decide +kernel
theorem dX8_tryRow_4 : decode cX8_tryRow 4 = .ok (.getfield 68, 3) := by decide +kernel
theorem dX8_tryRow_7 : decode cX8_tryRow 7 = .ok (.iload_n 3, 1) := by decide +kernel
theorem dX8_tryRow_8 : decode cX8_tryRow 8 = .ok (.iaload, 1) := by decide +kernel
theorem dX8_tryRow_9 : decode cX8_tryRow 9 = .ok (.istore 5, 2) := by decide +kernel
theorem dX8_tryRow_11 : decode cX8_tryRow 11 = .ok (.aload_n 1, 1) := by decide +kernel
theorem dX8_tryRow_12 : decode cX8_tryRow 12 = .ok (.getfield 71, 3) := by decide +kernel
theorem dX8_tryRow_15 : decode cX8_tryRow 15 = .ok (.getfield 75, 3) := by decide +kernel
theorem dX8_tryRow_18 : decode cX8_tryRow 18 = .ok (.iload_n 2, 1) := by decide +kernel
theorem dX8_tryRow_19 : decode cX8_tryRow 19 = .ok (.iaload, 1) := by decide +kernel
theorem dX8_tryRow_20 : decode cX8_tryRow 20 = .ok (.istore 6, 2) := by decide +kernel
theorem dX8_tryRow_22 : decode cX8_tryRow 22 = .ok (.iconst 0, 1) := by decide +kernel
theorem dX8_tryRow_23 : decode cX8_tryRow 23 = .ok (.istore 7, 2) := by decide +kernel
theorem dX8_tryRow_25 : decode cX8_tryRow 25 = .ok (.iload 7, 2) := by decide +kernel
theorem dX8_tryRow_27 : decode cX8_tryRow 27 = .ok (.iload 5, 2) := by decide +kernel
theorem dX8_tryRow_29 : decode cX8_tryRow 29 = .ok (.if_icmp .ge 87, 3) := by decide +kernel
theorem dX8_tryRow_32 : decode cX8_tryRow 32 = .ok (.aload_n 1, 1) := by decide +kernel
theorem dX8_tryRow_33 : decode cX8_tryRow 33 = .ok (.getfield 25, 3) := by decide +kernel
theorem dX8_tryRow_36 : decode cX8_tryRow 36 = .ok (.getfield 80, 3) := by decide +kernel
theorem dX8_tryRow_39 : decode cX8_tryRow 39 = .ok (.iload_n 3, 1) := by decide +kernel
theorem dX8_tryRow_40 : decode cX8_tryRow 40 = .ok (.bipush 18, 2) := by decide +kernel
theorem dX8_tryRow_42 : decode cX8_tryRow 42 = .ok (.imul, 1) := by decide +kernel
theorem dX8_tryRow_43 : decode cX8_tryRow 43 = .ok (.iload 7, 2) := by decide +kernel
theorem dX8_tryRow_45 : decode cX8_tryRow 45 = .ok (.iadd, 1) := by decide +kernel
theorem dX8_tryRow_46 : decode cX8_tryRow 46 = .ok (.iaload, 1) := by decide +kernel
theorem dX8_tryRow_47 : decode cX8_tryRow 47 = .ok (.istore 8, 2) := by decide +kernel
theorem dX8_tryRow_49 : decode cX8_tryRow 49 = .ok (.iload 8, 2) := by decide +kernel
theorem dX8_tryRow_51 : decode cX8_tryRow 51 = .ok (.ifCond .ne 6, 3) := by decide +kernel
theorem dX8_tryRow_54 : decode cX8_tryRow 54 = .ok (.goto 56, 3) := by decide +kernel
theorem dX8_tryRow_57 : decode cX8_tryRow 57 = .ok (.iload 7, 2) := by decide +kernel
theorem dX8_tryRow_59 : decode cX8_tryRow 59 = .ok (.iload 6, 2) := by decide +kernel
theorem dX8_tryRow_61 : decode cX8_tryRow 61 = .ok (.if_icmp .lt 15, 3) := by decide +kernel
theorem dX8_tryRow_64 : decode cX8_tryRow 64 = .ok (.aload_n 0, 1) := by decide +kernel
theorem dX8_tryRow_65 : decode cX8_tryRow 65 = .ok (.iload 4, 2) := by decide +kernel
theorem dX8_tryRow_67 : decode cX8_tryRow 67 = .ok (.iload 7, 2) := by decide +kernel
theorem dX8_tryRow_69 : decode cX8_tryRow 69 = .ok (.iadd, 1) := by decide +kernel
theorem dX8_tryRow_70 : decode cX8_tryRow 70 = .ok (.putfield 18, 3) := by decide +kernel
theorem dX8_tryRow_73 : decode cX8_tryRow 73 = .ok (.bipush (-12), 2) := by decide +kernel
theorem dX8_tryRow_75 : decode cX8_tryRow 75 = .ok (.ireturn, 1) := by decide +kernel
theorem dX8_tryRow_76 : decode cX8_tryRow 76 = .ok (.iload 8, 2) := by decide +kernel
theorem dX8_tryRow_78 : decode cX8_tryRow 78 = .ok (.iconst 1, 1) := by decide +kernel
theorem dX8_tryRow_79 : decode cX8_tryRow 79 = .ok (.aload_n 1, 1) := by decide +kernel
theorem dX8_tryRow_80 : decode cX8_tryRow 80 = .ok (.getfield 71, 3) := by decide +kernel
theorem dX8_tryRow_83 : decode cX8_tryRow 83 = .ok (.getfield 83, 3) := by decide +kernel
theorem dX8_tryRow_86 : decode cX8_tryRow 86 = .ok (.iload_n 2, 1) := by decide +kernel
theorem dX8_tryRow_87 : decode cX8_tryRow 87 = .ok (.bipush 18, 2) := by decide +kernel
theorem dX8_tryRow_89 : decode cX8_tryRow 89 = .ok (.imul, 1) := by decide +kernel
theorem dX8_tryRow_90 : decode cX8_tryRow 90 = .ok (.iload 7, 2) := by decide +kernel
theorem dX8_tryRow_92 : decode cX8_tryRow 92 = .ok (.iadd, 1) := by decide +kernel
theorem dX8_tryRow_93 : decode cX8_tryRow 93 = .ok (.iaload, 1) := by decide +kernel
theorem dX8_tryRow_94 : decode cX8_tryRow 94 = .ok (.ishl, 1) := by decide +kernel
theorem dX8_tryRow_95 : decode cX8_tryRow 95 = .ok (.iand, 1) := by decide +kernel
theorem dX8_tryRow_96 : decode cX8_tryRow 96 = .ok (.ifCond .ne 14, 3) := by decide +kernel
theorem dX8_tryRow_99 : decode cX8_tryRow 99 = .ok (.aload_n 0, 1) := by decide +kernel
theorem dX8_tryRow_100 : decode cX8_tryRow 100 = .ok (.iload 4, 2) := by decide +kernel
theorem dX8_tryRow_102 : decode cX8_tryRow 102 = .ok (.iload 7, 2) := by decide +kernel
theorem dX8_tryRow_104 : decode cX8_tryRow 104 = .ok (.iadd, 1) := by decide +kernel
theorem dX8_tryRow_105 : decode cX8_tryRow 105 = .ok (.putfield 18, 3) := by decide +kernel
theorem dX8_tryRow_108 : decode cX8_tryRow 108 = .ok (.iconst 0, 1) := by decide +kernel
theorem dX8_tryRow_109 : decode cX8_tryRow 109 = .ok (.ireturn, 1) := by decide +kernel
theorem dX8_tryRow_110 : decode cX8_tryRow 110 = .ok (.iinc 7 1, 3) := by decide +kernel
theorem dX8_tryRow_113 : decode cX8_tryRow 113 = .ok (.goto (-88), 3) := by decide +kernel
theorem dX8_tryRow_116 : decode cX8_tryRow 116 = .ok (.iconst 1, 1) := by decide +kernel
theorem dX8_tryRow_117 : decode cX8_tryRow 117 = .ok (.ireturn, 1) := by decide +kernel
theorem dX9_weightOf_0 : decode cX9_weightOf 0 = .ok (.aload_n 0, 1) := by decide +kernel
theorem dX9_weightOf_1 : decode cX9_weightOf 1 = .ok (.iload_n 1, 1) := by decide +kernel
theorem dX9_weightOf_2 : decode cX9_weightOf 2 = .ok (.invokevirtual 9, 3) := by decide +kernel
theorem dX9_weightOf_5 : decode cX9_weightOf 5 = .ok (.ifCond .ne 10, 3) := by decide +kernel
theorem dX9_weightOf_8 : decode cX9_weightOf 8 = .ok (.aload_n 0, 1) := by decide +kernel
theorem dX9_weightOf_9 : decode cX9_weightOf 9 = .ok (.iload_n 1, 1) := by decide +kernel
theorem dX9_weightOf_10 : decode cX9_weightOf 10 = .ok (.aload_n 2, 1) := by decide +kernel
theorem dX9_weightOf_11 : decode cX9_weightOf 11 = .ok (.invokestatic 15, 3) := by decide +kernel
theorem dX9_weightOf_14 : decode cX9_weightOf 14 = .ok (.ireturn, 1) := by decide +kernel
theorem dX9_weightOf_15 : decode cX9_weightOf 15 = .ok (.aload_n 2, 1) := by decide +kernel
theorem dX9_weightOf_16 : decode cX9_weightOf 16 = .ok (.bipush 7, 2) := by decide +kernel
theorem dX9_weightOf_18 : decode cX9_weightOf 18 = .ok (.invokevirtual 23, 3) := by decide +kernel
theorem dX9_weightOf_21 : decode cX9_weightOf 21 = .ok (.aload_n 0, 1) := by decide +kernel
theorem dX9_weightOf_22 : decode cX9_weightOf 22 = .ok (.aload_n 0, 1) := by decide +kernel
theorem dX9_weightOf_23 : decode cX9_weightOf 23 = .ok (.getfield 27, 3) := by decide +kernel
theorem dX9_weightOf_26 : decode cX9_weightOf 26 = .ok (.iload_n 1, 1) := by decide +kernel
theorem dX9_weightOf_27 : decode cX9_weightOf 27 = .ok (.iaload, 1) := by decide +kernel
theorem dX9_weightOf_28 : decode cX9_weightOf 28 = .ok (.aload_n 2, 1) := by decide +kernel
theorem dX9_weightOf_29 : decode cX9_weightOf 29 = .ok (.invokestatic 31, 3) := by decide +kernel
theorem dX9_weightOf_32 : decode cX9_weightOf 32 = .ok (.istore_n 3, 1) := by decide +kernel
theorem dX9_weightOf_33 : decode cX9_weightOf 33 = .ok (.iload_n 3, 1) := by decide +kernel
theorem dX9_weightOf_34 : decode cX9_weightOf 34 = .ok (.ifCond .ge 5, 3) := by decide +kernel
theorem dX9_weightOf_37 : decode cX9_weightOf 37 = .ok (.iload_n 3, 1) := by decide +kernel
theorem dX9_weightOf_38 : decode cX9_weightOf 38 = .ok (.ireturn, 1) := by decide +kernel
theorem dX9_weightOf_39 : decode cX9_weightOf 39 = .ok (.aload_n 0, 1) := by decide +kernel
theorem dX9_weightOf_40 : decode cX9_weightOf 40 = .ok (.aload_n 0, 1) := by decide +kernel
theorem dX9_weightOf_41 : decode cX9_weightOf 41 = .ok (.getfield 34, 3) := by decide +kernel
theorem dX9_weightOf_44 : decode cX9_weightOf 44 = .ok (.iload_n 1, 1) := by decide +kernel
theorem dX9_weightOf_45 : decode cX9_weightOf 45 = .ok (.iaload, 1) := by decide +kernel
theorem dX9_weightOf_46 : decode cX9_weightOf 46 = .ok (.aload_n 2, 1) := by decide +kernel
theorem dX9_weightOf_47 : decode cX9_weightOf 47 = .ok (.invokestatic 31, 3) := by decide +kernel
theorem dX9_weightOf_50 : decode cX9_weightOf 50 = .ok (.istore 4, 2) := by decide +kernel
theorem dX9_weightOf_52 : decode cX9_weightOf 52 = .ok (.iload 4, 2) := by decide +kernel
theorem dX9_weightOf_54 : decode cX9_weightOf 54 = .ok (.ifCond .ge 8, 3) := by decide +kernel
theorem dX9_weightOf_57 : decode cX9_weightOf 57 = .ok (.iload 4, 2) := by decide +kernel
theorem dX9_weightOf_59 : decode cX9_weightOf 59 = .ok (.goto 7, 3) := by decide +kernel
theorem dX9_weightOf_62 : decode cX9_weightOf 62 = .ok (.iload_n 3, 1) := by decide +kernel
theorem dX9_weightOf_63 : decode cX9_weightOf 63 = .ok (.iload 4, 2) := by decide +kernel
theorem dX9_weightOf_65 : decode cX9_weightOf 65 = .ok (.iadd, 1) := by decide +kernel
theorem dX9_weightOf_66 : decode cX9_weightOf 66 = .ok (.ireturn, 1) := by decide +kernel
theorem dX9_weightOfHalf_0 : decode cX9_weightOfHalf 0 = .ok (.iload_n 1, 1) := by decide +kernel
theorem dX9_weightOfHalf_1 : decode cX9_weightOfHalf 1 = .ok (.iconst (-1), 1) := by decide +kernel
theorem dX9_weightOfHalf_2 : decode cX9_weightOfHalf 2 = .ok (.if_icmp .ne 7, 3) := by decide +kernel
theorem dX9_weightOfHalf_5 : decode cX9_weightOfHalf 5 = .ok (.iconst 0, 1) := by decide +kernel
theorem dX9_weightOfHalf_6 : decode cX9_weightOfHalf 6 = .ok (.goto 9, 3) := by decide +kernel
theorem dX9_weightOfHalf_9 : decode cX9_weightOfHalf 9 = .ok (.aload_n 0, 1) := by decide +kernel
theorem dX9_weightOfHalf_10 : decode cX9_weightOfHalf 10 = .ok (.iload_n 1, 1) := by decide +kernel
theorem dX9_weightOfHalf_11 : decode cX9_weightOfHalf 11 = .ok (.aload_n 2, 1) := by decide +kernel
theorem dX9_weightOfHalf_12 : decode cX9_weightOfHalf 12 = .ok (.invokestatic 15, 3) := by decide +kernel
theorem dX9_weightOfHalf_15 : decode cX9_weightOfHalf 15 = .ok (.ireturn, 1) := by decide +kernel
theorem dX9_weightOfSingle_0 : decode cX9_weightOfSingle 0 = .ok (.bipush 10, 2) := by decide +kernel
theorem dX9_weightOfSingle_2 : decode cX9_weightOfSingle 2 = .ok (.istore_n 3, 1) := by decide +kernel
theorem dX9_weightOfSingle_3 : decode cX9_weightOfSingle 3 = .ok (.aload_n 0, 1) := by decide +kernel
theorem dX9_weightOfSingle_4 : decode cX9_weightOfSingle 4 = .ok (.iload_n 1, 1) := by decide +kernel
theorem dX9_weightOfSingle_5 : decode cX9_weightOfSingle 5 = .ok (.invokevirtual 37, 3) := by decide +kernel
theorem dX9_weightOfSingle_8 : decode cX9_weightOfSingle 8 = .ok (.ifCond .eq 12, 3) := by decide +kernel
theorem dX9_weightOfSingle_11 : decode cX9_weightOfSingle 11 = .ok (.aload_n 2, 1) := by decide +kernel
theorem dX9_weightOfSingle_12 : decode cX9_weightOfSingle 12 = .ok (.bipush 6, 2) := by decide +kernel
theorem dX9_weightOfSingle_14 : decode cX9_weightOfSingle 14 = .ok (.invokevirtual 23, 3) := by decide +kernel
theorem dX9_weightOfSingle_17 : decode cX9_weightOfSingle 17 = .ok (.iinc 3 5, 3) := by decide +kernel
theorem dX9_weightOfSingle_20 : decode cX9_weightOfSingle 20 = .ok (.aload_n 2, 1) := by decide +kernel
theorem dX9_weightOfSingle_21 : decode cX9_weightOfSingle 21 = .ok (.iconst 5, 1) := by decide +kernel
theorem dX9_weightOfSingle_22 : decode cX9_weightOfSingle 22 = .ok (.invokevirtual 23, 3) := by decide +kernel
theorem dX9_weightOfSingle_25 : decode cX9_weightOfSingle 25 = .ok (.aload_n 0, 1) := by decide +kernel
theorem dX9_weightOfSingle_26 : decode cX9_weightOfSingle 26 = .ok (.iload_n 1, 1) := by decide +kernel
theorem dX9_weightOfSingle_27 : decode cX9_weightOfSingle 27 = .ok (.invokevirtual 40, 3) := by decide +kernel
theorem dX9_weightOfSingle_30 : decode cX9_weightOfSingle 30 = .ok (.ifCond .eq 6, 3) := by decide +kernel
theorem dX9_weightOfSingle_33 : decode cX9_weightOfSingle 33 = .ok (.bipush (-11), 2) := by decide +kernel
theorem dX9_weightOfSingle_35 : decode cX9_weightOfSingle 35 = .ok (.ireturn, 1) := by decide +kernel
theorem dX9_weightOfSingle_36 : decode cX9_weightOfSingle 36 = .ok (.iconst 0, 1) := by decide +kernel
theorem dX9_weightOfSingle_37 : decode cX9_weightOfSingle 37 = .ok (.istore 4, 2) := by decide +kernel
theorem dX9_weightOfSingle_39 : decode cX9_weightOfSingle 39 = .ok (.iload 4, 2) := by decide +kernel
theorem dX9_weightOfSingle_41 : decode cX9_weightOfSingle 41 = .ok (.aload_n 0, 1) := by decide +kernel
theorem dX9_weightOfSingle_42 : decode cX9_weightOfSingle 42 = .ok (.getfield 43, 3) := by decide +kernel
theorem dX9_weightOfSingle_45 : decode cX9_weightOfSingle 45 = .ok (.iload_n 1, 1) := by decide +kernel
theorem dX9_weightOfSingle_46 : decode cX9_weightOfSingle 46 = .ok (.iaload, 1) := by decide +kernel
theorem dX9_weightOfSingle_47 : decode cX9_weightOfSingle 47 = .ok (.if_icmp .ge 22, 3) := by decide +kernel
theorem dX9_weightOfSingle_50 : decode cX9_weightOfSingle 50 = .ok (.iload_n 3, 1) := by decide +kernel
theorem dX9_weightOfSingle_51 : decode cX9_weightOfSingle 51 = .ok (.aload_n 0, 1) := by decide +kernel
theorem dX9_weightOfSingle_52 : decode cX9_weightOfSingle 52 = .ok (.iload_n 1, 1) := by decide +kernel
theorem dX9_weightOfSingle_53 : decode cX9_weightOfSingle 53 = .ok (.iload 4, 2) := by decide +kernel
theorem dX9_weightOfSingle_55 : decode cX9_weightOfSingle 55 = .ok (.invokevirtual 46, 3) := by decide +kernel
theorem dX9_weightOfSingle_58 : decode cX9_weightOfSingle 58 = .ok (.invokestatic 50, 3) := by decide +kernel
theorem dX9_weightOfSingle_61 : decode cX9_weightOfSingle 61 = .ok (.iadd, 1) := by decide +kernel
theorem dX9_weightOfSingle_62 : decode cX9_weightOfSingle 62 = .ok (.istore_n 3, 1) := by decide +kernel
theorem dX9_weightOfSingle_63 : decode cX9_weightOfSingle 63 = .ok (.iinc 4 1, 3) := by decide +kernel
theorem dX9_weightOfSingle_66 : decode cX9_weightOfSingle 66 = .ok (.goto (-27), 3) := by decide +kernel
theorem dX9_weightOfSingle_69 : decode cX9_weightOfSingle 69 = .ok (.iload_n 3, 1) := by decide +kernel
theorem dX9_weightOfSingle_70 : decode cX9_weightOfSingle 70 = .ok (.ireturn, 1) := by decide +kernel
theorem dX9_sumOf_0 : decode cX9_sumOf 0 = .ok (.iconst 0, 1) := by decide +kernel
theorem dX9_sumOf_1 : decode cX9_sumOf 1 = .ok (.istore_n 1, 1) := by decide +kernel
theorem dX9_sumOf_2 : decode cX9_sumOf 2 = .ok (.iconst 0, 1) := by decide +kernel
theorem dX9_sumOf_3 : decode cX9_sumOf 3 = .ok (.istore_n 2, 1) := by decide +kernel
theorem dX9_sumOf_4 : decode cX9_sumOf 4 = .ok (.iload_n 2, 1) := by decide +kernel
theorem dX9_sumOf_5 : decode cX9_sumOf 5 = .ok (.bipush 9, 2) := by decide +kernel
theorem dX9_sumOf_7 : decode cX9_sumOf 7 = .ok (.if_icmp .gt 21, 3) := by decide +kernel
theorem dX9_sumOf_10 : decode cX9_sumOf 10 = .ok (.iload_n 0, 1) := by decide +kernel
theorem dX9_sumOf_11 : decode cX9_sumOf 11 = .ok (.iconst 1, 1) := by decide +kernel
theorem dX9_sumOf_12 : decode cX9_sumOf 12 = .ok (.iload_n 2, 1) := by decide +kernel
theorem dX9_sumOf_13 : decode cX9_sumOf 13 = .ok (.ishl, 1) := by decide +kernel
theorem dX9_sumOf_14 : decode cX9_sumOf 14 = .ok (.iand, 1) := by decide +kernel
theorem dX9_sumOf_15 : decode cX9_sumOf 15 = .ok (.ifCond .eq 7, 3) := by decide +kernel
theorem dX9_sumOf_18 : decode cX9_sumOf 18 = .ok (.iload_n 1, 1) := by decide +kernel
theorem dX9_sumOf_19 : decode cX9_sumOf 19 = .ok (.iload_n 2, 1) := by decide +kernel
theorem dX9_sumOf_20 : decode cX9_sumOf 20 = .ok (.iadd, 1) := by decide +kernel
theorem dX9_sumOf_21 : decode cX9_sumOf 21 = .ok (.istore_n 1, 1) := by decide +kernel
theorem dX9_sumOf_22 : decode cX9_sumOf 22 = .ok (.iinc 2 1, 3) := by decide +kernel
theorem dX9_sumOf_25 : decode cX9_sumOf 25 = .ok (.goto (-21), 3) := by decide +kernel
theorem dX9_sumOf_28 : decode cX9_sumOf 28 = .ok (.iload_n 1, 1) := by decide +kernel
theorem dX9_sumOf_29 : decode cX9_sumOf 29 = .ok (.ireturn, 1) := by decide +kernel
theorem dX10_init_0 : decode cX10_init 0 = .ok (.aload_n 0, 1) := by decide +kernel
theorem dX10_init_1 : decode cX10_init 1 = .ok (.invokespecial 1, 3) := by decide +kernel
theorem dX10_init_4 : decode cX10_init 4 = .ok (.aload_n 0, 1) := by decide +kernel
theorem dX10_init_5 : decode cX10_init 5 = .ok (.new 7, 3) := by decide +kernel
theorem dX10_init_8 : decode cX10_init 8 = .ok (.dup, 1) := by decide +kernel
theorem dX10_init_9 : decode cX10_init 9 = .ok (.invokespecial 9, 3) := by decide +kernel
theorem dX10_init_12 : decode cX10_init 12 = .ok (.putfield 10, 3) := by decide +kernel
theorem dX10_init_15 : decode cX10_init 15 = .ok (.aload_n 0, 1) := by decide +kernel
theorem dX10_init_16 : decode cX10_init 16 = .ok (.new 7, 3) := by decide +kernel
theorem dX10_init_19 : decode cX10_init 19 = .ok (.dup, 1) := by decide +kernel
theorem dX10_init_20 : decode cX10_init 20 = .ok (.invokespecial 9, 3) := by decide +kernel
theorem dX10_init_23 : decode cX10_init 23 = .ok (.putfield 16, 3) := by decide +kernel
theorem dX10_init_26 : decode cX10_init 26 = .ok (.aload_n 0, 1) := by decide +kernel
theorem dX10_init_27 : decode cX10_init 27 = .ok (.iconst 0, 1) := by decide +kernel
theorem dX10_init_28 : decode cX10_init 28 = .ok (.putfield 19, 3) := by decide +kernel
theorem dX10_init_31 : decode cX10_init 31 = .ok (.aload_n 0, 1) := by decide +kernel
theorem dX10_init_32 : decode cX10_init 32 = .ok (.iconst 0, 1) := by decide +kernel
theorem dX10_init_33 : decode cX10_init 33 = .ok (.putfield 23, 3) := by decide +kernel
theorem dX10_init_36 : decode cX10_init 36 = .ok (.aload_n 0, 1) := by decide +kernel
theorem dX10_init_37 : decode cX10_init 37 = .ok (.iconst 0, 1) := by decide +kernel
theorem dX10_init_38 : decode cX10_init 38 = .ok (.putfield 27, 3) := by decide +kernel
theorem dX10_init_41 : decode cX10_init 41 = .ok (.aload_n 0, 1) := by decide +kernel
theorem dX10_init_42 : decode cX10_init 42 = .ok (.iconst 0, 1) := by decide +kernel
theorem dX10_init_43 : decode cX10_init 43 = .ok (.putfield 30, 3) := by decide +kernel
theorem dX10_init_46 : decode cX10_init 46 = .ok (.aload_n 0, 1) := by decide +kernel
theorem dX10_init_47 : decode cX10_init 47 = .ok (.new 33, 3) := by decide +kernel
theorem dX10_init_50 : decode cX10_init 50 = .ok (.dup, 1) := by decide +kernel
theorem dX10_init_51 : decode cX10_init 51 = .ok (.invokespecial 35, 3) := by decide +kernel
theorem dX10_init_54 : decode cX10_init 54 = .ok (.putfield 36, 3) := by decide +kernel
theorem dX10_init_57 : decode cX10_init 57 = .ok (.aload_n 0, 1) := by decide +kernel
theorem dX10_init_58 : decode cX10_init 58 = .ok (.new 33, 3) := by decide +kernel
theorem dX10_init_61 : decode cX10_init 61 = .ok (.dup, 1) := by decide +kernel
theorem dX10_init_62 : decode cX10_init 62 = .ok (.invokespecial 35, 3) := by decide +kernel
theorem dX10_init_65 : decode cX10_init 65 = .ok (.putfield 40, 3) := by decide +kernel
theorem dX10_init_68 : decode cX10_init 68 = .ok (.aload_n 0, 1) := by decide +kernel
theorem dX10_init_69 : decode cX10_init 69 = .ok (.new 43, 3) := by decide +kernel
theorem dX10_init_72 : decode cX10_init 72 = .ok (.dup, 1) := by decide +kernel
theorem dX10_init_73 : decode cX10_init 73 = .ok (.invokespecial 45, 3) := by decide +kernel
theorem dX10_init_76 : decode cX10_init 76 = .ok (.putfield 46, 3) := by decide +kernel
theorem dX10_init_79 : decode cX10_init 79 = .ok (.aload_n 0, 1) := by decide +kernel
theorem dX10_init_80 : decode cX10_init 80 = .ok (.new 50, 3) := by decide +kernel
theorem dX10_init_83 : decode cX10_init 83 = .ok (.dup, 1) := by decide +kernel
theorem dX10_init_84 : decode cX10_init 84 = .ok (.invokespecial 52, 3) := by decide +kernel
theorem dX10_init_87 : decode cX10_init 87 = .ok (.putfield 53, 3) := by decide +kernel
theorem dX10_init_90 : decode cX10_init 90 = .ok (.aload_n 0, 1) := by decide +kernel
theorem dX10_init_91 : decode cX10_init 91 = .ok (.new 57, 3) := by decide +kernel
theorem dX10_init_94 : decode cX10_init 94 = .ok (.dup, 1) := by decide +kernel
theorem dX10_init_95 : decode cX10_init 95 = .ok (.invokespecial 59, 3) := by decide +kernel
theorem dX10_init_98 : decode cX10_init 98 = .ok (.putfield 60, 3) := by decide +kernel
theorem dX10_init_101 : decode cX10_init 101 = .ok (.return_, 1) := by decide +kernel
theorem dX10_cylinder_0 : decode cX10_cylinder 0 = .ok (.aload_n 0, 1) := by decide +kernel
theorem dX10_cylinder_1 : decode cX10_cylinder 1 = .ok (.aload_n 0, 1) := by decide +kernel
theorem dX10_cylinder_2 : decode cX10_cylinder 2 = .ok (.iload_n 1, 1) := by decide +kernel
theorem dX10_cylinder_3 : decode cX10_cylinder 3 = .ok (.iload_n 2, 1) := by decide +kernel
theorem dX10_cylinder_4 : decode cX10_cylinder 4 = .ok (.invokevirtual 64, 3) := by decide +kernel
theorem dX10_cylinder_7 : decode cX10_cylinder 7 = .ok (.invokevirtual 68, 3) := by decide +kernel
theorem dX10_cylinder_10 : decode cX10_cylinder 10 = .ok (.ireturn, 1) := by decide +kernel
theorem dX10_makeCylinder_0 : decode cX10_makeCylinder 0 = .ok (.iload_n 1, 1) := by decide +kernel
theorem dX10_makeCylinder_1 : decode cX10_makeCylinder 1 = .ok (.ifCond .lt 14, 3) := by decide +kernel
theorem dX10_makeCylinder_4 : decode cX10_makeCylinder 4 = .ok (.iload_n 1, 1) := by decide +kernel
theorem dX10_makeCylinder_5 : decode cX10_makeCylinder 5 = .ok (.iconst 3, 1) := by decide +kernel
theorem dX10_makeCylinder_6 : decode cX10_makeCylinder 6 = .ok (.if_icmp .gt 9, 3) := by decide +kernel
theorem dX10_makeCylinder_9 : decode cX10_makeCylinder 9 = .ok (.iload_n 2, 1) := by decide +kernel
theorem dX10_makeCylinder_10 : decode cX10_makeCylinder 10 = .ok (.bipush 18, 2) := by decide +kernel
theorem dX10_makeCylinder_12 : decode cX10_makeCylinder 12 = .ok (.if_icmp .le 6, 3) := by decide +kernel
theorem dX10_makeCylinder_15 : decode cX10_makeCylinder 15 = .ok (.bipush (-2), 2) := by decide +kernel
theorem dX10_makeCylinder_17 : decode cX10_makeCylinder 17 = .ok (.ireturn, 1) := by decide +kernel
theorem dX10_makeCylinder_18 : decode cX10_makeCylinder 18 = .ok (.aload_n 0, 1) := by decide +kernel
theorem dX10_makeCylinder_19 : decode cX10_makeCylinder 19 = .ok (.getfield 10, 3) := by decide +kernel
theorem dX10_makeCylinder_22 : decode cX10_makeCylinder 22 = .ok (.getfield 72, 3) := by decide +kernel
theorem dX10_makeCylinder_25 : decode cX10_makeCylinder 25 = .ok (.getfield 76, 3) := by decide +kernel
theorem dX10_makeCylinder_28 : decode cX10_makeCylinder 28 = .ok (.bipush 100, 2) := by decide +kernel
theorem dX10_makeCylinder_30 : decode cX10_makeCylinder 30 = .ok (.if_icmp .lt 6, 3) := by decide +kernel
theorem dX10_makeCylinder_33 : decode cX10_makeCylinder 33 = .ok (.bipush (-4), 2) := by decide +kernel
theorem dX10_makeCylinder_35 : decode cX10_makeCylinder 35 = .ok (.ireturn, 1) := by decide +kernel
theorem dX10_makeCylinder_36 : decode cX10_makeCylinder 36 = .ok (.iload_n 2, 1) := by decide +kernel
theorem dX10_makeCylinder_37 : decode cX10_makeCylinder 37 = .ok (.ifCond .ge 6, 3) := by decide +kernel
theorem dX10_makeCylinder_40 : decode cX10_makeCylinder 40 = .ok (.bipush (-15), 2) := by decide +kernel
theorem dX10_makeCylinder_42 : decode cX10_makeCylinder 42 = .ok (.ireturn, 1) := by decide +kernel
theorem dX10_makeCylinder_43 : decode cX10_makeCylinder 43 = .ok (.aload_n 0, 1) := by decide +kernel
theorem dX10_makeCylinder_44 : decode cX10_makeCylinder 44 = .ok (.invokevirtual 81, 3) := by decide +kernel
theorem dX10_makeCylinder_47 : decode cX10_makeCylinder 47 = .ok (.aload_n 0, 1) := by decide +kernel
theorem dX10_makeCylinder_48 : decode cX10_makeCylinder 48 = .ok (.getfield 10, 3) := by decide +kernel
theorem dX10_makeCylinder_51 : decode cX10_makeCylinder 51 = .ok (.getfield 72, 3) := by decide +kernel
theorem dX10_makeCylinder_54 : decode cX10_makeCylinder 54 = .ok (.iload_n 1, 1) := by decide +kernel
theorem dX10_makeCylinder_55 : decode cX10_makeCylinder 55 = .ok (.iload_n 2, 1) := by decide +kernel
theorem dX10_makeCylinder_56 : decode cX10_makeCylinder 56 = .ok (.invokevirtual 84, 3) := by decide +kernel
theorem dX10_makeCylinder_59 : decode cX10_makeCylinder 59 = .ok (.ireturn, 1) := by decide +kernel
theorem dX10_twin_0 : decode cX10_twin 0 = .ok (.aload_n 0, 1) := by decide +kernel
theorem dX10_twin_1 : decode cX10_twin 1 = .ok (.aload_n 0, 1) := by decide +kernel
theorem dX10_twin_2 : decode cX10_twin 2 = .ok (.iload_n 1, 1) := by decide +kernel
theorem dX10_twin_3 : decode cX10_twin 3 = .ok (.iload_n 2, 1) := by decide +kernel
theorem dX10_twin_4 : decode cX10_twin 4 = .ok (.invokevirtual 87, 3) := by decide +kernel
theorem dX10_twin_7 : decode cX10_twin 7 = .ok (.invokevirtual 68, 3) := by decide +kernel
theorem dX10_twin_10 : decode cX10_twin 10 = .ok (.ireturn, 1) := by decide +kernel
theorem dX10_makeDouble_0 : decode cX10_makeDouble 0 = .ok (.aload_n 0, 1) := by decide +kernel
theorem dX10_makeDouble_1 : decode cX10_makeDouble 1 = .ok (.getfield 10, 3) := by decide +kernel
theorem dX10_makeDouble_4 : decode cX10_makeDouble 4 = .ok (.getfield 72, 3) := by decide +kernel
theorem dX10_makeDouble_7 : decode cX10_makeDouble 7 = .ok (.astore_n 3, 1) := by decide +kernel
theorem dX10_makeDouble_8 : decode cX10_makeDouble 8 = .ok (.aload_n 3, 1) := by decide +kernel
theorem dX10_makeDouble_9 : decode cX10_makeDouble 9 = .ok (.iload_n 1, 1) := by decide +kernel
theorem dX10_makeDouble_10 : decode cX10_makeDouble 10 = .ok (.invokevirtual 90, 3) := by decide +kernel
theorem dX10_makeDouble_13 : decode cX10_makeDouble 13 = .ok (.ifCond .eq 11, 3) := by decide +kernel
theorem dX10_makeDouble_16 : decode cX10_makeDouble 16 = .ok (.aload_n 3, 1) := by decide +kernel
theorem dX10_makeDouble_17 : decode cX10_makeDouble 17 = .ok (.iload_n 2, 1) := by decide +kernel
theorem dX10_makeDouble_18 : decode cX10_makeDouble 18 = .ok (.invokevirtual 90, 3) := by decide +kernel
theorem dX10_makeDouble_21 : decode cX10_makeDouble 21 = .ok (.ifCond .ne 6, 3) := by decide +kernel
theorem dX10_makeDouble_24 : decode cX10_makeDouble 24 = .ok (.bipush (-2), 2) := by decide +kernel
theorem dX10_makeDouble_26 : decode cX10_makeDouble 26 = .ok (.ireturn, 1) := by decide +kernel
theorem dX10_makeDouble_27 : decode cX10_makeDouble 27 = .ok (.aload_n 3, 1) := by decide +kernel
theorem dX10_makeDouble_28 : decode cX10_makeDouble 28 = .ok (.getfield 76, 3) := by decide +kernel
theorem dX10_makeDouble_31 : decode cX10_makeDouble 31 = .ok (.bipush 100, 2) := by decide +kernel
theorem dX10_makeDouble_33 : decode cX10_makeDouble 33 = .ok (.if_icmp .lt 6, 3) := by decide +kernel
theorem dX10_makeDouble_36 : decode cX10_makeDouble 36 = .ok (.bipush (-4), 2) := by decide +kernel
theorem dX10_makeDouble_38 : decode cX10_makeDouble 38 = .ok (.ireturn, 1) := by decide +kernel
theorem dX10_makeDouble_39 : decode cX10_makeDouble 39 = .ok (.aload_n 3, 1) := by decide +kernel
theorem dX10_makeDouble_40 : decode cX10_makeDouble 40 = .ok (.iload_n 1, 1) := by decide +kernel
theorem dX10_makeDouble_41 : decode cX10_makeDouble 41 = .ok (.invokevirtual 94, 3) := by decide +kernel
theorem dX10_makeDouble_44 : decode cX10_makeDouble 44 = .ok (.ifCond .ne 11, 3) := by decide +kernel
theorem dX10_makeDouble_47 : decode cX10_makeDouble 47 = .ok (.aload_n 3, 1) := by decide +kernel
theorem dX10_makeDouble_48 : decode cX10_makeDouble 48 = .ok (.iload_n 2, 1) := by decide +kernel
theorem dX10_makeDouble_49 : decode cX10_makeDouble 49 = .ok (.invokevirtual 94, 3) := by decide +kernel
theorem dX10_makeDouble_52 : decode cX10_makeDouble 52 = .ok (.ifCond .eq 6, 3) := by decide +kernel
theorem dX10_makeDouble_55 : decode cX10_makeDouble 55 = .ok (.bipush (-13), 2) := by decide +kernel
theorem dX10_makeDouble_57 : decode cX10_makeDouble 57 = .ok (.ireturn, 1) := by decide +kernel
theorem dX10_makeDouble_58 : decode cX10_makeDouble 58 = .ok (.aload_n 0, 1) := by decide +kernel
theorem dX10_makeDouble_59 : decode cX10_makeDouble 59 = .ok (.invokevirtual 81, 3) := by decide +kernel
theorem dX10_makeDouble_62 : decode cX10_makeDouble 62 = .ok (.aload_n 3, 1) := by decide +kernel
theorem dX10_makeDouble_63 : decode cX10_makeDouble 63 = .ok (.iload_n 1, 1) := by decide +kernel
theorem dX10_makeDouble_64 : decode cX10_makeDouble 64 = .ok (.iload_n 2, 1) := by decide +kernel
theorem dX10_makeDouble_65 : decode cX10_makeDouble 65 = .ok (.invokevirtual 97, 3) := by decide +kernel
theorem dX10_makeDouble_68 : decode cX10_makeDouble 68 = .ok (.ireturn, 1) := by decide +kernel
theorem dX10_height_0 : decode cX10_height 0 = .ok (.aload_n 0, 1) := by decide +kernel
theorem dX10_height_1 : decode cX10_height 1 = .ok (.aload_n 0, 1) := by decide +kernel
theorem dX10_height_2 : decode cX10_height 2 = .ok (.iload_n 1, 1) := by decide +kernel
theorem dX10_height_3 : decode cX10_height 3 = .ok (.iload_n 2, 1) := by decide +kernel
theorem dX10_height_4 : decode cX10_height 4 = .ok (.iload_n 3, 1) := by decide +kernel
theorem dX10_height_5 : decode cX10_height 5 = .ok (.iload 4, 2) := by decide +kernel
theorem dX10_height_7 : decode cX10_height 7 = .ok (.invokevirtual 100, 3) := by decide +kernel
theorem dX10_height_10 : decode cX10_height 10 = .ok (.invokevirtual 68, 3) := by decide +kernel
theorem dX10_height_13 : decode cX10_height 13 = .ok (.ireturn, 1) := by decide +kernel
theorem dX10_changeHeight_0 : decode cX10_changeHeight 0 = .ok (.aload_n 0, 1) := by decide +kernel
theorem dX10_changeHeight_1 : decode cX10_changeHeight 1 = .ok (.getfield 10, 3) := by decide +kernel
theorem dX10_changeHeight_4 : decode cX10_changeHeight 4 = .ok (.getfield 72, 3) := by decide +kernel
theorem dX10_changeHeight_7 : decode cX10_changeHeight 7 = .ok (.astore 5, 2) := by decide +kernel
theorem dX10_changeHeight_9 : decode cX10_changeHeight 9 = .ok (.aload 5, 2) := by decide +kernel
theorem dX10_changeHeight_11 : decode cX10_changeHeight 11 = .ok (.iload_n 1, 1) := by decide +kernel
theorem dX10_changeHeight_12 : decode cX10_changeHeight 12 = .ok (.invokevirtual 104, 3) := by decide +kernel
theorem dX10_changeHeight_15 : decode cX10_changeHeight 15 = .ok (.ifCond .eq 13, 3) := by decide +kernel
theorem dX10_changeHeight_18 : decode cX10_changeHeight 18 = .ok (.iload_n 3, 1) := by decide +kernel
theorem dX10_changeHeight_19 : decode cX10_changeHeight 19 = .ok (.ifCond .lt 9, 3) := by decide +kernel
theorem dX10_changeHeight_22 : decode cX10_changeHeight 22 = .ok (.iload_n 3, 1) := by decide +kernel
theorem dX10_changeHeight_23 : decode cX10_changeHeight 23 = .ok (.bipush 9, 2) := by decide +kernel
theorem dX10_changeHeight_25 : decode cX10_changeHeight 25 = .ok (.if_icmp .le 6, 3) := by decide +kernel
theorem dX10_changeHeight_28 : decode cX10_changeHeight 28 = .ok (.bipush (-2), 2) := by decide +kernel
theorem dX10_changeHeight_30 : decode cX10_changeHeight 30 = .ok (.ireturn, 1) := by decide +kernel
theorem dX10_changeHeight_31 : decode cX10_changeHeight 31 = .ok (.aload 5, 2) := by decide +kernel
theorem dX10_changeHeight_33 : decode cX10_changeHeight 33 = .ok (.iload_n 1, 1) := by decide +kernel
theorem dX10_changeHeight_34 : decode cX10_changeHeight 34 = .ok (.iload_n 2, 1) := by decide +kernel
theorem dX10_changeHeight_35 : decode cX10_changeHeight 35 = .ok (.invokevirtual 107, 3) := by decide +kernel
theorem dX10_changeHeight_38 : decode cX10_changeHeight 38 = .ok (.istore 6, 2) := by decide +kernel
theorem dX10_changeHeight_40 : decode cX10_changeHeight 40 = .ok (.iload 6, 2) := by decide +kernel
theorem dX10_changeHeight_42 : decode cX10_changeHeight 42 = .ok (.ifCond .eq 6, 3) := by decide +kernel
theorem dX10_changeHeight_45 : decode cX10_changeHeight 45 = .ok (.iload 6, 2) := by decide +kernel
theorem dX10_changeHeight_47 : decode cX10_changeHeight 47 = .ok (.ireturn, 1) := by decide +kernel
theorem dX10_changeHeight_48 : decode cX10_changeHeight 48 = .ok (.aload 5, 2) := by decide +kernel
theorem dX10_changeHeight_50 : decode cX10_changeHeight 50 = .ok (.iload_n 1, 1) := by decide +kernel
theorem dX10_changeHeight_51 : decode cX10_changeHeight 51 = .ok (.iload_n 2, 1) := by decide +kernel
theorem dX10_changeHeight_52 : decode cX10_changeHeight 52 = .ok (.invokevirtual 110, 3) := by decide +kernel
theorem dX10_changeHeight_55 : decode cX10_changeHeight 55 = .ok (.istore 7, 2) := by decide +kernel
theorem dX10_changeHeight_57 : decode cX10_changeHeight 57 = .ok (.iconst 1, 1) := by decide +kernel
theorem dX10_changeHeight_58 : decode cX10_changeHeight 58 = .ok (.iload_n 3, 1) := by decide +kernel
theorem dX10_changeHeight_59 : decode cX10_changeHeight 59 = .ok (.ishl, 1) := by decide +kernel
theorem dX10_changeHeight_60 : decode cX10_changeHeight 60 = .ok (.istore 8, 2) := by decide +kernel
theorem dX10_changeHeight_62 : decode cX10_changeHeight 62 = .ok (.iload 4, 2) := by decide +kernel
theorem dX10_changeHeight_64 : decode cX10_changeHeight 64 = .ok (.ifCond .eq 15, 3) := by decide +kernel
theorem dX10_changeHeight_67 : decode cX10_changeHeight 67 = .ok (.iload 7, 2) := by decide +kernel
theorem dX10_changeHeight_69 : decode cX10_changeHeight 69 = .ok (.iload 8, 2) := by decide +kernel
theorem dX10_changeHeight_71 : decode cX10_changeHeight 71 = .ok (.iand, 1) := by decide +kernel
theorem dX10_changeHeight_72 : decode cX10_changeHeight 72 = .ok (.ifCond .ne 7, 3) := by decide +kernel
theorem dX10_changeHeight_75 : decode cX10_changeHeight 75 = .ok (.iconst 1, 1) := by decide +kernel
theorem dX10_changeHeight_76 : decode cX10_changeHeight 76 = .ok (.goto 4, 3) := by decide +kernel
theorem dX10_changeHeight_79 : decode cX10_changeHeight 79 = .ok (.iconst 0, 1) := by decide +kernel
theorem dX10_changeHeight_80 : decode cX10_changeHeight 80 = .ok (.istore 9, 2) := by decide +kernel
theorem dX10_changeHeight_82 : decode cX10_changeHeight 82 = .ok (.iload 9, 2) := by decide +kernel
theorem dX10_changeHeight_84 : decode cX10_changeHeight 84 = .ok (.ifCond .eq 20, 3) := by decide +kernel
theorem dX10_changeHeight_87 : decode cX10_changeHeight 87 = .ok (.iload 7, 2) := by decide +kernel
theorem dX10_changeHeight_89 : decode cX10_changeHeight 89 = .ok (.invokestatic 113, 3) := by decide +kernel
theorem dX10_changeHeight_92 : decode cX10_changeHeight 92 = .ok (.aload 5, 2) := by decide +kernel
theorem dX10_changeHeight_94 : decode cX10_changeHeight 94 = .ok (.iload_n 1, 1) := by decide +kernel
theorem dX10_changeHeight_95 : decode cX10_changeHeight 95 = .ok (.invokevirtual 118, 3) := by decide +kernel
theorem dX10_changeHeight_98 : decode cX10_changeHeight 98 = .ok (.if_icmp .lt 6, 3) := by decide +kernel
theorem dX10_changeHeight_101 : decode cX10_changeHeight 101 = .ok (.bipush (-4), 2) := by decide +kernel
theorem dX10_changeHeight_103 : decode cX10_changeHeight 103 = .ok (.ireturn, 1) := by decide +kernel
theorem dX10_changeHeight_104 : decode cX10_changeHeight 104 = .ok (.aload_n 0, 1) := by decide +kernel
theorem dX10_changeHeight_105 : decode cX10_changeHeight 105 = .ok (.invokevirtual 81, 3) := by decide +kernel
theorem dX10_changeHeight_108 : decode cX10_changeHeight 108 = .ok (.iload 4, 2) := by decide +kernel
theorem dX10_changeHeight_110 : decode cX10_changeHeight 110 = .ok (.ifCond .eq 11, 3) := by decide +kernel
theorem dX10_changeHeight_113 : decode cX10_changeHeight 113 = .ok (.iload 7, 2) := by decide +kernel
theorem dX10_changeHeight_115 : decode cX10_changeHeight 115 = .ok (.iload 8, 2) := by decide +kernel
theorem dX10_changeHeight_117 : decode cX10_changeHeight 117 = .ok (.ior, 1) := by decide +kernel
theorem dX10_changeHeight_118 : decode cX10_changeHeight 118 = .ok (.goto 10, 3) := by decide +kernel
theorem dX10_changeHeight_121 : decode cX10_changeHeight 121 = .ok (.iload 7, 2) := by decide +kernel
theorem dX10_changeHeight_123 : decode cX10_changeHeight 123 = .ok (.iload 8, 2) := by decide +kernel
theorem dX10_changeHeight_125 : decode cX10_changeHeight 125 = .ok (.iconst (-1), 1) := by decide +kernel
theorem dX10_changeHeight_126 : decode cX10_changeHeight 126 = .ok (.ixor, 1) := by decide +kernel
theorem dX10_changeHeight_127 : decode cX10_changeHeight 127 = .ok (.iand, 1) := by decide +kernel
theorem dX10_changeHeight_128 : decode cX10_changeHeight 128 = .ok (.istore 10, 2) := by decide +kernel
theorem dX10_changeHeight_130 : decode cX10_changeHeight 130 = .ok (.aload 5, 2) := by decide +kernel
theorem dX10_changeHeight_132 : decode cX10_changeHeight 132 = .ok (.iload_n 1, 1) := by decide +kernel
theorem dX10_changeHeight_133 : decode cX10_changeHeight 133 = .ok (.iload_n 2, 1) := by decide +kernel
theorem dX10_changeHeight_134 : decode cX10_changeHeight 134 = .ok (.iload 10, 2) := by decide +kernel
theorem dX10_changeHeight_136 : decode cX10_changeHeight 136 = .ok (.invokevirtual 121, 3) := by decide +kernel
theorem dX10_changeHeight_139 : decode cX10_changeHeight 139 = .ok (.iload 10, 2) := by decide +kernel
theorem dX10_changeHeight_141 : decode cX10_changeHeight 141 = .ok (.invokestatic 113, 3) := by decide +kernel
theorem dX10_changeHeight_144 : decode cX10_changeHeight 144 = .ok (.ireturn, 1) := by decide +kernel
theorem dX10_heightAt_0 : decode cX10_heightAt 0 = .ok (.aload_n 0, 1) := by decide +kernel
theorem dX10_heightAt_1 : decode cX10_heightAt 1 = .ok (.aload_n 0, 1) := by decide +kernel
theorem dX10_heightAt_2 : decode cX10_heightAt 2 = .ok (.iload_n 1, 1) := by decide +kernel
theorem dX10_heightAt_3 : decode cX10_heightAt 3 = .ok (.iload_n 2, 1) := by decide +kernel
theorem dX10_heightAt_4 : decode cX10_heightAt 4 = .ok (.iload_n 3, 1) := by decide +kernel
theorem dX10_heightAt_5 : decode cX10_heightAt 5 = .ok (.invokevirtual 125, 3) := by decide +kernel
theorem dX10_heightAt_8 : decode cX10_heightAt 8 = .ok (.invokevirtual 68, 3) := by decide +kernel
theorem dX10_heightAt_11 : decode cX10_heightAt 11 = .ok (.ireturn, 1) := by decide +kernel
theorem dX10_lookAtHeight_0 : decode cX10_lookAtHeight 0 = .ok (.aload_n 0, 1) := by decide +kernel
theorem dX10_lookAtHeight_1 : decode cX10_lookAtHeight 1 = .ok (.getfield 10, 3) := by decide +kernel
theorem dX10_lookAtHeight_4 : decode cX10_lookAtHeight 4 = .ok (.getfield 72, 3) := by decide +kernel
theorem dX10_lookAtHeight_7 : decode cX10_lookAtHeight 7 = .ok (.astore 4, 2) := by decide +kernel
theorem dX10_lookAtHeight_9 : decode cX10_lookAtHeight 9 = .ok (.aload 4, 2) := by decide +kernel
theorem dX10_lookAtHeight_11 : decode cX10_lookAtHeight 11 = .ok (.iload_n 1, 1) := by decide +kernel
theorem dX10_lookAtHeight_12 : decode cX10_lookAtHeight 12 = .ok (.invokevirtual 104, 3) := by decide +kernel
theorem dX10_lookAtHeight_15 : decode cX10_lookAtHeight 15 = .ok (.ifCond .ne 6, 3) := by decide +kernel
theorem dX10_lookAtHeight_18 : decode cX10_lookAtHeight 18 = .ok (.bipush (-2), 2) := by decide +kernel
theorem dX10_lookAtHeight_20 : decode cX10_lookAtHeight 20 = .ok (.ireturn, 1) := by decide +kernel
theorem dX10_lookAtHeight_21 : decode cX10_lookAtHeight 21 = .ok (.aload 4, 2) := by decide +kernel
theorem dX10_lookAtHeight_23 : decode cX10_lookAtHeight 23 = .ok (.iload_n 1, 1) := by decide +kernel
theorem dX10_lookAtHeight_24 : decode cX10_lookAtHeight 24 = .ok (.iload_n 2, 1) := by decide +kernel
theorem dX10_lookAtHeight_25 : decode cX10_lookAtHeight 25 = .ok (.invokevirtual 107, 3) := by decide +kernel
theorem dX10_lookAtHeight_28 : decode cX10_lookAtHeight 28 = .ok (.istore 5, 2) := by decide +kernel
theorem dX10_lookAtHeight_30 : decode cX10_lookAtHeight 30 = .ok (.iload 5, 2) := by decide +kernel
theorem dX10_lookAtHeight_32 : decode cX10_lookAtHeight 32 = .ok (.ifCond .eq 6, 3) := by decide +kernel
theorem dX10_lookAtHeight_35 : decode cX10_lookAtHeight 35 = .ok (.iload 5, 2) := by decide +kernel
theorem dX10_lookAtHeight_37 : decode cX10_lookAtHeight 37 = .ok (.ireturn, 1) := by decide +kernel
theorem dX10_lookAtHeight_38 : decode cX10_lookAtHeight 38 = .ok (.aload 4, 2) := by decide +kernel
theorem dX10_lookAtHeight_40 : decode cX10_lookAtHeight 40 = .ok (.iload_n 1, 1) := by decide +kernel
theorem dX10_lookAtHeight_41 : decode cX10_lookAtHeight 41 = .ok (.iload_n 2, 1) := by decide +kernel
theorem dX10_lookAtHeight_42 : decode cX10_lookAtHeight 42 = .ok (.invokevirtual 110, 3) := by decide +kernel
theorem dX10_lookAtHeight_45 : decode cX10_lookAtHeight 45 = .ok (.istore 6, 2) := by decide +kernel
theorem dX10_lookAtHeight_47 : decode cX10_lookAtHeight 47 = .ok (.iload 6, 2) := by decide +kernel
theorem dX10_lookAtHeight_49 : decode cX10_lookAtHeight 49 = .ok (.ifCond .ne 8, 3) := by decide +kernel
theorem dX10_lookAtHeight_52 : decode cX10_lookAtHeight 52 = .ok (.bipush (-11), 2) := by decide +kernel
theorem dX10_lookAtHeight_54 : decode cX10_lookAtHeight 54 = .ok (.goto 9, 3) := by decide +kernel
theorem dX10_lookAtHeight_57 : decode cX10_lookAtHeight 57 = .ok (.iload 6, 2) := by decide +kernel
theorem dX10_lookAtHeight_59 : decode cX10_lookAtHeight 59 = .ok (.iload_n 3, 1) := by decide +kernel
theorem dX10_lookAtHeight_60 : decode cX10_lookAtHeight 60 = .ok (.invokestatic 129, 3) := by decide +kernel
theorem dX10_lookAtHeight_63 : decode cX10_lookAtHeight 63 = .ok (.ireturn, 1) := by decide +kernel
theorem dX10_heightNumber_0 : decode cX10_heightNumber 0 = .ok (.iconst 0, 1) := by decide +kernel
theorem dX10_heightNumber_1 : decode cX10_heightNumber 1 = .ok (.istore_n 2, 1) := by decide +kernel
theorem dX10_heightNumber_2 : decode cX10_heightNumber 2 = .ok (.iconst 0, 1) := by decide +kernel
theorem dX10_heightNumber_3 : decode cX10_heightNumber 3 = .ok (.istore_n 3, 1) := by decide +kernel
theorem dX10_heightNumber_4 : decode cX10_heightNumber 4 = .ok (.iload_n 3, 1) := by decide +kernel
theorem dX10_heightNumber_5 : decode cX10_heightNumber 5 = .ok (.bipush 9, 2) := by decide +kernel
theorem dX10_heightNumber_7 : decode cX10_heightNumber 7 = .ok (.if_icmp .gt 27, 3) := by decide +kernel
theorem dX10_heightNumber_10 : decode cX10_heightNumber 10 = .ok (.iload_n 0, 1) := by decide +kernel
theorem dX10_heightNumber_11 : decode cX10_heightNumber 11 = .ok (.iconst 1, 1) := by decide +kernel
theorem dX10_heightNumber_12 : decode cX10_heightNumber 12 = .ok (.iload_n 3, 1) := by decide +kernel
theorem dX10_heightNumber_13 : decode cX10_heightNumber 13 = .ok (.ishl, 1) := by decide +kernel
theorem dX10_heightNumber_14 : decode cX10_heightNumber 14 = .ok (.iand, 1) := by decide +kernel
theorem dX10_heightNumber_15 : decode cX10_heightNumber 15 = .ok (.ifCond .eq 13, 3) := by decide +kernel
theorem dX10_heightNumber_18 : decode cX10_heightNumber 18 = .ok (.iload_n 2, 1) := by decide +kernel
theorem dX10_heightNumber_19 : decode cX10_heightNumber 19 = .ok (.iload_n 1, 1) := by decide +kernel
theorem dX10_heightNumber_20 : decode cX10_heightNumber 20 = .ok (.if_icmp .ne 5, 3) := by decide +kernel
theorem dX10_heightNumber_23 : decode cX10_heightNumber 23 = .ok (.iload_n 3, 1) := by decide +kernel
theorem dX10_heightNumber_24 : decode cX10_heightNumber 24 = .ok (.ireturn, 1) := by decide +kernel
theorem dX10_heightNumber_25 : decode cX10_heightNumber 25 = .ok (.iinc 2 1, 3) := by decide +kernel
theorem dX10_heightNumber_28 : decode cX10_heightNumber 28 = .ok (.iinc 3 1, 3) := by decide +kernel
theorem dX10_heightNumber_31 : decode cX10_heightNumber 31 = .ok (.goto (-27), 3) := by decide +kernel
theorem dX10_heightNumber_34 : decode cX10_heightNumber 34 = .ok (.bipush (-12), 2) := by decide +kernel
theorem dX10_heightNumber_36 : decode cX10_heightNumber 36 = .ok (.ireturn, 1) := by decide +kernel
theorem dX10_takeCore_0 : decode cX10_takeCore 0 = .ok (.aload_n 0, 1) := by decide +kernel
theorem dX10_takeCore_1 : decode cX10_takeCore 1 = .ok (.aload_n 0, 1) := by decide +kernel
theorem dX10_takeCore_2 : decode cX10_takeCore 2 = .ok (.iload_n 1, 1) := by decide +kernel
theorem dX10_takeCore_3 : decode cX10_takeCore 3 = .ok (.invokevirtual 132, 3) := by decide +kernel
theorem dX10_takeCore_6 : decode cX10_takeCore 6 = .ok (.invokevirtual 68, 3) := by decide +kernel
theorem dX10_takeCore_9 : decode cX10_takeCore 9 = .ok (.ireturn, 1) := by decide +kernel
theorem dX10_coreToTray_0 : decode cX10_coreToTray 0 = .ok (.aload_n 0, 1) := by decide +kernel
theorem dX10_coreToTray_1 : decode cX10_coreToTray 1 = .ok (.getfield 10, 3) := by decide +kernel
theorem dX10_coreToTray_4 : decode cX10_coreToTray 4 = .ok (.getfield 72, 3) := by decide +kernel
theorem dX10_coreToTray_7 : decode cX10_coreToTray 7 = .ok (.astore_n 2, 1) := by decide +kernel
theorem dX10_coreToTray_8 : decode cX10_coreToTray 8 = .ok (.aload_n 2, 1) := by decide +kernel
theorem dX10_coreToTray_9 : decode cX10_coreToTray 9 = .ok (.iload_n 1, 1) := by decide +kernel
theorem dX10_coreToTray_10 : decode cX10_coreToTray 10 = .ok (.invokevirtual 104, 3) := by decide +kernel
theorem dX10_coreToTray_13 : decode cX10_coreToTray 13 = .ok (.ifCond .ne 6, 3) := by decide +kernel
theorem dX10_coreToTray_16 : decode cX10_coreToTray 16 = .ok (.bipush (-2), 2) := by decide +kernel
theorem dX10_coreToTray_18 : decode cX10_coreToTray 18 = .ok (.ireturn, 1) := by decide +kernel
theorem dX10_coreToTray_19 : decode cX10_coreToTray 19 = .ok (.aload_n 2, 1) := by decide +kernel
theorem dX10_coreToTray_20 : decode cX10_coreToTray 20 = .ok (.iload_n 1, 1) := by decide +kernel
theorem dX10_coreToTray_21 : decode cX10_coreToTray 21 = .ok (.invokevirtual 135, 3) := by decide +kernel
theorem dX10_coreToTray_24 : decode cX10_coreToTray 24 = .ok (.ifCond .ne 6, 3) := by decide +kernel
theorem dX10_coreToTray_27 : decode cX10_coreToTray 27 = .ok (.bipush (-13), 2) := by decide +kernel
theorem dX10_coreToTray_29 : decode cX10_coreToTray 29 = .ok (.ireturn, 1) := by decide +kernel
theorem dX10_coreToTray_30 : decode cX10_coreToTray 30 = .ok (.aload_n 2, 1) := by decide +kernel
theorem dX10_coreToTray_31 : decode cX10_coreToTray 31 = .ok (.iload_n 1, 1) := by decide +kernel
theorem dX10_coreToTray_32 : decode cX10_coreToTray 32 = .ok (.invokevirtual 138, 3) := by decide +kernel
theorem dX10_coreToTray_35 : decode cX10_coreToTray 35 = .ok (.ifCond .eq 6, 3) := by decide +kernel
theorem dX10_coreToTray_38 : decode cX10_coreToTray 38 = .ok (.bipush (-11), 2) := by decide +kernel
theorem dX10_coreToTray_40 : decode cX10_coreToTray 40 = .ok (.ireturn, 1) := by decide +kernel
theorem dX10_coreToTray_41 : decode cX10_coreToTray 41 = .ok (.aload_n 0, 1) := by decide +kernel
theorem dX10_coreToTray_42 : decode cX10_coreToTray 42 = .ok (.invokevirtual 81, 3) := by decide +kernel
theorem dX10_coreToTray_45 : decode cX10_coreToTray 45 = .ok (.aload_n 2, 1) := by decide +kernel
theorem dX10_coreToTray_46 : decode cX10_coreToTray 46 = .ok (.iload_n 1, 1) := by decide +kernel
theorem dX10_coreToTray_47 : decode cX10_coreToTray 47 = .ok (.invokevirtual 141, 3) := by decide +kernel
theorem dX10_coreToTray_50 : decode cX10_coreToTray 50 = .ok (.ireturn, 1) := by decide +kernel
theorem dX10_putCore_0 : decode cX10_putCore 0 = .ok (.aload_n 0, 1) := by decide +kernel
theorem dX10_putCore_1 : decode cX10_putCore 1 = .ok (.aload_n 0, 1) := by decide +kernel
theorem dX10_putCore_2 : decode cX10_putCore 2 = .ok (.iload_n 1, 1) := by decide +kernel
theorem dX10_putCore_3 : decode cX10_putCore 3 = .ok (.invokevirtual 144, 3) := by decide +kernel
theorem dX10_putCore_6 : decode cX10_putCore 6 = .ok (.invokevirtual 68, 3) := by decide +kernel
theorem dX10_putCore_9 : decode cX10_putCore 9 = .ok (.ireturn, 1) := by decide +kernel
theorem dX10_trayToCore_0 : decode cX10_trayToCore 0 = .ok (.aload_n 0, 1) := by decide +kernel
theorem dX10_trayToCore_1 : decode cX10_trayToCore 1 = .ok (.getfield 10, 3) := by decide +kernel
theorem dX10_trayToCore_4 : decode cX10_trayToCore 4 = .ok (.getfield 72, 3) := by decide +kernel
theorem dX10_trayToCore_7 : decode cX10_trayToCore 7 = .ok (.astore_n 2, 1) := by decide +kernel
theorem dX10_trayToCore_8 : decode cX10_trayToCore 8 = .ok (.aload_n 2, 1) := by decide +kernel
theorem dX10_trayToCore_9 : decode cX10_trayToCore 9 = .ok (.iload_n 1, 1) := by decide +kernel
theorem dX10_trayToCore_10 : decode cX10_trayToCore 10 = .ok (.invokevirtual 104, 3) := by decide +kernel
theorem dX10_trayToCore_13 : decode cX10_trayToCore 13 = .ok (.ifCond .ne 6, 3) := by decide +kernel
theorem dX10_trayToCore_16 : decode cX10_trayToCore 16 = .ok (.bipush (-2), 2) := by decide +kernel
theorem dX10_trayToCore_18 : decode cX10_trayToCore 18 = .ok (.ireturn, 1) := by decide +kernel
theorem dX10_trayToCore_19 : decode cX10_trayToCore 19 = .ok (.aload_n 2, 1) := by decide +kernel
theorem dX10_trayToCore_20 : decode cX10_trayToCore 20 = .ok (.iload_n 1, 1) := by decide +kernel
theorem dX10_trayToCore_21 : decode cX10_trayToCore 21 = .ok (.invokevirtual 135, 3) := by decide +kernel
theorem dX10_trayToCore_24 : decode cX10_trayToCore 24 = .ok (.ifCond .ne 6, 3) := by decide +kernel
theorem dX10_trayToCore_27 : decode cX10_trayToCore 27 = .ok (.bipush (-13), 2) := by decide +kernel
theorem dX10_trayToCore_29 : decode cX10_trayToCore 29 = .ok (.ireturn, 1) := by decide +kernel
theorem dX10_trayToCore_30 : decode cX10_trayToCore 30 = .ok (.aload_n 2, 1) := by decide +kernel
theorem dX10_trayToCore_31 : decode cX10_trayToCore 31 = .ok (.iload_n 1, 1) := by decide +kernel
theorem dX10_trayToCore_32 : decode cX10_trayToCore 32 = .ok (.invokevirtual 138, 3) := by decide +kernel
theorem dX10_trayToCore_35 : decode cX10_trayToCore 35 = .ok (.ifCond .ne 6, 3) := by decide +kernel
theorem dX10_trayToCore_38 : decode cX10_trayToCore 38 = .ok (.bipush (-3), 2) := by decide +kernel
theorem dX10_trayToCore_40 : decode cX10_trayToCore 40 = .ok (.ireturn, 1) := by decide +kernel
theorem dX10_trayToCore_41 : decode cX10_trayToCore 41 = .ok (.aload_n 2, 1) := by decide +kernel
theorem dX10_trayToCore_42 : decode cX10_trayToCore 42 = .ok (.getfield 147, 3) := by decide +kernel
theorem dX10_trayToCore_45 : decode cX10_trayToCore 45 = .ok (.iconst (-1), 1) := by decide +kernel
theorem dX10_trayToCore_46 : decode cX10_trayToCore 46 = .ok (.if_icmp .ne 6, 3) := by decide +kernel
theorem dX10_trayToCore_49 : decode cX10_trayToCore 49 = .ok (.bipush (-11), 2) := by decide +kernel
theorem dX10_trayToCore_51 : decode cX10_trayToCore 51 = .ok (.ireturn, 1) := by decide +kernel
theorem dX10_trayToCore_52 : decode cX10_trayToCore 52 = .ok (.aload_n 0, 1) := by decide +kernel
theorem dX10_trayToCore_53 : decode cX10_trayToCore 53 = .ok (.invokevirtual 81, 3) := by decide +kernel
theorem dX10_trayToCore_56 : decode cX10_trayToCore 56 = .ok (.aload_n 2, 1) := by decide +kernel
theorem dX10_trayToCore_57 : decode cX10_trayToCore 57 = .ok (.iload_n 1, 1) := by decide +kernel
theorem dX10_trayToCore_58 : decode cX10_trayToCore 58 = .ok (.invokevirtual 150, 3) := by decide +kernel
theorem dX10_trayToCore_61 : decode cX10_trayToCore 61 = .ok (.ireturn, 1) := by decide +kernel
theorem dX10_kind_0 : decode cX10_kind 0 = .ok (.aload_n 0, 1) := by decide +kernel
theorem dX10_kind_1 : decode cX10_kind 1 = .ok (.getfield 10, 3) := by decide +kernel
theorem dX10_kind_4 : decode cX10_kind 4 = .ok (.getfield 72, 3) := by decide +kernel
theorem dX10_kind_7 : decode cX10_kind 7 = .ok (.iload_n 1, 1) := by decide +kernel
theorem dX10_kind_8 : decode cX10_kind 8 = .ok (.invokevirtual 104, 3) := by decide +kernel
theorem dX10_kind_11 : decode cX10_kind 11 = .ok (.ifCond .eq 18, 3) := by decide +kernel
theorem dX10_kind_14 : decode cX10_kind 14 = .ok (.aload_n 0, 1) := by decide +kernel
theorem dX10_kind_15 : decode cX10_kind 15 = .ok (.getfield 10, 3) := by decide +kernel
theorem dX10_kind_18 : decode cX10_kind 18 = .ok (.getfield 72, 3) := by decide +kernel
theorem dX10_kind_21 : decode cX10_kind 21 = .ok (.getfield 153, 3) := by decide +kernel
theorem dX10_kind_24 : decode cX10_kind 24 = .ok (.iload_n 1, 1) := by decide +kernel
theorem dX10_kind_25 : decode cX10_kind 25 = .ok (.iaload, 1) := by decide +kernel
theorem dX10_kind_26 : decode cX10_kind 26 = .ok (.goto 5, 3) := by decide +kernel
theorem dX10_kind_29 : decode cX10_kind 29 = .ok (.bipush (-2), 2) := by decide +kernel
theorem dX10_kind_31 : decode cX10_kind 31 = .ok (.ireturn, 1) := by decide +kernel
theorem dX10_chambers_0 : decode cX10_chambers 0 = .ok (.aload_n 0, 1) := by decide +kernel
theorem dX10_chambers_1 : decode cX10_chambers 1 = .ok (.getfield 10, 3) := by decide +kernel
theorem dX10_chambers_4 : decode cX10_chambers 4 = .ok (.getfield 72, 3) := by decide +kernel
theorem dX10_chambers_7 : decode cX10_chambers 7 = .ok (.iload_n 1, 1) := by decide +kernel
theorem dX10_chambers_8 : decode cX10_chambers 8 = .ok (.invokevirtual 104, 3) := by decide +kernel
theorem dX10_chambers_11 : decode cX10_chambers 11 = .ok (.ifCond .ne 6, 3) := by decide +kernel
theorem dX10_chambers_14 : decode cX10_chambers 14 = .ok (.bipush (-2), 2) := by decide +kernel
theorem dX10_chambers_16 : decode cX10_chambers 16 = .ok (.ireturn, 1) := by decide +kernel
theorem dX10_chambers_17 : decode cX10_chambers 17 = .ok (.aload_n 0, 1) := by decide +kernel
theorem dX10_chambers_18 : decode cX10_chambers 18 = .ok (.getfield 10, 3) := by decide +kernel
theorem dX10_chambers_21 : decode cX10_chambers 21 = .ok (.getfield 72, 3) := by decide +kernel
theorem dX10_chambers_24 : decode cX10_chambers 24 = .ok (.iload_n 1, 1) := by decide +kernel
theorem dX10_chambers_25 : decode cX10_chambers 25 = .ok (.invokevirtual 157, 3) := by decide +kernel
theorem dX10_chambers_28 : decode cX10_chambers 28 = .ok (.istore_n 2, 1) := by decide +kernel
theorem dX10_chambers_29 : decode cX10_chambers 29 = .ok (.aload_n 0, 1) := by decide +kernel
theorem dX10_chambers_30 : decode cX10_chambers 30 = .ok (.iload_n 2, 1) := by decide +kernel
theorem dX10_chambers_31 : decode cX10_chambers 31 = .ok (.ifCond .eq 7, 3) := by decide +kernel
theorem dX10_chambers_34 : decode cX10_chambers 34 = .ok (.iload_n 2, 1) := by decide +kernel
theorem dX10_chambers_35 : decode cX10_chambers 35 = .ok (.goto 15, 3) := by decide +kernel
theorem dX10_chambers_38 : decode cX10_chambers 38 = .ok (.aload_n 0, 1) := by decide +kernel
theorem dX10_chambers_39 : decode cX10_chambers 39 = .ok (.getfield 10, 3) := by decide +kernel
theorem dX10_chambers_42 : decode cX10_chambers 42 = .ok (.getfield 72, 3) := by decide +kernel
theorem dX10_chambers_45 : decode cX10_chambers 45 = .ok (.getfield 160, 3) := by decide +kernel
theorem dX10_chambers_48 : decode cX10_chambers 48 = .ok (.iload_n 1, 1) := by decide +kernel
theorem dX10_chambers_49 : decode cX10_chambers 49 = .ok (.iaload, 1) := by decide +kernel
theorem dX10_chambers_50 : decode cX10_chambers 50 = .ok (.invokevirtual 68, 3) := by decide +kernel
theorem dX10_chambers_53 : decode cX10_chambers 53 = .ok (.ireturn, 1) := by decide +kernel
theorem dX10_weight_0 : decode cX10_weight 0 = .ok (.aload_n 0, 1) := by decide +kernel
theorem dX10_weight_1 : decode cX10_weight 1 = .ok (.getfield 10, 3) := by decide +kernel
theorem dX10_weight_4 : decode cX10_weight 4 = .ok (.getfield 72, 3) := by decide +kernel
theorem dX10_weight_7 : decode cX10_weight 7 = .ok (.iload_n 1, 1) := by decide +kernel
theorem dX10_weight_8 : decode cX10_weight 8 = .ok (.invokevirtual 104, 3) := by decide +kernel
theorem dX10_weight_11 : decode cX10_weight 11 = .ok (.ifCond .ne 6, 3) := by decide +kernel
theorem dX10_weight_14 : decode cX10_weight 14 = .ok (.bipush (-2), 2) := by decide +kernel
theorem dX10_weight_16 : decode cX10_weight 16 = .ok (.ireturn, 1) := by decide +kernel
theorem dX10_weight_17 : decode cX10_weight 17 = .ok (.aload_n 0, 1) := by decide +kernel
theorem dX10_weight_18 : decode cX10_weight 18 = .ok (.getfield 36, 3) := by decide +kernel
theorem dX10_weight_21 : decode cX10_weight 21 = .ok (.getfield 163, 3) := by decide +kernel
theorem dX10_weight_24 : decode cX10_weight 24 = .ok (.invokevirtual 167, 3) := by decide +kernel
theorem dX10_weight_27 : decode cX10_weight 27 = .ok (.aload_n 0, 1) := by decide +kernel
theorem dX10_weight_28 : decode cX10_weight 28 = .ok (.aload_n 0, 1) := by decide +kernel
theorem dX10_weight_29 : decode cX10_weight 29 = .ok (.getfield 10, 3) := by decide +kernel
theorem dX10_weight_32 : decode cX10_weight 32 = .ok (.getfield 72, 3) := by decide +kernel
theorem dX10_weight_35 : decode cX10_weight 35 = .ok (.iload_n 1, 1) := by decide +kernel
theorem dX10_weight_36 : decode cX10_weight 36 = .ok (.aload_n 0, 1) := by decide +kernel
theorem dX10_weight_37 : decode cX10_weight 37 = .ok (.getfield 36, 3) := by decide +kernel
theorem dX10_weight_40 : decode cX10_weight 40 = .ok (.getfield 163, 3) := by decide +kernel
theorem dX10_weight_43 : decode cX10_weight 43 = .ok (.invokestatic 172, 3) := by decide +kernel
theorem dX10_weight_46 : decode cX10_weight 46 = .ok (.invokevirtual 68, 3) := by decide +kernel
theorem dX10_weight_49 : decode cX10_weight 49 = .ok (.ireturn, 1) := by decide +kernel
theorem dX10_blanks_0 : decode cX10_blanks 0 = .ok (.iload_n 1, 1) := by decide +kernel
theorem dX10_blanks_1 : decode cX10_blanks 1 = .ok (.ifCond .lt 9, 3) := by decide +kernel
theorem dX10_blanks_4 : decode cX10_blanks 4 = .ok (.iload_n 1, 1) := by decide +kernel
theorem dX10_blanks_5 : decode cX10_blanks 5 = .ok (.bipush 100, 2) := by decide +kernel
theorem dX10_blanks_7 : decode cX10_blanks 7 = .ok (.if_icmp .le 6, 3) := by decide +kernel
theorem dX10_blanks_10 : decode cX10_blanks 10 = .ok (.bipush (-2), 2) := by decide +kernel
theorem dX10_blanks_12 : decode cX10_blanks 12 = .ok (.ireturn, 1) := by decide +kernel
theorem dX10_blanks_13 : decode cX10_blanks 13 = .ok (.aload_n 0, 1) := by decide +kernel
theorem dX10_blanks_14 : decode cX10_blanks 14 = .ok (.getfield 10, 3) := by decide +kernel
theorem dX10_blanks_17 : decode cX10_blanks 17 = .ok (.getfield 178, 3) := by decide +kernel
theorem dX10_blanks_20 : decode cX10_blanks 20 = .ok (.iload_n 1, 1) := by decide +kernel
theorem dX10_blanks_21 : decode cX10_blanks 21 = .ok (.iadd, 1) := by decide +kernel
theorem dX10_blanks_22 : decode cX10_blanks 22 = .ok (.sipush 1000, 3) := by decide +kernel
theorem dX10_blanks_25 : decode cX10_blanks 25 = .ok (.if_icmp .le 6, 3) := by decide +kernel
theorem dX10_blanks_28 : decode cX10_blanks 28 = .ok (.bipush (-4), 2) := by decide +kernel
theorem dX10_blanks_30 : decode cX10_blanks 30 = .ok (.ireturn, 1) := by decide +kernel
theorem dX10_blanks_31 : decode cX10_blanks 31 = .ok (.aload_n 0, 1) := by decide +kernel
theorem dX10_blanks_32 : decode cX10_blanks 32 = .ok (.invokevirtual 81, 3) := by decide +kernel
theorem dX10_blanks_35 : decode cX10_blanks 35 = .ok (.aload_n 0, 1) := by decide +kernel
theorem dX10_blanks_36 : decode cX10_blanks 36 = .ok (.getfield 10, 3) := by decide +kernel
theorem dX10_blanks_39 : decode cX10_blanks 39 = .ok (.dup, 1) := by decide +kernel
theorem dX10_blanks_40 : decode cX10_blanks 40 = .ok (.getfield 178, 3) := by decide +kernel
theorem dX10_blanks_43 : decode cX10_blanks 43 = .ok (.iload_n 1, 1) := by decide +kernel
theorem dX10_blanks_44 : decode cX10_blanks 44 = .ok (.iadd, 1) := by decide +kernel
theorem dX10_blanks_45 : decode cX10_blanks 45 = .ok (.putfield 178, 3) := by decide +kernel
theorem dX10_blanks_48 : decode cX10_blanks 48 = .ok (.aload_n 0, 1) := by decide +kernel
theorem dX10_blanks_49 : decode cX10_blanks 49 = .ok (.getfield 10, 3) := by decide +kernel
theorem dX10_blanks_52 : decode cX10_blanks 52 = .ok (.getfield 178, 3) := by decide +kernel
theorem dX10_blanks_55 : decode cX10_blanks 55 = .ok (.ireturn, 1) := by decide +kernel
theorem dX10_key_0 : decode cX10_key 0 = .ok (.aload_n 0, 1) := by decide +kernel
theorem dX10_key_1 : decode cX10_key 1 = .ok (.aload_n 0, 1) := by decide +kernel
theorem dX10_key_2 : decode cX10_key 2 = .ok (.iload_n 1, 1) := by decide +kernel
theorem dX10_key_3 : decode cX10_key 3 = .ok (.lload_n 2, 1) := by decide +kernel
theorem dX10_key_4 : decode cX10_key 4 = .ok (.invokevirtual 181, 3) := by decide +kernel
theorem dX10_key_7 : decode cX10_key 7 = .ok (.invokevirtual 68, 3) := by decide +kernel
theorem dX10_key_10 : decode cX10_key 10 = .ok (.ireturn, 1) := by decide +kernel
theorem dX10_cutKey_0 : decode cX10_cutKey 0 = .ok (.iload_n 1, 1) := by decide +kernel
theorem dX10_cutKey_1 : decode cX10_cutKey 1 = .ok (.bipush 18, 2) := by decide +kernel
theorem dX10_cutKey_3 : decode cX10_cutKey 3 = .ok (.if_icmp .gt 17, 3) := by decide +kernel
theorem dX10_cutKey_6 : decode cX10_cutKey 6 = .ok (.lload_n 2, 1) := by decide +kernel
theorem dX10_cutKey_7 : decode cX10_cutKey 7 = .ok (.lconst 0, 1) := by decide +kernel
theorem dX10_cutKey_8 : decode cX10_cutKey 8 = .ok (.lcmp, 1) := by decide +kernel
theorem dX10_cutKey_9 : decode cX10_cutKey 9 = .ok (.ifCond .lt 11, 3) := by decide +kernel
theorem dX10_cutKey_12 : decode cX10_cutKey 12 = .ok (.lload_n 2, 1) := by decide +kernel
theorem dX10_cutKey_13 : decode cX10_cutKey 13 = .ok (.ldc2_w 185, 3) := by decide +kernel
theorem dX10_cutKey_16 : decode cX10_cutKey 16 = .ok (.lcmp, 1) := by decide +kernel
theorem dX10_cutKey_17 : decode cX10_cutKey 17 = .ok (.ifCond .le 6, 3) := by decide +kernel
theorem dX10_cutKey_20 : decode cX10_cutKey 20 = .ok (.bipush (-2), 2) := by decide +kernel
theorem dX10_cutKey_22 : decode cX10_cutKey 22 = .ok (.ireturn, 1) := by decide +kernel
theorem dX10_cutKey_23 : decode cX10_cutKey 23 = .ok (.aload_n 0, 1) := by decide +kernel
theorem dX10_cutKey_24 : decode cX10_cutKey 24 = .ok (.invokevirtual 187, 3) := by decide +kernel
theorem dX10_cutKey_27 : decode cX10_cutKey 27 = .ok (.istore 4, 2) := by decide +kernel
theorem dX10_cutKey_29 : decode cX10_cutKey 29 = .ok (.iload 4, 2) := by decide +kernel
theorem dX10_cutKey_31 : decode cX10_cutKey 31 = .ok (.ifCond .eq 6, 3) := by decide +kernel
theorem dX10_cutKey_34 : decode cX10_cutKey 34 = .ok (.iload 4, 2) := by decide +kernel
theorem dX10_cutKey_36 : decode cX10_cutKey 36 = .ok (.ireturn, 1) := by decide +kernel
theorem dX10_cutKey_37 : decode cX10_cutKey 37 = .ok (.aload_n 0, 1) := by decide +kernel
theorem dX10_cutKey_38 : decode cX10_cutKey 38 = .ok (.dup, 1) := by decide +kernel
theorem dX10_cutKey_39 : decode cX10_cutKey 39 = .ok (.getfield 23, 3) := by decide +kernel
theorem dX10_cutKey_42 : decode cX10_cutKey 42 = .ok (.iconst 1, 1) := by decide +kernel
theorem dX10_cutKey_43 : decode cX10_cutKey 43 = .ok (.iadd, 1) := by decide +kernel
theorem dX10_cutKey_44 : decode cX10_cutKey 44 = .ok (.putfield 23, 3) := by decide +kernel
theorem dX10_cutKey_47 : decode cX10_cutKey 47 = .ok (.iload_n 1, 1) := by decide +kernel
theorem dX10_cutKey_48 : decode cX10_cutKey 48 = .ok (.ifCond .ge 6, 3) := by decide +kernel
theorem dX10_cutKey_51 : decode cX10_cutKey 51 = .ok (.bipush (-15), 2) := by decide +kernel
theorem dX10_cutKey_53 : decode cX10_cutKey 53 = .ok (.ireturn, 1) := by decide +kernel
theorem dX10_cutKey_54 : decode cX10_cutKey 54 = .ok (.aload_n 0, 1) := by decide +kernel
theorem dX10_cutKey_55 : decode cX10_cutKey 55 = .ok (.invokevirtual 81, 3) := by decide +kernel
theorem dX10_cutKey_58 : decode cX10_cutKey 58 = .ok (.aload_n 0, 1) := by decide +kernel
theorem dX10_cutKey_59 : decode cX10_cutKey 59 = .ok (.getfield 10, 3) := by decide +kernel
theorem dX10_cutKey_62 : decode cX10_cutKey 62 = .ok (.dup, 1) := by decide +kernel
theorem dX10_cutKey_63 : decode cX10_cutKey 63 = .ok (.getfield 178, 3) := by decide +kernel
theorem dX10_cutKey_66 : decode cX10_cutKey 66 = .ok (.iconst 1, 1) := by decide +kernel
theorem dX10_cutKey_67 : decode cX10_cutKey 67 = .ok (.isub, 1) := by decide +kernel
theorem dX10_cutKey_68 : decode cX10_cutKey 68 = .ok (.putfield 178, 3) := by decide +kernel
theorem dX10_cutKey_71 : decode cX10_cutKey 71 = .ok (.aload_n 0, 1) := by decide +kernel
theorem dX10_cutKey_72 : decode cX10_cutKey 72 = .ok (.getfield 10, 3) := by decide +kernel
theorem dX10_cutKey_75 : decode cX10_cutKey 75 = .ok (.getfield 191, 3) := by decide +kernel
theorem dX10_cutKey_78 : decode cX10_cutKey 78 = .ok (.iload_n 1, 1) := by decide +kernel
theorem dX10_cutKey_79 : decode cX10_cutKey 79 = .ok (.lload_n 2, 1) := by decide +kernel
theorem dX10_cutKey_80 : decode cX10_cutKey 80 = .ok (.invokevirtual 195, 3) := by decide +kernel
theorem dX10_cutKey_83 : decode cX10_cutKey 83 = .ok (.ireturn, 1) := by decide +kernel
theorem dX10_turned_0 : decode cX10_turned 0 = .ok (.aload_n 0, 1) := by decide +kernel
theorem dX10_turned_1 : decode cX10_turned 1 = .ok (.aload_n 0, 1) := by decide +kernel
theorem dX10_turned_2 : decode cX10_turned 2 = .ok (.iload_n 1, 1) := by decide +kernel
theorem dX10_turned_3 : decode cX10_turned 3 = .ok (.iload_n 2, 1) := by decide +kernel
theorem dX10_turned_4 : decode cX10_turned 4 = .ok (.invokevirtual 199, 3) := by decide +kernel
theorem dX10_turned_7 : decode cX10_turned 7 = .ok (.invokevirtual 68, 3) := by decide +kernel
theorem dX10_turned_10 : decode cX10_turned 10 = .ok (.ireturn, 1) := by decide +kernel
theorem dX10_cutTurned_0 : decode cX10_cutTurned 0 = .ok (.aload_n 0, 1) := by decide +kernel
theorem dX10_cutTurned_1 : decode cX10_cutTurned 1 = .ok (.getfield 10, 3) := by decide +kernel
theorem dX10_cutTurned_4 : decode cX10_cutTurned 4 = .ok (.getfield 191, 3) := by decide +kernel
theorem dX10_cutTurned_7 : decode cX10_cutTurned 7 = .ok (.iload_n 1, 1) := by decide +kernel
theorem dX10_cutTurned_8 : decode cX10_cutTurned 8 = .ok (.invokevirtual 202, 3) := by decide +kernel
theorem dX10_cutTurned_11 : decode cX10_cutTurned 11 = .ok (.ifCond .eq 9, 3) := by decide +kernel
theorem dX10_cutTurned_14 : decode cX10_cutTurned 14 = .ok (.iload_n 2, 1) := by decide +kernel
theorem dX10_cutTurned_15 : decode cX10_cutTurned 15 = .ok (.bipush 18, 2) := by decide +kernel
theorem dX10_cutTurned_17 : decode cX10_cutTurned 17 = .ok (.if_icmp .le 6, 3) := by decide +kernel
theorem dX10_cutTurned_20 : decode cX10_cutTurned 20 = .ok (.bipush (-2), 2) := by decide +kernel
theorem dX10_cutTurned_22 : decode cX10_cutTurned 22 = .ok (.ireturn, 1) := by decide +kernel
theorem dX10_cutTurned_23 : decode cX10_cutTurned 23 = .ok (.aload_n 0, 1) := by decide +kernel
theorem dX10_cutTurned_24 : decode cX10_cutTurned 24 = .ok (.invokevirtual 187, 3) := by decide +kernel
theorem dX10_cutTurned_27 : decode cX10_cutTurned 27 = .ok (.istore_n 3, 1) := by decide +kernel
theorem dX10_cutTurned_28 : decode cX10_cutTurned 28 = .ok (.iload_n 3, 1) := by decide +kernel
theorem dX10_cutTurned_29 : decode cX10_cutTurned 29 = .ok (.ifCond .eq 5, 3) := by decide +kernel
theorem dX10_cutTurned_32 : decode cX10_cutTurned 32 = .ok (.iload_n 3, 1) := by decide +kernel
theorem dX10_cutTurned_33 : decode cX10_cutTurned 33 = .ok (.ireturn, 1) := by decide +kernel
theorem dX10_cutTurned_34 : decode cX10_cutTurned 34 = .ok (.aload_n 0, 1) := by decide +kernel
theorem dX10_cutTurned_35 : decode cX10_cutTurned 35 = .ok (.dup, 1) := by decide +kernel
theorem dX10_cutTurned_36 : decode cX10_cutTurned 36 = .ok (.getfield 23, 3) := by decide +kernel
theorem dX10_cutTurned_39 : decode cX10_cutTurned 39 = .ok (.iconst 1, 1) := by decide +kernel
theorem dX10_cutTurned_40 : decode cX10_cutTurned 40 = .ok (.iadd, 1) := by decide +kernel
theorem dX10_cutTurned_41 : decode cX10_cutTurned 41 = .ok (.putfield 23, 3) := by decide +kernel
theorem dX10_cutTurned_44 : decode cX10_cutTurned 44 = .ok (.iload_n 2, 1) := by decide +kernel
theorem dX10_cutTurned_45 : decode cX10_cutTurned 45 = .ok (.ifCond .ge 6, 3) := by decide +kernel
theorem dX10_cutTurned_48 : decode cX10_cutTurned 48 = .ok (.bipush (-15), 2) := by decide +kernel
theorem dX10_cutTurned_50 : decode cX10_cutTurned 50 = .ok (.ireturn, 1) := by decide +kernel
theorem dX10_cutTurned_51 : decode cX10_cutTurned 51 = .ok (.iload_n 2, 1) := by decide +kernel
theorem dX10_cutTurned_52 : decode cX10_cutTurned 52 = .ok (.aload_n 0, 1) := by decide +kernel
theorem dX10_cutTurned_53 : decode cX10_cutTurned 53 = .ok (.getfield 10, 3) := by decide +kernel
theorem dX10_cutTurned_56 : decode cX10_cutTurned 56 = .ok (.getfield 191, 3) := by decide +kernel
theorem dX10_cutTurned_59 : decode cX10_cutTurned 59 = .ok (.getfield 203, 3) := by decide +kernel
theorem dX10_cutTurned_62 : decode cX10_cutTurned 62 = .ok (.iload_n 1, 1) := by decide +kernel
theorem dX10_cutTurned_63 : decode cX10_cutTurned 63 = .ok (.iaload, 1) := by decide +kernel
theorem dX10_cutTurned_64 : decode cX10_cutTurned 64 = .ok (.if_icmp .le 6, 3) := by decide +kernel
theorem dX10_cutTurned_67 : decode cX10_cutTurned 67 = .ok (.bipush (-12), 2) := by decide +kernel
end
section
theorem dX10_cutTurned_69 : decode cX10_cutTurned 69 = .ok (.ireturn, 1) := by decide +kernel
theorem dX10_cutTurned_70 : decode cX10_cutTurned 70 = .ok (.aload_n 0, 1) := by decide +kernel
theorem dX10_cutTurned_71 : decode cX10_cutTurned 71 = .ok (.invokevirtual 81, 3) := by decide +kernel
theorem dX10_cutTurned_74 : decode cX10_cutTurned 74 = .ok (.aload_n 0, 1) := by decide +kernel
theorem dX10_cutTurned_75 : decode cX10_cutTurned 75 = .ok (.getfield 10, 3) := by decide +kernel
theorem dX10_cutTurned_78 : decode cX10_cutTurned 78 = .ok (.dup, 1) := by decide +kernel
theorem dX10_cutTurned_79 : decode cX10_cutTurned 79 = .ok (.getfield 178, 3) := by decide +kernel
theorem dX10_cutTurned_82 : decode cX10_cutTurned 82 = .ok (.iconst 1, 1) := by decide +kernel
theorem dX10_cutTurned_83 : decode cX10_cutTurned 83 = .ok (.isub, 1) := by decide +kernel
theorem dX10_cutTurned_84 : decode cX10_cutTurned 84 = .ok (.putfield 178, 3) := by decide +kernel
theorem dX10_cutTurned_87 : decode cX10_cutTurned 87 = .ok (.aload_n 0, 1) := by decide +kernel
theorem dX10_cutTurned_88 : decode cX10_cutTurned 88 = .ok (.getfield 10, 3) := by decide +kernel
theorem dX10_cutTurned_91 : decode cX10_cutTurned 91 = .ok (.getfield 191, 3) := by decide +kernel
theorem dX10_cutTurned_94 : decode cX10_cutTurned 94 = .ok (.iload_n 1, 1) := by decide +kernel
theorem dX10_cutTurned_95 : decode cX10_cutTurned 95 = .ok (.iload_n 2, 1) := by decide +kernel
theorem dX10_cutTurned_96 : decode cX10_cutTurned 96 = .ok (.invokevirtual 206, 3) := by decide +kernel
theorem dX10_cutTurned_99 : decode cX10_cutTurned 99 = .ok (.ireturn, 1) := by decide +kernel
theorem dX10_cuttingRefusal_0 : decode cX10_cuttingRefusal 0 = .ok (.aload_n 0, 1) := by decide +kernel
theorem dX10_cuttingRefusal_1 : decode cX10_cuttingRefusal 1 = .ok (.getfield 10, 3) := by decide +kernel
theorem dX10_cuttingRefusal_4 : decode cX10_cuttingRefusal 4 = .ok (.getfield 191, 3) := by decide +kernel
theorem dX10_cuttingRefusal_7 : decode cX10_cuttingRefusal 7 = .ok (.getfield 209, 3) := by decide +kernel
theorem dX10_cuttingRefusal_10 : decode cX10_cuttingRefusal 10 = .ok (.bipush 100, 2) := by decide +kernel
theorem dX10_cuttingRefusal_12 : decode cX10_cuttingRefusal 12 = .ok (.if_icmp .lt 6, 3) := by decide +kernel
theorem dX10_cuttingRefusal_15 : decode cX10_cuttingRefusal 15 = .ok (.bipush (-4), 2) := by decide +kernel
theorem dX10_cuttingRefusal_17 : decode cX10_cuttingRefusal 17 = .ok (.ireturn, 1) := by decide +kernel
theorem dX10_cuttingRefusal_18 : decode cX10_cuttingRefusal 18 = .ok (.aload_n 0, 1) := by decide +kernel
theorem dX10_cuttingRefusal_19 : decode cX10_cuttingRefusal 19 = .ok (.getfield 10, 3) := by decide +kernel
theorem dX10_cuttingRefusal_22 : decode cX10_cuttingRefusal 22 = .ok (.getfield 178, 3) := by decide +kernel
theorem dX10_cuttingRefusal_25 : decode cX10_cuttingRefusal 25 = .ok (.ifCond .ne 8, 3) := by decide +kernel
theorem dX10_cuttingRefusal_28 : decode cX10_cuttingRefusal 28 = .ok (.bipush (-3), 2) := by decide +kernel
theorem dX10_cuttingRefusal_30 : decode cX10_cuttingRefusal 30 = .ok (.goto 4, 3) := by decide +kernel
theorem dX10_cuttingRefusal_33 : decode cX10_cuttingRefusal 33 = .ok (.iconst 0, 1) := by decide +kernel
theorem dX10_cuttingRefusal_34 : decode cX10_cuttingRefusal 34 = .ok (.ireturn, 1) := by decide +kernel
theorem dX10_cut_0 : decode cX10_cut 0 = .ok (.aload_n 0, 1) := by decide +kernel
theorem dX10_cut_1 : decode cX10_cut 1 = .ok (.getfield 10, 3) := by decide +kernel
theorem dX10_cut_4 : decode cX10_cut 4 = .ok (.getfield 191, 3) := by decide +kernel
theorem dX10_cut_7 : decode cX10_cut 7 = .ok (.iload_n 1, 1) := by decide +kernel
theorem dX10_cut_8 : decode cX10_cut 8 = .ok (.invokevirtual 202, 3) := by decide +kernel
theorem dX10_cut_11 : decode cX10_cut 11 = .ok (.ifCond .ne 6, 3) := by decide +kernel
theorem dX10_cut_14 : decode cX10_cut 14 = .ok (.bipush (-2), 2) := by decide +kernel
theorem dX10_cut_16 : decode cX10_cut 16 = .ok (.ireturn, 1) := by decide +kernel
theorem dX10_cut_17 : decode cX10_cut 17 = .ok (.aload_n 0, 1) := by decide +kernel
theorem dX10_cut_18 : decode cX10_cut 18 = .ok (.aload_n 0, 1) := by decide +kernel
theorem dX10_cut_19 : decode cX10_cut 19 = .ok (.getfield 10, 3) := by decide +kernel
theorem dX10_cut_22 : decode cX10_cut 22 = .ok (.getfield 191, 3) := by decide +kernel
theorem dX10_cut_25 : decode cX10_cut 25 = .ok (.iload_n 1, 1) := by decide +kernel
theorem dX10_cut_26 : decode cX10_cut 26 = .ok (.iload_n 2, 1) := by decide +kernel
theorem dX10_cut_27 : decode cX10_cut 27 = .ok (.invokevirtual 210, 3) := by decide +kernel
theorem dX10_cut_30 : decode cX10_cut 30 = .ok (.ifCond .eq 18, 3) := by decide +kernel
theorem dX10_cut_33 : decode cX10_cut 33 = .ok (.aload_n 0, 1) := by decide +kernel
theorem dX10_cut_34 : decode cX10_cut 34 = .ok (.getfield 10, 3) := by decide +kernel
theorem dX10_cut_37 : decode cX10_cut 37 = .ok (.getfield 191, 3) := by decide +kernel
theorem dX10_cut_40 : decode cX10_cut 40 = .ok (.iload_n 1, 1) := by decide +kernel
theorem dX10_cut_41 : decode cX10_cut 41 = .ok (.iload_n 2, 1) := by decide +kernel
theorem dX10_cut_42 : decode cX10_cut 42 = .ok (.invokevirtual 214, 3) := by decide +kernel
theorem dX10_cut_45 : decode cX10_cut 45 = .ok (.goto 5, 3) := by decide +kernel
theorem dX10_cut_48 : decode cX10_cut 48 = .ok (.bipush (-12), 2) := by decide +kernel
theorem dX10_cut_50 : decode cX10_cut 50 = .ok (.invokevirtual 68, 3) := by decide +kernel
theorem dX10_cut_53 : decode cX10_cut 53 = .ok (.ireturn, 1) := by decide +kernel
theorem dX10_length_0 : decode cX10_length 0 = .ok (.aload_n 0, 1) := by decide +kernel
theorem dX10_length_1 : decode cX10_length 1 = .ok (.getfield 10, 3) := by decide +kernel
theorem dX10_length_4 : decode cX10_length 4 = .ok (.getfield 191, 3) := by decide +kernel
theorem dX10_length_7 : decode cX10_length 7 = .ok (.iload_n 1, 1) := by decide +kernel
theorem dX10_length_8 : decode cX10_length 8 = .ok (.invokevirtual 202, 3) := by decide +kernel
theorem dX10_length_11 : decode cX10_length 11 = .ok (.ifCond .eq 18, 3) := by decide +kernel
theorem dX10_length_14 : decode cX10_length 14 = .ok (.aload_n 0, 1) := by decide +kernel
theorem dX10_length_15 : decode cX10_length 15 = .ok (.getfield 10, 3) := by decide +kernel
theorem dX10_length_18 : decode cX10_length 18 = .ok (.getfield 191, 3) := by decide +kernel
theorem dX10_length_21 : decode cX10_length 21 = .ok (.getfield 203, 3) := by decide +kernel
theorem dX10_length_24 : decode cX10_length 24 = .ok (.iload_n 1, 1) := by decide +kernel
theorem dX10_length_25 : decode cX10_length 25 = .ok (.iaload, 1) := by decide +kernel
theorem dX10_length_26 : decode cX10_length 26 = .ok (.goto 5, 3) := by decide +kernel
theorem dX10_length_29 : decode cX10_length 29 = .ok (.bipush (-2), 2) := by decide +kernel
theorem dX10_length_31 : decode cX10_length 31 = .ok (.ireturn, 1) := by decide +kernel
theorem dX10_turn_0 : decode cX10_turn 0 = .ok (.aload_n 0, 1) := by decide +kernel
theorem dX10_turn_1 : decode cX10_turn 1 = .ok (.getfield 10, 3) := by decide +kernel
theorem dX10_turn_4 : decode cX10_turn 4 = .ok (.getfield 191, 3) := by decide +kernel
theorem dX10_turn_7 : decode cX10_turn 7 = .ok (.iload_n 1, 1) := by decide +kernel
theorem dX10_turn_8 : decode cX10_turn 8 = .ok (.invokevirtual 202, 3) := by decide +kernel
theorem dX10_turn_11 : decode cX10_turn 11 = .ok (.ifCond .eq 17, 3) := by decide +kernel
theorem dX10_turn_14 : decode cX10_turn 14 = .ok (.aload_n 0, 1) := by decide +kernel
theorem dX10_turn_15 : decode cX10_turn 15 = .ok (.getfield 10, 3) := by decide +kernel
theorem dX10_turn_18 : decode cX10_turn 18 = .ok (.getfield 72, 3) := by decide +kernel
theorem dX10_turn_21 : decode cX10_turn 21 = .ok (.iload_n 2, 1) := by decide +kernel
theorem dX10_turn_22 : decode cX10_turn 22 = .ok (.invokevirtual 104, 3) := by decide +kernel
theorem dX10_turn_25 : decode cX10_turn 25 = .ok (.ifCond .ne 6, 3) := by decide +kernel
theorem dX10_turn_28 : decode cX10_turn 28 = .ok (.bipush (-2), 2) := by decide +kernel
theorem dX10_turn_30 : decode cX10_turn 30 = .ok (.ireturn, 1) := by decide +kernel
theorem dX10_turn_31 : decode cX10_turn 31 = .ok (.aload_n 0, 1) := by decide +kernel
theorem dX10_turn_32 : decode cX10_turn 32 = .ok (.getfield 36, 3) := by decide +kernel
theorem dX10_turn_35 : decode cX10_turn 35 = .ok (.invokevirtual 217, 3) := by decide +kernel
theorem dX10_turn_38 : decode cX10_turn 38 = .ok (.aload_n 0, 1) := by decide +kernel
theorem dX10_turn_39 : decode cX10_turn 39 = .ok (.aload_n 0, 1) := by decide +kernel
theorem dX10_turn_40 : decode cX10_turn 40 = .ok (.getfield 36, 3) := by decide +kernel
theorem dX10_turn_43 : decode cX10_turn 43 = .ok (.aload_n 0, 1) := by decide +kernel
theorem dX10_turn_44 : decode cX10_turn 44 = .ok (.getfield 10, 3) := by decide +kernel
theorem dX10_turn_47 : decode cX10_turn 47 = .ok (.iload_n 1, 1) := by decide +kernel
theorem dX10_turn_48 : decode cX10_turn 48 = .ok (.iload_n 2, 1) := by decide +kernel
theorem dX10_turn_49 : decode cX10_turn 49 = .ok (.invokevirtual 218, 3) := by decide +kernel
theorem dX10_turn_52 : decode cX10_turn 52 = .ok (.invokevirtual 68, 3) := by decide +kernel
theorem dX10_turn_55 : decode cX10_turn 55 = .ok (.ireturn, 1) := by decide +kernel
theorem dX10_opens_0 : decode cX10_opens 0 = .ok (.aload_n 0, 1) := by decide +kernel
theorem dX10_opens_1 : decode cX10_opens 1 = .ok (.getfield 10, 3) := by decide +kernel
theorem dX10_opens_4 : decode cX10_opens 4 = .ok (.getfield 191, 3) := by decide +kernel
theorem dX10_opens_7 : decode cX10_opens 7 = .ok (.iload_n 1, 1) := by decide +kernel
theorem dX10_opens_8 : decode cX10_opens 8 = .ok (.invokevirtual 202, 3) := by decide +kernel
theorem dX10_opens_11 : decode cX10_opens 11 = .ok (.ifCond .eq 14, 3) := by decide +kernel
theorem dX10_opens_14 : decode cX10_opens 14 = .ok (.aload_n 0, 1) := by decide +kernel
theorem dX10_opens_15 : decode cX10_opens 15 = .ok (.getfield 10, 3) := by decide +kernel
theorem dX10_opens_18 : decode cX10_opens 18 = .ok (.iload_n 2, 1) := by decide +kernel
theorem dX10_opens_19 : decode cX10_opens 19 = .ok (.invokevirtual 222, 3) := by decide +kernel
theorem dX10_opens_22 : decode cX10_opens 22 = .ok (.ifCond .ne 6, 3) := by decide +kernel
theorem dX10_opens_25 : decode cX10_opens 25 = .ok (.bipush (-2), 2) := by decide +kernel
theorem dX10_opens_27 : decode cX10_opens 27 = .ok (.ireturn, 1) := by decide +kernel
theorem dX10_opens_28 : decode cX10_opens 28 = .ok (.aload_n 0, 1) := by decide +kernel
theorem dX10_opens_29 : decode cX10_opens 29 = .ok (.getfield 36, 3) := by decide +kernel
theorem dX10_opens_32 : decode cX10_opens 32 = .ok (.invokevirtual 217, 3) := by decide +kernel
theorem dX10_opens_35 : decode cX10_opens 35 = .ok (.aload_n 0, 1) := by decide +kernel
theorem dX10_opens_36 : decode cX10_opens 36 = .ok (.aload_n 0, 1) := by decide +kernel
theorem dX10_opens_37 : decode cX10_opens 37 = .ok (.getfield 36, 3) := by decide +kernel
theorem dX10_opens_40 : decode cX10_opens 40 = .ok (.aload_n 0, 1) := by decide +kernel
theorem dX10_opens_41 : decode cX10_opens 41 = .ok (.getfield 10, 3) := by decide +kernel
theorem dX10_opens_44 : decode cX10_opens 44 = .ok (.iload_n 1, 1) := by decide +kernel
theorem dX10_opens_45 : decode cX10_opens 45 = .ok (.aload_n 0, 1) := by decide +kernel
theorem dX10_opens_46 : decode cX10_opens 46 = .ok (.getfield 10, 3) := by decide +kernel
theorem dX10_opens_49 : decode cX10_opens 49 = .ok (.getfield 225, 3) := by decide +kernel
theorem dX10_opens_52 : decode cX10_opens 52 = .ok (.iload_n 2, 1) := by decide +kernel
theorem dX10_opens_53 : decode cX10_opens 53 = .ok (.iaload, 1) := by decide +kernel
theorem dX10_opens_54 : decode cX10_opens 54 = .ok (.invokevirtual 218, 3) := by decide +kernel
theorem dX10_opens_57 : decode cX10_opens 57 = .ok (.invokevirtual 68, 3) := by decide +kernel
theorem dX10_opens_60 : decode cX10_opens 60 = .ok (.ireturn, 1) := by decide +kernel
theorem dX10_turnAll_0 : decode cX10_turnAll 0 = .ok (.aload_n 0, 1) := by decide +kernel
theorem dX10_turnAll_1 : decode cX10_turnAll 1 = .ok (.getfield 10, 3) := by decide +kernel
theorem dX10_turnAll_4 : decode cX10_turnAll 4 = .ok (.getfield 228, 3) := by decide +kernel
theorem dX10_turnAll_7 : decode cX10_turnAll 7 = .ok (.iload_n 1, 1) := by decide +kernel
theorem dX10_turnAll_8 : decode cX10_turnAll 8 = .ok (.invokevirtual 232, 3) := by decide +kernel
theorem dX10_turnAll_11 : decode cX10_turnAll 11 = .ok (.ifCond .eq 17, 3) := by decide +kernel
theorem dX10_turnAll_14 : decode cX10_turnAll 14 = .ok (.aload_n 0, 1) := by decide +kernel
theorem dX10_turnAll_15 : decode cX10_turnAll 15 = .ok (.getfield 10, 3) := by decide +kernel
theorem dX10_turnAll_18 : decode cX10_turnAll 18 = .ok (.getfield 191, 3) := by decide +kernel
theorem dX10_turnAll_21 : decode cX10_turnAll 21 = .ok (.iload_n 2, 1) := by decide +kernel
theorem dX10_turnAll_22 : decode cX10_turnAll 22 = .ok (.invokevirtual 202, 3) := by decide +kernel
theorem dX10_turnAll_25 : decode cX10_turnAll 25 = .ok (.ifCond .ne 6, 3) := by decide +kernel
theorem dX10_turnAll_28 : decode cX10_turnAll 28 = .ok (.bipush (-2), 2) := by decide +kernel
theorem dX10_turnAll_30 : decode cX10_turnAll 30 = .ok (.ireturn, 1) := by decide +kernel
theorem dX10_turnAll_31 : decode cX10_turnAll 31 = .ok (.aload_n 0, 1) := by decide +kernel
theorem dX10_turnAll_32 : decode cX10_turnAll 32 = .ok (.getfield 36, 3) := by decide +kernel
theorem dX10_turnAll_35 : decode cX10_turnAll 35 = .ok (.invokevirtual 217, 3) := by decide +kernel
theorem dX10_turnAll_38 : decode cX10_turnAll 38 = .ok (.aload_n 0, 1) := by decide +kernel
theorem dX10_turnAll_39 : decode cX10_turnAll 39 = .ok (.aload_n 0, 1) := by decide +kernel
theorem dX10_turnAll_40 : decode cX10_turnAll 40 = .ok (.iload_n 1, 1) := by decide +kernel
theorem dX10_turnAll_41 : decode cX10_turnAll 41 = .ok (.iload_n 2, 1) := by decide +kernel
theorem dX10_turnAll_42 : decode cX10_turnAll 42 = .ok (.invokevirtual 235, 3) := by decide +kernel
theorem dX10_turnAll_45 : decode cX10_turnAll 45 = .ok (.invokevirtual 68, 3) := by decide +kernel
theorem dX10_turnAll_48 : decode cX10_turnAll 48 = .ok (.ireturn, 1) := by decide +kernel
theorem dX10_turnPlaceByPlace_0 : decode cX10_turnPlaceByPlace 0 = .ok (.iconst 0, 1) := by decide +kernel
theorem dX10_turnPlaceByPlace_1 : decode cX10_turnPlaceByPlace 1 = .ok (.istore_n 3, 1) := by decide +kernel
theorem dX10_turnPlaceByPlace_2 : decode cX10_turnPlaceByPlace 2 = .ok (.iconst 0, 1) := by decide +kernel
theorem dX10_turnPlaceByPlace_3 : decode cX10_turnPlaceByPlace 3 = .ok (.istore 4, 2) := by decide +kernel
theorem dX10_turnPlaceByPlace_5 : decode cX10_turnPlaceByPlace 5 = .ok (.iload 4, 2) := by decide +kernel
theorem dX10_turnPlaceByPlace_7 : decode cX10_turnPlaceByPlace 7 = .ok (.aload_n 0, 1) := by decide +kernel
theorem dX10_turnPlaceByPlace_8 : decode cX10_turnPlaceByPlace 8 = .ok (.getfield 10, 3) := by decide +kernel
theorem dX10_turnPlaceByPlace_11 : decode cX10_turnPlaceByPlace 11 = .ok (.getfield 228, 3) := by decide +kernel
theorem dX10_turnPlaceByPlace_14 : decode cX10_turnPlaceByPlace 14 = .ok (.getfield 238, 3) := by decide +kernel
theorem dX10_turnPlaceByPlace_17 : decode cX10_turnPlaceByPlace 17 = .ok (.iload_n 1, 1) := by decide +kernel
theorem dX10_turnPlaceByPlace_18 : decode cX10_turnPlaceByPlace 18 = .ok (.iaload, 1) := by decide +kernel
theorem dX10_turnPlaceByPlace_19 : decode cX10_turnPlaceByPlace 19 = .ok (.if_icmp .ge 57, 3) := by decide +kernel
theorem dX10_turnPlaceByPlace_22 : decode cX10_turnPlaceByPlace 22 = .ok (.aload_n 0, 1) := by decide +kernel
theorem dX10_turnPlaceByPlace_23 : decode cX10_turnPlaceByPlace 23 = .ok (.getfield 36, 3) := by decide +kernel
theorem dX10_turnPlaceByPlace_26 : decode cX10_turnPlaceByPlace 26 = .ok (.aload_n 0, 1) := by decide +kernel
theorem dX10_turnPlaceByPlace_27 : decode cX10_turnPlaceByPlace 27 = .ok (.getfield 10, 3) := by decide +kernel
theorem dX10_turnPlaceByPlace_30 : decode cX10_turnPlaceByPlace 30 = .ok (.iload_n 2, 1) := by decide +kernel
theorem dX10_turnPlaceByPlace_31 : decode cX10_turnPlaceByPlace 31 = .ok (.aload_n 0, 1) := by decide +kernel
theorem dX10_turnPlaceByPlace_32 : decode cX10_turnPlaceByPlace 32 = .ok (.getfield 10, 3) := by decide +kernel
theorem dX10_turnPlaceByPlace_35 : decode cX10_turnPlaceByPlace 35 = .ok (.getfield 228, 3) := by decide +kernel
theorem dX10_turnPlaceByPlace_38 : decode cX10_turnPlaceByPlace 38 = .ok (.iload_n 1, 1) := by decide +kernel
theorem dX10_turnPlaceByPlace_39 : decode cX10_turnPlaceByPlace 39 = .ok (.iload 4, 2) := by decide +kernel
theorem dX10_turnPlaceByPlace_41 : decode cX10_turnPlaceByPlace 41 = .ok (.invokevirtual 241, 3) := by decide +kernel
theorem dX10_turnPlaceByPlace_44 : decode cX10_turnPlaceByPlace 44 = .ok (.invokevirtual 218, 3) := by decide +kernel
theorem dX10_turnPlaceByPlace_47 : decode cX10_turnPlaceByPlace 47 = .ok (.istore 5, 2) := by decide +kernel
theorem dX10_turnPlaceByPlace_49 : decode cX10_turnPlaceByPlace 49 = .ok (.iload 5, 2) := by decide +kernel
theorem dX10_turnPlaceByPlace_51 : decode cX10_turnPlaceByPlace 51 = .ok (.iconst 1, 1) := by decide +kernel
theorem dX10_turnPlaceByPlace_52 : decode cX10_turnPlaceByPlace 52 = .ok (.if_icmp .eq 15, 3) := by decide +kernel
theorem dX10_turnPlaceByPlace_55 : decode cX10_turnPlaceByPlace 55 = .ok (.iload 5, 2) := by decide +kernel
theorem dX10_turnPlaceByPlace_57 : decode cX10_turnPlaceByPlace 57 = .ok (.ifCond .ne 7, 3) := by decide +kernel
theorem dX10_turnPlaceByPlace_60 : decode cX10_turnPlaceByPlace 60 = .ok (.iload_n 3, 1) := by decide +kernel
theorem dX10_turnPlaceByPlace_61 : decode cX10_turnPlaceByPlace 61 = .ok (.goto 5, 3) := by decide +kernel
theorem dX10_turnPlaceByPlace_64 : decode cX10_turnPlaceByPlace 64 = .ok (.iload 5, 2) := by decide +kernel
theorem dX10_turnPlaceByPlace_66 : decode cX10_turnPlaceByPlace 66 = .ok (.ireturn, 1) := by decide +kernel
theorem dX10_turnPlaceByPlace_67 : decode cX10_turnPlaceByPlace 67 = .ok (.iinc 3 1, 3) := by decide +kernel
theorem dX10_turnPlaceByPlace_70 : decode cX10_turnPlaceByPlace 70 = .ok (.iinc 4 1, 3) := by decide +kernel
theorem dX10_turnPlaceByPlace_73 : decode cX10_turnPlaceByPlace 73 = .ok (.goto (-68), 3) := by decide +kernel
theorem dX10_turnPlaceByPlace_76 : decode cX10_turnPlaceByPlace 76 = .ok (.iload_n 3, 1) := by decide +kernel
theorem dX10_turnPlaceByPlace_77 : decode cX10_turnPlaceByPlace 77 = .ok (.ireturn, 1) := by decide +kernel
theorem dX10_at_0 : decode cX10_at 0 = .ok (.aload_n 0, 1) := by decide +kernel
theorem dX10_at_1 : decode cX10_at 1 = .ok (.getfield 36, 3) := by decide +kernel
theorem dX10_at_4 : decode cX10_at 4 = .ok (.getfield 244, 3) := by decide +kernel
theorem dX10_at_7 : decode cX10_at 7 = .ok (.ireturn, 1) := by decide +kernel
theorem dX10_cabinet_0 : decode cX10_cabinet 0 = .ok (.aload_n 0, 1) := by decide +kernel
theorem dX10_cabinet_1 : decode cX10_cabinet 1 = .ok (.aload_n 0, 1) := by decide +kernel
theorem dX10_cabinet_2 : decode cX10_cabinet 2 = .ok (.iload_n 1, 1) := by decide +kernel
theorem dX10_cabinet_3 : decode cX10_cabinet 3 = .ok (.iload_n 2, 1) := by decide +kernel
theorem dX10_cabinet_4 : decode cX10_cabinet 4 = .ok (.invokevirtual 247, 3) := by decide +kernel
theorem dX10_cabinet_7 : decode cX10_cabinet 7 = .ok (.invokevirtual 68, 3) := by decide +kernel
theorem dX10_cabinet_10 : decode cX10_cabinet 10 = .ok (.ireturn, 1) := by decide +kernel
theorem dX10_makeCabinet_0 : decode cX10_makeCabinet 0 = .ok (.iload_n 1, 1) := by decide +kernel
theorem dX10_makeCabinet_1 : decode cX10_makeCabinet 1 = .ok (.ifCond .lt 14, 3) := by decide +kernel
theorem dX10_makeCabinet_4 : decode cX10_makeCabinet 4 = .ok (.iload_n 1, 1) := by decide +kernel
theorem dX10_makeCabinet_5 : decode cX10_makeCabinet 5 = .ok (.iconst 4, 1) := by decide +kernel
theorem dX10_makeCabinet_6 : decode cX10_makeCabinet 6 = .ok (.if_icmp .gt 9, 3) := by decide +kernel
theorem dX10_makeCabinet_9 : decode cX10_makeCabinet 9 = .ok (.iload_n 2, 1) := by decide +kernel
theorem dX10_makeCabinet_10 : decode cX10_makeCabinet 10 = .ok (.bipush 20, 2) := by decide +kernel
theorem dX10_makeCabinet_12 : decode cX10_makeCabinet 12 = .ok (.if_icmp .le 6, 3) := by decide +kernel
theorem dX10_makeCabinet_15 : decode cX10_makeCabinet 15 = .ok (.bipush (-2), 2) := by decide +kernel
theorem dX10_makeCabinet_17 : decode cX10_makeCabinet 17 = .ok (.ireturn, 1) := by decide +kernel
theorem dX10_makeCabinet_18 : decode cX10_makeCabinet 18 = .ok (.aload_n 0, 1) := by decide +kernel
theorem dX10_makeCabinet_19 : decode cX10_makeCabinet 19 = .ok (.getfield 10, 3) := by decide +kernel
theorem dX10_makeCabinet_22 : decode cX10_makeCabinet 22 = .ok (.getfield 228, 3) := by decide +kernel
theorem dX10_makeCabinet_25 : decode cX10_makeCabinet 25 = .ok (.getfield 250, 3) := by decide +kernel
theorem dX10_makeCabinet_28 : decode cX10_makeCabinet 28 = .ok (.bipush 12, 2) := by decide +kernel
theorem dX10_makeCabinet_30 : decode cX10_makeCabinet 30 = .ok (.if_icmp .lt 6, 3) := by decide +kernel
theorem dX10_makeCabinet_33 : decode cX10_makeCabinet 33 = .ok (.bipush (-4), 2) := by decide +kernel
theorem dX10_makeCabinet_35 : decode cX10_makeCabinet 35 = .ok (.ireturn, 1) := by decide +kernel
theorem dX10_makeCabinet_36 : decode cX10_makeCabinet 36 = .ok (.iload_n 2, 1) := by decide +kernel
theorem dX10_makeCabinet_37 : decode cX10_makeCabinet 37 = .ok (.ifCond .ge 6, 3) := by decide +kernel
theorem dX10_makeCabinet_40 : decode cX10_makeCabinet 40 = .ok (.bipush (-15), 2) := by decide +kernel
theorem dX10_makeCabinet_42 : decode cX10_makeCabinet 42 = .ok (.ireturn, 1) := by decide +kernel
theorem dX10_makeCabinet_43 : decode cX10_makeCabinet 43 = .ok (.aload_n 0, 1) := by decide +kernel
theorem dX10_makeCabinet_44 : decode cX10_makeCabinet 44 = .ok (.invokevirtual 81, 3) := by decide +kernel
theorem dX10_makeCabinet_47 : decode cX10_makeCabinet 47 = .ok (.aload_n 0, 1) := by decide +kernel
theorem dX10_makeCabinet_48 : decode cX10_makeCabinet 48 = .ok (.getfield 10, 3) := by decide +kernel
theorem dX10_makeCabinet_51 : decode cX10_makeCabinet 51 = .ok (.getfield 228, 3) := by decide +kernel
theorem dX10_makeCabinet_54 : decode cX10_makeCabinet 54 = .ok (.iload_n 1, 1) := by decide +kernel
theorem dX10_makeCabinet_55 : decode cX10_makeCabinet 55 = .ok (.iload_n 2, 1) := by decide +kernel
theorem dX10_makeCabinet_56 : decode cX10_makeCabinet 56 = .ok (.invokevirtual 251, 3) := by decide +kernel
theorem dX10_makeCabinet_59 : decode cX10_makeCabinet 59 = .ok (.ireturn, 1) := by decide +kernel
theorem dX10_put_0 : decode cX10_put 0 = .ok (.aload_n 0, 1) := by decide +kernel
theorem dX10_put_1 : decode cX10_put 1 = .ok (.aload_n 0, 1) := by decide +kernel
theorem dX10_put_2 : decode cX10_put 2 = .ok (.iload_n 1, 1) := by decide +kernel
theorem dX10_put_3 : decode cX10_put 3 = .ok (.iload_n 2, 1) := by decide +kernel
theorem dX10_put_4 : decode cX10_put 4 = .ok (.iload_n 3, 1) := by decide +kernel
theorem dX10_put_5 : decode cX10_put 5 = .ok (.invokevirtual 252, 3) := by decide +kernel
theorem dX10_put_8 : decode cX10_put 8 = .ok (.invokevirtual 68, 3) := by decide +kernel
theorem dX10_put_11 : decode cX10_put 11 = .ok (.ireturn, 1) := by decide +kernel
theorem dX10_putInside_0 : decode cX10_putInside 0 = .ok (.aload_n 0, 1) := by decide +kernel
theorem dX10_putInside_1 : decode cX10_putInside 1 = .ok (.getfield 10, 3) := by decide +kernel
theorem dX10_putInside_4 : decode cX10_putInside 4 = .ok (.getfield 228, 3) := by decide +kernel
theorem dX10_putInside_7 : decode cX10_putInside 7 = .ok (.iload_n 1, 1) := by decide +kernel
theorem dX10_putInside_8 : decode cX10_putInside 8 = .ok (.invokevirtual 232, 3) := by decide +kernel
theorem dX10_putInside_11 : decode cX10_putInside 11 = .ok (.ifCond .eq 17, 3) := by decide +kernel
theorem dX10_putInside_14 : decode cX10_putInside 14 = .ok (.aload_n 0, 1) := by decide +kernel
theorem dX10_putInside_15 : decode cX10_putInside 15 = .ok (.getfield 10, 3) := by decide +kernel
theorem dX10_putInside_18 : decode cX10_putInside 18 = .ok (.getfield 72, 3) := by decide +kernel
theorem dX10_putInside_21 : decode cX10_putInside 21 = .ok (.iload_n 3, 1) := by decide +kernel
theorem dX10_putInside_22 : decode cX10_putInside 22 = .ok (.invokevirtual 90, 3) := by decide +kernel
theorem dX10_putInside_25 : decode cX10_putInside 25 = .ok (.ifCond .ne 6, 3) := by decide +kernel
theorem dX10_putInside_28 : decode cX10_putInside 28 = .ok (.bipush (-2), 2) := by decide +kernel
theorem dX10_putInside_30 : decode cX10_putInside 30 = .ok (.ireturn, 1) := by decide +kernel
theorem dX10_putInside_31 : decode cX10_putInside 31 = .ok (.aload_n 0, 1) := by decide +kernel
theorem dX10_putInside_32 : decode cX10_putInside 32 = .ok (.getfield 10, 3) := by decide +kernel
theorem dX10_putInside_35 : decode cX10_putInside 35 = .ok (.getfield 228, 3) := by decide +kernel
theorem dX10_putInside_38 : decode cX10_putInside 38 = .ok (.iload_n 1, 1) := by decide +kernel
theorem dX10_putInside_39 : decode cX10_putInside 39 = .ok (.iload_n 2, 1) := by decide +kernel
theorem dX10_putInside_40 : decode cX10_putInside 40 = .ok (.invokevirtual 255, 3) := by decide +kernel
theorem dX10_putInside_43 : decode cX10_putInside 43 = .ok (.ifCond .ne 6, 3) := by decide +kernel
theorem dX10_putInside_46 : decode cX10_putInside 46 = .ok (.bipush (-12), 2) := by decide +kernel
theorem dX10_putInside_48 : decode cX10_putInside 48 = .ok (.ireturn, 1) := by decide +kernel
theorem dX10_putInside_49 : decode cX10_putInside 49 = .ok (.iload_n 3, 1) := by decide +kernel
theorem dX10_putInside_50 : decode cX10_putInside 50 = .ok (.iconst (-1), 1) := by decide +kernel
theorem dX10_putInside_51 : decode cX10_putInside 51 = .ok (.if_icmp .eq 32, 3) := by decide +kernel
theorem dX10_putInside_54 : decode cX10_putInside 54 = .ok (.aload_n 0, 1) := by decide +kernel
theorem dX10_putInside_55 : decode cX10_putInside 55 = .ok (.getfield 10, 3) := by decide +kernel
theorem dX10_putInside_58 : decode cX10_putInside 58 = .ok (.getfield 72, 3) := by decide +kernel
theorem dX10_putInside_61 : decode cX10_putInside 61 = .ok (.iload_n 3, 1) := by decide +kernel
theorem dX10_putInside_62 : decode cX10_putInside 62 = .ok (.aload_n 0, 1) := by decide +kernel
theorem dX10_putInside_63 : decode cX10_putInside 63 = .ok (.getfield 10, 3) := by decide +kernel
theorem dX10_putInside_66 : decode cX10_putInside 66 = .ok (.getfield 228, 3) := by decide +kernel
theorem dX10_putInside_69 : decode cX10_putInside 69 = .ok (.getfield 258, 3) := by decide +kernel
theorem dX10_putInside_72 : decode cX10_putInside 72 = .ok (.iload_n 1, 1) := by decide +kernel
theorem dX10_putInside_73 : decode cX10_putInside 73 = .ok (.iaload, 1) := by decide +kernel
theorem dX10_putInside_74 : decode cX10_putInside 74 = .ok (.invokevirtual 259, 3) := by decide +kernel
theorem dX10_putInside_77 : decode cX10_putInside 77 = .ok (.ifCond .ne 6, 3) := by decide +kernel
theorem dX10_putInside_80 : decode cX10_putInside 80 = .ok (.bipush (-14), 2) := by decide +kernel
theorem dX10_putInside_82 : decode cX10_putInside 82 = .ok (.ireturn, 1) := by decide +kernel
theorem dX10_putInside_83 : decode cX10_putInside 83 = .ok (.aload_n 0, 1) := by decide +kernel
theorem dX10_putInside_84 : decode cX10_putInside 84 = .ok (.invokevirtual 81, 3) := by decide +kernel
theorem dX10_putInside_87 : decode cX10_putInside 87 = .ok (.aload_n 0, 1) := by decide +kernel
theorem dX10_putInside_88 : decode cX10_putInside 88 = .ok (.getfield 10, 3) := by decide +kernel
theorem dX10_putInside_91 : decode cX10_putInside 91 = .ok (.getfield 228, 3) := by decide +kernel
theorem dX10_putInside_94 : decode cX10_putInside 94 = .ok (.iload_n 1, 1) := by decide +kernel
theorem dX10_putInside_95 : decode cX10_putInside 95 = .ok (.iload_n 2, 1) := by decide +kernel
theorem dX10_putInside_96 : decode cX10_putInside 96 = .ok (.iload_n 3, 1) := by decide +kernel
theorem dX10_putInside_97 : decode cX10_putInside 97 = .ok (.invokevirtual 262, 3) := by decide +kernel
theorem dX10_putInside_100 : decode cX10_putInside 100 = .ok (.ireturn, 1) := by decide +kernel
theorem dX10_inside_0 : decode cX10_inside 0 = .ok (.aload_n 0, 1) := by decide +kernel
theorem dX10_inside_1 : decode cX10_inside 1 = .ok (.getfield 10, 3) := by decide +kernel
theorem dX10_inside_4 : decode cX10_inside 4 = .ok (.getfield 228, 3) := by decide +kernel
theorem dX10_inside_7 : decode cX10_inside 7 = .ok (.iload_n 1, 1) := by decide +kernel
theorem dX10_inside_8 : decode cX10_inside 8 = .ok (.invokevirtual 232, 3) := by decide +kernel
theorem dX10_inside_11 : decode cX10_inside 11 = .ok (.ifCond .ne 6, 3) := by decide +kernel
theorem dX10_inside_14 : decode cX10_inside 14 = .ok (.bipush (-2), 2) := by decide +kernel
theorem dX10_inside_16 : decode cX10_inside 16 = .ok (.ireturn, 1) := by decide +kernel
theorem dX10_inside_17 : decode cX10_inside 17 = .ok (.aload_n 0, 1) := by decide +kernel
theorem dX10_inside_18 : decode cX10_inside 18 = .ok (.aload_n 0, 1) := by decide +kernel
theorem dX10_inside_19 : decode cX10_inside 19 = .ok (.getfield 10, 3) := by decide +kernel
theorem dX10_inside_22 : decode cX10_inside 22 = .ok (.getfield 228, 3) := by decide +kernel
theorem dX10_inside_25 : decode cX10_inside 25 = .ok (.iload_n 1, 1) := by decide +kernel
theorem dX10_inside_26 : decode cX10_inside 26 = .ok (.iload_n 2, 1) := by decide +kernel
theorem dX10_inside_27 : decode cX10_inside 27 = .ok (.invokevirtual 255, 3) := by decide +kernel
theorem dX10_inside_30 : decode cX10_inside 30 = .ok (.ifCond .eq 18, 3) := by decide +kernel
theorem dX10_inside_33 : decode cX10_inside 33 = .ok (.aload_n 0, 1) := by decide +kernel
theorem dX10_inside_34 : decode cX10_inside 34 = .ok (.getfield 10, 3) := by decide +kernel
theorem dX10_inside_37 : decode cX10_inside 37 = .ok (.getfield 228, 3) := by decide +kernel
theorem dX10_inside_40 : decode cX10_inside 40 = .ok (.iload_n 1, 1) := by decide +kernel
theorem dX10_inside_41 : decode cX10_inside 41 = .ok (.iload_n 2, 1) := by decide +kernel
theorem dX10_inside_42 : decode cX10_inside 42 = .ok (.invokevirtual 241, 3) := by decide +kernel
theorem dX10_inside_45 : decode cX10_inside 45 = .ok (.goto 5, 3) := by decide +kernel
theorem dX10_inside_48 : decode cX10_inside 48 = .ok (.bipush (-12), 2) := by decide +kernel
theorem dX10_inside_50 : decode cX10_inside 50 = .ok (.invokevirtual 68, 3) := by decide +kernel
theorem dX10_inside_53 : decode cX10_inside 53 = .ok (.ireturn, 1) := by decide +kernel
theorem dX10_door_0 : decode cX10_door 0 = .ok (.aload_n 0, 1) := by decide +kernel
theorem dX10_door_1 : decode cX10_door 1 = .ok (.getfield 10, 3) := by decide +kernel
theorem dX10_door_4 : decode cX10_door 4 = .ok (.getfield 265, 3) := by decide +kernel
theorem dX10_door_7 : decode cX10_door 7 = .ok (.bipush 40, 2) := by decide +kernel
theorem dX10_door_9 : decode cX10_door 9 = .ok (.if_icmp .lt 6, 3) := by decide +kernel
theorem dX10_door_12 : decode cX10_door 12 = .ok (.bipush (-4), 2) := by decide +kernel
theorem dX10_door_14 : decode cX10_door 14 = .ok (.ireturn, 1) := by decide +kernel
theorem dX10_door_15 : decode cX10_door 15 = .ok (.aload_n 0, 1) := by decide +kernel
theorem dX10_door_16 : decode cX10_door 16 = .ok (.invokevirtual 81, 3) := by decide +kernel
theorem dX10_door_19 : decode cX10_door 19 = .ok (.aload_n 0, 1) := by decide +kernel
theorem dX10_door_20 : decode cX10_door 20 = .ok (.getfield 10, 3) := by decide +kernel
theorem dX10_door_23 : decode cX10_door 23 = .ok (.getfield 225, 3) := by decide +kernel
theorem dX10_door_26 : decode cX10_door 26 = .ok (.aload_n 0, 1) := by decide +kernel
theorem dX10_door_27 : decode cX10_door 27 = .ok (.getfield 10, 3) := by decide +kernel
theorem dX10_door_30 : decode cX10_door 30 = .ok (.getfield 265, 3) := by decide +kernel
theorem dX10_door_33 : decode cX10_door 33 = .ok (.iconst (-1), 1) := by decide +kernel
theorem dX10_door_34 : decode cX10_door 34 = .ok (.iastore, 1) := by decide +kernel
theorem dX10_door_35 : decode cX10_door 35 = .ok (.aload_n 0, 1) := by decide +kernel
theorem dX10_door_36 : decode cX10_door 36 = .ok (.getfield 10, 3) := by decide +kernel
theorem dX10_door_39 : decode cX10_door 39 = .ok (.dup, 1) := by decide +kernel
theorem dX10_door_40 : decode cX10_door 40 = .ok (.getfield 265, 3) := by decide +kernel
theorem dX10_door_43 : decode cX10_door 43 = .ok (.iconst 1, 1) := by decide +kernel
theorem dX10_door_44 : decode cX10_door 44 = .ok (.iadd, 1) := by decide +kernel
theorem dX10_door_45 : decode cX10_door 45 = .ok (.putfield 265, 3) := by decide +kernel
theorem dX10_door_48 : decode cX10_door 48 = .ok (.aload_n 0, 1) := by decide +kernel
theorem dX10_door_49 : decode cX10_door 49 = .ok (.getfield 10, 3) := by decide +kernel
theorem dX10_door_52 : decode cX10_door 52 = .ok (.getfield 265, 3) := by decide +kernel
theorem dX10_door_55 : decode cX10_door 55 = .ok (.iconst 1, 1) := by decide +kernel
theorem dX10_door_56 : decode cX10_door 56 = .ok (.isub, 1) := by decide +kernel
theorem dX10_door_57 : decode cX10_door 57 = .ok (.ireturn, 1) := by decide +kernel
theorem dX10_fit_0 : decode cX10_fit 0 = .ok (.aload_n 0, 1) := by decide +kernel
theorem dX10_fit_1 : decode cX10_fit 1 = .ok (.getfield 10, 3) := by decide +kernel
theorem dX10_fit_4 : decode cX10_fit 4 = .ok (.iload_n 1, 1) := by decide +kernel
theorem dX10_fit_5 : decode cX10_fit 5 = .ok (.invokevirtual 222, 3) := by decide +kernel
theorem dX10_fit_8 : decode cX10_fit 8 = .ok (.ifCond .eq 17, 3) := by decide +kernel
theorem dX10_fit_11 : decode cX10_fit 11 = .ok (.aload_n 0, 1) := by decide +kernel
theorem dX10_fit_12 : decode cX10_fit 12 = .ok (.getfield 10, 3) := by decide +kernel
theorem dX10_fit_15 : decode cX10_fit 15 = .ok (.getfield 72, 3) := by decide +kernel
theorem dX10_fit_18 : decode cX10_fit 18 = .ok (.iload_n 2, 1) := by decide +kernel
theorem dX10_fit_19 : decode cX10_fit 19 = .ok (.invokevirtual 90, 3) := by decide +kernel
theorem dX10_fit_22 : decode cX10_fit 22 = .ok (.ifCond .ne 6, 3) := by decide +kernel
theorem dX10_fit_25 : decode cX10_fit 25 = .ok (.bipush (-2), 2) := by decide +kernel
theorem dX10_fit_27 : decode cX10_fit 27 = .ok (.ireturn, 1) := by decide +kernel
theorem dX10_fit_28 : decode cX10_fit 28 = .ok (.aload_n 0, 1) := by decide +kernel
theorem dX10_fit_29 : decode cX10_fit 29 = .ok (.invokevirtual 81, 3) := by decide +kernel
theorem dX10_fit_32 : decode cX10_fit 32 = .ok (.aload_n 0, 1) := by decide +kernel
theorem dX10_fit_33 : decode cX10_fit 33 = .ok (.getfield 10, 3) := by decide +kernel
theorem dX10_fit_36 : decode cX10_fit 36 = .ok (.getfield 225, 3) := by decide +kernel
theorem dX10_fit_39 : decode cX10_fit 39 = .ok (.iload_n 1, 1) := by decide +kernel
theorem dX10_fit_40 : decode cX10_fit 40 = .ok (.iaload, 1) := by decide +kernel
theorem dX10_fit_41 : decode cX10_fit 41 = .ok (.istore_n 3, 1) := by decide +kernel
theorem dX10_fit_42 : decode cX10_fit 42 = .ok (.aload_n 0, 1) := by decide +kernel
theorem dX10_fit_43 : decode cX10_fit 43 = .ok (.getfield 10, 3) := by decide +kernel
theorem dX10_fit_46 : decode cX10_fit 46 = .ok (.getfield 225, 3) := by decide +kernel
theorem dX10_fit_49 : decode cX10_fit 49 = .ok (.iload_n 1, 1) := by decide +kernel
theorem dX10_fit_50 : decode cX10_fit 50 = .ok (.iload_n 2, 1) := by decide +kernel
theorem dX10_fit_51 : decode cX10_fit 51 = .ok (.iastore, 1) := by decide +kernel
theorem dX10_fit_52 : decode cX10_fit 52 = .ok (.iload_n 3, 1) := by decide +kernel
theorem dX10_fit_53 : decode cX10_fit 53 = .ok (.ireturn, 1) := by decide +kernel
theorem dX10_person_0 : decode cX10_person 0 = .ok (.aload_n 0, 1) := by decide +kernel
theorem dX10_person_1 : decode cX10_person 1 = .ok (.getfield 10, 3) := by decide +kernel
theorem dX10_person_4 : decode cX10_person 4 = .ok (.getfield 268, 3) := by decide +kernel
theorem dX10_person_7 : decode cX10_person 7 = .ok (.bipush 40, 2) := by decide +kernel
theorem dX10_person_9 : decode cX10_person 9 = .ok (.if_icmp .lt 6, 3) := by decide +kernel
theorem dX10_person_12 : decode cX10_person 12 = .ok (.bipush (-4), 2) := by decide +kernel
theorem dX10_person_14 : decode cX10_person 14 = .ok (.ireturn, 1) := by decide +kernel
theorem dX10_person_15 : decode cX10_person 15 = .ok (.aload_n 0, 1) := by decide +kernel
theorem dX10_person_16 : decode cX10_person 16 = .ok (.invokevirtual 81, 3) := by decide +kernel
theorem dX10_person_19 : decode cX10_person 19 = .ok (.aload_n 0, 1) := by decide +kernel
theorem dX10_person_20 : decode cX10_person 20 = .ok (.getfield 10, 3) := by decide +kernel
theorem dX10_person_23 : decode cX10_person 23 = .ok (.dup, 1) := by decide +kernel
theorem dX10_person_24 : decode cX10_person 24 = .ok (.getfield 268, 3) := by decide +kernel
theorem dX10_person_27 : decode cX10_person 27 = .ok (.iconst 1, 1) := by decide +kernel
theorem dX10_person_28 : decode cX10_person 28 = .ok (.iadd, 1) := by decide +kernel
theorem dX10_person_29 : decode cX10_person 29 = .ok (.putfield 268, 3) := by decide +kernel
theorem dX10_person_32 : decode cX10_person 32 = .ok (.aload_n 0, 1) := by decide +kernel
theorem dX10_person_33 : decode cX10_person 33 = .ok (.getfield 10, 3) := by decide +kernel
theorem dX10_person_36 : decode cX10_person 36 = .ok (.getfield 268, 3) := by decide +kernel
theorem dX10_person_39 : decode cX10_person 39 = .ok (.iconst 1, 1) := by decide +kernel
theorem dX10_person_40 : decode cX10_person 40 = .ok (.isub, 1) := by decide +kernel
theorem dX10_person_41 : decode cX10_person 41 = .ok (.ireturn, 1) := by decide +kernel
theorem dX10_lend_0 : decode cX10_lend 0 = .ok (.aload_n 0, 1) := by decide +kernel
theorem dX10_lend_1 : decode cX10_lend 1 = .ok (.getfield 10, 3) := by decide +kernel
theorem dX10_lend_4 : decode cX10_lend 4 = .ok (.getfield 191, 3) := by decide +kernel
theorem dX10_lend_7 : decode cX10_lend 7 = .ok (.iload_n 1, 1) := by decide +kernel
theorem dX10_lend_8 : decode cX10_lend 8 = .ok (.invokevirtual 202, 3) := by decide +kernel
theorem dX10_lend_11 : decode cX10_lend 11 = .ok (.ifCond .eq 18, 3) := by decide +kernel
theorem dX10_lend_14 : decode cX10_lend 14 = .ok (.iload_n 2, 1) := by decide +kernel
theorem dX10_lend_15 : decode cX10_lend 15 = .ok (.ifCond .lt 14, 3) := by decide +kernel
theorem dX10_lend_18 : decode cX10_lend 18 = .ok (.iload_n 2, 1) := by decide +kernel
theorem dX10_lend_19 : decode cX10_lend 19 = .ok (.aload_n 0, 1) := by decide +kernel
theorem dX10_lend_20 : decode cX10_lend 20 = .ok (.getfield 10, 3) := by decide +kernel
theorem dX10_lend_23 : decode cX10_lend 23 = .ok (.getfield 268, 3) := by decide +kernel
theorem dX10_lend_26 : decode cX10_lend 26 = .ok (.if_icmp .lt 6, 3) := by decide +kernel
theorem dX10_lend_29 : decode cX10_lend 29 = .ok (.bipush (-2), 2) := by decide +kernel
theorem dX10_lend_31 : decode cX10_lend 31 = .ok (.ireturn, 1) := by decide +kernel
theorem dX10_lend_32 : decode cX10_lend 32 = .ok (.aload_n 0, 1) := by decide +kernel
theorem dX10_lend_33 : decode cX10_lend 33 = .ok (.getfield 10, 3) := by decide +kernel
theorem dX10_lend_36 : decode cX10_lend 36 = .ok (.getfield 191, 3) := by decide +kernel
theorem dX10_lend_39 : decode cX10_lend 39 = .ok (.getfield 271, 3) := by decide +kernel
theorem dX10_lend_42 : decode cX10_lend 42 = .ok (.iload_n 1, 1) := by decide +kernel
theorem dX10_lend_43 : decode cX10_lend 43 = .ok (.iaload, 1) := by decide +kernel
theorem dX10_lend_44 : decode cX10_lend 44 = .ok (.iconst (-1), 1) := by decide +kernel
theorem dX10_lend_45 : decode cX10_lend 45 = .ok (.if_icmp .eq 6, 3) := by decide +kernel
theorem dX10_lend_48 : decode cX10_lend 48 = .ok (.bipush (-3), 2) := by decide +kernel
theorem dX10_lend_50 : decode cX10_lend 50 = .ok (.ireturn, 1) := by decide +kernel
theorem dX10_lend_51 : decode cX10_lend 51 = .ok (.aload_n 0, 1) := by decide +kernel
theorem dX10_lend_52 : decode cX10_lend 52 = .ok (.invokevirtual 81, 3) := by decide +kernel
theorem dX10_lend_55 : decode cX10_lend 55 = .ok (.aload_n 0, 1) := by decide +kernel
theorem dX10_lend_56 : decode cX10_lend 56 = .ok (.getfield 10, 3) := by decide +kernel
theorem dX10_lend_59 : decode cX10_lend 59 = .ok (.getfield 191, 3) := by decide +kernel
theorem dX10_lend_62 : decode cX10_lend 62 = .ok (.getfield 271, 3) := by decide +kernel
theorem dX10_lend_65 : decode cX10_lend 65 = .ok (.iload_n 1, 1) := by decide +kernel
theorem dX10_lend_66 : decode cX10_lend 66 = .ok (.iload_n 2, 1) := by decide +kernel
theorem dX10_lend_67 : decode cX10_lend 67 = .ok (.iastore, 1) := by decide +kernel
theorem dX10_lend_68 : decode cX10_lend 68 = .ok (.aload_n 0, 1) := by decide +kernel
theorem dX10_lend_69 : decode cX10_lend 69 = .ok (.getfield 10, 3) := by decide +kernel
theorem dX10_lend_72 : decode cX10_lend 72 = .ok (.getfield 191, 3) := by decide +kernel
theorem dX10_lend_75 : decode cX10_lend 75 = .ok (.iload_n 2, 1) := by decide +kernel
theorem dX10_lend_76 : decode cX10_lend 76 = .ok (.invokevirtual 274, 3) := by decide +kernel
theorem dX10_lend_79 : decode cX10_lend 79 = .ok (.ireturn, 1) := by decide +kernel
theorem dX10_bringBack_0 : decode cX10_bringBack 0 = .ok (.aload_n 0, 1) := by decide +kernel
theorem dX10_bringBack_1 : decode cX10_bringBack 1 = .ok (.getfield 10, 3) := by decide +kernel
theorem dX10_bringBack_4 : decode cX10_bringBack 4 = .ok (.getfield 191, 3) := by decide +kernel
theorem dX10_bringBack_7 : decode cX10_bringBack 7 = .ok (.iload_n 1, 1) := by decide +kernel
theorem dX10_bringBack_8 : decode cX10_bringBack 8 = .ok (.invokevirtual 202, 3) := by decide +kernel
theorem dX10_bringBack_11 : decode cX10_bringBack 11 = .ok (.ifCond .ne 6, 3) := by decide +kernel
theorem dX10_bringBack_14 : decode cX10_bringBack 14 = .ok (.bipush (-2), 2) := by decide +kernel
theorem dX10_bringBack_16 : decode cX10_bringBack 16 = .ok (.ireturn, 1) := by decide +kernel
theorem dX10_bringBack_17 : decode cX10_bringBack 17 = .ok (.aload_n 0, 1) := by decide +kernel
theorem dX10_bringBack_18 : decode cX10_bringBack 18 = .ok (.getfield 10, 3) := by decide +kernel
theorem dX10_bringBack_21 : decode cX10_bringBack 21 = .ok (.getfield 191, 3) := by decide +kernel
theorem dX10_bringBack_24 : decode cX10_bringBack 24 = .ok (.getfield 271, 3) := by decide +kernel
theorem dX10_bringBack_27 : decode cX10_bringBack 27 = .ok (.iload_n 1, 1) := by decide +kernel
theorem dX10_bringBack_28 : decode cX10_bringBack 28 = .ok (.iaload, 1) := by decide +kernel
theorem dX10_bringBack_29 : decode cX10_bringBack 29 = .ok (.istore_n 2, 1) := by decide +kernel
theorem dX10_bringBack_30 : decode cX10_bringBack 30 = .ok (.iload_n 2, 1) := by decide +kernel
theorem dX10_bringBack_31 : decode cX10_bringBack 31 = .ok (.ifCond .ge 6, 3) := by decide +kernel
theorem dX10_bringBack_34 : decode cX10_bringBack 34 = .ok (.bipush (-3), 2) := by decide +kernel
theorem dX10_bringBack_36 : decode cX10_bringBack 36 = .ok (.ireturn, 1) := by decide +kernel
theorem dX10_bringBack_37 : decode cX10_bringBack 37 = .ok (.aload_n 0, 1) := by decide +kernel
theorem dX10_bringBack_38 : decode cX10_bringBack 38 = .ok (.invokevirtual 81, 3) := by decide +kernel
theorem dX10_bringBack_41 : decode cX10_bringBack 41 = .ok (.aload_n 0, 1) := by decide +kernel
theorem dX10_bringBack_42 : decode cX10_bringBack 42 = .ok (.getfield 10, 3) := by decide +kernel
theorem dX10_bringBack_45 : decode cX10_bringBack 45 = .ok (.getfield 191, 3) := by decide +kernel
theorem dX10_bringBack_48 : decode cX10_bringBack 48 = .ok (.getfield 271, 3) := by decide +kernel
theorem dX10_bringBack_51 : decode cX10_bringBack 51 = .ok (.iload_n 1, 1) := by decide +kernel
theorem dX10_bringBack_52 : decode cX10_bringBack 52 = .ok (.iconst (-1), 1) := by decide +kernel
theorem dX10_bringBack_53 : decode cX10_bringBack 53 = .ok (.iastore, 1) := by decide +kernel
theorem dX10_bringBack_54 : decode cX10_bringBack 54 = .ok (.iload_n 2, 1) := by decide +kernel
theorem dX10_bringBack_55 : decode cX10_bringBack 55 = .ok (.ireturn, 1) := by decide +kernel
theorem dX10_lose_0 : decode cX10_lose 0 = .ok (.aload_n 0, 1) := by decide +kernel
theorem dX10_lose_1 : decode cX10_lose 1 = .ok (.getfield 10, 3) := by decide +kernel
theorem dX10_lose_4 : decode cX10_lose 4 = .ok (.getfield 191, 3) := by decide +kernel
theorem dX10_lose_7 : decode cX10_lose 7 = .ok (.iload_n 1, 1) := by decide +kernel
theorem dX10_lose_8 : decode cX10_lose 8 = .ok (.invokevirtual 202, 3) := by decide +kernel
theorem dX10_lose_11 : decode cX10_lose 11 = .ok (.ifCond .ne 6, 3) := by decide +kernel
theorem dX10_lose_14 : decode cX10_lose 14 = .ok (.bipush (-2), 2) := by decide +kernel
theorem dX10_lose_16 : decode cX10_lose 16 = .ok (.ireturn, 1) := by decide +kernel
theorem dX10_lose_17 : decode cX10_lose 17 = .ok (.aload_n 0, 1) := by decide +kernel
theorem dX10_lose_18 : decode cX10_lose 18 = .ok (.getfield 10, 3) := by decide +kernel
theorem dX10_lose_21 : decode cX10_lose 21 = .ok (.getfield 191, 3) := by decide +kernel
theorem dX10_lose_24 : decode cX10_lose 24 = .ok (.getfield 271, 3) := by decide +kernel
theorem dX10_lose_27 : decode cX10_lose 27 = .ok (.iload_n 1, 1) := by decide +kernel
theorem dX10_lose_28 : decode cX10_lose 28 = .ok (.iaload, 1) := by decide +kernel
theorem dX10_lose_29 : decode cX10_lose 29 = .ok (.istore_n 2, 1) := by decide +kernel
theorem dX10_lose_30 : decode cX10_lose 30 = .ok (.iload_n 2, 1) := by decide +kernel
theorem dX10_lose_31 : decode cX10_lose 31 = .ok (.bipush (-6), 2) := by decide +kernel
theorem dX10_lose_33 : decode cX10_lose 33 = .ok (.if_icmp .ne 6, 3) := by decide +kernel
theorem dX10_lose_36 : decode cX10_lose 36 = .ok (.bipush (-3), 2) := by decide +kernel
theorem dX10_lose_38 : decode cX10_lose 38 = .ok (.ireturn, 1) := by decide +kernel
theorem dX10_lose_39 : decode cX10_lose 39 = .ok (.aload_n 0, 1) := by decide +kernel
theorem dX10_lose_40 : decode cX10_lose 40 = .ok (.invokevirtual 81, 3) := by decide +kernel
theorem dX10_lose_43 : decode cX10_lose 43 = .ok (.aload_n 0, 1) := by decide +kernel
theorem dX10_lose_44 : decode cX10_lose 44 = .ok (.getfield 10, 3) := by decide +kernel
theorem dX10_lose_47 : decode cX10_lose 47 = .ok (.getfield 191, 3) := by decide +kernel
theorem dX10_lose_50 : decode cX10_lose 50 = .ok (.getfield 271, 3) := by decide +kernel
theorem dX10_lose_53 : decode cX10_lose 53 = .ok (.iload_n 1, 1) := by decide +kernel
theorem dX10_lose_54 : decode cX10_lose 54 = .ok (.bipush (-6), 2) := by decide +kernel
theorem dX10_lose_56 : decode cX10_lose 56 = .ok (.iastore, 1) := by decide +kernel
theorem dX10_lose_57 : decode cX10_lose 57 = .ok (.iload_n 2, 1) := by decide +kernel
theorem dX10_lose_58 : decode cX10_lose 58 = .ok (.ireturn, 1) := by decide +kernel
theorem dX10_found_0 : decode cX10_found 0 = .ok (.aload_n 0, 1) := by decide +kernel
theorem dX10_found_1 : decode cX10_found 1 = .ok (.getfield 10, 3) := by decide +kernel
theorem dX10_found_4 : decode cX10_found 4 = .ok (.getfield 191, 3) := by decide +kernel
theorem dX10_found_7 : decode cX10_found 7 = .ok (.iload_n 1, 1) := by decide +kernel
theorem dX10_found_8 : decode cX10_found 8 = .ok (.invokevirtual 202, 3) := by decide +kernel
theorem dX10_found_11 : decode cX10_found 11 = .ok (.ifCond .ne 6, 3) := by decide +kernel
theorem dX10_found_14 : decode cX10_found 14 = .ok (.bipush (-2), 2) := by decide +kernel
theorem dX10_found_16 : decode cX10_found 16 = .ok (.ireturn, 1) := by decide +kernel
theorem dX10_found_17 : decode cX10_found 17 = .ok (.aload_n 0, 1) := by decide +kernel
theorem dX10_found_18 : decode cX10_found 18 = .ok (.getfield 10, 3) := by decide +kernel
theorem dX10_found_21 : decode cX10_found 21 = .ok (.getfield 191, 3) := by decide +kernel
theorem dX10_found_24 : decode cX10_found 24 = .ok (.getfield 271, 3) := by decide +kernel
theorem dX10_found_27 : decode cX10_found 27 = .ok (.iload_n 1, 1) := by decide +kernel
theorem dX10_found_28 : decode cX10_found 28 = .ok (.iaload, 1) := by decide +kernel
theorem dX10_found_29 : decode cX10_found 29 = .ok (.bipush (-6), 2) := by decide +kernel
theorem dX10_found_31 : decode cX10_found 31 = .ok (.if_icmp .eq 6, 3) := by decide +kernel
theorem dX10_found_34 : decode cX10_found 34 = .ok (.bipush (-3), 2) := by decide +kernel
theorem dX10_found_36 : decode cX10_found 36 = .ok (.ireturn, 1) := by decide +kernel
theorem dX10_found_37 : decode cX10_found 37 = .ok (.aload_n 0, 1) := by decide +kernel
theorem dX10_found_38 : decode cX10_found 38 = .ok (.invokevirtual 81, 3) := by decide +kernel
theorem dX10_found_41 : decode cX10_found 41 = .ok (.aload_n 0, 1) := by decide +kernel
theorem dX10_found_42 : decode cX10_found 42 = .ok (.getfield 10, 3) := by decide +kernel
theorem dX10_found_45 : decode cX10_found 45 = .ok (.getfield 191, 3) := by decide +kernel
theorem dX10_found_48 : decode cX10_found 48 = .ok (.getfield 271, 3) := by decide +kernel
theorem dX10_found_51 : decode cX10_found 51 = .ok (.iload_n 1, 1) := by decide +kernel
theorem dX10_found_52 : decode cX10_found 52 = .ok (.iconst (-1), 1) := by decide +kernel
theorem dX10_found_53 : decode cX10_found 53 = .ok (.iastore, 1) := by decide +kernel
theorem dX10_found_54 : decode cX10_found 54 = .ok (.iconst 1, 1) := by decide +kernel
theorem dX10_found_55 : decode cX10_found 55 = .ok (.ireturn, 1) := by decide +kernel
theorem dX10_holder_0 : decode cX10_holder 0 = .ok (.aload_n 0, 1) := by decide +kernel
theorem dX10_holder_1 : decode cX10_holder 1 = .ok (.getfield 10, 3) := by decide +kernel
theorem dX10_holder_4 : decode cX10_holder 4 = .ok (.getfield 191, 3) := by decide +kernel
theorem dX10_holder_7 : decode cX10_holder 7 = .ok (.iload_n 1, 1) := by decide +kernel
theorem dX10_holder_8 : decode cX10_holder 8 = .ok (.invokevirtual 202, 3) := by decide +kernel
theorem dX10_holder_11 : decode cX10_holder 11 = .ok (.ifCond .eq 18, 3) := by decide +kernel
theorem dX10_holder_14 : decode cX10_holder 14 = .ok (.aload_n 0, 1) := by decide +kernel
theorem dX10_holder_15 : decode cX10_holder 15 = .ok (.getfield 10, 3) := by decide +kernel
theorem dX10_holder_18 : decode cX10_holder 18 = .ok (.getfield 191, 3) := by decide +kernel
theorem dX10_holder_21 : decode cX10_holder 21 = .ok (.getfield 271, 3) := by decide +kernel
theorem dX10_holder_24 : decode cX10_holder 24 = .ok (.iload_n 1, 1) := by decide +kernel
theorem dX10_holder_25 : decode cX10_holder 25 = .ok (.iaload, 1) := by decide +kernel
theorem dX10_holder_26 : decode cX10_holder 26 = .ok (.goto 5, 3) := by decide +kernel
theorem dX10_holder_29 : decode cX10_holder 29 = .ok (.bipush (-2), 2) := by decide +kernel
theorem dX10_holder_31 : decode cX10_holder 31 = .ok (.ireturn, 1) := by decide +kernel
theorem dX10_wish_0 : decode cX10_wish 0 = .ok (.aload_n 0, 1) := by decide +kernel
theorem dX10_wish_1 : decode cX10_wish 1 = .ok (.getfield 10, 3) := by decide +kernel
theorem dX10_wish_4 : decode cX10_wish 4 = .ok (.getfield 191, 3) := by decide +kernel
theorem dX10_wish_7 : decode cX10_wish 7 = .ok (.iload_n 1, 1) := by decide +kernel
theorem dX10_wish_8 : decode cX10_wish 8 = .ok (.invokevirtual 202, 3) := by decide +kernel
theorem dX10_wish_11 : decode cX10_wish 11 = .ok (.ifCond .eq 23, 3) := by decide +kernel
theorem dX10_wish_14 : decode cX10_wish 14 = .ok (.aload_n 0, 1) := by decide +kernel
theorem dX10_wish_15 : decode cX10_wish 15 = .ok (.getfield 10, 3) := by decide +kernel
theorem dX10_wish_18 : decode cX10_wish 18 = .ok (.iload_n 2, 1) := by decide +kernel
theorem dX10_wish_19 : decode cX10_wish 19 = .ok (.invokevirtual 222, 3) := by decide +kernel
theorem dX10_wish_22 : decode cX10_wish 22 = .ok (.ifCond .eq 12, 3) := by decide +kernel
theorem dX10_wish_25 : decode cX10_wish 25 = .ok (.iload_n 3, 1) := by decide +kernel
theorem dX10_wish_26 : decode cX10_wish 26 = .ok (.ifCond .lt 8, 3) := by decide +kernel
theorem dX10_wish_29 : decode cX10_wish 29 = .ok (.iload_n 3, 1) := by decide +kernel
theorem dX10_wish_30 : decode cX10_wish 30 = .ok (.iconst 2, 1) := by decide +kernel
theorem dX10_wish_31 : decode cX10_wish 31 = .ok (.if_icmp .le 6, 3) := by decide +kernel
theorem dX10_wish_34 : decode cX10_wish 34 = .ok (.bipush (-2), 2) := by decide +kernel
theorem dX10_wish_36 : decode cX10_wish 36 = .ok (.ireturn, 1) := by decide +kernel
theorem dX10_wish_37 : decode cX10_wish 37 = .ok (.aload_n 0, 1) := by decide +kernel
theorem dX10_wish_38 : decode cX10_wish 38 = .ok (.invokevirtual 81, 3) := by decide +kernel
theorem dX10_wish_41 : decode cX10_wish 41 = .ok (.aload_n 0, 1) := by decide +kernel
theorem dX10_wish_42 : decode cX10_wish 42 = .ok (.getfield 10, 3) := by decide +kernel
theorem dX10_wish_45 : decode cX10_wish 45 = .ok (.getfield 191, 3) := by decide +kernel
theorem dX10_wish_48 : decode cX10_wish 48 = .ok (.iload_n 1, 1) := by decide +kernel
theorem dX10_wish_49 : decode cX10_wish 49 = .ok (.iload_n 2, 1) := by decide +kernel
theorem dX10_wish_50 : decode cX10_wish 50 = .ok (.iload_n 3, 1) := by decide +kernel
theorem dX10_wish_51 : decode cX10_wish 51 = .ok (.invokevirtual 277, 3) := by decide +kernel
theorem dX10_wish_54 : decode cX10_wish 54 = .ok (.ireturn, 1) := by decide +kernel
theorem dX10_work_0 : decode cX10_work 0 = .ok (.aload_n 0, 1) := by decide +kernel
theorem dX10_work_1 : decode cX10_work 1 = .ok (.aload_n 0, 1) := by decide +kernel
theorem dX10_work_2 : decode cX10_work 2 = .ok (.iconst (-1), 1) := by decide +kernel
theorem dX10_work_3 : decode cX10_work 3 = .ok (.iload_n 1, 1) := by decide +kernel
theorem dX10_work_4 : decode cX10_work 4 = .ok (.iload_n 2, 1) := by decide +kernel
theorem dX10_work_5 : decode cX10_work 5 = .ok (.iload_n 3, 1) := by decide +kernel
theorem dX10_work_6 : decode cX10_work 6 = .ok (.iload 4, 2) := by decide +kernel
theorem dX10_work_8 : decode cX10_work 8 = .ok (.invokevirtual 280, 3) := by decide +kernel
theorem dX10_work_11 : decode cX10_work 11 = .ok (.invokevirtual 68, 3) := by decide +kernel
theorem dX10_work_14 : decode cX10_work 14 = .ok (.ireturn, 1) := by decide +kernel
theorem dX10_anew_0 : decode cX10_anew 0 = .ok (.iload_n 1, 1) := by decide +kernel
theorem dX10_anew_1 : decode cX10_anew 1 = .ok (.ifCond .lt 12, 3) := by decide +kernel
theorem dX10_anew_4 : decode cX10_anew 4 = .ok (.iload_n 1, 1) := by decide +kernel
theorem dX10_anew_5 : decode cX10_anew 5 = .ok (.iload_n 2, 1) := by decide +kernel
theorem dX10_anew_6 : decode cX10_anew 6 = .ok (.if_icmp .ge 7, 3) := by decide +kernel
theorem dX10_anew_9 : decode cX10_anew 9 = .ok (.iconst 1, 1) := by decide +kernel
theorem dX10_anew_10 : decode cX10_anew 10 = .ok (.goto 4, 3) := by decide +kernel
theorem dX10_anew_13 : decode cX10_anew 13 = .ok (.iconst 0, 1) := by decide +kernel
theorem dX10_anew_14 : decode cX10_anew 14 = .ok (.istore 6, 2) := by decide +kernel
theorem dX10_anew_16 : decode cX10_anew 16 = .ok (.iload 6, 2) := by decide +kernel
theorem dX10_anew_18 : decode cX10_anew 18 = .ok (.ifCond .eq 21, 3) := by decide +kernel
theorem dX10_anew_21 : decode cX10_anew 21 = .ok (.aload_n 0, 1) := by decide +kernel
theorem dX10_anew_22 : decode cX10_anew 22 = .ok (.aload_n 0, 1) := by decide +kernel
theorem dX10_anew_23 : decode cX10_anew 23 = .ok (.iload_n 1, 1) := by decide +kernel
theorem dX10_anew_24 : decode cX10_anew 24 = .ok (.iload_n 2, 1) := by decide +kernel
theorem dX10_anew_25 : decode cX10_anew 25 = .ok (.iload_n 3, 1) := by decide +kernel
theorem dX10_anew_26 : decode cX10_anew 26 = .ok (.iload 4, 2) := by decide +kernel
theorem dX10_anew_28 : decode cX10_anew 28 = .ok (.iload 5, 2) := by decide +kernel
theorem dX10_anew_30 : decode cX10_anew 30 = .ok (.invokevirtual 280, 3) := by decide +kernel
theorem dX10_anew_33 : decode cX10_anew 33 = .ok (.invokevirtual 68, 3) := by decide +kernel
theorem dX10_anew_36 : decode cX10_anew 36 = .ok (.goto 5, 3) := by decide +kernel
theorem dX10_anew_39 : decode cX10_anew 39 = .ok (.bipush (-2), 2) := by decide +kernel
theorem dX10_anew_41 : decode cX10_anew 41 = .ok (.ireturn, 1) := by decide +kernel
theorem dX10_cutByWishes_0 : decode cX10_cutByWishes 0 = .ok (.iload_n 2, 1) := by decide +kernel
theorem dX10_cutByWishes_1 : decode cX10_cutByWishes 1 = .ok (.iload_n 3, 1) := by decide +kernel
theorem dX10_cutByWishes_2 : decode cX10_cutByWishes 2 = .ok (.iload 4, 2) := by decide +kernel
theorem dX10_cutByWishes_4 : decode cX10_cutByWishes 4 = .ok (.iload 5, 2) := by decide +kernel
theorem dX10_cutByWishes_6 : decode cX10_cutByWishes 6 = .ok (.invokestatic 284, 3) := by decide +kernel
theorem dX10_cutByWishes_9 : decode cX10_cutByWishes 9 = .ok (.ifCond .ne 6, 3) := by decide +kernel
theorem dX10_cutByWishes_12 : decode cX10_cutByWishes 12 = .ok (.bipush (-2), 2) := by decide +kernel
theorem dX10_cutByWishes_14 : decode cX10_cutByWishes 14 = .ok (.ireturn, 1) := by decide +kernel
theorem dX10_cutByWishes_15 : decode cX10_cutByWishes 15 = .ok (.aload_n 0, 1) := by decide +kernel
theorem dX10_cutByWishes_16 : decode cX10_cutByWishes 16 = .ok (.getfield 10, 3) := by decide +kernel
theorem dX10_cutByWishes_19 : decode cX10_cutByWishes 19 = .ok (.getfield 191, 3) := by decide +kernel
theorem dX10_cutByWishes_22 : decode cX10_cutByWishes 22 = .ok (.getfield 209, 3) := by decide +kernel
theorem dX10_cutByWishes_25 : decode cX10_cutByWishes 25 = .ok (.iload_n 2, 1) := by decide +kernel
theorem dX10_cutByWishes_26 : decode cX10_cutByWishes 26 = .ok (.if_icmp .lt 29, 3) := by decide +kernel
theorem dX10_cutByWishes_29 : decode cX10_cutByWishes 29 = .ok (.aload_n 0, 1) := by decide +kernel
theorem dX10_cutByWishes_30 : decode cX10_cutByWishes 30 = .ok (.getfield 10, 3) := by decide +kernel
theorem dX10_cutByWishes_33 : decode cX10_cutByWishes 33 = .ok (.getfield 265, 3) := by decide +kernel
theorem dX10_cutByWishes_36 : decode cX10_cutByWishes 36 = .ok (.iload_n 3, 1) := by decide +kernel
theorem dX10_cutByWishes_37 : decode cX10_cutByWishes 37 = .ok (.if_icmp .lt 18, 3) := by decide +kernel
theorem dX10_cutByWishes_40 : decode cX10_cutByWishes 40 = .ok (.iload_n 1, 1) := by decide +kernel
theorem dX10_cutByWishes_41 : decode cX10_cutByWishes 41 = .ok (.iconst (-1), 1) := by decide +kernel
theorem dX10_cutByWishes_42 : decode cX10_cutByWishes 42 = .ok (.if_icmp .eq 16, 3) := by decide +kernel
theorem dX10_cutByWishes_45 : decode cX10_cutByWishes 45 = .ok (.aload_n 0, 1) := by decide +kernel
theorem dX10_cutByWishes_46 : decode cX10_cutByWishes 46 = .ok (.iload_n 1, 1) := by decide +kernel
theorem dX10_cutByWishes_47 : decode cX10_cutByWishes 47 = .ok (.iload 4, 2) := by decide +kernel
theorem dX10_cutByWishes_49 : decode cX10_cutByWishes 49 = .ok (.invokevirtual 288, 3) := by decide +kernel
theorem dX10_cutByWishes_52 : decode cX10_cutByWishes 52 = .ok (.ifCond .ne 6, 3) := by decide +kernel
theorem dX10_cutByWishes_55 : decode cX10_cutByWishes 55 = .ok (.bipush (-3), 2) := by decide +kernel
theorem dX10_cutByWishes_57 : decode cX10_cutByWishes 57 = .ok (.ireturn, 1) := by decide +kernel
theorem dX10_cutByWishes_58 : decode cX10_cutByWishes 58 = .ok (.aload_n 0, 1) := by decide +kernel
theorem dX10_cutByWishes_59 : decode cX10_cutByWishes 59 = .ok (.iload_n 3, 1) := by decide +kernel
theorem dX10_cutByWishes_60 : decode cX10_cutByWishes 60 = .ok (.iload 4, 2) := by decide +kernel
theorem dX10_cutByWishes_62 : decode cX10_cutByWishes 62 = .ok (.invokevirtual 291, 3) := by decide +kernel
theorem dX10_cutByWishes_65 : decode cX10_cutByWishes 65 = .ok (.istore 6, 2) := by decide +kernel
theorem dX10_cutByWishes_67 : decode cX10_cutByWishes 67 = .ok (.iload 6, 2) := by decide +kernel
theorem dX10_cutByWishes_69 : decode cX10_cutByWishes 69 = .ok (.ifCond .eq 6, 3) := by decide +kernel
theorem dX10_cutByWishes_72 : decode cX10_cutByWishes 72 = .ok (.iload 6, 2) := by decide +kernel
theorem dX10_cutByWishes_74 : decode cX10_cutByWishes 74 = .ok (.ireturn, 1) := by decide +kernel
theorem dX10_cutByWishes_75 : decode cX10_cutByWishes 75 = .ok (.aload_n 0, 1) := by decide +kernel
theorem dX10_cutByWishes_76 : decode cX10_cutByWishes 76 = .ok (.getfield 46, 3) := by decide +kernel
theorem dX10_cutByWishes_79 : decode cX10_cutByWishes 79 = .ok (.iload_n 2, 1) := by decide +kernel
theorem dX10_cutByWishes_80 : decode cX10_cutByWishes 80 = .ok (.iload_n 3, 1) := by decide +kernel
theorem dX10_cutByWishes_81 : decode cX10_cutByWishes 81 = .ok (.iload 4, 2) := by decide +kernel
theorem dX10_cutByWishes_83 : decode cX10_cutByWishes 83 = .ok (.iload 5, 2) := by decide +kernel
theorem dX10_cutByWishes_85 : decode cX10_cutByWishes 85 = .ok (.invokevirtual 294, 3) := by decide +kernel
theorem dX10_cutByWishes_88 : decode cX10_cutByWishes 88 = .ok (.aload_n 0, 1) := by decide +kernel
theorem dX10_cutByWishes_89 : decode cX10_cutByWishes 89 = .ok (.getfield 46, 3) := by decide +kernel
theorem dX10_cutByWishes_92 : decode cX10_cutByWishes 92 = .ok (.aload_n 0, 1) := by decide +kernel
theorem dX10_cutByWishes_93 : decode cX10_cutByWishes 93 = .ok (.getfield 10, 3) := by decide +kernel
theorem dX10_cutByWishes_96 : decode cX10_cutByWishes 96 = .ok (.invokevirtual 297, 3) := by decide +kernel
theorem dX10_cutByWishes_99 : decode cX10_cutByWishes 99 = .ok (.aload_n 0, 1) := by decide +kernel
theorem dX10_cutByWishes_100 : decode cX10_cutByWishes 100 = .ok (.getfield 46, 3) := by decide +kernel
theorem dX10_cutByWishes_103 : decode cX10_cutByWishes 103 = .ok (.aload_n 0, 1) := by decide +kernel
theorem dX10_cutByWishes_104 : decode cX10_cutByWishes 104 = .ok (.getfield 10, 3) := by decide +kernel
theorem dX10_cutByWishes_107 : decode cX10_cutByWishes 107 = .ok (.getfield 191, 3) := by decide +kernel
theorem dX10_cutByWishes_110 : decode cX10_cutByWishes 110 = .ok (.iload_n 1, 1) := by decide +kernel
theorem dX10_cutByWishes_111 : decode cX10_cutByWishes 111 = .ok (.invokevirtual 301, 3) := by decide +kernel
theorem dX10_cutByWishes_114 : decode cX10_cutByWishes 114 = .ok (.iload_n 1, 1) := by decide +kernel
theorem dX10_cutByWishes_115 : decode cX10_cutByWishes 115 = .ok (.iconst (-1), 1) := by decide +kernel
theorem dX10_cutByWishes_116 : decode cX10_cutByWishes 116 = .ok (.if_icmp .eq 23, 3) := by decide +kernel
theorem dX10_cutByWishes_119 : decode cX10_cutByWishes 119 = .ok (.aload_n 0, 1) := by decide +kernel
theorem dX10_cutByWishes_120 : decode cX10_cutByWishes 120 = .ok (.getfield 46, 3) := by decide +kernel
theorem dX10_cutByWishes_123 : decode cX10_cutByWishes 123 = .ok (.aload_n 0, 1) := by decide +kernel
theorem dX10_cutByWishes_124 : decode cX10_cutByWishes 124 = .ok (.getfield 10, 3) := by decide +kernel
theorem dX10_cutByWishes_127 : decode cX10_cutByWishes 127 = .ok (.getfield 191, 3) := by decide +kernel
theorem dX10_cutByWishes_130 : decode cX10_cutByWishes 130 = .ok (.iload_n 1, 1) := by decide +kernel
theorem dX10_cutByWishes_131 : decode cX10_cutByWishes 131 = .ok (.aload_n 0, 1) := by decide +kernel
theorem dX10_cutByWishes_132 : decode cX10_cutByWishes 132 = .ok (.iload_n 1, 1) := by decide +kernel
theorem dX10_cutByWishes_133 : decode cX10_cutByWishes 133 = .ok (.invokevirtual 305, 3) := by decide +kernel
theorem dX10_cutByWishes_136 : decode cX10_cutByWishes 136 = .ok (.invokevirtual 308, 3) := by decide +kernel
theorem dX10_cutByWishes_139 : decode cX10_cutByWishes 139 = .ok (.aload_n 0, 1) := by decide +kernel
theorem dX10_cutByWishes_140 : decode cX10_cutByWishes 140 = .ok (.getfield 46, 3) := by decide +kernel
theorem dX10_cutByWishes_143 : decode cX10_cutByWishes 143 = .ok (.invokevirtual 312, 3) := by decide +kernel
theorem dX10_cutByWishes_146 : decode cX10_cutByWishes 146 = .ok (.istore 7, 2) := by decide +kernel
theorem dX10_cutByWishes_148 : decode cX10_cutByWishes 148 = .ok (.iload 7, 2) := by decide +kernel
theorem dX10_cutByWishes_150 : decode cX10_cutByWishes 150 = .ok (.iconst 1, 1) := by decide +kernel
theorem dX10_cutByWishes_151 : decode cX10_cutByWishes 151 = .ok (.if_icmp .ne 18, 3) := by decide +kernel
theorem dX10_cutByWishes_154 : decode cX10_cutByWishes 154 = .ok (.aload_n 0, 1) := by decide +kernel
theorem dX10_cutByWishes_155 : decode cX10_cutByWishes 155 = .ok (.invokevirtual 81, 3) := by decide +kernel
theorem dX10_cutByWishes_158 : decode cX10_cutByWishes 158 = .ok (.aload_n 0, 1) := by decide +kernel
theorem dX10_cutByWishes_159 : decode cX10_cutByWishes 159 = .ok (.getfield 46, 3) := by decide +kernel
theorem dX10_cutByWishes_162 : decode cX10_cutByWishes 162 = .ok (.aload_n 0, 1) := by decide +kernel
theorem dX10_cutByWishes_163 : decode cX10_cutByWishes 163 = .ok (.getfield 10, 3) := by decide +kernel
theorem dX10_cutByWishes_166 : decode cX10_cutByWishes 166 = .ok (.invokevirtual 315, 3) := by decide +kernel
theorem dX10_cutByWishes_169 : decode cX10_cutByWishes 169 = .ok (.iload 7, 2) := by decide +kernel
theorem dX10_cutByWishes_171 : decode cX10_cutByWishes 171 = .ok (.ireturn, 1) := by decide +kernel
theorem dX10_areCuttingSizes_0 : decode cX10_areCuttingSizes 0 = .ok (.iload_n 0, 1) := by decide +kernel
theorem dX10_areCuttingSizes_1 : decode cX10_areCuttingSizes 1 = .ok (.iconst 1, 1) := by decide +kernel
theorem dX10_areCuttingSizes_2 : decode cX10_areCuttingSizes 2 = .ok (.if_icmp .lt 44, 3) := by decide +kernel
theorem dX10_areCuttingSizes_5 : decode cX10_areCuttingSizes 5 = .ok (.iload_n 0, 1) := by decide +kernel
theorem dX10_areCuttingSizes_6 : decode cX10_areCuttingSizes 6 = .ok (.bipush 6, 2) := by decide +kernel
theorem dX10_areCuttingSizes_8 : decode cX10_areCuttingSizes 8 = .ok (.if_icmp .gt 38, 3) := by decide +kernel
theorem dX10_areCuttingSizes_11 : decode cX10_areCuttingSizes 11 = .ok (.iload_n 1, 1) := by decide +kernel
theorem dX10_areCuttingSizes_12 : decode cX10_areCuttingSizes 12 = .ok (.iconst 1, 1) := by decide +kernel
theorem dX10_areCuttingSizes_13 : decode cX10_areCuttingSizes 13 = .ok (.if_icmp .lt 33, 3) := by decide +kernel
theorem dX10_areCuttingSizes_16 : decode cX10_areCuttingSizes 16 = .ok (.iload_n 1, 1) := by decide +kernel
theorem dX10_areCuttingSizes_17 : decode cX10_areCuttingSizes 17 = .ok (.bipush 6, 2) := by decide +kernel
theorem dX10_areCuttingSizes_19 : decode cX10_areCuttingSizes 19 = .ok (.if_icmp .gt 27, 3) := by decide +kernel
theorem dX10_areCuttingSizes_22 : decode cX10_areCuttingSizes 22 = .ok (.iload_n 2, 1) := by decide +kernel
theorem dX10_areCuttingSizes_23 : decode cX10_areCuttingSizes 23 = .ok (.iconst 1, 1) := by decide +kernel
theorem dX10_areCuttingSizes_24 : decode cX10_areCuttingSizes 24 = .ok (.if_icmp .lt 22, 3) := by decide +kernel
theorem dX10_areCuttingSizes_27 : decode cX10_areCuttingSizes 27 = .ok (.iload_n 2, 1) := by decide +kernel
theorem dX10_areCuttingSizes_28 : decode cX10_areCuttingSizes 28 = .ok (.iconst 5, 1) := by decide +kernel
theorem dX10_areCuttingSizes_29 : decode cX10_areCuttingSizes 29 = .ok (.if_icmp .gt 17, 3) := by decide +kernel
theorem dX10_areCuttingSizes_32 : decode cX10_areCuttingSizes 32 = .ok (.iload_n 3, 1) := by decide +kernel
theorem dX10_areCuttingSizes_33 : decode cX10_areCuttingSizes 33 = .ok (.ifCond .lt 13, 3) := by decide +kernel
theorem dX10_areCuttingSizes_36 : decode cX10_areCuttingSizes 36 = .ok (.iload_n 3, 1) := by decide +kernel
theorem dX10_areCuttingSizes_37 : decode cX10_areCuttingSizes 37 = .ok (.bipush 9, 2) := by decide +kernel
theorem dX10_areCuttingSizes_39 : decode cX10_areCuttingSizes 39 = .ok (.if_icmp .gt 7, 3) := by decide +kernel
theorem dX10_areCuttingSizes_42 : decode cX10_areCuttingSizes 42 = .ok (.iconst 1, 1) := by decide +kernel
theorem dX10_areCuttingSizes_43 : decode cX10_areCuttingSizes 43 = .ok (.goto 4, 3) := by decide +kernel
theorem dX10_areCuttingSizes_46 : decode cX10_areCuttingSizes 46 = .ok (.iconst 0, 1) := by decide +kernel
theorem dX10_areCuttingSizes_47 : decode cX10_areCuttingSizes 47 = .ok (.ireturn, 1) := by decide +kernel
theorem dX10_canBePassedOver_0 : decode cX10_canBePassedOver 0 = .ok (.aload_n 0, 1) := by decide +kernel
theorem dX10_canBePassedOver_1 : decode cX10_canBePassedOver 1 = .ok (.getfield 10, 3) := by decide +kernel
theorem dX10_canBePassedOver_4 : decode cX10_canBePassedOver 4 = .ok (.getfield 191, 3) := by decide +kernel
theorem dX10_canBePassedOver_7 : decode cX10_canBePassedOver 7 = .ok (.iload_n 1, 1) := by decide +kernel
theorem dX10_canBePassedOver_8 : decode cX10_canBePassedOver 8 = .ok (.invokevirtual 202, 3) := by decide +kernel
theorem dX10_canBePassedOver_11 : decode cX10_canBePassedOver 11 = .ok (.ifCond .eq 40, 3) := by decide +kernel
theorem dX10_canBePassedOver_14 : decode cX10_canBePassedOver 14 = .ok (.aload_n 0, 1) := by decide +kernel
theorem dX10_canBePassedOver_15 : decode cX10_canBePassedOver 15 = .ok (.getfield 10, 3) := by decide +kernel
theorem dX10_canBePassedOver_18 : decode cX10_canBePassedOver 18 = .ok (.getfield 191, 3) := by decide +kernel
theorem dX10_canBePassedOver_21 : decode cX10_canBePassedOver 21 = .ok (.getfield 271, 3) := by decide +kernel
theorem dX10_canBePassedOver_24 : decode cX10_canBePassedOver 24 = .ok (.iload_n 1, 1) := by decide +kernel
theorem dX10_canBePassedOver_25 : decode cX10_canBePassedOver 25 = .ok (.iaload, 1) := by decide +kernel
theorem dX10_canBePassedOver_26 : decode cX10_canBePassedOver 26 = .ok (.bipush (-6), 2) := by decide +kernel
theorem dX10_canBePassedOver_28 : decode cX10_canBePassedOver 28 = .ok (.if_icmp .ne 23, 3) := by decide +kernel
theorem dX10_canBePassedOver_31 : decode cX10_canBePassedOver 31 = .ok (.aload_n 0, 1) := by decide +kernel
theorem dX10_canBePassedOver_32 : decode cX10_canBePassedOver 32 = .ok (.getfield 10, 3) := by decide +kernel
theorem dX10_canBePassedOver_35 : decode cX10_canBePassedOver 35 = .ok (.getfield 191, 3) := by decide +kernel
theorem dX10_canBePassedOver_38 : decode cX10_canBePassedOver 38 = .ok (.getfield 203, 3) := by decide +kernel
theorem dX10_canBePassedOver_41 : decode cX10_canBePassedOver 41 = .ok (.iload_n 1, 1) := by decide +kernel
theorem dX10_canBePassedOver_42 : decode cX10_canBePassedOver 42 = .ok (.iaload, 1) := by decide +kernel
theorem dX10_canBePassedOver_43 : decode cX10_canBePassedOver 43 = .ok (.iload_n 2, 1) := by decide +kernel
theorem dX10_canBePassedOver_44 : decode cX10_canBePassedOver 44 = .ok (.if_icmp .ne 7, 3) := by decide +kernel
theorem dX10_canBePassedOver_47 : decode cX10_canBePassedOver 47 = .ok (.iconst 1, 1) := by decide +kernel
theorem dX10_canBePassedOver_48 : decode cX10_canBePassedOver 48 = .ok (.goto 4, 3) := by decide +kernel
theorem dX10_canBePassedOver_51 : decode cX10_canBePassedOver 51 = .ok (.iconst 0, 1) := by decide +kernel
theorem dX10_canBePassedOver_52 : decode cX10_canBePassedOver 52 = .ok (.ireturn, 1) := by decide +kernel
theorem dX10_doorsRefusal_0 : decode cX10_doorsRefusal 0 = .ok (.iconst 0, 1) := by decide +kernel
theorem dX10_doorsRefusal_1 : decode cX10_doorsRefusal 1 = .ok (.istore_n 3, 1) := by decide +kernel
theorem dX10_doorsRefusal_2 : decode cX10_doorsRefusal 2 = .ok (.iload_n 3, 1) := by decide +kernel
theorem dX10_doorsRefusal_3 : decode cX10_doorsRefusal 3 = .ok (.iload_n 1, 1) := by decide +kernel
theorem dX10_doorsRefusal_4 : decode cX10_doorsRefusal 4 = .ok (.if_icmp .ge 81, 3) := by decide +kernel
theorem dX10_doorsRefusal_7 : decode cX10_doorsRefusal 7 = .ok (.aload_n 0, 1) := by decide +kernel
theorem dX10_doorsRefusal_8 : decode cX10_doorsRefusal 8 = .ok (.getfield 10, 3) := by decide +kernel
theorem dX10_doorsRefusal_11 : decode cX10_doorsRefusal 11 = .ok (.getfield 225, 3) := by decide +kernel
theorem dX10_doorsRefusal_14 : decode cX10_doorsRefusal 14 = .ok (.iload_n 3, 1) := by decide +kernel
theorem dX10_doorsRefusal_15 : decode cX10_doorsRefusal 15 = .ok (.iaload, 1) := by decide +kernel
theorem dX10_doorsRefusal_16 : decode cX10_doorsRefusal 16 = .ok (.istore 4, 2) := by decide +kernel
theorem dX10_doorsRefusal_18 : decode cX10_doorsRefusal 18 = .ok (.iload 4, 2) := by decide +kernel
theorem dX10_doorsRefusal_20 : decode cX10_doorsRefusal 20 = .ok (.iconst (-1), 1) := by decide +kernel
theorem dX10_doorsRefusal_21 : decode cX10_doorsRefusal 21 = .ok (.if_icmp .ne 6, 3) := by decide +kernel
theorem dX10_doorsRefusal_24 : decode cX10_doorsRefusal 24 = .ok (.bipush (-11), 2) := by decide +kernel
theorem dX10_doorsRefusal_26 : decode cX10_doorsRefusal 26 = .ok (.ireturn, 1) := by decide +kernel
theorem dX10_doorsRefusal_27 : decode cX10_doorsRefusal 27 = .ok (.aload_n 0, 1) := by decide +kernel
theorem dX10_doorsRefusal_28 : decode cX10_doorsRefusal 28 = .ok (.getfield 10, 3) := by decide +kernel
theorem dX10_doorsRefusal_31 : decode cX10_doorsRefusal 31 = .ok (.getfield 72, 3) := by decide +kernel
theorem dX10_doorsRefusal_34 : decode cX10_doorsRefusal 34 = .ok (.iload 4, 2) := by decide +kernel
theorem dX10_doorsRefusal_36 : decode cX10_doorsRefusal 36 = .ok (.invokevirtual 157, 3) := by decide +kernel
theorem dX10_doorsRefusal_39 : decode cX10_doorsRefusal 39 = .ok (.istore 5, 2) := by decide +kernel
theorem dX10_doorsRefusal_41 : decode cX10_doorsRefusal 41 = .ok (.iload 5, 2) := by decide +kernel
theorem dX10_doorsRefusal_43 : decode cX10_doorsRefusal 43 = .ok (.ifCond .eq 6, 3) := by decide +kernel
theorem dX10_doorsRefusal_46 : decode cX10_doorsRefusal 46 = .ok (.iload 5, 2) := by decide +kernel
theorem dX10_doorsRefusal_48 : decode cX10_doorsRefusal 48 = .ok (.ireturn, 1) := by decide +kernel
theorem dX10_doorsRefusal_49 : decode cX10_doorsRefusal 49 = .ok (.aload_n 0, 1) := by decide +kernel
theorem dX10_doorsRefusal_50 : decode cX10_doorsRefusal 50 = .ok (.getfield 10, 3) := by decide +kernel
theorem dX10_doorsRefusal_53 : decode cX10_doorsRefusal 53 = .ok (.getfield 72, 3) := by decide +kernel
theorem dX10_doorsRefusal_56 : decode cX10_doorsRefusal 56 = .ok (.getfield 160, 3) := by decide +kernel
theorem dX10_doorsRefusal_59 : decode cX10_doorsRefusal 59 = .ok (.iload 4, 2) := by decide +kernel
theorem dX10_doorsRefusal_61 : decode cX10_doorsRefusal 61 = .ok (.iaload, 1) := by decide +kernel
theorem dX10_doorsRefusal_62 : decode cX10_doorsRefusal 62 = .ok (.iload_n 2, 1) := by decide +kernel
theorem dX10_doorsRefusal_63 : decode cX10_doorsRefusal 63 = .ok (.if_icmp .ne 13, 3) := by decide +kernel
theorem dX10_doorsRefusal_66 : decode cX10_doorsRefusal 66 = .ok (.aload_n 0, 1) := by decide +kernel
theorem dX10_doorsRefusal_67 : decode cX10_doorsRefusal 67 = .ok (.iload 4, 2) := by decide +kernel
theorem dX10_doorsRefusal_69 : decode cX10_doorsRefusal 69 = .ok (.iload_n 3, 1) := by decide +kernel
theorem dX10_doorsRefusal_70 : decode cX10_doorsRefusal 70 = .ok (.invokevirtual 318, 3) := by decide +kernel
theorem dX10_doorsRefusal_73 : decode cX10_doorsRefusal 73 = .ok (.ifCond .eq 6, 3) := by decide +kernel
theorem dX10_doorsRefusal_76 : decode cX10_doorsRefusal 76 = .ok (.bipush (-3), 2) := by decide +kernel
theorem dX10_doorsRefusal_78 : decode cX10_doorsRefusal 78 = .ok (.ireturn, 1) := by decide +kernel
theorem dX10_doorsRefusal_79 : decode cX10_doorsRefusal 79 = .ok (.iinc 3 1, 3) := by decide +kernel
theorem dX10_doorsRefusal_82 : decode cX10_doorsRefusal 82 = .ok (.goto (-80), 3) := by decide +kernel
theorem dX10_doorsRefusal_85 : decode cX10_doorsRefusal 85 = .ok (.iconst 0, 1) := by decide +kernel
theorem dX10_doorsRefusal_86 : decode cX10_doorsRefusal 86 = .ok (.ireturn, 1) := by decide +kernel
theorem dX10_isFittedAhead_0 : decode cX10_isFittedAhead 0 = .ok (.iconst 0, 1) := by decide +kernel
theorem dX10_isFittedAhead_1 : decode cX10_isFittedAhead 1 = .ok (.istore_n 3, 1) := by decide +kernel
theorem dX10_isFittedAhead_2 : decode cX10_isFittedAhead 2 = .ok (.iload_n 3, 1) := by decide +kernel
theorem dX10_isFittedAhead_3 : decode cX10_isFittedAhead 3 = .ok (.iload_n 2, 1) := by decide +kernel
theorem dX10_isFittedAhead_4 : decode cX10_isFittedAhead 4 = .ok (.if_icmp .ge 24, 3) := by decide +kernel
theorem dX10_isFittedAhead_7 : decode cX10_isFittedAhead 7 = .ok (.aload_n 0, 1) := by decide +kernel
theorem dX10_isFittedAhead_8 : decode cX10_isFittedAhead 8 = .ok (.getfield 10, 3) := by decide +kernel
theorem dX10_isFittedAhead_11 : decode cX10_isFittedAhead 11 = .ok (.getfield 225, 3) := by decide +kernel
theorem dX10_isFittedAhead_14 : decode cX10_isFittedAhead 14 = .ok (.iload_n 3, 1) := by decide +kernel
theorem dX10_isFittedAhead_15 : decode cX10_isFittedAhead 15 = .ok (.iaload, 1) := by decide +kernel
theorem dX10_isFittedAhead_16 : decode cX10_isFittedAhead 16 = .ok (.iload_n 1, 1) := by decide +kernel
theorem dX10_isFittedAhead_17 : decode cX10_isFittedAhead 17 = .ok (.if_icmp .ne 5, 3) := by decide +kernel
theorem dX10_isFittedAhead_20 : decode cX10_isFittedAhead 20 = .ok (.iconst 1, 1) := by decide +kernel
theorem dX10_isFittedAhead_21 : decode cX10_isFittedAhead 21 = .ok (.ireturn, 1) := by decide +kernel
theorem dX10_isFittedAhead_22 : decode cX10_isFittedAhead 22 = .ok (.iinc 3 1, 3) := by decide +kernel
theorem dX10_isFittedAhead_25 : decode cX10_isFittedAhead 25 = .ok (.goto (-23), 3) := by decide +kernel
theorem dX10_isFittedAhead_28 : decode cX10_isFittedAhead 28 = .ok (.iconst 0, 1) := by decide +kernel
theorem dX10_isFittedAhead_29 : decode cX10_isFittedAhead 29 = .ok (.ireturn, 1) := by decide +kernel
theorem dX10_trials_0 : decode cX10_trials 0 = .ok (.aload_n 0, 1) := by decide +kernel
theorem dX10_trials_1 : decode cX10_trials 1 = .ok (.getfield 46, 3) := by decide +kernel
theorem dX10_trials_4 : decode cX10_trials 4 = .ok (.getfield 321, 3) := by decide +kernel
theorem dX10_trials_7 : decode cX10_trials 7 = .ok (.ireturn, 1) := by decide +kernel
theorem dX10_count_0 : decode cX10_count 0 = .ok (.aload_n 0, 1) := by decide +kernel
theorem dX10_count_1 : decode cX10_count 1 = .ok (.getfield 10, 3) := by decide +kernel
theorem dX10_count_4 : decode cX10_count 4 = .ok (.iload_n 1, 1) := by decide +kernel
theorem dX10_count_5 : decode cX10_count 5 = .ok (.invokevirtual 222, 3) := by decide +kernel
theorem dX10_count_8 : decode cX10_count 8 = .ok (.ifCond .eq 23, 3) := by decide +kernel
theorem dX10_count_11 : decode cX10_count 11 = .ok (.iload_n 2, 1) := by decide +kernel
theorem dX10_count_12 : decode cX10_count 12 = .ok (.ifCond .lt 19, 3) := by decide +kernel
theorem dX10_count_15 : decode cX10_count 15 = .ok (.iload_n 2, 1) := by decide +kernel
theorem dX10_count_16 : decode cX10_count 16 = .ok (.bipush 18, 2) := by decide +kernel
theorem dX10_count_18 : decode cX10_count 18 = .ok (.if_icmp .gt 13, 3) := by decide +kernel
theorem dX10_count_21 : decode cX10_count 21 = .ok (.iload_n 3, 1) := by decide +kernel
theorem dX10_count_22 : decode cX10_count 22 = .ok (.ifCond .lt 9, 3) := by decide +kernel
theorem dX10_count_25 : decode cX10_count 25 = .ok (.iload_n 3, 1) := by decide +kernel
theorem dX10_count_26 : decode cX10_count 26 = .ok (.bipush 9, 2) := by decide +kernel
theorem dX10_count_28 : decode cX10_count 28 = .ok (.if_icmp .le 7, 3) := by decide +kernel
theorem dX10_count_31 : decode cX10_count 31 = .ok (.ldc2_w 324, 3) := by decide +kernel
theorem dX10_count_34 : decode cX10_count 34 = .ok (.lreturn, 1) := by decide +kernel
theorem dX10_count_35 : decode cX10_count 35 = .ok (.aload_n 0, 1) := by decide +kernel
theorem dX10_count_36 : decode cX10_count 36 = .ok (.getfield 53, 3) := by decide +kernel
theorem dX10_count_39 : decode cX10_count 39 = .ok (.aload_n 0, 1) := by decide +kernel
theorem dX10_count_40 : decode cX10_count 40 = .ok (.getfield 10, 3) := by decide +kernel
theorem dX10_count_43 : decode cX10_count 43 = .ok (.getfield 72, 3) := by decide +kernel
theorem dX10_count_46 : decode cX10_count 46 = .ok (.aload_n 0, 1) := by decide +kernel
theorem dX10_count_47 : decode cX10_count 47 = .ok (.getfield 10, 3) := by decide +kernel
theorem dX10_count_50 : decode cX10_count 50 = .ok (.getfield 225, 3) := by decide +kernel
theorem dX10_count_53 : decode cX10_count 53 = .ok (.iload_n 1, 1) := by decide +kernel
theorem dX10_count_54 : decode cX10_count 54 = .ok (.iaload, 1) := by decide +kernel
theorem dX10_count_55 : decode cX10_count 55 = .ok (.iload_n 2, 1) := by decide +kernel
theorem dX10_count_56 : decode cX10_count 56 = .ok (.iload_n 3, 1) := by decide +kernel
theorem dX10_count_57 : decode cX10_count 57 = .ok (.invokevirtual 326, 3) := by decide +kernel
theorem dX10_count_60 : decode cX10_count 60 = .ok (.lstore 4, 2) := by decide +kernel
theorem dX10_count_62 : decode cX10_count 62 = .ok (.aload_n 0, 1) := by decide +kernel
theorem dX10_count_63 : decode cX10_count 63 = .ok (.lload 4, 2) := by decide +kernel
theorem dX10_count_65 : decode cX10_count 65 = .ok (.ldc2_w 330, 3) := by decide +kernel
theorem dX10_count_68 : decode cX10_count 68 = .ok (.lcmp, 1) := by decide +kernel
theorem dX10_count_69 : decode cX10_count 69 = .ok (.ifCond .ne 8, 3) := by decide +kernel
theorem dX10_count_72 : decode cX10_count 72 = .ok (.bipush (-11), 2) := by decide +kernel
theorem dX10_count_74 : decode cX10_count 74 = .ok (.goto 4, 3) := by decide +kernel
theorem dX10_count_77 : decode cX10_count 77 = .ok (.iconst 0, 1) := by decide +kernel
theorem dX10_count_78 : decode cX10_count 78 = .ok (.invokevirtual 68, 3) := by decide +kernel
theorem dX10_count_81 : decode cX10_count 81 = .ok (.pop, 1) := by decide +kernel
theorem dX10_count_82 : decode cX10_count 82 = .ok (.lload 4, 2) := by decide +kernel
theorem dX10_count_84 : decode cX10_count 84 = .ok (.lreturn, 1) := by decide +kernel
theorem dX10_carry_0 : decode cX10_carry 0 = .ok (.aload_n 0, 1) := by decide +kernel
theorem dX10_carry_1 : decode cX10_carry 1 = .ok (.iload_n 1, 1) := by decide +kernel
theorem dX10_carry_2 : decode cX10_carry 2 = .ok (.invokevirtual 332, 3) := by decide +kernel
theorem dX10_carry_5 : decode cX10_carry 5 = .ok (.ifCond .ne 6, 3) := by decide +kernel
theorem dX10_carry_8 : decode cX10_carry 8 = .ok (.bipush (-2), 2) := by decide +kernel
theorem dX10_carry_10 : decode cX10_carry 10 = .ok (.ireturn, 1) := by decide +kernel
theorem dX10_carry_11 : decode cX10_carry 11 = .ok (.aload_n 0, 1) := by decide +kernel
theorem dX10_carry_12 : decode cX10_carry 12 = .ok (.getfield 10, 3) := by decide +kernel
theorem dX10_carry_15 : decode cX10_carry 15 = .ok (.getfield 191, 3) := by decide +kernel
theorem dX10_carry_18 : decode cX10_carry 18 = .ok (.getfield 209, 3) := by decide +kernel
theorem dX10_carry_21 : decode cX10_carry 21 = .ok (.bipush 14, 2) := by decide +kernel
theorem dX10_carry_23 : decode cX10_carry 23 = .ok (.invokestatic 335, 3) := by decide +kernel
theorem dX10_carry_26 : decode cX10_carry 26 = .ok (.istore_n 2, 1) := by decide +kernel
theorem dX10_carry_27 : decode cX10_carry 27 = .ok (.aload_n 0, 1) := by decide +kernel
theorem dX10_carry_28 : decode cX10_carry 28 = .ok (.getfield 60, 3) := by decide +kernel
theorem dX10_carry_31 : decode cX10_carry 31 = .ok (.invokevirtual 340, 3) := by decide +kernel
theorem dX10_carry_34 : decode cX10_carry 34 = .ok (.iconst 0, 1) := by decide +kernel
theorem dX10_carry_35 : decode cX10_carry 35 = .ok (.istore_n 3, 1) := by decide +kernel
theorem dX10_carry_36 : decode cX10_carry 36 = .ok (.iload_n 3, 1) := by decide +kernel
theorem dX10_carry_37 : decode cX10_carry 37 = .ok (.iload_n 2, 1) := by decide +kernel
theorem dX10_carry_38 : decode cX10_carry 38 = .ok (.if_icmp .ge 21, 3) := by decide +kernel
theorem dX10_carry_41 : decode cX10_carry 41 = .ok (.aload_n 0, 1) := by decide +kernel
theorem dX10_carry_42 : decode cX10_carry 42 = .ok (.getfield 60, 3) := by decide +kernel
theorem dX10_carry_45 : decode cX10_carry 45 = .ok (.aload_n 0, 1) := by decide +kernel
theorem dX10_carry_46 : decode cX10_carry 46 = .ok (.iload_n 3, 1) := by decide +kernel
theorem dX10_carry_47 : decode cX10_carry 47 = .ok (.invokevirtual 305, 3) := by decide +kernel
theorem dX10_carry_50 : decode cX10_carry 50 = .ok (.invokevirtual 341, 3) := by decide +kernel
theorem dX10_carry_53 : decode cX10_carry 53 = .ok (.iinc 3 1, 3) := by decide +kernel
theorem dX10_carry_56 : decode cX10_carry 56 = .ok (.goto (-20), 3) := by decide +kernel
theorem dX10_carry_59 : decode cX10_carry 59 = .ok (.aload_n 0, 1) := by decide +kernel
theorem dX10_carry_60 : decode cX10_carry 60 = .ok (.getfield 60, 3) := by decide +kernel
theorem dX10_carry_63 : decode cX10_carry 63 = .ok (.iload_n 1, 1) := by decide +kernel
theorem dX10_carry_64 : decode cX10_carry 64 = .ok (.invokevirtual 345, 3) := by decide +kernel
theorem dX10_carry_67 : decode cX10_carry 67 = .ok (.ireturn, 1) := by decide +kernel
theorem dX10_closed_0 : decode cX10_closed 0 = .ok (.aload_n 0, 1) := by decide +kernel
theorem dX10_closed_1 : decode cX10_closed 1 = .ok (.iload_n 1, 1) := by decide +kernel
theorem dX10_closed_2 : decode cX10_closed 2 = .ok (.invokevirtual 332, 3) := by decide +kernel
theorem dX10_closed_5 : decode cX10_closed 5 = .ok (.ifCond .ne 6, 3) := by decide +kernel
theorem dX10_closed_8 : decode cX10_closed 8 = .ok (.bipush (-2), 2) := by decide +kernel
theorem dX10_closed_10 : decode cX10_closed 10 = .ok (.ireturn, 1) := by decide +kernel
theorem dX10_closed_11 : decode cX10_closed 11 = .ok (.aload_n 0, 1) := by decide +kernel
theorem dX10_closed_12 : decode cX10_closed 12 = .ok (.getfield 10, 3) := by decide +kernel
theorem dX10_closed_15 : decode cX10_closed 15 = .ok (.getfield 191, 3) := by decide +kernel
theorem dX10_closed_18 : decode cX10_closed 18 = .ok (.getfield 209, 3) := by decide +kernel
theorem dX10_closed_21 : decode cX10_closed 21 = .ok (.bipush 14, 2) := by decide +kernel
theorem dX10_closed_23 : decode cX10_closed 23 = .ok (.invokestatic 335, 3) := by decide +kernel
theorem dX10_closed_26 : decode cX10_closed 26 = .ok (.istore_n 2, 1) := by decide +kernel
theorem dX10_closed_27 : decode cX10_closed 27 = .ok (.iconst 0, 1) := by decide +kernel
theorem dX10_closed_28 : decode cX10_closed 28 = .ok (.istore_n 3, 1) := by decide +kernel
theorem dX10_closed_29 : decode cX10_closed 29 = .ok (.iconst 0, 1) := by decide +kernel
theorem dX10_closed_30 : decode cX10_closed 30 = .ok (.istore 4, 2) := by decide +kernel
theorem dX10_closed_32 : decode cX10_closed 32 = .ok (.iload 4, 2) := by decide +kernel
theorem dX10_closed_34 : decode cX10_closed 34 = .ok (.iload_n 2, 1) := by decide +kernel
theorem dX10_closed_35 : decode cX10_closed 35 = .ok (.if_icmp .ge 18, 3) := by decide +kernel
theorem dX10_closed_38 : decode cX10_closed 38 = .ok (.iload_n 3, 1) := by decide +kernel
theorem dX10_closed_39 : decode cX10_closed 39 = .ok (.aload_n 0, 1) := by decide +kernel
theorem dX10_closed_40 : decode cX10_closed 40 = .ok (.iload 4, 2) := by decide +kernel
theorem dX10_closed_42 : decode cX10_closed 42 = .ok (.invokevirtual 305, 3) := by decide +kernel
theorem dX10_closed_45 : decode cX10_closed 45 = .ok (.ior, 1) := by decide +kernel
theorem dX10_closed_46 : decode cX10_closed 46 = .ok (.istore_n 3, 1) := by decide +kernel
theorem dX10_closed_47 : decode cX10_closed 47 = .ok (.iinc 4 1, 3) := by decide +kernel
theorem dX10_closed_50 : decode cX10_closed 50 = .ok (.goto (-18), 3) := by decide +kernel
theorem dX10_closed_53 : decode cX10_closed 53 = .ok (.iload_n 1, 1) := by decide +kernel
theorem dX10_closed_54 : decode cX10_closed 54 = .ok (.iload_n 3, 1) := by decide +kernel
theorem dX10_closed_55 : decode cX10_closed 55 = .ok (.iconst (-1), 1) := by decide +kernel
theorem dX10_closed_56 : decode cX10_closed 56 = .ok (.ixor, 1) := by decide +kernel
theorem dX10_closed_57 : decode cX10_closed 57 = .ok (.iand, 1) := by decide +kernel
theorem dX10_closed_58 : decode cX10_closed 58 = .ok (.ireturn, 1) := by decide +kernel
theorem dX10_endangered_0 : decode cX10_endangered 0 = .ok (.aload_n 0, 1) := by decide +kernel
theorem dX10_endangered_1 : decode cX10_endangered 1 = .ok (.getfield 10, 3) := by decide +kernel
theorem dX10_endangered_4 : decode cX10_endangered 4 = .ok (.getfield 191, 3) := by decide +kernel
theorem dX10_endangered_7 : decode cX10_endangered 7 = .ok (.iload_n 1, 1) := by decide +kernel
theorem dX10_endangered_8 : decode cX10_endangered 8 = .ok (.invokevirtual 202, 3) := by decide +kernel
theorem dX10_endangered_11 : decode cX10_endangered 11 = .ok (.ifCond .eq 11, 3) := by decide +kernel
theorem dX10_endangered_14 : decode cX10_endangered 14 = .ok (.aload_n 0, 1) := by decide +kernel
theorem dX10_endangered_15 : decode cX10_endangered 15 = .ok (.iload_n 1, 1) := by decide +kernel
theorem dX10_endangered_16 : decode cX10_endangered 16 = .ok (.invokevirtual 305, 3) := by decide +kernel
theorem dX10_endangered_19 : decode cX10_endangered 19 = .ok (.goto 5, 3) := by decide +kernel
theorem dX10_endangered_22 : decode cX10_endangered 22 = .ok (.bipush (-2), 2) := by decide +kernel
theorem dX10_endangered_24 : decode cX10_endangered 24 = .ok (.ireturn, 1) := by decide +kernel
theorem dX10_areDoors_0 : decode cX10_areDoors 0 = .ok (.iload_n 1, 1) := by decide +kernel
theorem dX10_areDoors_1 : decode cX10_areDoors 1 = .ok (.ifCond .ge 5, 3) := by decide +kernel
theorem dX10_areDoors_4 : decode cX10_areDoors 4 = .ok (.iconst 0, 1) := by decide +kernel
theorem dX10_areDoors_5 : decode cX10_areDoors 5 = .ok (.ireturn, 1) := by decide +kernel
theorem dX10_areDoors_6 : decode cX10_areDoors 6 = .ok (.aload_n 0, 1) := by decide +kernel
theorem dX10_areDoors_7 : decode cX10_areDoors 7 = .ok (.getfield 10, 3) := by decide +kernel
theorem dX10_areDoors_10 : decode cX10_areDoors 10 = .ok (.getfield 265, 3) := by decide +kernel
theorem dX10_areDoors_13 : decode cX10_areDoors 13 = .ok (.bipush 31, 2) := by decide +kernel
theorem dX10_areDoors_15 : decode cX10_areDoors 15 = .ok (.if_icmp .ge 15, 3) := by decide +kernel
theorem dX10_areDoors_18 : decode cX10_areDoors 18 = .ok (.iload_n 1, 1) := by decide +kernel
theorem dX10_areDoors_19 : decode cX10_areDoors 19 = .ok (.aload_n 0, 1) := by decide +kernel
theorem dX10_areDoors_20 : decode cX10_areDoors 20 = .ok (.getfield 10, 3) := by decide +kernel
theorem dX10_areDoors_23 : decode cX10_areDoors 23 = .ok (.getfield 265, 3) := by decide +kernel
theorem dX10_areDoors_26 : decode cX10_areDoors 26 = .ok (.ishr, 1) := by decide +kernel
theorem dX10_areDoors_27 : decode cX10_areDoors 27 = .ok (.ifCond .ne 7, 3) := by decide +kernel
theorem dX10_areDoors_30 : decode cX10_areDoors 30 = .ok (.iconst 1, 1) := by decide +kernel
theorem dX10_areDoors_31 : decode cX10_areDoors 31 = .ok (.goto 4, 3) := by decide +kernel
theorem dX10_areDoors_34 : decode cX10_areDoors 34 = .ok (.iconst 0, 1) := by decide +kernel
theorem dX10_areDoors_35 : decode cX10_areDoors 35 = .ok (.ireturn, 1) := by decide +kernel
theorem dX10_doorsThatOpen_0 : decode cX10_doorsThatOpen 0 = .ok (.aload_n 0, 1) := by decide +kernel
theorem dX10_doorsThatOpen_1 : decode cX10_doorsThatOpen 1 = .ok (.getfield 10, 3) := by decide +kernel
theorem dX10_doorsThatOpen_4 : decode cX10_doorsThatOpen 4 = .ok (.getfield 265, 3) := by decide +kernel
theorem dX10_doorsThatOpen_7 : decode cX10_doorsThatOpen 7 = .ok (.bipush 31, 2) := by decide +kernel
theorem dX10_doorsThatOpen_9 : decode cX10_doorsThatOpen 9 = .ok (.invokestatic 335, 3) := by decide +kernel
theorem dX10_doorsThatOpen_12 : decode cX10_doorsThatOpen 12 = .ok (.istore_n 2, 1) := by decide +kernel
theorem dX10_doorsThatOpen_13 : decode cX10_doorsThatOpen 13 = .ok (.iconst 0, 1) := by decide +kernel
theorem dX10_doorsThatOpen_14 : decode cX10_doorsThatOpen 14 = .ok (.istore_n 3, 1) := by decide +kernel
theorem dX10_doorsThatOpen_15 : decode cX10_doorsThatOpen 15 = .ok (.iconst 0, 1) := by decide +kernel
theorem dX10_doorsThatOpen_16 : decode cX10_doorsThatOpen 16 = .ok (.istore 4, 2) := by decide +kernel
theorem dX10_doorsThatOpen_18 : decode cX10_doorsThatOpen 18 = .ok (.iload 4, 2) := by decide +kernel
theorem dX10_doorsThatOpen_20 : decode cX10_doorsThatOpen 20 = .ok (.iload_n 2, 1) := by decide +kernel
theorem dX10_doorsThatOpen_21 : decode cX10_doorsThatOpen 21 = .ok (.if_icmp .ge 49, 3) := by decide +kernel
theorem dX10_doorsThatOpen_24 : decode cX10_doorsThatOpen 24 = .ok (.aload_n 0, 1) := by decide +kernel
theorem dX10_doorsThatOpen_25 : decode cX10_doorsThatOpen 25 = .ok (.getfield 40, 3) := by decide +kernel
theorem dX10_doorsThatOpen_28 : decode cX10_doorsThatOpen 28 = .ok (.invokevirtual 217, 3) := by decide +kernel
theorem dX10_doorsThatOpen_31 : decode cX10_doorsThatOpen 31 = .ok (.aload_n 0, 1) := by decide +kernel
theorem dX10_doorsThatOpen_32 : decode cX10_doorsThatOpen 32 = .ok (.getfield 40, 3) := by decide +kernel
theorem dX10_doorsThatOpen_35 : decode cX10_doorsThatOpen 35 = .ok (.aload_n 0, 1) := by decide +kernel
theorem dX10_doorsThatOpen_36 : decode cX10_doorsThatOpen 36 = .ok (.getfield 10, 3) := by decide +kernel
theorem dX10_doorsThatOpen_39 : decode cX10_doorsThatOpen 39 = .ok (.iload_n 1, 1) := by decide +kernel
theorem dX10_doorsThatOpen_40 : decode cX10_doorsThatOpen 40 = .ok (.aload_n 0, 1) := by decide +kernel
theorem dX10_doorsThatOpen_41 : decode cX10_doorsThatOpen 41 = .ok (.getfield 10, 3) := by decide +kernel
theorem dX10_doorsThatOpen_44 : decode cX10_doorsThatOpen 44 = .ok (.getfield 225, 3) := by decide +kernel
theorem dX10_doorsThatOpen_47 : decode cX10_doorsThatOpen 47 = .ok (.iload 4, 2) := by decide +kernel
theorem dX10_doorsThatOpen_49 : decode cX10_doorsThatOpen 49 = .ok (.iaload, 1) := by decide +kernel
theorem dX10_doorsThatOpen_50 : decode cX10_doorsThatOpen 50 = .ok (.invokevirtual 218, 3) := by decide +kernel
theorem dX10_doorsThatOpen_53 : decode cX10_doorsThatOpen 53 = .ok (.iconst 1, 1) := by decide +kernel
theorem dX10_doorsThatOpen_54 : decode cX10_doorsThatOpen 54 = .ok (.if_icmp .ne 10, 3) := by decide +kernel
theorem dX10_doorsThatOpen_57 : decode cX10_doorsThatOpen 57 = .ok (.iload_n 3, 1) := by decide +kernel
theorem dX10_doorsThatOpen_58 : decode cX10_doorsThatOpen 58 = .ok (.iconst 1, 1) := by decide +kernel
theorem dX10_doorsThatOpen_59 : decode cX10_doorsThatOpen 59 = .ok (.iload 4, 2) := by decide +kernel
theorem dX10_doorsThatOpen_61 : decode cX10_doorsThatOpen 61 = .ok (.ishl, 1) := by decide +kernel
theorem dX10_doorsThatOpen_62 : decode cX10_doorsThatOpen 62 = .ok (.ior, 1) := by decide +kernel
theorem dX10_doorsThatOpen_63 : decode cX10_doorsThatOpen 63 = .ok (.istore_n 3, 1) := by decide +kernel
theorem dX10_doorsThatOpen_64 : decode cX10_doorsThatOpen 64 = .ok (.iinc 4 1, 3) := by decide +kernel
theorem dX10_doorsThatOpen_67 : decode cX10_doorsThatOpen 67 = .ok (.goto (-49), 3) := by decide +kernel
theorem dX10_doorsThatOpen_70 : decode cX10_doorsThatOpen 70 = .ok (.iload_n 3, 1) := by decide +kernel
theorem dX10_doorsThatOpen_71 : decode cX10_doorsThatOpen 71 = .ok (.ireturn, 1) := by decide +kernel
theorem dX10_undo_0 : decode cX10_undo 0 = .ok (.aload_n 0, 1) := by decide +kernel
theorem dX10_undo_1 : decode cX10_undo 1 = .ok (.getfield 19, 3) := by decide +kernel
theorem dX10_undo_4 : decode cX10_undo 4 = .ok (.ifCond .ne 6, 3) := by decide +kernel
theorem dX10_undo_7 : decode cX10_undo 7 = .ok (.bipush (-3), 2) := by decide +kernel
theorem dX10_undo_9 : decode cX10_undo 9 = .ok (.ireturn, 1) := by decide +kernel
theorem dX10_undo_10 : decode cX10_undo 10 = .ok (.aload_n 0, 1) := by decide +kernel
theorem dX10_undo_11 : decode cX10_undo 11 = .ok (.getfield 10, 3) := by decide +kernel
theorem dX10_undo_14 : decode cX10_undo 14 = .ok (.astore_n 1, 1) := by decide +kernel
theorem dX10_undo_15 : decode cX10_undo 15 = .ok (.aload_n 0, 1) := by decide +kernel
theorem dX10_undo_16 : decode cX10_undo 16 = .ok (.aload_n 0, 1) := by decide +kernel
theorem dX10_undo_17 : decode cX10_undo 17 = .ok (.getfield 16, 3) := by decide +kernel
theorem dX10_undo_20 : decode cX10_undo 20 = .ok (.putfield 10, 3) := by decide +kernel
theorem dX10_undo_23 : decode cX10_undo 23 = .ok (.aload_n 0, 1) := by decide +kernel
theorem dX10_undo_24 : decode cX10_undo 24 = .ok (.aload_n 1, 1) := by decide +kernel
theorem dX10_undo_25 : decode cX10_undo 25 = .ok (.putfield 16, 3) := by decide +kernel
theorem dX10_undo_28 : decode cX10_undo 28 = .ok (.aload_n 0, 1) := by decide +kernel
theorem dX10_undo_29 : decode cX10_undo 29 = .ok (.iconst 0, 1) := by decide +kernel
theorem dX10_undo_30 : decode cX10_undo 30 = .ok (.putfield 19, 3) := by decide +kernel
theorem dX10_undo_33 : decode cX10_undo 33 = .ok (.iconst 1, 1) := by decide +kernel
theorem dX10_undo_34 : decode cX10_undo 34 = .ok (.ireturn, 1) := by decide +kernel
theorem dX10_finding_0 : decode cX10_finding 0 = .ok (.aload_n 0, 1) := by decide +kernel
theorem dX10_finding_1 : decode cX10_finding 1 = .ok (.getfield 27, 3) := by decide +kernel
theorem dX10_finding_4 : decode cX10_finding 4 = .ok (.ireturn, 1) := by decide +kernel
theorem dX10_trace_0 : decode cX10_trace 0 = .ok (.aload_n 0, 1) := by decide +kernel
theorem dX10_trace_1 : decode cX10_trace 1 = .ok (.getfield 36, 3) := by decide +kernel
theorem dX10_trace_4 : decode cX10_trace 4 = .ok (.getfield 163, 3) := by decide +kernel
theorem dX10_trace_7 : decode cX10_trace 7 = .ok (.iload_n 1, 1) := by decide +kernel
theorem dX10_trace_8 : decode cX10_trace 8 = .ok (.invokevirtual 348, 3) := by decide +kernel
theorem dX10_trace_11 : decode cX10_trace 11 = .ok (.ireturn, 1) := by decide +kernel
theorem dX10_told_0 : decode cX10_told 0 = .ok (.iload_n 1, 1) := by decide +kernel
theorem dX10_told_1 : decode cX10_told 1 = .ok (.tableswitch 144 0 9 #[55, 66, 77, 88, 96, 104, 112, 117, 122, 133], 55) := by decide +kernel
theorem dX10_told_56 : decode cX10_told 56 = .ok (.aload_n 0, 1) := by decide +kernel
theorem dX10_told_57 : decode cX10_told 57 = .ok (.getfield 10, 3) := by decide +kernel
theorem dX10_told_60 : decode cX10_told 60 = .ok (.getfield 72, 3) := by decide +kernel
theorem dX10_told_63 : decode cX10_told 63 = .ok (.getfield 76, 3) := by decide +kernel
theorem dX10_told_66 : decode cX10_told 66 = .ok (.ireturn, 1) := by decide +kernel
theorem dX10_told_67 : decode cX10_told 67 = .ok (.aload_n 0, 1) := by decide +kernel
theorem dX10_told_68 : decode cX10_told 68 = .ok (.getfield 10, 3) := by decide +kernel
theorem dX10_told_71 : decode cX10_told 71 = .ok (.getfield 191, 3) := by decide +kernel
theorem dX10_told_74 : decode cX10_told 74 = .ok (.getfield 209, 3) := by decide +kernel
theorem dX10_told_77 : decode cX10_told 77 = .ok (.ireturn, 1) := by decide +kernel
theorem dX10_told_78 : decode cX10_told 78 = .ok (.aload_n 0, 1) := by decide +kernel
theorem dX10_told_79 : decode cX10_told 79 = .ok (.getfield 10, 3) := by decide +kernel
theorem dX10_told_82 : decode cX10_told 82 = .ok (.getfield 228, 3) := by decide +kernel
theorem dX10_told_85 : decode cX10_told 85 = .ok (.getfield 250, 3) := by decide +kernel
theorem dX10_told_88 : decode cX10_told 88 = .ok (.ireturn, 1) := by decide +kernel
theorem dX10_told_89 : decode cX10_told 89 = .ok (.aload_n 0, 1) := by decide +kernel
theorem dX10_told_90 : decode cX10_told 90 = .ok (.getfield 10, 3) := by decide +kernel
theorem dX10_told_93 : decode cX10_told 93 = .ok (.getfield 265, 3) := by decide +kernel
theorem dX10_told_96 : decode cX10_told 96 = .ok (.ireturn, 1) := by decide +kernel
theorem dX10_told_97 : decode cX10_told 97 = .ok (.aload_n 0, 1) := by decide +kernel
theorem dX10_told_98 : decode cX10_told 98 = .ok (.getfield 10, 3) := by decide +kernel
theorem dX10_told_101 : decode cX10_told 101 = .ok (.getfield 268, 3) := by decide +kernel
theorem dX10_told_104 : decode cX10_told 104 = .ok (.ireturn, 1) := by decide +kernel
theorem dX10_told_105 : decode cX10_told 105 = .ok (.aload_n 0, 1) := by decide +kernel
theorem dX10_told_106 : decode cX10_told 106 = .ok (.getfield 10, 3) := by decide +kernel
theorem dX10_told_109 : decode cX10_told 109 = .ok (.getfield 178, 3) := by decide +kernel
theorem dX10_told_112 : decode cX10_told 112 = .ok (.ireturn, 1) := by decide +kernel
theorem dX10_told_113 : decode cX10_told 113 = .ok (.aload_n 0, 1) := by decide +kernel
theorem dX10_told_114 : decode cX10_told 114 = .ok (.getfield 23, 3) := by decide +kernel
theorem dX10_told_117 : decode cX10_told 117 = .ok (.ireturn, 1) := by decide +kernel
theorem dX10_told_118 : decode cX10_told 118 = .ok (.aload_n 0, 1) := by decide +kernel
theorem dX10_told_119 : decode cX10_told 119 = .ok (.getfield 30, 3) := by decide +kernel
theorem dX10_told_122 : decode cX10_told 122 = .ok (.ireturn, 1) := by decide +kernel
theorem dX10_told_123 : decode cX10_told 123 = .ok (.aload_n 0, 1) := by decide +kernel
theorem dX10_told_124 : decode cX10_told 124 = .ok (.getfield 36, 3) := by decide +kernel
theorem dX10_told_127 : decode cX10_told 127 = .ok (.getfield 163, 3) := by decide +kernel
theorem dX10_told_130 : decode cX10_told 130 = .ok (.getfield 351, 3) := by decide +kernel
theorem dX10_told_133 : decode cX10_told 133 = .ok (.ireturn, 1) := by decide +kernel
theorem dX10_told_134 : decode cX10_told 134 = .ok (.aload_n 0, 1) := by decide +kernel
theorem dX10_told_135 : decode cX10_told 135 = .ok (.getfield 10, 3) := by decide +kernel
theorem dX10_told_138 : decode cX10_told 138 = .ok (.getfield 72, 3) := by decide +kernel
theorem dX10_told_141 : decode cX10_told 141 = .ok (.getfield 147, 3) := by decide +kernel
theorem dX10_told_144 : decode cX10_told 144 = .ok (.ireturn, 1) := by decide +kernel
theorem dX10_told_145 : decode cX10_told 145 = .ok (.bipush (-2), 2) := by decide +kernel
theorem dX10_told_147 : decode cX10_told 147 = .ok (.ireturn, 1) := by decide +kernel
theorem dX10_remember_0 : decode cX10_remember 0 = .ok (.aload_n 0, 1) := by decide +kernel
theorem dX10_remember_1 : decode cX10_remember 1 = .ok (.getfield 16, 3) := by decide +kernel
theorem dX10_remember_4 : decode cX10_remember 4 = .ok (.aload_n 0, 1) := by decide +kernel
theorem dX10_remember_5 : decode cX10_remember 5 = .ok (.getfield 10, 3) := by decide +kernel
theorem dX10_remember_8 : decode cX10_remember 8 = .ok (.invokevirtual 354, 3) := by decide +kernel
theorem dX10_remember_11 : decode cX10_remember 11 = .ok (.aload_n 0, 1) := by decide +kernel
theorem dX10_remember_12 : decode cX10_remember 12 = .ok (.iconst 1, 1) := by decide +kernel
theorem dX10_remember_13 : decode cX10_remember 13 = .ok (.putfield 19, 3) := by decide +kernel
theorem dX10_remember_16 : decode cX10_remember 16 = .ok (.return_, 1) := by decide +kernel
theorem dX10_settle_0 : decode cX10_settle 0 = .ok (.iload_n 1, 1) := by decide +kernel
theorem dX10_settle_1 : decode cX10_settle 1 = .ok (.bipush (-11), 2) := by decide +kernel
theorem dX10_settle_3 : decode cX10_settle 3 = .ok (.if_icmp .gt 30, 3) := by decide +kernel
theorem dX10_settle_6 : decode cX10_settle 6 = .ok (.iload_n 1, 1) := by decide +kernel
theorem dX10_settle_7 : decode cX10_settle 7 = .ok (.bipush (-15), 2) := by decide +kernel
theorem dX10_settle_9 : decode cX10_settle 9 = .ok (.if_icmp .lt 24, 3) := by decide +kernel
theorem dX10_settle_12 : decode cX10_settle 12 = .ok (.aload_n 0, 1) := by decide +kernel
theorem dX10_settle_13 : decode cX10_settle 13 = .ok (.bipush (-10), 2) := by decide +kernel
theorem dX10_settle_15 : decode cX10_settle 15 = .ok (.iload_n 1, 1) := by decide +kernel
theorem dX10_settle_16 : decode cX10_settle 16 = .ok (.isub, 1) := by decide +kernel
theorem dX10_settle_17 : decode cX10_settle 17 = .ok (.putfield 27, 3) := by decide +kernel
theorem dX10_settle_20 : decode cX10_settle 20 = .ok (.aload_n 0, 1) := by decide +kernel
theorem dX10_settle_21 : decode cX10_settle 21 = .ok (.dup, 1) := by decide +kernel
theorem dX10_settle_22 : decode cX10_settle 22 = .ok (.getfield 30, 3) := by decide +kernel
theorem dX10_settle_25 : decode cX10_settle 25 = .ok (.iconst 1, 1) := by decide +kernel
theorem dX10_settle_26 : decode cX10_settle 26 = .ok (.iadd, 1) := by decide +kernel
theorem dX10_settle_27 : decode cX10_settle 27 = .ok (.putfield 30, 3) := by decide +kernel
theorem dX10_settle_30 : decode cX10_settle 30 = .ok (.goto 26, 3) := by decide +kernel
theorem dX10_settle_33 : decode cX10_settle 33 = .ok (.iload_n 1, 1) := by decide +kernel
theorem dX10_settle_34 : decode cX10_settle 34 = .ok (.bipush (-2), 2) := by decide +kernel
theorem dX10_settle_36 : decode cX10_settle 36 = .ok (.if_icmp .eq 20, 3) := by decide +kernel
theorem dX10_settle_39 : decode cX10_settle 39 = .ok (.iload_n 1, 1) := by decide +kernel
theorem dX10_settle_40 : decode cX10_settle 40 = .ok (.bipush (-3), 2) := by decide +kernel
theorem dX10_settle_42 : decode cX10_settle 42 = .ok (.if_icmp .eq 14, 3) := by decide +kernel
theorem dX10_settle_45 : decode cX10_settle 45 = .ok (.iload_n 1, 1) := by decide +kernel
theorem dX10_settle_46 : decode cX10_settle 46 = .ok (.bipush (-4), 2) := by decide +kernel
theorem dX10_settle_48 : decode cX10_settle 48 = .ok (.if_icmp .eq 8, 3) := by decide +kernel
theorem dX10_settle_51 : decode cX10_settle 51 = .ok (.aload_n 0, 1) := by decide +kernel
theorem dX10_settle_52 : decode cX10_settle 52 = .ok (.iconst 0, 1) := by decide +kernel
theorem dX10_settle_53 : decode cX10_settle 53 = .ok (.putfield 27, 3) := by decide +kernel
theorem dX10_settle_56 : decode cX10_settle 56 = .ok (.iload_n 1, 1) := by decide +kernel
theorem dX10_settle_57 : decode cX10_settle 57 = .ok (.ireturn, 1) := by decide +kernel
theorem dX11_init_0 : decode cX11_init 0 = .ok (.aload_n 0, 1) := by decide +kernel
theorem dX11_init_1 : decode cX11_init 1 = .ok (.invokespecial 1, 3) := by decide +kernel
theorem dX11_init_4 : decode cX11_init 4 = .ok (.aload_n 0, 1) := by decide +kernel
theorem dX11_init_5 : decode cX11_init 5 = .ok (.sipush 8530, 3) := by decide +kernel
theorem dX11_init_8 : decode cX11_init 8 = .ok (.newarray .int, 2) := by decide +kernel
theorem dX11_init_10 : decode cX11_init 10 = .ok (.putfield 7, 3) := by decide +kernel
theorem dX11_init_13 : decode cX11_init 13 = .ok (.aload_n 0, 1) := by decide +kernel
theorem dX11_init_14 : decode cX11_init 14 = .ok (.sipush 8530, 3) := by decide +kernel
theorem dX11_init_17 : decode cX11_init 17 = .ok (.newarray .int, 2) := by decide +kernel
theorem dX11_init_19 : decode cX11_init 19 = .ok (.putfield 13, 3) := by decide +kernel
theorem dX11_init_22 : decode cX11_init 22 = .ok (.aload_n 0, 1) := by decide +kernel
theorem dX11_init_23 : decode cX11_init 23 = .ok (.iconst (-1), 1) := by decide +kernel
theorem dX11_init_24 : decode cX11_init 24 = .ok (.putfield 16, 3) := by decide +kernel
theorem dX11_init_27 : decode cX11_init 27 = .ok (.aload_n 0, 1) := by decide +kernel
theorem dX11_init_28 : decode cX11_init 28 = .ok (.iconst (-1), 1) := by decide +kernel
theorem dX11_init_29 : decode cX11_init 29 = .ok (.putfield 20, 3) := by decide +kernel
theorem dX11_init_32 : decode cX11_init 32 = .ok (.aload_n 0, 1) := by decide +kernel
theorem dX11_init_33 : decode cX11_init 33 = .ok (.bipush 40, 2) := by decide +kernel
theorem dX11_init_35 : decode cX11_init 35 = .ok (.newarray .int, 2) := by decide +kernel
theorem dX11_init_37 : decode cX11_init 37 = .ok (.putfield 23, 3) := by decide +kernel
theorem dX11_init_40 : decode cX11_init 40 = .ok (.aload_n 0, 1) := by decide +kernel
theorem dX11_init_41 : decode cX11_init 41 = .ok (.bipush 30, 2) := by decide +kernel
theorem dX11_init_43 : decode cX11_init 43 = .ok (.newarray .int, 2) := by decide +kernel
theorem dX11_init_45 : decode cX11_init 45 = .ok (.putfield 26, 3) := by decide +kernel
theorem dX11_init_48 : decode cX11_init 48 = .ok (.aload_n 0, 1) := by decide +kernel
theorem dX11_init_49 : decode cX11_init 49 = .ok (.bipush 30, 2) := by decide +kernel
theorem dX11_init_51 : decode cX11_init 51 = .ok (.newarray .int, 2) := by decide +kernel
theorem dX11_init_53 : decode cX11_init 53 = .ok (.putfield 29, 3) := by decide +kernel
theorem dX11_init_56 : decode cX11_init 56 = .ok (.aload_n 0, 1) := by decide +kernel
theorem dX11_init_57 : decode cX11_init 57 = .ok (.bipush 6, 2) := by decide +kernel
theorem dX11_init_59 : decode cX11_init 59 = .ok (.newarray .int, 2) := by decide +kernel
theorem dX11_init_61 : decode cX11_init 61 = .ok (.putfield 32, 3) := by decide +kernel
theorem dX11_init_64 : decode cX11_init 64 = .ok (.aload_n 0, 1) := by decide +kernel
theorem dX11_init_65 : decode cX11_init 65 = .ok (.bipush 36, 2) := by decide +kernel
theorem dX11_init_67 : decode cX11_init 67 = .ok (.newarray .int, 2) := by decide +kernel
theorem dX11_init_69 : decode cX11_init 69 = .ok (.putfield 35, 3) := by decide +kernel
theorem dX11_init_72 : decode cX11_init 72 = .ok (.aload_n 0, 1) := by decide +kernel
theorem dX11_init_73 : decode cX11_init 73 = .ok (.bipush 30, 2) := by decide +kernel
theorem dX11_init_75 : decode cX11_init 75 = .ok (.newarray .int, 2) := by decide +kernel
theorem dX11_init_77 : decode cX11_init 77 = .ok (.putfield 38, 3) := by decide +kernel
theorem dX11_init_80 : decode cX11_init 80 = .ok (.aload_n 0, 1) := by decide +kernel
theorem dX11_init_81 : decode cX11_init 81 = .ok (.bipush 18, 2) := by decide +kernel
theorem dX11_init_83 : decode cX11_init 83 = .ok (.newarray .int, 2) := by decide +kernel
theorem dX11_init_85 : decode cX11_init 85 = .ok (.putfield 41, 3) := by decide +kernel
theorem dX11_init_88 : decode cX11_init 88 = .ok (.aload_n 0, 1) := by decide +kernel
theorem dX11_init_89 : decode cX11_init 89 = .ok (.bipush 10, 2) := by decide +kernel
theorem dX11_init_91 : decode cX11_init 91 = .ok (.newarray .long, 2) := by decide +kernel
theorem dX11_init_93 : decode cX11_init 93 = .ok (.putfield 44, 3) := by decide +kernel
theorem dX11_init_96 : decode cX11_init 96 = .ok (.aload_n 0, 1) := by decide +kernel
theorem dX11_init_97 : decode cX11_init 97 = .ok (.bipush 10, 2) := by decide +kernel
theorem dX11_init_99 : decode cX11_init 99 = .ok (.newarray .long, 2) := by decide +kernel
theorem dX11_init_101 : decode cX11_init 101 = .ok (.putfield 48, 3) := by decide +kernel
theorem dX11_init_104 : decode cX11_init 104 = .ok (.aload_n 0, 1) := by decide +kernel
theorem dX11_init_105 : decode cX11_init 105 = .ok (.bipush 14, 2) := by decide +kernel
theorem dX11_init_107 : decode cX11_init 107 = .ok (.newarray .int, 2) := by decide +kernel
theorem dX11_init_109 : decode cX11_init 109 = .ok (.putfield 51, 3) := by decide +kernel
theorem dX11_init_112 : decode cX11_init 112 = .ok (.aload_n 0, 1) := by decide +kernel
theorem dX11_init_113 : decode cX11_init 113 = .ok (.sipush 16384, 3) := by decide +kernel
theorem dX11_init_116 : decode cX11_init 116 = .ok (.newarray .int, 2) := by decide +kernel
theorem dX11_init_118 : decode cX11_init 118 = .ok (.putfield 54, 3) := by decide +kernel
theorem dX11_init_121 : decode cX11_init 121 = .ok (.aload_n 0, 1) := by decide +kernel
theorem dX11_init_122 : decode cX11_init 122 = .ok (.getfield 7, 3) := by decide +kernel
theorem dX11_init_125 : decode cX11_init 125 = .ok (.sipush 8528, 3) := by decide +kernel
theorem dX11_init_128 : decode cX11_init 128 = .ok (.iconst (-1), 1) := by decide +kernel
theorem dX11_init_129 : decode cX11_init 129 = .ok (.iastore, 1) := by decide +kernel
theorem dX11_init_130 : decode cX11_init 130 = .ok (.return_, 1) := by decide +kernel
theorem dX11_in_0 : decode cX11_in 0 = .ok (.lload_n 0, 1) := by decide +kernel
theorem dX11_in_1 : decode cX11_in 1 = .ok (.lload_n 2, 1) := by decide +kernel
theorem dX11_in_2 : decode cX11_in 2 = .ok (.lcmp, 1) := by decide +kernel
theorem dX11_in_3 : decode cX11_in 3 = .ok (.ifCond .lt 14, 3) := by decide +kernel
theorem dX11_in_6 : decode cX11_in 6 = .ok (.lload_n 0, 1) := by decide +kernel
theorem dX11_in_7 : decode cX11_in 7 = .ok (.lload 4, 2) := by decide +kernel
theorem dX11_in_9 : decode cX11_in 9 = .ok (.lcmp, 1) := by decide +kernel
theorem dX11_in_10 : decode cX11_in 10 = .ok (.ifCond .gt 7, 3) := by decide +kernel
theorem dX11_in_13 : decode cX11_in 13 = .ok (.iconst 1, 1) := by decide +kernel
theorem dX11_in_14 : decode cX11_in 14 = .ok (.goto 4, 3) := by decide +kernel
theorem dX11_in_17 : decode cX11_in 17 = .ok (.iconst 0, 1) := by decide +kernel
theorem dX11_in_18 : decode cX11_in 18 = .ok (.ireturn, 1) := by decide +kernel
theorem dX11_met_0 : decode cX11_met 0 = .ok (.aload_n 0, 1) := by decide +kernel
theorem dX11_met_1 : decode cX11_met 1 = .ok (.iload_n 1, 1) := by decide +kernel
theorem dX11_met_2 : decode cX11_met 2 = .ok (.putfield 57, 3) := by decide +kernel
theorem dX11_met_5 : decode cX11_met 5 = .ok (.aload_n 0, 1) := by decide +kernel
theorem dX11_met_6 : decode cX11_met 6 = .ok (.dup, 1) := by decide +kernel
theorem dX11_met_7 : decode cX11_met 7 = .ok (.getfield 60, 3) := by decide +kernel
theorem dX11_met_10 : decode cX11_met 10 = .ok (.iconst 1, 1) := by decide +kernel
theorem dX11_met_11 : decode cX11_met 11 = .ok (.iadd, 1) := by decide +kernel
theorem dX11_met_12 : decode cX11_met 12 = .ok (.putfield 60, 3) := by decide +kernel
theorem dX11_met_15 : decode cX11_met 15 = .ok (.bipush (-10), 2) := by decide +kernel
theorem dX11_met_17 : decode cX11_met 17 = .ok (.iload_n 1, 1) := by decide +kernel
theorem dX11_met_18 : decode cX11_met 18 = .ok (.isub, 1) := by decide +kernel
theorem dX11_met_19 : decode cX11_met 19 = .ok (.ireturn, 1) := by decide +kernel
theorem dX11_well_0 : decode cX11_well 0 = .ok (.aload_n 0, 1) := by decide +kernel
theorem dX11_well_1 : decode cX11_well 1 = .ok (.iconst 0, 1) := by decide +kernel
theorem dX11_well_2 : decode cX11_well 2 = .ok (.putfield 57, 3) := by decide +kernel
theorem dX11_well_5 : decode cX11_well 5 = .ok (.iload_n 1, 1) := by decide +kernel
theorem dX11_well_6 : decode cX11_well 6 = .ok (.ireturn, 1) := by decide +kernel
theorem dX11_change_0 : decode cX11_change 0 = .ok (.iconst 0, 1) := by decide +kernel
theorem dX11_change_1 : decode cX11_change 1 = .ok (.istore_n 1, 1) := by decide +kernel
theorem dX11_change_2 : decode cX11_change 2 = .ok (.iload_n 1, 1) := by decide +kernel
theorem dX11_change_3 : decode cX11_change 3 = .ok (.sipush 8530, 3) := by decide +kernel
theorem dX11_change_6 : decode cX11_change 6 = .ok (.if_icmp .ge 21, 3) := by decide +kernel
theorem dX11_change_9 : decode cX11_change 9 = .ok (.aload_n 0, 1) := by decide +kernel
theorem dX11_change_10 : decode cX11_change 10 = .ok (.getfield 13, 3) := by decide +kernel
theorem dX11_change_13 : decode cX11_change 13 = .ok (.iload_n 1, 1) := by decide +kernel
theorem dX11_change_14 : decode cX11_change 14 = .ok (.aload_n 0, 1) := by decide +kernel
theorem dX11_change_15 : decode cX11_change 15 = .ok (.getfield 7, 3) := by decide +kernel
theorem dX11_change_18 : decode cX11_change 18 = .ok (.iload_n 1, 1) := by decide +kernel
theorem dX11_change_19 : decode cX11_change 19 = .ok (.iaload, 1) := by decide +kernel
theorem dX11_change_20 : decode cX11_change 20 = .ok (.iastore, 1) := by decide +kernel
theorem dX11_change_21 : decode cX11_change 21 = .ok (.iinc 1 1, 3) := by decide +kernel
theorem dX11_change_24 : decode cX11_change 24 = .ok (.goto (-22), 3) := by decide +kernel
theorem dX11_change_27 : decode cX11_change 27 = .ok (.aload_n 0, 1) := by decide +kernel
theorem dX11_change_28 : decode cX11_change 28 = .ok (.iconst 1, 1) := by decide +kernel
theorem dX11_change_29 : decode cX11_change 29 = .ok (.putfield 63, 3) := by decide +kernel
theorem dX11_change_32 : decode cX11_change 32 = .ok (.return_, 1) := by decide +kernel
theorem dX11_isCylinder_0 : decode cX11_isCylinder 0 = .ok (.iload_n 1, 1) := by decide +kernel
theorem dX11_isCylinder_1 : decode cX11_isCylinder 1 = .ok (.i2l, 1) := by decide +kernel
theorem dX11_isCylinder_2 : decode cX11_isCylinder 2 = .ok (.lconst 0, 1) := by decide +kernel
theorem dX11_isCylinder_3 : decode cX11_isCylinder 3 = .ok (.aload_n 0, 1) := by decide +kernel
theorem dX11_isCylinder_4 : decode cX11_isCylinder 4 = .ok (.getfield 7, 3) := by decide +kernel
theorem dX11_isCylinder_7 : decode cX11_isCylinder 7 = .ok (.sipush 8522, 3) := by decide +kernel
theorem dX11_isCylinder_10 : decode cX11_isCylinder 10 = .ok (.iaload, 1) := by decide +kernel
theorem dX11_isCylinder_11 : decode cX11_isCylinder 11 = .ok (.iconst 1, 1) := by decide +kernel
theorem dX11_isCylinder_12 : decode cX11_isCylinder 12 = .ok (.isub, 1) := by decide +kernel
theorem dX11_isCylinder_13 : decode cX11_isCylinder 13 = .ok (.i2l, 1) := by decide +kernel
theorem dX11_isCylinder_14 : decode cX11_isCylinder 14 = .ok (.invokestatic 67, 3) := by decide +kernel
theorem dX11_isCylinder_17 : decode cX11_isCylinder 17 = .ok (.ireturn, 1) := by decide +kernel
theorem dX11_isKey_0 : decode cX11_isKey 0 = .ok (.iload_n 1, 1) := by decide +kernel
theorem dX11_isKey_1 : decode cX11_isKey 1 = .ok (.i2l, 1) := by decide +kernel
theorem dX11_isKey_2 : decode cX11_isKey 2 = .ok (.lconst 0, 1) := by decide +kernel
theorem dX11_isKey_3 : decode cX11_isKey 3 = .ok (.aload_n 0, 1) := by decide +kernel
theorem dX11_isKey_4 : decode cX11_isKey 4 = .ok (.getfield 7, 3) := by decide +kernel
theorem dX11_isKey_7 : decode cX11_isKey 7 = .ok (.sipush 8523, 3) := by decide +kernel
theorem dX11_isKey_10 : decode cX11_isKey 10 = .ok (.iaload, 1) := by decide +kernel
theorem dX11_isKey_11 : decode cX11_isKey 11 = .ok (.iconst 1, 1) := by decide +kernel
theorem dX11_isKey_12 : decode cX11_isKey 12 = .ok (.isub, 1) := by decide +kernel
theorem dX11_isKey_13 : decode cX11_isKey 13 = .ok (.i2l, 1) := by decide +kernel
theorem dX11_isKey_14 : decode cX11_isKey 14 = .ok (.invokestatic 67, 3) := by decide +kernel
theorem dX11_isKey_17 : decode cX11_isKey 17 = .ok (.ireturn, 1) := by decide +kernel
theorem dX11_isDoor_0 : decode cX11_isDoor 0 = .ok (.iload_n 1, 1) := by decide +kernel
theorem dX11_isDoor_1 : decode cX11_isDoor 1 = .ok (.i2l, 1) := by decide +kernel
theorem dX11_isDoor_2 : decode cX11_isDoor 2 = .ok (.lconst 0, 1) := by decide +kernel
theorem dX11_isDoor_3 : decode cX11_isDoor 3 = .ok (.aload_n 0, 1) := by decide +kernel
theorem dX11_isDoor_4 : decode cX11_isDoor 4 = .ok (.getfield 7, 3) := by decide +kernel
theorem dX11_isDoor_7 : decode cX11_isDoor 7 = .ok (.sipush 8525, 3) := by decide +kernel
theorem dX11_isDoor_10 : decode cX11_isDoor 10 = .ok (.iaload, 1) := by decide +kernel
theorem dX11_isDoor_11 : decode cX11_isDoor 11 = .ok (.iconst 1, 1) := by decide +kernel
theorem dX11_isDoor_12 : decode cX11_isDoor 12 = .ok (.isub, 1) := by decide +kernel
theorem dX11_isDoor_13 : decode cX11_isDoor 13 = .ok (.i2l, 1) := by decide +kernel
theorem dX11_isDoor_14 : decode cX11_isDoor 14 = .ok (.invokestatic 67, 3) := by decide +kernel
theorem dX11_isDoor_17 : decode cX11_isDoor 17 = .ok (.ireturn, 1) := by decide +kernel
theorem dX11_most_0 : decode cX11_most 0 = .ok (.iload_n 0, 1) := by decide +kernel
theorem dX11_most_1 : decode cX11_most 1 = .ok (.ifCond .ne 7, 3) := by decide +kernel
theorem dX11_most_4 : decode cX11_most 4 = .ok (.iconst 1, 1) := by decide +kernel
theorem dX11_most_5 : decode cX11_most 5 = .ok (.goto 13, 3) := by decide +kernel
theorem dX11_most_8 : decode cX11_most 8 = .ok (.iload_n 0, 1) := by decide +kernel
theorem dX11_most_9 : decode cX11_most 9 = .ok (.iconst 3, 1) := by decide +kernel
theorem dX11_most_10 : decode cX11_most 10 = .ok (.if_icmp .ne 7, 3) := by decide +kernel
theorem dX11_most_13 : decode cX11_most 13 = .ok (.iconst 0, 1) := by decide +kernel
theorem dX11_most_14 : decode cX11_most 14 = .ok (.goto 4, 3) := by decide +kernel
theorem dX11_most_17 : decode cX11_most 17 = .ok (.iconst 4, 1) := by decide +kernel
theorem dX11_most_18 : decode cX11_most 18 = .ok (.ireturn, 1) := by decide +kernel
theorem dX11_bits_0 : decode cX11_bits 0 = .ok (.iconst 0, 1) := by decide +kernel
theorem dX11_bits_1 : decode cX11_bits 1 = .ok (.istore_n 1, 1) := by decide +kernel
theorem dX11_bits_2 : decode cX11_bits 2 = .ok (.iconst 0, 1) := by decide +kernel
theorem dX11_bits_3 : decode cX11_bits 3 = .ok (.istore_n 2, 1) := by decide +kernel
theorem dX11_bits_4 : decode cX11_bits 4 = .ok (.iload_n 2, 1) := by decide +kernel
theorem dX11_bits_5 : decode cX11_bits 5 = .ok (.bipush 31, 2) := by decide +kernel
theorem dX11_bits_7 : decode cX11_bits 7 = .ok (.if_icmp .ge 17, 3) := by decide +kernel
theorem dX11_bits_10 : decode cX11_bits 10 = .ok (.iload_n 1, 1) := by decide +kernel
theorem dX11_bits_11 : decode cX11_bits 11 = .ok (.iload_n 0, 1) := by decide +kernel
theorem dX11_bits_12 : decode cX11_bits 12 = .ok (.iload_n 2, 1) := by decide +kernel
theorem dX11_bits_13 : decode cX11_bits 13 = .ok (.ishr, 1) := by decide +kernel
theorem dX11_bits_14 : decode cX11_bits 14 = .ok (.iconst 1, 1) := by decide +kernel
theorem dX11_bits_15 : decode cX11_bits 15 = .ok (.iand, 1) := by decide +kernel
theorem dX11_bits_16 : decode cX11_bits 16 = .ok (.iadd, 1) := by decide +kernel
theorem dX11_bits_17 : decode cX11_bits 17 = .ok (.istore_n 1, 1) := by decide +kernel
theorem dX11_bits_18 : decode cX11_bits 18 = .ok (.iinc 2 1, 3) := by decide +kernel
theorem dX11_bits_21 : decode cX11_bits 21 = .ok (.goto (-17), 3) := by decide +kernel
theorem dX11_bits_24 : decode cX11_bits 24 = .ok (.iload_n 1, 1) := by decide +kernel
theorem dX11_bits_25 : decode cX11_bits 25 = .ok (.ireturn, 1) := by decide +kernel
theorem dX11_newCylinder_0 : decode cX11_newCylinder 0 = .ok (.aload_n 0, 1) := by decide +kernel
theorem dX11_newCylinder_1 : decode cX11_newCylinder 1 = .ok (.invokevirtual 71, 3) := by decide +kernel
theorem dX11_newCylinder_4 : decode cX11_newCylinder 4 = .ok (.aload_n 0, 1) := by decide +kernel
theorem dX11_newCylinder_5 : decode cX11_newCylinder 5 = .ok (.getfield 7, 3) := by decide +kernel
theorem dX11_newCylinder_8 : decode cX11_newCylinder 8 = .ok (.sipush 8522, 3) := by decide +kernel
theorem dX11_newCylinder_11 : decode cX11_newCylinder 11 = .ok (.iaload, 1) := by decide +kernel
theorem dX11_newCylinder_12 : decode cX11_newCylinder 12 = .ok (.istore 5, 2) := by decide +kernel
theorem dX11_newCylinder_14 : decode cX11_newCylinder 14 = .ok (.aload_n 0, 1) := by decide +kernel
theorem dX11_newCylinder_15 : decode cX11_newCylinder 15 = .ok (.getfield 7, 3) := by decide +kernel
theorem dX11_newCylinder_18 : decode cX11_newCylinder 18 = .ok (.iconst 0, 1) := by decide +kernel
theorem dX11_newCylinder_19 : decode cX11_newCylinder 19 = .ok (.iload 5, 2) := by decide +kernel
theorem dX11_newCylinder_21 : decode cX11_newCylinder 21 = .ok (.iadd, 1) := by decide +kernel
theorem dX11_newCylinder_22 : decode cX11_newCylinder 22 = .ok (.iload_n 1, 1) := by decide +kernel
theorem dX11_newCylinder_23 : decode cX11_newCylinder 23 = .ok (.iastore, 1) := by decide +kernel
theorem dX11_newCylinder_24 : decode cX11_newCylinder 24 = .ok (.aload_n 0, 1) := by decide +kernel
theorem dX11_newCylinder_25 : decode cX11_newCylinder 25 = .ok (.getfield 7, 3) := by decide +kernel
theorem dX11_newCylinder_28 : decode cX11_newCylinder 28 = .ok (.bipush 100, 2) := by decide +kernel
theorem dX11_newCylinder_30 : decode cX11_newCylinder 30 = .ok (.iload 5, 2) := by decide +kernel
theorem dX11_newCylinder_32 : decode cX11_newCylinder 32 = .ok (.iadd, 1) := by decide +kernel
theorem dX11_newCylinder_33 : decode cX11_newCylinder 33 = .ok (.iload_n 2, 1) := by decide +kernel
theorem dX11_newCylinder_34 : decode cX11_newCylinder 34 = .ok (.iastore, 1) := by decide +kernel
theorem dX11_newCylinder_35 : decode cX11_newCylinder 35 = .ok (.aload_n 0, 1) := by decide +kernel
theorem dX11_newCylinder_36 : decode cX11_newCylinder 36 = .ok (.getfield 7, 3) := by decide +kernel
theorem dX11_newCylinder_39 : decode cX11_newCylinder 39 = .ok (.sipush 200, 3) := by decide +kernel
theorem dX11_newCylinder_42 : decode cX11_newCylinder 42 = .ok (.iload 5, 2) := by decide +kernel
theorem dX11_newCylinder_44 : decode cX11_newCylinder 44 = .ok (.iadd, 1) := by decide +kernel
theorem dX11_newCylinder_45 : decode cX11_newCylinder 45 = .ok (.iload_n 3, 1) := by decide +kernel
theorem dX11_newCylinder_46 : decode cX11_newCylinder 46 = .ok (.iastore, 1) := by decide +kernel
theorem dX11_newCylinder_47 : decode cX11_newCylinder 47 = .ok (.aload_n 0, 1) := by decide +kernel
theorem dX11_newCylinder_48 : decode cX11_newCylinder 48 = .ok (.getfield 7, 3) := by decide +kernel
theorem dX11_newCylinder_51 : decode cX11_newCylinder 51 = .ok (.sipush 300, 3) := by decide +kernel
theorem dX11_newCylinder_54 : decode cX11_newCylinder 54 = .ok (.iload 5, 2) := by decide +kernel
theorem dX11_newCylinder_56 : decode cX11_newCylinder 56 = .ok (.iadd, 1) := by decide +kernel
theorem dX11_newCylinder_57 : decode cX11_newCylinder 57 = .ok (.iload 4, 2) := by decide +kernel
theorem dX11_newCylinder_59 : decode cX11_newCylinder 59 = .ok (.iastore, 1) := by decide +kernel
theorem dX11_newCylinder_60 : decode cX11_newCylinder 60 = .ok (.iconst 0, 1) := by decide +kernel
theorem dX11_newCylinder_61 : decode cX11_newCylinder 61 = .ok (.istore 6, 2) := by decide +kernel
theorem dX11_newCylinder_63 : decode cX11_newCylinder 63 = .ok (.iload 6, 2) := by decide +kernel
theorem dX11_newCylinder_65 : decode cX11_newCylinder 65 = .ok (.bipush 18, 2) := by decide +kernel
theorem dX11_newCylinder_67 : decode cX11_newCylinder 67 = .ok (.if_icmp .ge 27, 3) := by decide +kernel
theorem dX11_newCylinder_70 : decode cX11_newCylinder 70 = .ok (.aload_n 0, 1) := by decide +kernel
theorem dX11_newCylinder_71 : decode cX11_newCylinder 71 = .ok (.getfield 7, 3) := by decide +kernel
theorem dX11_newCylinder_74 : decode cX11_newCylinder 74 = .ok (.sipush 400, 3) := by decide +kernel
theorem dX11_newCylinder_77 : decode cX11_newCylinder 77 = .ok (.bipush 18, 2) := by decide +kernel
theorem dX11_newCylinder_79 : decode cX11_newCylinder 79 = .ok (.iload 5, 2) := by decide +kernel
theorem dX11_newCylinder_81 : decode cX11_newCylinder 81 = .ok (.imul, 1) := by decide +kernel
theorem dX11_newCylinder_82 : decode cX11_newCylinder 82 = .ok (.iadd, 1) := by decide +kernel
theorem dX11_newCylinder_83 : decode cX11_newCylinder 83 = .ok (.iload 6, 2) := by decide +kernel
theorem dX11_newCylinder_85 : decode cX11_newCylinder 85 = .ok (.iadd, 1) := by decide +kernel
theorem dX11_newCylinder_86 : decode cX11_newCylinder 86 = .ok (.iconst 0, 1) := by decide +kernel
theorem dX11_newCylinder_87 : decode cX11_newCylinder 87 = .ok (.iastore, 1) := by decide +kernel
theorem dX11_newCylinder_88 : decode cX11_newCylinder 88 = .ok (.iinc 6 1, 3) := by decide +kernel
theorem dX11_newCylinder_91 : decode cX11_newCylinder 91 = .ok (.goto (-28), 3) := by decide +kernel
theorem dX11_newCylinder_94 : decode cX11_newCylinder 94 = .ok (.aload_n 0, 1) := by decide +kernel
theorem dX11_newCylinder_95 : decode cX11_newCylinder 95 = .ok (.getfield 7, 3) := by decide +kernel
theorem dX11_newCylinder_98 : decode cX11_newCylinder 98 = .ok (.sipush 8522, 3) := by decide +kernel
theorem dX11_newCylinder_101 : decode cX11_newCylinder 101 = .ok (.iload 5, 2) := by decide +kernel
theorem dX11_newCylinder_103 : decode cX11_newCylinder 103 = .ok (.iconst 1, 1) := by decide +kernel
theorem dX11_newCylinder_104 : decode cX11_newCylinder 104 = .ok (.iadd, 1) := by decide +kernel
theorem dX11_newCylinder_105 : decode cX11_newCylinder 105 = .ok (.iastore, 1) := by decide +kernel
theorem dX11_newCylinder_106 : decode cX11_newCylinder 106 = .ok (.aload_n 0, 1) := by decide +kernel
theorem dX11_newCylinder_107 : decode cX11_newCylinder 107 = .ok (.iload 5, 2) := by decide +kernel
theorem dX11_newCylinder_109 : decode cX11_newCylinder 109 = .ok (.invokevirtual 74, 3) := by decide +kernel
theorem dX11_newCylinder_112 : decode cX11_newCylinder 112 = .ok (.ireturn, 1) := by decide +kernel
theorem dX11_cylinder_0 : decode cX11_cylinder 0 = .ok (.iload_n 1, 1) := by decide +kernel
theorem dX11_cylinder_1 : decode cX11_cylinder 1 = .ok (.i2l, 1) := by decide +kernel
theorem dX11_cylinder_2 : decode cX11_cylinder 2 = .ok (.lconst 0, 1) := by decide +kernel
theorem dX11_cylinder_3 : decode cX11_cylinder 3 = .ok (.ldc2_w 78, 3) := by decide +kernel
theorem dX11_cylinder_6 : decode cX11_cylinder 6 = .ok (.invokestatic 67, 3) := by decide +kernel
theorem dX11_cylinder_9 : decode cX11_cylinder 9 = .ok (.ifCond .eq 9, 3) := by decide +kernel
theorem dX11_cylinder_12 : decode cX11_cylinder 12 = .ok (.iload_n 2, 1) := by decide +kernel
theorem dX11_cylinder_13 : decode cX11_cylinder 13 = .ok (.bipush 18, 2) := by decide +kernel
theorem dX11_cylinder_15 : decode cX11_cylinder 15 = .ok (.if_icmp .le 6, 3) := by decide +kernel
theorem dX11_cylinder_18 : decode cX11_cylinder 18 = .ok (.bipush (-2), 2) := by decide +kernel
theorem dX11_cylinder_20 : decode cX11_cylinder 20 = .ok (.ireturn, 1) := by decide +kernel
theorem dX11_cylinder_21 : decode cX11_cylinder 21 = .ok (.aload_n 0, 1) := by decide +kernel
theorem dX11_cylinder_22 : decode cX11_cylinder 22 = .ok (.getfield 7, 3) := by decide +kernel
theorem dX11_cylinder_25 : decode cX11_cylinder 25 = .ok (.sipush 8522, 3) := by decide +kernel
theorem dX11_cylinder_28 : decode cX11_cylinder 28 = .ok (.iaload, 1) := by decide +kernel
theorem dX11_cylinder_29 : decode cX11_cylinder 29 = .ok (.bipush 100, 2) := by decide +kernel
theorem dX11_cylinder_31 : decode cX11_cylinder 31 = .ok (.if_icmp .ne 6, 3) := by decide +kernel
theorem dX11_cylinder_34 : decode cX11_cylinder 34 = .ok (.bipush (-4), 2) := by decide +kernel
theorem dX11_cylinder_36 : decode cX11_cylinder 36 = .ok (.ireturn, 1) := by decide +kernel
theorem dX11_cylinder_37 : decode cX11_cylinder 37 = .ok (.iload_n 2, 1) := by decide +kernel
theorem dX11_cylinder_38 : decode cX11_cylinder 38 = .ok (.ifCond .ge 11, 3) := by decide +kernel
theorem dX11_cylinder_41 : decode cX11_cylinder 41 = .ok (.aload_n 0, 1) := by decide +kernel
theorem dX11_cylinder_42 : decode cX11_cylinder 42 = .ok (.iconst 5, 1) := by decide +kernel
theorem dX11_cylinder_43 : decode cX11_cylinder 43 = .ok (.invokevirtual 80, 3) := by decide +kernel
theorem dX11_cylinder_46 : decode cX11_cylinder 46 = .ok (.goto 11, 3) := by decide +kernel
theorem dX11_cylinder_49 : decode cX11_cylinder 49 = .ok (.aload_n 0, 1) := by decide +kernel
theorem dX11_cylinder_50 : decode cX11_cylinder 50 = .ok (.iload_n 1, 1) := by decide +kernel
theorem dX11_cylinder_51 : decode cX11_cylinder 51 = .ok (.iload_n 2, 1) := by decide +kernel
theorem dX11_cylinder_52 : decode cX11_cylinder 52 = .ok (.iconst (-1), 1) := by decide +kernel
theorem dX11_cylinder_53 : decode cX11_cylinder 53 = .ok (.iconst (-1), 1) := by decide +kernel
theorem dX11_cylinder_54 : decode cX11_cylinder 54 = .ok (.invokevirtual 83, 3) := by decide +kernel
theorem dX11_cylinder_57 : decode cX11_cylinder 57 = .ok (.ireturn, 1) := by decide +kernel
theorem dX11_twin_0 : decode cX11_twin 0 = .ok (.iload_n 1, 1) := by decide +kernel
theorem dX11_twin_1 : decode cX11_twin 1 = .ok (.iconst (-1), 1) := by decide +kernel
theorem dX11_twin_2 : decode cX11_twin 2 = .ok (.if_icmp .eq 11, 3) := by decide +kernel
theorem dX11_twin_5 : decode cX11_twin 5 = .ok (.aload_n 0, 1) := by decide +kernel
theorem dX11_twin_6 : decode cX11_twin 6 = .ok (.iload_n 1, 1) := by decide +kernel
theorem dX11_twin_7 : decode cX11_twin 7 = .ok (.invokevirtual 87, 3) := by decide +kernel
theorem dX11_twin_10 : decode cX11_twin 10 = .ok (.ifCond .eq 16, 3) := by decide +kernel
theorem dX11_twin_13 : decode cX11_twin 13 = .ok (.iload_n 2, 1) := by decide +kernel
theorem dX11_twin_14 : decode cX11_twin 14 = .ok (.iconst (-1), 1) := by decide +kernel
theorem dX11_twin_15 : decode cX11_twin 15 = .ok (.if_icmp .eq 14, 3) := by decide +kernel
theorem dX11_twin_18 : decode cX11_twin 18 = .ok (.aload_n 0, 1) := by decide +kernel
theorem dX11_twin_19 : decode cX11_twin 19 = .ok (.iload_n 2, 1) := by decide +kernel
theorem dX11_twin_20 : decode cX11_twin 20 = .ok (.invokevirtual 87, 3) := by decide +kernel
theorem dX11_twin_23 : decode cX11_twin 23 = .ok (.ifCond .ne 6, 3) := by decide +kernel
theorem dX11_twin_26 : decode cX11_twin 26 = .ok (.bipush (-2), 2) := by decide +kernel
theorem dX11_twin_28 : decode cX11_twin 28 = .ok (.ireturn, 1) := by decide +kernel
theorem dX11_twin_29 : decode cX11_twin 29 = .ok (.aload_n 0, 1) := by decide +kernel
theorem dX11_twin_30 : decode cX11_twin 30 = .ok (.getfield 7, 3) := by decide +kernel
theorem dX11_twin_33 : decode cX11_twin 33 = .ok (.sipush 8522, 3) := by decide +kernel
theorem dX11_twin_36 : decode cX11_twin 36 = .ok (.iaload, 1) := by decide +kernel
theorem dX11_twin_37 : decode cX11_twin 37 = .ok (.bipush 100, 2) := by decide +kernel
theorem dX11_twin_39 : decode cX11_twin 39 = .ok (.if_icmp .ne 6, 3) := by decide +kernel
theorem dX11_twin_42 : decode cX11_twin 42 = .ok (.bipush (-4), 2) := by decide +kernel
theorem dX11_twin_44 : decode cX11_twin 44 = .ok (.ireturn, 1) := by decide +kernel
theorem dX11_twin_45 : decode cX11_twin 45 = .ok (.iload_n 1, 1) := by decide +kernel
theorem dX11_twin_46 : decode cX11_twin 46 = .ok (.iconst (-1), 1) := by decide +kernel
theorem dX11_twin_47 : decode cX11_twin 47 = .ok (.if_icmp .eq 15, 3) := by decide +kernel
theorem dX11_twin_50 : decode cX11_twin 50 = .ok (.aload_n 0, 1) := by decide +kernel
theorem dX11_twin_51 : decode cX11_twin 51 = .ok (.getfield 7, 3) := by decide +kernel
theorem dX11_twin_54 : decode cX11_twin 54 = .ok (.iconst 0, 1) := by decide +kernel
theorem dX11_twin_55 : decode cX11_twin 55 = .ok (.iload_n 1, 1) := by decide +kernel
theorem dX11_twin_56 : decode cX11_twin 56 = .ok (.iadd, 1) := by decide +kernel
theorem dX11_twin_57 : decode cX11_twin 57 = .ok (.iaload, 1) := by decide +kernel
theorem dX11_twin_58 : decode cX11_twin 58 = .ok (.iconst 4, 1) := by decide +kernel
theorem dX11_twin_59 : decode cX11_twin 59 = .ok (.if_icmp .eq 20, 3) := by decide +kernel
theorem dX11_twin_62 : decode cX11_twin 62 = .ok (.iload_n 2, 1) := by decide +kernel
theorem dX11_twin_63 : decode cX11_twin 63 = .ok (.iconst (-1), 1) := by decide +kernel
theorem dX11_twin_64 : decode cX11_twin 64 = .ok (.if_icmp .eq 21, 3) := by decide +kernel
theorem dX11_twin_67 : decode cX11_twin 67 = .ok (.aload_n 0, 1) := by decide +kernel
theorem dX11_twin_68 : decode cX11_twin 68 = .ok (.getfield 7, 3) := by decide +kernel
theorem dX11_twin_71 : decode cX11_twin 71 = .ok (.iconst 0, 1) := by decide +kernel
theorem dX11_twin_72 : decode cX11_twin 72 = .ok (.iload_n 2, 1) := by decide +kernel
theorem dX11_twin_73 : decode cX11_twin 73 = .ok (.iadd, 1) := by decide +kernel
theorem dX11_twin_74 : decode cX11_twin 74 = .ok (.iaload, 1) := by decide +kernel
theorem dX11_twin_75 : decode cX11_twin 75 = .ok (.iconst 4, 1) := by decide +kernel
theorem dX11_twin_76 : decode cX11_twin 76 = .ok (.if_icmp .ne 9, 3) := by decide +kernel
theorem dX11_twin_79 : decode cX11_twin 79 = .ok (.aload_n 0, 1) := by decide +kernel
theorem dX11_twin_80 : decode cX11_twin 80 = .ok (.iconst 3, 1) := by decide +kernel
theorem dX11_twin_81 : decode cX11_twin 81 = .ok (.invokevirtual 80, 3) := by decide +kernel
theorem dX11_twin_84 : decode cX11_twin 84 = .ok (.ireturn, 1) := by decide +kernel
theorem dX11_twin_85 : decode cX11_twin 85 = .ok (.aload_n 0, 1) := by decide +kernel
theorem dX11_twin_86 : decode cX11_twin 86 = .ok (.iconst 4, 1) := by decide +kernel
theorem dX11_twin_87 : decode cX11_twin 87 = .ok (.iconst 0, 1) := by decide +kernel
theorem dX11_twin_88 : decode cX11_twin 88 = .ok (.iload_n 1, 1) := by decide +kernel
theorem dX11_twin_89 : decode cX11_twin 89 = .ok (.iload_n 2, 1) := by decide +kernel
theorem dX11_twin_90 : decode cX11_twin 90 = .ok (.invokevirtual 83, 3) := by decide +kernel
theorem dX11_twin_93 : decode cX11_twin 93 = .ok (.ireturn, 1) := by decide +kernel
theorem dX11_wrong_0 : decode cX11_wrong 0 = .ok (.aload_n 0, 1) := by decide +kernel
theorem dX11_wrong_1 : decode cX11_wrong 1 = .ok (.getfield 7, 3) := by decide +kernel
theorem dX11_wrong_4 : decode cX11_wrong 4 = .ok (.iconst 0, 1) := by decide +kernel
theorem dX11_wrong_5 : decode cX11_wrong 5 = .ok (.iload_n 1, 1) := by decide +kernel
theorem dX11_wrong_6 : decode cX11_wrong 6 = .ok (.iadd, 1) := by decide +kernel
theorem dX11_wrong_7 : decode cX11_wrong 7 = .ok (.iaload, 1) := by decide +kernel
theorem dX11_wrong_8 : decode cX11_wrong 8 = .ok (.iconst 4, 1) := by decide +kernel
theorem dX11_wrong_9 : decode cX11_wrong 9 = .ok (.if_icmp .ne 7, 3) := by decide +kernel
theorem dX11_wrong_12 : decode cX11_wrong 12 = .ok (.iconst 3, 1) := by decide +kernel
theorem dX11_wrong_13 : decode cX11_wrong 13 = .ok (.goto 45, 3) := by decide +kernel
theorem dX11_wrong_16 : decode cX11_wrong 16 = .ok (.aload_n 0, 1) := by decide +kernel
theorem dX11_wrong_17 : decode cX11_wrong 17 = .ok (.getfield 7, 3) := by decide +kernel
theorem dX11_wrong_20 : decode cX11_wrong 20 = .ok (.bipush 100, 2) := by decide +kernel
theorem dX11_wrong_22 : decode cX11_wrong 22 = .ok (.iload_n 1, 1) := by decide +kernel
theorem dX11_wrong_23 : decode cX11_wrong 23 = .ok (.iadd, 1) := by decide +kernel
theorem dX11_wrong_24 : decode cX11_wrong 24 = .ok (.iaload, 1) := by decide +kernel
theorem dX11_wrong_25 : decode cX11_wrong 25 = .ok (.ifCond .ge 7, 3) := by decide +kernel
theorem dX11_wrong_28 : decode cX11_wrong 28 = .ok (.iconst 1, 1) := by decide +kernel
theorem dX11_wrong_29 : decode cX11_wrong 29 = .ok (.goto 29, 3) := by decide +kernel
theorem dX11_wrong_32 : decode cX11_wrong 32 = .ok (.iload_n 2, 1) := by decide +kernel
theorem dX11_wrong_33 : decode cX11_wrong 33 = .ok (.i2l, 1) := by decide +kernel
theorem dX11_wrong_34 : decode cX11_wrong 34 = .ok (.lconst 0, 1) := by decide +kernel
theorem dX11_wrong_35 : decode cX11_wrong 35 = .ok (.aload_n 0, 1) := by decide +kernel
theorem dX11_wrong_36 : decode cX11_wrong 36 = .ok (.getfield 7, 3) := by decide +kernel
theorem dX11_wrong_39 : decode cX11_wrong 39 = .ok (.bipush 100, 2) := by decide +kernel
theorem dX11_wrong_41 : decode cX11_wrong 41 = .ok (.iload_n 1, 1) := by decide +kernel
theorem dX11_wrong_42 : decode cX11_wrong 42 = .ok (.iadd, 1) := by decide +kernel
theorem dX11_wrong_43 : decode cX11_wrong 43 = .ok (.iaload, 1) := by decide +kernel
theorem dX11_wrong_44 : decode cX11_wrong 44 = .ok (.iconst 1, 1) := by decide +kernel
theorem dX11_wrong_45 : decode cX11_wrong 45 = .ok (.isub, 1) := by decide +kernel
theorem dX11_wrong_46 : decode cX11_wrong 46 = .ok (.i2l, 1) := by decide +kernel
theorem dX11_wrong_47 : decode cX11_wrong 47 = .ok (.invokestatic 67, 3) := by decide +kernel
theorem dX11_wrong_50 : decode cX11_wrong 50 = .ok (.ifCond .eq 7, 3) := by decide +kernel
theorem dX11_wrong_53 : decode cX11_wrong 53 = .ok (.iconst 0, 1) := by decide +kernel
theorem dX11_wrong_54 : decode cX11_wrong 54 = .ok (.goto 4, 3) := by decide +kernel
theorem dX11_wrong_57 : decode cX11_wrong 57 = .ok (.iconst 2, 1) := by decide +kernel
theorem dX11_wrong_58 : decode cX11_wrong 58 = .ok (.ireturn, 1) := by decide +kernel
theorem dX11_height_0 : decode cX11_height 0 = .ok (.aload_n 0, 1) := by decide +kernel
theorem dX11_height_1 : decode cX11_height 1 = .ok (.iload_n 1, 1) := by decide +kernel
theorem dX11_height_2 : decode cX11_height 2 = .ok (.invokevirtual 87, 3) := by decide +kernel
theorem dX11_height_5 : decode cX11_height 5 = .ok (.ifCond .eq 15, 3) := by decide +kernel
theorem dX11_height_8 : decode cX11_height 8 = .ok (.iload_n 3, 1) := by decide +kernel
theorem dX11_height_9 : decode cX11_height 9 = .ok (.i2l, 1) := by decide +kernel
theorem dX11_height_10 : decode cX11_height 10 = .ok (.lconst 0, 1) := by decide +kernel
theorem dX11_height_11 : decode cX11_height 11 = .ok (.ldc2_w 91, 3) := by decide +kernel
theorem dX11_height_14 : decode cX11_height 14 = .ok (.invokestatic 67, 3) := by decide +kernel
theorem dX11_height_17 : decode cX11_height 17 = .ok (.ifCond .ne 6, 3) := by decide +kernel
theorem dX11_height_20 : decode cX11_height 20 = .ok (.bipush (-2), 2) := by decide +kernel
theorem dX11_height_22 : decode cX11_height 22 = .ok (.ireturn, 1) := by decide +kernel
theorem dX11_height_23 : decode cX11_height 23 = .ok (.aload_n 0, 1) := by decide +kernel
theorem dX11_height_24 : decode cX11_height 24 = .ok (.iload_n 1, 1) := by decide +kernel
theorem dX11_height_25 : decode cX11_height 25 = .ok (.iload_n 2, 1) := by decide +kernel
theorem dX11_height_26 : decode cX11_height 26 = .ok (.invokevirtual 93, 3) := by decide +kernel
theorem dX11_height_29 : decode cX11_height 29 = .ok (.istore 5, 2) := by decide +kernel
theorem dX11_height_31 : decode cX11_height 31 = .ok (.iload 5, 2) := by decide +kernel
theorem dX11_height_33 : decode cX11_height 33 = .ok (.ifCond .le 10, 3) := by decide +kernel
theorem dX11_height_36 : decode cX11_height 36 = .ok (.aload_n 0, 1) := by decide +kernel
theorem dX11_height_37 : decode cX11_height 37 = .ok (.iload 5, 2) := by decide +kernel
theorem dX11_height_39 : decode cX11_height 39 = .ok (.invokevirtual 80, 3) := by decide +kernel
theorem dX11_height_42 : decode cX11_height 42 = .ok (.ireturn, 1) := by decide +kernel
theorem dX11_height_43 : decode cX11_height 43 = .ok (.sipush 400, 3) := by decide +kernel
theorem dX11_height_46 : decode cX11_height 46 = .ok (.bipush 18, 2) := by decide +kernel
theorem dX11_height_48 : decode cX11_height 48 = .ok (.iload_n 1, 1) := by decide +kernel
theorem dX11_height_49 : decode cX11_height 49 = .ok (.imul, 1) := by decide +kernel
theorem dX11_height_50 : decode cX11_height 50 = .ok (.iadd, 1) := by decide +kernel
theorem dX11_height_51 : decode cX11_height 51 = .ok (.iload_n 2, 1) := by decide +kernel
theorem dX11_height_52 : decode cX11_height 52 = .ok (.iadd, 1) := by decide +kernel
theorem dX11_height_53 : decode cX11_height 53 = .ok (.istore 6, 2) := by decide +kernel
theorem dX11_height_55 : decode cX11_height 55 = .ok (.iload 4, 2) := by decide +kernel
theorem dX11_height_57 : decode cX11_height 57 = .ok (.ifCond .eq 17, 3) := by decide +kernel
theorem dX11_height_60 : decode cX11_height 60 = .ok (.aload_n 0, 1) := by decide +kernel
theorem dX11_height_61 : decode cX11_height 61 = .ok (.getfield 7, 3) := by decide +kernel
theorem dX11_height_64 : decode cX11_height 64 = .ok (.iload 6, 2) := by decide +kernel
theorem dX11_height_66 : decode cX11_height 66 = .ok (.iaload, 1) := by decide +kernel
theorem dX11_height_67 : decode cX11_height 67 = .ok (.iconst 1, 1) := by decide +kernel
theorem dX11_height_68 : decode cX11_height 68 = .ok (.iload_n 3, 1) := by decide +kernel
theorem dX11_height_69 : decode cX11_height 69 = .ok (.ishl, 1) := by decide +kernel
theorem dX11_height_70 : decode cX11_height 70 = .ok (.ior, 1) := by decide +kernel
theorem dX11_height_71 : decode cX11_height 71 = .ok (.goto 16, 3) := by decide +kernel
theorem dX11_height_74 : decode cX11_height 74 = .ok (.aload_n 0, 1) := by decide +kernel
theorem dX11_height_75 : decode cX11_height 75 = .ok (.getfield 7, 3) := by decide +kernel
theorem dX11_height_78 : decode cX11_height 78 = .ok (.iload 6, 2) := by decide +kernel
theorem dX11_height_80 : decode cX11_height 80 = .ok (.iaload, 1) := by decide +kernel
theorem dX11_height_81 : decode cX11_height 81 = .ok (.iconst 1, 1) := by decide +kernel
theorem dX11_height_82 : decode cX11_height 82 = .ok (.iload_n 3, 1) := by decide +kernel
theorem dX11_height_83 : decode cX11_height 83 = .ok (.ishl, 1) := by decide +kernel
theorem dX11_height_84 : decode cX11_height 84 = .ok (.iconst (-1), 1) := by decide +kernel
theorem dX11_height_85 : decode cX11_height 85 = .ok (.ixor, 1) := by decide +kernel
theorem dX11_height_86 : decode cX11_height 86 = .ok (.iand, 1) := by decide +kernel
theorem dX11_height_87 : decode cX11_height 87 = .ok (.istore 7, 2) := by decide +kernel
theorem dX11_height_89 : decode cX11_height 89 = .ok (.iload 7, 2) := by decide +kernel
theorem dX11_height_91 : decode cX11_height 91 = .ok (.invokestatic 97, 3) := by decide +kernel
theorem dX11_height_94 : decode cX11_height 94 = .ok (.aload_n 0, 1) := by decide +kernel
theorem dX11_height_95 : decode cX11_height 95 = .ok (.getfield 7, 3) := by decide +kernel
theorem dX11_height_98 : decode cX11_height 98 = .ok (.iconst 0, 1) := by decide +kernel
theorem dX11_height_99 : decode cX11_height 99 = .ok (.iload_n 1, 1) := by decide +kernel
theorem dX11_height_100 : decode cX11_height 100 = .ok (.iadd, 1) := by decide +kernel
theorem dX11_height_101 : decode cX11_height 101 = .ok (.iaload, 1) := by decide +kernel
theorem dX11_height_102 : decode cX11_height 102 = .ok (.invokestatic 100, 3) := by decide +kernel
theorem dX11_height_105 : decode cX11_height 105 = .ok (.if_icmp .le 6, 3) := by decide +kernel
theorem dX11_height_108 : decode cX11_height 108 = .ok (.bipush (-4), 2) := by decide +kernel
theorem dX11_height_110 : decode cX11_height 110 = .ok (.ireturn, 1) := by decide +kernel
theorem dX11_height_111 : decode cX11_height 111 = .ok (.aload_n 0, 1) := by decide +kernel
theorem dX11_height_112 : decode cX11_height 112 = .ok (.invokevirtual 71, 3) := by decide +kernel
theorem dX11_height_115 : decode cX11_height 115 = .ok (.aload_n 0, 1) := by decide +kernel
theorem dX11_height_116 : decode cX11_height 116 = .ok (.getfield 7, 3) := by decide +kernel
theorem dX11_height_119 : decode cX11_height 119 = .ok (.iload 6, 2) := by decide +kernel
theorem dX11_height_121 : decode cX11_height 121 = .ok (.iload 7, 2) := by decide +kernel
theorem dX11_height_123 : decode cX11_height 123 = .ok (.iastore, 1) := by decide +kernel
theorem dX11_height_124 : decode cX11_height 124 = .ok (.aload_n 0, 1) := by decide +kernel
theorem dX11_height_125 : decode cX11_height 125 = .ok (.iload 7, 2) := by decide +kernel
theorem dX11_height_127 : decode cX11_height 127 = .ok (.invokestatic 97, 3) := by decide +kernel
theorem dX11_height_130 : decode cX11_height 130 = .ok (.invokevirtual 74, 3) := by decide +kernel
theorem dX11_height_133 : decode cX11_height 133 = .ok (.ireturn, 1) := by decide +kernel
theorem dX11_heightAt_0 : decode cX11_heightAt 0 = .ok (.aload_n 0, 1) := by decide +kernel
theorem dX11_heightAt_1 : decode cX11_heightAt 1 = .ok (.iload_n 1, 1) := by decide +kernel
theorem dX11_heightAt_2 : decode cX11_heightAt 2 = .ok (.invokevirtual 87, 3) := by decide +kernel
theorem dX11_heightAt_5 : decode cX11_heightAt 5 = .ok (.ifCond .ne 6, 3) := by decide +kernel
theorem dX11_heightAt_8 : decode cX11_heightAt 8 = .ok (.bipush (-2), 2) := by decide +kernel
theorem dX11_heightAt_10 : decode cX11_heightAt 10 = .ok (.ireturn, 1) := by decide +kernel
theorem dX11_heightAt_11 : decode cX11_heightAt 11 = .ok (.aload_n 0, 1) := by decide +kernel
theorem dX11_heightAt_12 : decode cX11_heightAt 12 = .ok (.iload_n 1, 1) := by decide +kernel
theorem dX11_heightAt_13 : decode cX11_heightAt 13 = .ok (.iload_n 2, 1) := by decide +kernel
theorem dX11_heightAt_14 : decode cX11_heightAt 14 = .ok (.invokevirtual 93, 3) := by decide +kernel
theorem dX11_heightAt_17 : decode cX11_heightAt 17 = .ok (.istore 4, 2) := by decide +kernel
theorem dX11_heightAt_19 : decode cX11_heightAt 19 = .ok (.iload 4, 2) := by decide +kernel
theorem dX11_heightAt_21 : decode cX11_heightAt 21 = .ok (.ifCond .le 10, 3) := by decide +kernel
theorem dX11_heightAt_24 : decode cX11_heightAt 24 = .ok (.aload_n 0, 1) := by decide +kernel
theorem dX11_heightAt_25 : decode cX11_heightAt 25 = .ok (.iload 4, 2) := by decide +kernel
theorem dX11_heightAt_27 : decode cX11_heightAt 27 = .ok (.invokevirtual 80, 3) := by decide +kernel
theorem dX11_heightAt_30 : decode cX11_heightAt 30 = .ok (.ireturn, 1) := by decide +kernel
theorem dX11_heightAt_31 : decode cX11_heightAt 31 = .ok (.aload_n 0, 1) := by decide +kernel
theorem dX11_heightAt_32 : decode cX11_heightAt 32 = .ok (.getfield 7, 3) := by decide +kernel
theorem dX11_heightAt_35 : decode cX11_heightAt 35 = .ok (.sipush 400, 3) := by decide +kernel
theorem dX11_heightAt_38 : decode cX11_heightAt 38 = .ok (.bipush 18, 2) := by decide +kernel
theorem dX11_heightAt_40 : decode cX11_heightAt 40 = .ok (.iload_n 1, 1) := by decide +kernel
theorem dX11_heightAt_41 : decode cX11_heightAt 41 = .ok (.imul, 1) := by decide +kernel
theorem dX11_heightAt_42 : decode cX11_heightAt 42 = .ok (.iadd, 1) := by decide +kernel
theorem dX11_heightAt_43 : decode cX11_heightAt 43 = .ok (.iload_n 2, 1) := by decide +kernel
theorem dX11_heightAt_44 : decode cX11_heightAt 44 = .ok (.iadd, 1) := by decide +kernel
theorem dX11_heightAt_45 : decode cX11_heightAt 45 = .ok (.iaload, 1) := by decide +kernel
theorem dX11_heightAt_46 : decode cX11_heightAt 46 = .ok (.istore 5, 2) := by decide +kernel
theorem dX11_heightAt_48 : decode cX11_heightAt 48 = .ok (.iload 5, 2) := by decide +kernel
theorem dX11_heightAt_50 : decode cX11_heightAt 50 = .ok (.ifCond .ne 9, 3) := by decide +kernel
theorem dX11_heightAt_53 : decode cX11_heightAt 53 = .ok (.aload_n 0, 1) := by decide +kernel
theorem dX11_heightAt_54 : decode cX11_heightAt 54 = .ok (.iconst 1, 1) := by decide +kernel
theorem dX11_heightAt_55 : decode cX11_heightAt 55 = .ok (.invokevirtual 80, 3) := by decide +kernel
theorem dX11_heightAt_58 : decode cX11_heightAt 58 = .ok (.ireturn, 1) := by decide +kernel
theorem dX11_heightAt_59 : decode cX11_heightAt 59 = .ok (.iload_n 3, 1) := by decide +kernel
theorem dX11_heightAt_60 : decode cX11_heightAt 60 = .ok (.istore 6, 2) := by decide +kernel
theorem dX11_heightAt_62 : decode cX11_heightAt 62 = .ok (.iconst 0, 1) := by decide +kernel
theorem dX11_heightAt_63 : decode cX11_heightAt 63 = .ok (.istore 7, 2) := by decide +kernel
theorem dX11_heightAt_65 : decode cX11_heightAt 65 = .ok (.iload 7, 2) := by decide +kernel
theorem dX11_heightAt_67 : decode cX11_heightAt 67 = .ok (.bipush 10, 2) := by decide +kernel
theorem dX11_heightAt_69 : decode cX11_heightAt 69 = .ok (.if_icmp .ge 39, 3) := by decide +kernel
theorem dX11_heightAt_72 : decode cX11_heightAt 72 = .ok (.iload_n 3, 1) := by decide +kernel
theorem dX11_heightAt_73 : decode cX11_heightAt 73 = .ok (.ifCond .lt 35, 3) := by decide +kernel
theorem dX11_heightAt_76 : decode cX11_heightAt 76 = .ok (.iload 5, 2) := by decide +kernel
theorem dX11_heightAt_78 : decode cX11_heightAt 78 = .ok (.iload 7, 2) := by decide +kernel
theorem dX11_heightAt_80 : decode cX11_heightAt 80 = .ok (.ishr, 1) := by decide +kernel
theorem dX11_heightAt_81 : decode cX11_heightAt 81 = .ok (.iconst 1, 1) := by decide +kernel
theorem dX11_heightAt_82 : decode cX11_heightAt 82 = .ok (.iand, 1) := by decide +kernel
theorem dX11_heightAt_83 : decode cX11_heightAt 83 = .ok (.iconst 1, 1) := by decide +kernel
theorem dX11_heightAt_84 : decode cX11_heightAt 84 = .ok (.if_icmp .ne 18, 3) := by decide +kernel
theorem dX11_heightAt_87 : decode cX11_heightAt 87 = .ok (.iload 6, 2) := by decide +kernel
theorem dX11_heightAt_89 : decode cX11_heightAt 89 = .ok (.ifCond .ne 10, 3) := by decide +kernel
theorem dX11_heightAt_92 : decode cX11_heightAt 92 = .ok (.aload_n 0, 1) := by decide +kernel
theorem dX11_heightAt_93 : decode cX11_heightAt 93 = .ok (.iload 7, 2) := by decide +kernel
theorem dX11_heightAt_95 : decode cX11_heightAt 95 = .ok (.invokevirtual 74, 3) := by decide +kernel
theorem dX11_heightAt_98 : decode cX11_heightAt 98 = .ok (.ireturn, 1) := by decide +kernel
theorem dX11_heightAt_99 : decode cX11_heightAt 99 = .ok (.iinc 6 (-1), 3) := by decide +kernel
theorem dX11_heightAt_102 : decode cX11_heightAt 102 = .ok (.iinc 7 1, 3) := by decide +kernel
theorem dX11_heightAt_105 : decode cX11_heightAt 105 = .ok (.goto (-40), 3) := by decide +kernel
theorem dX11_heightAt_108 : decode cX11_heightAt 108 = .ok (.aload_n 0, 1) := by decide +kernel
theorem dX11_heightAt_109 : decode cX11_heightAt 109 = .ok (.iconst 2, 1) := by decide +kernel
theorem dX11_heightAt_110 : decode cX11_heightAt 110 = .ok (.invokevirtual 80, 3) := by decide +kernel
theorem dX11_heightAt_113 : decode cX11_heightAt 113 = .ok (.ireturn, 1) := by decide +kernel
theorem dX11_takeCore_0 : decode cX11_takeCore 0 = .ok (.aload_n 0, 1) := by decide +kernel
theorem dX11_takeCore_1 : decode cX11_takeCore 1 = .ok (.iload_n 1, 1) := by decide +kernel
theorem dX11_takeCore_2 : decode cX11_takeCore 2 = .ok (.invokevirtual 87, 3) := by decide +kernel
theorem dX11_takeCore_5 : decode cX11_takeCore 5 = .ok (.ifCond .ne 6, 3) := by decide +kernel
theorem dX11_takeCore_8 : decode cX11_takeCore 8 = .ok (.bipush (-2), 2) := by decide +kernel
theorem dX11_takeCore_10 : decode cX11_takeCore 10 = .ok (.ireturn, 1) := by decide +kernel
theorem dX11_takeCore_11 : decode cX11_takeCore 11 = .ok (.aload_n 0, 1) := by decide +kernel
theorem dX11_takeCore_12 : decode cX11_takeCore 12 = .ok (.getfield 7, 3) := by decide +kernel
theorem dX11_takeCore_15 : decode cX11_takeCore 15 = .ok (.iconst 0, 1) := by decide +kernel
theorem dX11_takeCore_16 : decode cX11_takeCore 16 = .ok (.iload_n 1, 1) := by decide +kernel
theorem dX11_takeCore_17 : decode cX11_takeCore 17 = .ok (.iadd, 1) := by decide +kernel
theorem dX11_takeCore_18 : decode cX11_takeCore 18 = .ok (.iaload, 1) := by decide +kernel
theorem dX11_takeCore_19 : decode cX11_takeCore 19 = .ok (.iconst 2, 1) := by decide +kernel
theorem dX11_takeCore_20 : decode cX11_takeCore 20 = .ok (.if_icmp .eq 9, 3) := by decide +kernel
theorem dX11_takeCore_23 : decode cX11_takeCore 23 = .ok (.aload_n 0, 1) := by decide +kernel
theorem dX11_takeCore_24 : decode cX11_takeCore 24 = .ok (.iconst 3, 1) := by decide +kernel
theorem dX11_takeCore_25 : decode cX11_takeCore 25 = .ok (.invokevirtual 80, 3) := by decide +kernel
theorem dX11_takeCore_28 : decode cX11_takeCore 28 = .ok (.ireturn, 1) := by decide +kernel
theorem dX11_takeCore_29 : decode cX11_takeCore 29 = .ok (.aload_n 0, 1) := by decide +kernel
theorem dX11_takeCore_30 : decode cX11_takeCore 30 = .ok (.getfield 7, 3) := by decide +kernel
theorem dX11_takeCore_33 : decode cX11_takeCore 33 = .ok (.bipush 100, 2) := by decide +kernel
theorem dX11_takeCore_35 : decode cX11_takeCore 35 = .ok (.iload_n 1, 1) := by decide +kernel
theorem dX11_takeCore_36 : decode cX11_takeCore 36 = .ok (.iadd, 1) := by decide +kernel
theorem dX11_takeCore_37 : decode cX11_takeCore 37 = .ok (.iaload, 1) := by decide +kernel
theorem dX11_takeCore_38 : decode cX11_takeCore 38 = .ok (.istore_n 2, 1) := by decide +kernel
theorem dX11_takeCore_39 : decode cX11_takeCore 39 = .ok (.iload_n 2, 1) := by decide +kernel
theorem dX11_takeCore_40 : decode cX11_takeCore 40 = .ok (.ifCond .ge 9, 3) := by decide +kernel
theorem dX11_takeCore_43 : decode cX11_takeCore 43 = .ok (.aload_n 0, 1) := by decide +kernel
theorem dX11_takeCore_44 : decode cX11_takeCore 44 = .ok (.iconst 1, 1) := by decide +kernel
theorem dX11_takeCore_45 : decode cX11_takeCore 45 = .ok (.invokevirtual 80, 3) := by decide +kernel
theorem dX11_takeCore_48 : decode cX11_takeCore 48 = .ok (.ireturn, 1) := by decide +kernel
theorem dX11_takeCore_49 : decode cX11_takeCore 49 = .ok (.aload_n 0, 1) := by decide +kernel
theorem dX11_takeCore_50 : decode cX11_takeCore 50 = .ok (.invokevirtual 71, 3) := by decide +kernel
theorem dX11_takeCore_53 : decode cX11_takeCore 53 = .ok (.iconst 0, 1) := by decide +kernel
theorem dX11_takeCore_54 : decode cX11_takeCore 54 = .ok (.istore_n 3, 1) := by decide +kernel
theorem dX11_takeCore_55 : decode cX11_takeCore 55 = .ok (.iload_n 3, 1) := by decide +kernel
theorem dX11_takeCore_56 : decode cX11_takeCore 56 = .ok (.bipush 18, 2) := by decide +kernel
theorem dX11_takeCore_58 : decode cX11_takeCore 58 = .ok (.if_icmp .ge 50, 3) := by decide +kernel
theorem dX11_takeCore_61 : decode cX11_takeCore 61 = .ok (.aload_n 0, 1) := by decide +kernel
theorem dX11_takeCore_62 : decode cX11_takeCore 62 = .ok (.getfield 7, 3) := by decide +kernel
theorem dX11_takeCore_65 : decode cX11_takeCore 65 = .ok (.sipush 8504, 3) := by decide +kernel
theorem dX11_takeCore_68 : decode cX11_takeCore 68 = .ok (.iload_n 3, 1) := by decide +kernel
theorem dX11_takeCore_69 : decode cX11_takeCore 69 = .ok (.iadd, 1) := by decide +kernel
theorem dX11_takeCore_70 : decode cX11_takeCore 70 = .ok (.aload_n 0, 1) := by decide +kernel
theorem dX11_takeCore_71 : decode cX11_takeCore 71 = .ok (.getfield 7, 3) := by decide +kernel
theorem dX11_takeCore_74 : decode cX11_takeCore 74 = .ok (.sipush 400, 3) := by decide +kernel
theorem dX11_takeCore_77 : decode cX11_takeCore 77 = .ok (.bipush 18, 2) := by decide +kernel
theorem dX11_takeCore_79 : decode cX11_takeCore 79 = .ok (.iload_n 1, 1) := by decide +kernel
theorem dX11_takeCore_80 : decode cX11_takeCore 80 = .ok (.imul, 1) := by decide +kernel
theorem dX11_takeCore_81 : decode cX11_takeCore 81 = .ok (.iadd, 1) := by decide +kernel
theorem dX11_takeCore_82 : decode cX11_takeCore 82 = .ok (.iload_n 3, 1) := by decide +kernel
theorem dX11_takeCore_83 : decode cX11_takeCore 83 = .ok (.iadd, 1) := by decide +kernel
theorem dX11_takeCore_84 : decode cX11_takeCore 84 = .ok (.iaload, 1) := by decide +kernel
theorem dX11_takeCore_85 : decode cX11_takeCore 85 = .ok (.iastore, 1) := by decide +kernel
theorem dX11_takeCore_86 : decode cX11_takeCore 86 = .ok (.aload_n 0, 1) := by decide +kernel
theorem dX11_takeCore_87 : decode cX11_takeCore 87 = .ok (.getfield 7, 3) := by decide +kernel
theorem dX11_takeCore_90 : decode cX11_takeCore 90 = .ok (.sipush 400, 3) := by decide +kernel
theorem dX11_takeCore_93 : decode cX11_takeCore 93 = .ok (.bipush 18, 2) := by decide +kernel
theorem dX11_takeCore_95 : decode cX11_takeCore 95 = .ok (.iload_n 1, 1) := by decide +kernel
theorem dX11_takeCore_96 : decode cX11_takeCore 96 = .ok (.imul, 1) := by decide +kernel
theorem dX11_takeCore_97 : decode cX11_takeCore 97 = .ok (.iadd, 1) := by decide +kernel
theorem dX11_takeCore_98 : decode cX11_takeCore 98 = .ok (.iload_n 3, 1) := by decide +kernel
theorem dX11_takeCore_99 : decode cX11_takeCore 99 = .ok (.iadd, 1) := by decide +kernel
theorem dX11_takeCore_100 : decode cX11_takeCore 100 = .ok (.iconst 0, 1) := by decide +kernel
theorem dX11_takeCore_101 : decode cX11_takeCore 101 = .ok (.iastore, 1) := by decide +kernel
theorem dX11_takeCore_102 : decode cX11_takeCore 102 = .ok (.iinc 3 1, 3) := by decide +kernel
theorem dX11_takeCore_105 : decode cX11_takeCore 105 = .ok (.goto (-50), 3) := by decide +kernel
theorem dX11_takeCore_108 : decode cX11_takeCore 108 = .ok (.aload_n 0, 1) := by decide +kernel
theorem dX11_takeCore_109 : decode cX11_takeCore 109 = .ok (.getfield 7, 3) := by decide +kernel
theorem dX11_takeCore_112 : decode cX11_takeCore 112 = .ok (.sipush 8528, 3) := by decide +kernel
theorem dX11_takeCore_115 : decode cX11_takeCore 115 = .ok (.iload_n 2, 1) := by decide +kernel
theorem dX11_takeCore_116 : decode cX11_takeCore 116 = .ok (.iastore, 1) := by decide +kernel
theorem dX11_takeCore_117 : decode cX11_takeCore 117 = .ok (.aload_n 0, 1) := by decide +kernel
theorem dX11_takeCore_118 : decode cX11_takeCore 118 = .ok (.getfield 7, 3) := by decide +kernel
theorem dX11_takeCore_121 : decode cX11_takeCore 121 = .ok (.bipush 100, 2) := by decide +kernel
theorem dX11_takeCore_123 : decode cX11_takeCore 123 = .ok (.iload_n 1, 1) := by decide +kernel
theorem dX11_takeCore_124 : decode cX11_takeCore 124 = .ok (.iadd, 1) := by decide +kernel
theorem dX11_takeCore_125 : decode cX11_takeCore 125 = .ok (.iconst (-1), 1) := by decide +kernel
theorem dX11_takeCore_126 : decode cX11_takeCore 126 = .ok (.iastore, 1) := by decide +kernel
theorem dX11_takeCore_127 : decode cX11_takeCore 127 = .ok (.aload_n 0, 1) := by decide +kernel
theorem dX11_takeCore_128 : decode cX11_takeCore 128 = .ok (.iload_n 2, 1) := by decide +kernel
theorem dX11_takeCore_129 : decode cX11_takeCore 129 = .ok (.invokevirtual 74, 3) := by decide +kernel
theorem dX11_takeCore_132 : decode cX11_takeCore 132 = .ok (.ireturn, 1) := by decide +kernel
theorem dX11_putCore_0 : decode cX11_putCore 0 = .ok (.aload_n 0, 1) := by decide +kernel
theorem dX11_putCore_1 : decode cX11_putCore 1 = .ok (.iload_n 1, 1) := by decide +kernel
theorem dX11_putCore_2 : decode cX11_putCore 2 = .ok (.invokevirtual 87, 3) := by decide +kernel
theorem dX11_putCore_5 : decode cX11_putCore 5 = .ok (.ifCond .ne 6, 3) := by decide +kernel
theorem dX11_putCore_8 : decode cX11_putCore 8 = .ok (.bipush (-2), 2) := by decide +kernel
theorem dX11_putCore_10 : decode cX11_putCore 10 = .ok (.ireturn, 1) := by decide +kernel
theorem dX11_putCore_11 : decode cX11_putCore 11 = .ok (.aload_n 0, 1) := by decide +kernel
theorem dX11_putCore_12 : decode cX11_putCore 12 = .ok (.getfield 7, 3) := by decide +kernel
theorem dX11_putCore_15 : decode cX11_putCore 15 = .ok (.iconst 0, 1) := by decide +kernel
theorem dX11_putCore_16 : decode cX11_putCore 16 = .ok (.iload_n 1, 1) := by decide +kernel
theorem dX11_putCore_17 : decode cX11_putCore 17 = .ok (.iadd, 1) := by decide +kernel
theorem dX11_putCore_18 : decode cX11_putCore 18 = .ok (.iaload, 1) := by decide +kernel
theorem dX11_putCore_19 : decode cX11_putCore 19 = .ok (.iconst 2, 1) := by decide +kernel
theorem dX11_putCore_20 : decode cX11_putCore 20 = .ok (.if_icmp .eq 9, 3) := by decide +kernel
theorem dX11_putCore_23 : decode cX11_putCore 23 = .ok (.aload_n 0, 1) := by decide +kernel
theorem dX11_putCore_24 : decode cX11_putCore 24 = .ok (.iconst 3, 1) := by decide +kernel
theorem dX11_putCore_25 : decode cX11_putCore 25 = .ok (.invokevirtual 80, 3) := by decide +kernel
theorem dX11_putCore_28 : decode cX11_putCore 28 = .ok (.ireturn, 1) := by decide +kernel
theorem dX11_putCore_29 : decode cX11_putCore 29 = .ok (.aload_n 0, 1) := by decide +kernel
theorem dX11_putCore_30 : decode cX11_putCore 30 = .ok (.getfield 7, 3) := by decide +kernel
theorem dX11_putCore_33 : decode cX11_putCore 33 = .ok (.bipush 100, 2) := by decide +kernel
theorem dX11_putCore_35 : decode cX11_putCore 35 = .ok (.iload_n 1, 1) := by decide +kernel
theorem dX11_putCore_36 : decode cX11_putCore 36 = .ok (.iadd, 1) := by decide +kernel
theorem dX11_putCore_37 : decode cX11_putCore 37 = .ok (.iaload, 1) := by decide +kernel
theorem dX11_putCore_38 : decode cX11_putCore 38 = .ok (.ifCond .lt 6, 3) := by decide +kernel
theorem dX11_putCore_41 : decode cX11_putCore 41 = .ok (.bipush (-3), 2) := by decide +kernel
theorem dX11_putCore_43 : decode cX11_putCore 43 = .ok (.ireturn, 1) := by decide +kernel
theorem dX11_putCore_44 : decode cX11_putCore 44 = .ok (.aload_n 0, 1) := by decide +kernel
theorem dX11_putCore_45 : decode cX11_putCore 45 = .ok (.getfield 7, 3) := by decide +kernel
theorem dX11_putCore_48 : decode cX11_putCore 48 = .ok (.sipush 8528, 3) := by decide +kernel
theorem dX11_putCore_51 : decode cX11_putCore 51 = .ok (.iaload, 1) := by decide +kernel
theorem dX11_putCore_52 : decode cX11_putCore 52 = .ok (.istore_n 2, 1) := by decide +kernel
theorem dX11_putCore_53 : decode cX11_putCore 53 = .ok (.iload_n 2, 1) := by decide +kernel
theorem dX11_putCore_54 : decode cX11_putCore 54 = .ok (.ifCond .ge 9, 3) := by decide +kernel
theorem dX11_putCore_57 : decode cX11_putCore 57 = .ok (.aload_n 0, 1) := by decide +kernel
theorem dX11_putCore_58 : decode cX11_putCore 58 = .ok (.iconst 1, 1) := by decide +kernel
theorem dX11_putCore_59 : decode cX11_putCore 59 = .ok (.invokevirtual 80, 3) := by decide +kernel
theorem dX11_putCore_62 : decode cX11_putCore 62 = .ok (.ireturn, 1) := by decide +kernel
theorem dX11_putCore_63 : decode cX11_putCore 63 = .ok (.aload_n 0, 1) := by decide +kernel
theorem dX11_putCore_64 : decode cX11_putCore 64 = .ok (.invokevirtual 71, 3) := by decide +kernel
theorem dX11_putCore_67 : decode cX11_putCore 67 = .ok (.iconst 0, 1) := by decide +kernel
theorem dX11_putCore_68 : decode cX11_putCore 68 = .ok (.istore_n 3, 1) := by decide +kernel
theorem dX11_putCore_69 : decode cX11_putCore 69 = .ok (.iload_n 3, 1) := by decide +kernel
theorem dX11_putCore_70 : decode cX11_putCore 70 = .ok (.bipush 18, 2) := by decide +kernel
theorem dX11_putCore_72 : decode cX11_putCore 72 = .ok (.if_icmp .ge 34, 3) := by decide +kernel
theorem dX11_putCore_75 : decode cX11_putCore 75 = .ok (.aload_n 0, 1) := by decide +kernel
theorem dX11_putCore_76 : decode cX11_putCore 76 = .ok (.getfield 7, 3) := by decide +kernel
theorem dX11_putCore_79 : decode cX11_putCore 79 = .ok (.sipush 400, 3) := by decide +kernel
theorem dX11_putCore_82 : decode cX11_putCore 82 = .ok (.bipush 18, 2) := by decide +kernel
theorem dX11_putCore_84 : decode cX11_putCore 84 = .ok (.iload_n 1, 1) := by decide +kernel
theorem dX11_putCore_85 : decode cX11_putCore 85 = .ok (.imul, 1) := by decide +kernel
theorem dX11_putCore_86 : decode cX11_putCore 86 = .ok (.iadd, 1) := by decide +kernel
theorem dX11_putCore_87 : decode cX11_putCore 87 = .ok (.iload_n 3, 1) := by decide +kernel
theorem dX11_putCore_88 : decode cX11_putCore 88 = .ok (.iadd, 1) := by decide +kernel
theorem dX11_putCore_89 : decode cX11_putCore 89 = .ok (.aload_n 0, 1) := by decide +kernel
theorem dX11_putCore_90 : decode cX11_putCore 90 = .ok (.getfield 7, 3) := by decide +kernel
theorem dX11_putCore_93 : decode cX11_putCore 93 = .ok (.sipush 8504, 3) := by decide +kernel
theorem dX11_putCore_96 : decode cX11_putCore 96 = .ok (.iload_n 3, 1) := by decide +kernel
theorem dX11_putCore_97 : decode cX11_putCore 97 = .ok (.iadd, 1) := by decide +kernel
theorem dX11_putCore_98 : decode cX11_putCore 98 = .ok (.iaload, 1) := by decide +kernel
theorem dX11_putCore_99 : decode cX11_putCore 99 = .ok (.iastore, 1) := by decide +kernel
theorem dX11_putCore_100 : decode cX11_putCore 100 = .ok (.iinc 3 1, 3) := by decide +kernel
theorem dX11_putCore_103 : decode cX11_putCore 103 = .ok (.goto (-34), 3) := by decide +kernel
theorem dX11_putCore_106 : decode cX11_putCore 106 = .ok (.aload_n 0, 1) := by decide +kernel
theorem dX11_putCore_107 : decode cX11_putCore 107 = .ok (.getfield 7, 3) := by decide +kernel
theorem dX11_putCore_110 : decode cX11_putCore 110 = .ok (.bipush 100, 2) := by decide +kernel
theorem dX11_putCore_112 : decode cX11_putCore 112 = .ok (.iload_n 1, 1) := by decide +kernel
theorem dX11_putCore_113 : decode cX11_putCore 113 = .ok (.iadd, 1) := by decide +kernel
theorem dX11_putCore_114 : decode cX11_putCore 114 = .ok (.iload_n 2, 1) := by decide +kernel
theorem dX11_putCore_115 : decode cX11_putCore 115 = .ok (.iastore, 1) := by decide +kernel
theorem dX11_putCore_116 : decode cX11_putCore 116 = .ok (.aload_n 0, 1) := by decide +kernel
theorem dX11_putCore_117 : decode cX11_putCore 117 = .ok (.getfield 7, 3) := by decide +kernel
theorem dX11_putCore_120 : decode cX11_putCore 120 = .ok (.sipush 8528, 3) := by decide +kernel
theorem dX11_putCore_123 : decode cX11_putCore 123 = .ok (.iconst (-1), 1) := by decide +kernel
theorem dX11_putCore_124 : decode cX11_putCore 124 = .ok (.iastore, 1) := by decide +kernel
theorem dX11_putCore_125 : decode cX11_putCore 125 = .ok (.aload_n 0, 1) := by decide +kernel
theorem dX11_putCore_126 : decode cX11_putCore 126 = .ok (.iload_n 2, 1) := by decide +kernel
theorem dX11_putCore_127 : decode cX11_putCore 127 = .ok (.invokevirtual 74, 3) := by decide +kernel
theorem dX11_putCore_130 : decode cX11_putCore 130 = .ok (.ireturn, 1) := by decide +kernel
theorem dX11_kind_0 : decode cX11_kind 0 = .ok (.aload_n 0, 1) := by decide +kernel
theorem dX11_kind_1 : decode cX11_kind 1 = .ok (.iload_n 1, 1) := by decide +kernel
theorem dX11_kind_2 : decode cX11_kind 2 = .ok (.invokevirtual 87, 3) := by decide +kernel
theorem dX11_kind_5 : decode cX11_kind 5 = .ok (.ifCond .eq 14, 3) := by decide +kernel
theorem dX11_kind_8 : decode cX11_kind 8 = .ok (.aload_n 0, 1) := by decide +kernel
theorem dX11_kind_9 : decode cX11_kind 9 = .ok (.getfield 7, 3) := by decide +kernel
theorem dX11_kind_12 : decode cX11_kind 12 = .ok (.iconst 0, 1) := by decide +kernel
theorem dX11_kind_13 : decode cX11_kind 13 = .ok (.iload_n 1, 1) := by decide +kernel
theorem dX11_kind_14 : decode cX11_kind 14 = .ok (.iadd, 1) := by decide +kernel
theorem dX11_kind_15 : decode cX11_kind 15 = .ok (.iaload, 1) := by decide +kernel
theorem dX11_kind_16 : decode cX11_kind 16 = .ok (.goto 5, 3) := by decide +kernel
theorem dX11_kind_19 : decode cX11_kind 19 = .ok (.bipush (-2), 2) := by decide +kernel
theorem dX11_kind_21 : decode cX11_kind 21 = .ok (.ireturn, 1) := by decide +kernel
theorem dX11_chambers_0 : decode cX11_chambers 0 = .ok (.aload_n 0, 1) := by decide +kernel
theorem dX11_chambers_1 : decode cX11_chambers 1 = .ok (.iload_n 1, 1) := by decide +kernel
theorem dX11_chambers_2 : decode cX11_chambers 2 = .ok (.invokevirtual 87, 3) := by decide +kernel
theorem dX11_chambers_5 : decode cX11_chambers 5 = .ok (.ifCond .ne 6, 3) := by decide +kernel
theorem dX11_chambers_8 : decode cX11_chambers 8 = .ok (.bipush (-2), 2) := by decide +kernel
theorem dX11_chambers_10 : decode cX11_chambers 10 = .ok (.ireturn, 1) := by decide +kernel
theorem dX11_chambers_11 : decode cX11_chambers 11 = .ok (.aload_n 0, 1) := by decide +kernel
theorem dX11_chambers_12 : decode cX11_chambers 12 = .ok (.getfield 7, 3) := by decide +kernel
theorem dX11_chambers_15 : decode cX11_chambers 15 = .ok (.bipush 100, 2) := by decide +kernel
theorem dX11_chambers_17 : decode cX11_chambers 17 = .ok (.iload_n 1, 1) := by decide +kernel
theorem dX11_chambers_18 : decode cX11_chambers 18 = .ok (.iadd, 1) := by decide +kernel
theorem dX11_chambers_19 : decode cX11_chambers 19 = .ok (.iaload, 1) := by decide +kernel
theorem dX11_chambers_20 : decode cX11_chambers 20 = .ok (.istore_n 2, 1) := by decide +kernel
theorem dX11_chambers_21 : decode cX11_chambers 21 = .ok (.aload_n 0, 1) := by decide +kernel
theorem dX11_chambers_22 : decode cX11_chambers 22 = .ok (.getfield 7, 3) := by decide +kernel
theorem dX11_chambers_25 : decode cX11_chambers 25 = .ok (.iconst 0, 1) := by decide +kernel
theorem dX11_chambers_26 : decode cX11_chambers 26 = .ok (.iload_n 1, 1) := by decide +kernel
theorem dX11_chambers_27 : decode cX11_chambers 27 = .ok (.iadd, 1) := by decide +kernel
theorem dX11_chambers_28 : decode cX11_chambers 28 = .ok (.iaload, 1) := by decide +kernel
theorem dX11_chambers_29 : decode cX11_chambers 29 = .ok (.iconst 4, 1) := by decide +kernel
theorem dX11_chambers_30 : decode cX11_chambers 30 = .ok (.if_icmp .ne 11, 3) := by decide +kernel
theorem dX11_chambers_33 : decode cX11_chambers 33 = .ok (.aload_n 0, 1) := by decide +kernel
theorem dX11_chambers_34 : decode cX11_chambers 34 = .ok (.iconst 3, 1) := by decide +kernel
theorem dX11_chambers_35 : decode cX11_chambers 35 = .ok (.invokevirtual 80, 3) := by decide +kernel
theorem dX11_chambers_38 : decode cX11_chambers 38 = .ok (.goto 20, 3) := by decide +kernel
theorem dX11_chambers_41 : decode cX11_chambers 41 = .ok (.iload_n 2, 1) := by decide +kernel
theorem dX11_chambers_42 : decode cX11_chambers 42 = .ok (.ifCond .ge 11, 3) := by decide +kernel
theorem dX11_chambers_45 : decode cX11_chambers 45 = .ok (.aload_n 0, 1) := by decide +kernel
theorem dX11_chambers_46 : decode cX11_chambers 46 = .ok (.iconst 1, 1) := by decide +kernel
theorem dX11_chambers_47 : decode cX11_chambers 47 = .ok (.invokevirtual 80, 3) := by decide +kernel
theorem dX11_chambers_50 : decode cX11_chambers 50 = .ok (.goto 8, 3) := by decide +kernel
theorem dX11_chambers_53 : decode cX11_chambers 53 = .ok (.aload_n 0, 1) := by decide +kernel
theorem dX11_chambers_54 : decode cX11_chambers 54 = .ok (.iload_n 2, 1) := by decide +kernel
theorem dX11_chambers_55 : decode cX11_chambers 55 = .ok (.invokevirtual 74, 3) := by decide +kernel
theorem dX11_chambers_58 : decode cX11_chambers 58 = .ok (.ireturn, 1) := by decide +kernel
theorem dX11_note_0 : decode cX11_note 0 = .ok (.iload_n 2, 1) := by decide +kernel
theorem dX11_note_1 : decode cX11_note 1 = .ok (.ifCond .eq 32, 3) := by decide +kernel
theorem dX11_note_4 : decode cX11_note 4 = .ok (.aload_n 0, 1) := by decide +kernel
theorem dX11_note_5 : decode cX11_note 5 = .ok (.getfield 103, 3) := by decide +kernel
theorem dX11_note_8 : decode cX11_note 8 = .ok (.bipush 40, 2) := by decide +kernel
theorem dX11_note_10 : decode cX11_note 10 = .ok (.if_icmp .ge 13, 3) := by decide +kernel
theorem dX11_note_13 : decode cX11_note 13 = .ok (.aload_n 0, 1) := by decide +kernel
theorem dX11_note_14 : decode cX11_note 14 = .ok (.getfield 23, 3) := by decide +kernel
theorem dX11_note_17 : decode cX11_note 17 = .ok (.aload_n 0, 1) := by decide +kernel
theorem dX11_note_18 : decode cX11_note 18 = .ok (.getfield 103, 3) := by decide +kernel
theorem dX11_note_21 : decode cX11_note 21 = .ok (.iload_n 1, 1) := by decide +kernel
theorem dX11_note_22 : decode cX11_note 22 = .ok (.iastore, 1) := by decide +kernel
theorem dX11_note_23 : decode cX11_note 23 = .ok (.aload_n 0, 1) := by decide +kernel
theorem dX11_note_24 : decode cX11_note 24 = .ok (.dup, 1) := by decide +kernel
theorem dX11_note_25 : decode cX11_note 25 = .ok (.getfield 103, 3) := by decide +kernel
theorem dX11_note_28 : decode cX11_note 28 = .ok (.iconst 1, 1) := by decide +kernel
theorem dX11_note_29 : decode cX11_note 29 = .ok (.iadd, 1) := by decide +kernel
theorem dX11_note_30 : decode cX11_note 30 = .ok (.putfield 103, 3) := by decide +kernel
theorem dX11_note_33 : decode cX11_note 33 = .ok (.return_, 1) := by decide +kernel
theorem dX11_weigh_0 : decode cX11_weigh 0 = .ok (.iload_n 1, 1) := by decide +kernel
theorem dX11_weigh_1 : decode cX11_weigh 1 = .ok (.iconst (-1), 1) := by decide +kernel
theorem dX11_weigh_2 : decode cX11_weigh 2 = .ok (.if_icmp .ne 5, 3) := by decide +kernel
theorem dX11_weigh_5 : decode cX11_weigh 5 = .ok (.iconst 0, 1) := by decide +kernel
theorem dX11_weigh_6 : decode cX11_weigh 6 = .ok (.ireturn, 1) := by decide +kernel
theorem dX11_weigh_7 : decode cX11_weigh 7 = .ok (.aload_n 0, 1) := by decide +kernel
theorem dX11_weigh_8 : decode cX11_weigh 8 = .ok (.getfield 7, 3) := by decide +kernel
theorem dX11_weigh_11 : decode cX11_weigh 11 = .ok (.iconst 0, 1) := by decide +kernel
theorem dX11_weigh_12 : decode cX11_weigh 12 = .ok (.iload_n 1, 1) := by decide +kernel
theorem dX11_weigh_13 : decode cX11_weigh 13 = .ok (.iadd, 1) := by decide +kernel
theorem dX11_weigh_14 : decode cX11_weigh 14 = .ok (.iaload, 1) := by decide +kernel
theorem dX11_weigh_15 : decode cX11_weigh 15 = .ok (.istore_n 2, 1) := by decide +kernel
theorem dX11_weigh_16 : decode cX11_weigh 16 = .ok (.iload_n 2, 1) := by decide +kernel
theorem dX11_weigh_17 : decode cX11_weigh 17 = .ok (.iconst 4, 1) := by decide +kernel
theorem dX11_weigh_18 : decode cX11_weigh 18 = .ok (.if_icmp .ne 67, 3) := by decide +kernel
theorem dX11_weigh_21 : decode cX11_weigh 21 = .ok (.aload_n 0, 1) := by decide +kernel
theorem dX11_weigh_22 : decode cX11_weigh 22 = .ok (.bipush 7, 2) := by decide +kernel
theorem dX11_weigh_24 : decode cX11_weigh 24 = .ok (.iconst 1, 1) := by decide +kernel
theorem dX11_weigh_25 : decode cX11_weigh 25 = .ok (.invokevirtual 106, 3) := by decide +kernel
theorem dX11_weigh_28 : decode cX11_weigh 28 = .ok (.aload_n 0, 1) := by decide +kernel
theorem dX11_weigh_29 : decode cX11_weigh 29 = .ok (.aload_n 0, 1) := by decide +kernel
theorem dX11_weigh_30 : decode cX11_weigh 30 = .ok (.getfield 7, 3) := by decide +kernel
theorem dX11_weigh_33 : decode cX11_weigh 33 = .ok (.sipush 200, 3) := by decide +kernel
theorem dX11_weigh_36 : decode cX11_weigh 36 = .ok (.iload_n 1, 1) := by decide +kernel
theorem dX11_weigh_37 : decode cX11_weigh 37 = .ok (.iadd, 1) := by decide +kernel
theorem dX11_weigh_38 : decode cX11_weigh 38 = .ok (.iaload, 1) := by decide +kernel
theorem dX11_weigh_39 : decode cX11_weigh 39 = .ok (.invokevirtual 110, 3) := by decide +kernel
theorem dX11_weigh_42 : decode cX11_weigh 42 = .ok (.istore_n 3, 1) := by decide +kernel
theorem dX11_weigh_43 : decode cX11_weigh 43 = .ok (.iload_n 3, 1) := by decide +kernel
theorem dX11_weigh_44 : decode cX11_weigh 44 = .ok (.ifCond .ge 7, 3) := by decide +kernel
theorem dX11_weigh_47 : decode cX11_weigh 47 = .ok (.iconst (-1), 1) := by decide +kernel
theorem dX11_weigh_48 : decode cX11_weigh 48 = .ok (.goto 17, 3) := by decide +kernel
theorem dX11_weigh_51 : decode cX11_weigh 51 = .ok (.aload_n 0, 1) := by decide +kernel
theorem dX11_weigh_52 : decode cX11_weigh 52 = .ok (.aload_n 0, 1) := by decide +kernel
theorem dX11_weigh_53 : decode cX11_weigh 53 = .ok (.getfield 7, 3) := by decide +kernel
theorem dX11_weigh_56 : decode cX11_weigh 56 = .ok (.sipush 300, 3) := by decide +kernel
theorem dX11_weigh_59 : decode cX11_weigh 59 = .ok (.iload_n 1, 1) := by decide +kernel
theorem dX11_weigh_60 : decode cX11_weigh 60 = .ok (.iadd, 1) := by decide +kernel
theorem dX11_weigh_61 : decode cX11_weigh 61 = .ok (.iaload, 1) := by decide +kernel
theorem dX11_weigh_62 : decode cX11_weigh 62 = .ok (.invokevirtual 110, 3) := by decide +kernel
theorem dX11_weigh_65 : decode cX11_weigh 65 = .ok (.istore 4, 2) := by decide +kernel
theorem dX11_weigh_67 : decode cX11_weigh 67 = .ok (.iload_n 3, 1) := by decide +kernel
theorem dX11_weigh_68 : decode cX11_weigh 68 = .ok (.ifCond .lt 8, 3) := by decide +kernel
theorem dX11_weigh_71 : decode cX11_weigh 71 = .ok (.iload 4, 2) := by decide +kernel
theorem dX11_weigh_73 : decode cX11_weigh 73 = .ok (.ifCond .ge 7, 3) := by decide +kernel
theorem dX11_weigh_76 : decode cX11_weigh 76 = .ok (.iconst (-1), 1) := by decide +kernel
theorem dX11_weigh_77 : decode cX11_weigh 77 = .ok (.goto 7, 3) := by decide +kernel
theorem dX11_weigh_80 : decode cX11_weigh 80 = .ok (.iload_n 3, 1) := by decide +kernel
theorem dX11_weigh_81 : decode cX11_weigh 81 = .ok (.iload 4, 2) := by decide +kernel
theorem dX11_weigh_83 : decode cX11_weigh 83 = .ok (.iadd, 1) := by decide +kernel
theorem dX11_weigh_84 : decode cX11_weigh 84 = .ok (.ireturn, 1) := by decide +kernel
theorem dX11_weigh_85 : decode cX11_weigh 85 = .ok (.iload_n 2, 1) := by decide +kernel
theorem dX11_weigh_86 : decode cX11_weigh 86 = .ok (.iconst 2, 1) := by decide +kernel
theorem dX11_weigh_87 : decode cX11_weigh 87 = .ok (.if_icmp .ne 10, 3) := by decide +kernel
theorem dX11_weigh_90 : decode cX11_weigh 90 = .ok (.aload_n 0, 1) := by decide +kernel
theorem dX11_weigh_91 : decode cX11_weigh 91 = .ok (.bipush 6, 2) := by decide +kernel
theorem dX11_weigh_93 : decode cX11_weigh 93 = .ok (.iconst 1, 1) := by decide +kernel
theorem dX11_weigh_94 : decode cX11_weigh 94 = .ok (.invokevirtual 106, 3) := by decide +kernel
theorem dX11_weigh_97 : decode cX11_weigh 97 = .ok (.aload_n 0, 1) := by decide +kernel
theorem dX11_weigh_98 : decode cX11_weigh 98 = .ok (.iconst 5, 1) := by decide +kernel
theorem dX11_weigh_99 : decode cX11_weigh 99 = .ok (.iconst 1, 1) := by decide +kernel
theorem dX11_weigh_100 : decode cX11_weigh 100 = .ok (.invokevirtual 106, 3) := by decide +kernel
theorem dX11_weigh_103 : decode cX11_weigh 103 = .ok (.iload_n 2, 1) := by decide +kernel
theorem dX11_weigh_104 : decode cX11_weigh 104 = .ok (.iconst 2, 1) := by decide +kernel
theorem dX11_weigh_105 : decode cX11_weigh 105 = .ok (.if_icmp .ne 8, 3) := by decide +kernel
theorem dX11_weigh_108 : decode cX11_weigh 108 = .ok (.bipush 15, 2) := by decide +kernel
theorem dX11_weigh_110 : decode cX11_weigh 110 = .ok (.goto 5, 3) := by decide +kernel
theorem dX11_weigh_113 : decode cX11_weigh 113 = .ok (.bipush 10, 2) := by decide +kernel
theorem dX11_weigh_115 : decode cX11_weigh 115 = .ok (.istore_n 3, 1) := by decide +kernel
theorem dX11_weigh_116 : decode cX11_weigh 116 = .ok (.iconst 0, 1) := by decide +kernel
theorem dX11_weigh_117 : decode cX11_weigh 117 = .ok (.istore 4, 2) := by decide +kernel
theorem dX11_weigh_119 : decode cX11_weigh 119 = .ok (.iload 4, 2) := by decide +kernel
theorem dX11_weigh_121 : decode cX11_weigh 121 = .ok (.sipush 180, 3) := by decide +kernel
theorem dX11_weigh_124 : decode cX11_weigh 124 = .ok (.if_icmp .ge 45, 3) := by decide +kernel
theorem dX11_weigh_127 : decode cX11_weigh 127 = .ok (.iload_n 3, 1) := by decide +kernel
theorem dX11_weigh_128 : decode cX11_weigh 128 = .ok (.aload_n 0, 1) := by decide +kernel
theorem dX11_weigh_129 : decode cX11_weigh 129 = .ok (.getfield 7, 3) := by decide +kernel
theorem dX11_weigh_132 : decode cX11_weigh 132 = .ok (.sipush 400, 3) := by decide +kernel
theorem dX11_weigh_135 : decode cX11_weigh 135 = .ok (.bipush 18, 2) := by decide +kernel
theorem dX11_weigh_137 : decode cX11_weigh 137 = .ok (.iload_n 1, 1) := by decide +kernel
theorem dX11_weigh_138 : decode cX11_weigh 138 = .ok (.imul, 1) := by decide +kernel
theorem dX11_weigh_139 : decode cX11_weigh 139 = .ok (.iadd, 1) := by decide +kernel
theorem dX11_weigh_140 : decode cX11_weigh 140 = .ok (.iload 4, 2) := by decide +kernel
theorem dX11_weigh_142 : decode cX11_weigh 142 = .ok (.bipush 10, 2) := by decide +kernel
theorem dX11_weigh_144 : decode cX11_weigh 144 = .ok (.idiv, 1) := by decide +kernel
theorem dX11_weigh_145 : decode cX11_weigh 145 = .ok (.iadd, 1) := by decide +kernel
theorem dX11_weigh_146 : decode cX11_weigh 146 = .ok (.iaload, 1) := by decide +kernel
theorem dX11_weigh_147 : decode cX11_weigh 147 = .ok (.iload 4, 2) := by decide +kernel
theorem dX11_weigh_149 : decode cX11_weigh 149 = .ok (.bipush 10, 2) := by decide +kernel
theorem dX11_weigh_151 : decode cX11_weigh 151 = .ok (.irem, 1) := by decide +kernel
theorem dX11_weigh_152 : decode cX11_weigh 152 = .ok (.ishr, 1) := by decide +kernel
theorem dX11_weigh_153 : decode cX11_weigh 153 = .ok (.iconst 1, 1) := by decide +kernel
theorem dX11_weigh_154 : decode cX11_weigh 154 = .ok (.iand, 1) := by decide +kernel
theorem dX11_weigh_155 : decode cX11_weigh 155 = .ok (.iload 4, 2) := by decide +kernel
theorem dX11_weigh_157 : decode cX11_weigh 157 = .ok (.bipush 10, 2) := by decide +kernel
theorem dX11_weigh_159 : decode cX11_weigh 159 = .ok (.irem, 1) := by decide +kernel
theorem dX11_weigh_160 : decode cX11_weigh 160 = .ok (.imul, 1) := by decide +kernel
theorem dX11_weigh_161 : decode cX11_weigh 161 = .ok (.iadd, 1) := by decide +kernel
theorem dX11_weigh_162 : decode cX11_weigh 162 = .ok (.istore_n 3, 1) := by decide +kernel
theorem dX11_weigh_163 : decode cX11_weigh 163 = .ok (.iinc 4 1, 3) := by decide +kernel
theorem dX11_weigh_166 : decode cX11_weigh 166 = .ok (.goto (-47), 3) := by decide +kernel
theorem dX11_weigh_169 : decode cX11_weigh 169 = .ok (.aload_n 0, 1) := by decide +kernel
theorem dX11_weigh_170 : decode cX11_weigh 170 = .ok (.getfield 7, 3) := by decide +kernel
theorem dX11_weigh_173 : decode cX11_weigh 173 = .ok (.bipush 100, 2) := by decide +kernel
theorem dX11_weigh_175 : decode cX11_weigh 175 = .ok (.iload_n 1, 1) := by decide +kernel
theorem dX11_weigh_176 : decode cX11_weigh 176 = .ok (.iadd, 1) := by decide +kernel
theorem dX11_weigh_177 : decode cX11_weigh 177 = .ok (.iaload, 1) := by decide +kernel
theorem dX11_weigh_178 : decode cX11_weigh 178 = .ok (.ifCond .ge 7, 3) := by decide +kernel
theorem dX11_weigh_181 : decode cX11_weigh 181 = .ok (.iconst (-1), 1) := by decide +kernel
theorem dX11_weigh_182 : decode cX11_weigh 182 = .ok (.goto 4, 3) := by decide +kernel
theorem dX11_weigh_185 : decode cX11_weigh 185 = .ok (.iload_n 3, 1) := by decide +kernel
theorem dX11_weigh_186 : decode cX11_weigh 186 = .ok (.ireturn, 1) := by decide +kernel
theorem dX11_weight_0 : decode cX11_weight 0 = .ok (.aload_n 0, 1) := by decide +kernel
theorem dX11_weight_1 : decode cX11_weight 1 = .ok (.iload_n 1, 1) := by decide +kernel
theorem dX11_weight_2 : decode cX11_weight 2 = .ok (.invokevirtual 87, 3) := by decide +kernel
theorem dX11_weight_5 : decode cX11_weight 5 = .ok (.ifCond .ne 6, 3) := by decide +kernel
theorem dX11_weight_8 : decode cX11_weight 8 = .ok (.bipush (-2), 2) := by decide +kernel
theorem dX11_weight_10 : decode cX11_weight 10 = .ok (.ireturn, 1) := by decide +kernel
theorem dX11_weight_11 : decode cX11_weight 11 = .ok (.aload_n 0, 1) := by decide +kernel
theorem dX11_weight_12 : decode cX11_weight 12 = .ok (.iconst 0, 1) := by decide +kernel
theorem dX11_weight_13 : decode cX11_weight 13 = .ok (.putfield 103, 3) := by decide +kernel
theorem dX11_weight_16 : decode cX11_weight 16 = .ok (.aload_n 0, 1) := by decide +kernel
theorem dX11_weight_17 : decode cX11_weight 17 = .ok (.iload_n 1, 1) := by decide +kernel
theorem dX11_weight_18 : decode cX11_weight 18 = .ok (.invokevirtual 110, 3) := by decide +kernel
theorem dX11_weight_21 : decode cX11_weight 21 = .ok (.istore_n 2, 1) := by decide +kernel
theorem dX11_weight_22 : decode cX11_weight 22 = .ok (.iload_n 2, 1) := by decide +kernel
theorem dX11_weight_23 : decode cX11_weight 23 = .ok (.ifCond .ge 11, 3) := by decide +kernel
theorem dX11_weight_26 : decode cX11_weight 26 = .ok (.aload_n 0, 1) := by decide +kernel
theorem dX11_weight_27 : decode cX11_weight 27 = .ok (.iconst 1, 1) := by decide +kernel
theorem dX11_weight_28 : decode cX11_weight 28 = .ok (.invokevirtual 80, 3) := by decide +kernel
theorem dX11_weight_31 : decode cX11_weight 31 = .ok (.goto 8, 3) := by decide +kernel
theorem dX11_weight_34 : decode cX11_weight 34 = .ok (.aload_n 0, 1) := by decide +kernel
theorem dX11_weight_35 : decode cX11_weight 35 = .ok (.iload_n 2, 1) := by decide +kernel
theorem dX11_weight_36 : decode cX11_weight 36 = .ok (.invokevirtual 74, 3) := by decide +kernel
theorem dX11_weight_39 : decode cX11_weight 39 = .ok (.ireturn, 1) := by decide +kernel
theorem dX11_blanks_0 : decode cX11_blanks 0 = .ok (.iload_n 1, 1) := by decide +kernel
theorem dX11_blanks_1 : decode cX11_blanks 1 = .ok (.i2l, 1) := by decide +kernel
theorem dX11_blanks_2 : decode cX11_blanks 2 = .ok (.lconst 0, 1) := by decide +kernel
theorem dX11_blanks_3 : decode cX11_blanks 3 = .ok (.ldc2_w 113, 3) := by decide +kernel
theorem dX11_blanks_6 : decode cX11_blanks 6 = .ok (.invokestatic 67, 3) := by decide +kernel
theorem dX11_blanks_9 : decode cX11_blanks 9 = .ok (.ifCond .ne 6, 3) := by decide +kernel
theorem dX11_blanks_12 : decode cX11_blanks 12 = .ok (.bipush (-2), 2) := by decide +kernel
theorem dX11_blanks_14 : decode cX11_blanks 14 = .ok (.ireturn, 1) := by decide +kernel
theorem dX11_blanks_15 : decode cX11_blanks 15 = .ok (.aload_n 0, 1) := by decide +kernel
theorem dX11_blanks_16 : decode cX11_blanks 16 = .ok (.getfield 7, 3) := by decide +kernel
theorem dX11_blanks_19 : decode cX11_blanks 19 = .ok (.sipush 8527, 3) := by decide +kernel
theorem dX11_blanks_22 : decode cX11_blanks 22 = .ok (.iaload, 1) := by decide +kernel
theorem dX11_blanks_23 : decode cX11_blanks 23 = .ok (.iload_n 1, 1) := by decide +kernel
theorem dX11_blanks_24 : decode cX11_blanks 24 = .ok (.iadd, 1) := by decide +kernel
theorem dX11_blanks_25 : decode cX11_blanks 25 = .ok (.sipush 1000, 3) := by decide +kernel
theorem dX11_blanks_28 : decode cX11_blanks 28 = .ok (.if_icmp .le 6, 3) := by decide +kernel
theorem dX11_blanks_31 : decode cX11_blanks 31 = .ok (.bipush (-4), 2) := by decide +kernel
theorem dX11_blanks_33 : decode cX11_blanks 33 = .ok (.ireturn, 1) := by decide +kernel
theorem dX11_blanks_34 : decode cX11_blanks 34 = .ok (.aload_n 0, 1) := by decide +kernel
theorem dX11_blanks_35 : decode cX11_blanks 35 = .ok (.invokevirtual 71, 3) := by decide +kernel
theorem dX11_blanks_38 : decode cX11_blanks 38 = .ok (.aload_n 0, 1) := by decide +kernel
theorem dX11_blanks_39 : decode cX11_blanks 39 = .ok (.getfield 7, 3) := by decide +kernel
theorem dX11_blanks_42 : decode cX11_blanks 42 = .ok (.sipush 8527, 3) := by decide +kernel
theorem dX11_blanks_45 : decode cX11_blanks 45 = .ok (.dup2, 1) := by decide +kernel
theorem dX11_blanks_46 : decode cX11_blanks 46 = .ok (.iaload, 1) := by decide +kernel
theorem dX11_blanks_47 : decode cX11_blanks 47 = .ok (.iload_n 1, 1) := by decide +kernel
theorem dX11_blanks_48 : decode cX11_blanks 48 = .ok (.iadd, 1) := by decide +kernel
theorem dX11_blanks_49 : decode cX11_blanks 49 = .ok (.iastore, 1) := by decide +kernel
theorem dX11_blanks_50 : decode cX11_blanks 50 = .ok (.aload_n 0, 1) := by decide +kernel
theorem dX11_blanks_51 : decode cX11_blanks 51 = .ok (.getfield 7, 3) := by decide +kernel
theorem dX11_blanks_54 : decode cX11_blanks 54 = .ok (.sipush 8527, 3) := by decide +kernel
theorem dX11_blanks_57 : decode cX11_blanks 57 = .ok (.iaload, 1) := by decide +kernel
theorem dX11_blanks_58 : decode cX11_blanks 58 = .ok (.ireturn, 1) := by decide +kernel
theorem dX11_newKey_0 : decode cX11_newKey 0 = .ok (.aload_n 0, 1) := by decide +kernel
theorem dX11_newKey_1 : decode cX11_newKey 1 = .ok (.invokevirtual 71, 3) := by decide +kernel
theorem dX11_newKey_4 : decode cX11_newKey 4 = .ok (.aload_n 0, 1) := by decide +kernel
theorem dX11_newKey_5 : decode cX11_newKey 5 = .ok (.getfield 7, 3) := by decide +kernel
theorem dX11_newKey_8 : decode cX11_newKey 8 = .ok (.sipush 8523, 3) := by decide +kernel
theorem dX11_newKey_11 : decode cX11_newKey 11 = .ok (.iaload, 1) := by decide +kernel
theorem dX11_newKey_12 : decode cX11_newKey 12 = .ok (.istore_n 2, 1) := by decide +kernel
theorem dX11_newKey_13 : decode cX11_newKey 13 = .ok (.aload_n 0, 1) := by decide +kernel
theorem dX11_newKey_14 : decode cX11_newKey 14 = .ok (.getfield 7, 3) := by decide +kernel
theorem dX11_newKey_17 : decode cX11_newKey 17 = .ok (.sipush 8523, 3) := by decide +kernel
theorem dX11_newKey_20 : decode cX11_newKey 20 = .ok (.iload_n 2, 1) := by decide +kernel
theorem dX11_newKey_21 : decode cX11_newKey 21 = .ok (.iconst 1, 1) := by decide +kernel
theorem dX11_newKey_22 : decode cX11_newKey 22 = .ok (.iadd, 1) := by decide +kernel
theorem dX11_newKey_23 : decode cX11_newKey 23 = .ok (.iastore, 1) := by decide +kernel
theorem dX11_newKey_24 : decode cX11_newKey 24 = .ok (.aload_n 0, 1) := by decide +kernel
theorem dX11_newKey_25 : decode cX11_newKey 25 = .ok (.getfield 7, 3) := by decide +kernel
theorem dX11_newKey_28 : decode cX11_newKey 28 = .ok (.sipush 8527, 3) := by decide +kernel
theorem dX11_newKey_31 : decode cX11_newKey 31 = .ok (.dup2, 1) := by decide +kernel
theorem dX11_newKey_32 : decode cX11_newKey 32 = .ok (.iaload, 1) := by decide +kernel
theorem dX11_newKey_33 : decode cX11_newKey 33 = .ok (.iconst 1, 1) := by decide +kernel
theorem dX11_newKey_34 : decode cX11_newKey 34 = .ok (.isub, 1) := by decide +kernel
theorem dX11_newKey_35 : decode cX11_newKey 35 = .ok (.iastore, 1) := by decide +kernel
theorem dX11_newKey_36 : decode cX11_newKey 36 = .ok (.aload_n 0, 1) := by decide +kernel
theorem dX11_newKey_37 : decode cX11_newKey 37 = .ok (.getfield 7, 3) := by decide +kernel
theorem dX11_newKey_40 : decode cX11_newKey 40 = .ok (.sipush 2200, 3) := by decide +kernel
theorem dX11_newKey_43 : decode cX11_newKey 43 = .ok (.iload_n 2, 1) := by decide +kernel
theorem dX11_newKey_44 : decode cX11_newKey 44 = .ok (.iadd, 1) := by decide +kernel
theorem dX11_newKey_45 : decode cX11_newKey 45 = .ok (.iload_n 1, 1) := by decide +kernel
theorem dX11_newKey_46 : decode cX11_newKey 46 = .ok (.iastore, 1) := by decide +kernel
theorem dX11_newKey_47 : decode cX11_newKey 47 = .ok (.aload_n 0, 1) := by decide +kernel
theorem dX11_newKey_48 : decode cX11_newKey 48 = .ok (.getfield 7, 3) := by decide +kernel
theorem dX11_newKey_51 : decode cX11_newKey 51 = .ok (.sipush 4100, 3) := by decide +kernel
theorem dX11_newKey_54 : decode cX11_newKey 54 = .ok (.iload_n 2, 1) := by decide +kernel
theorem dX11_newKey_55 : decode cX11_newKey 55 = .ok (.iadd, 1) := by decide +kernel
theorem dX11_newKey_56 : decode cX11_newKey 56 = .ok (.iconst (-1), 1) := by decide +kernel
theorem dX11_newKey_57 : decode cX11_newKey 57 = .ok (.iastore, 1) := by decide +kernel
theorem dX11_newKey_58 : decode cX11_newKey 58 = .ok (.iconst 0, 1) := by decide +kernel
theorem dX11_newKey_59 : decode cX11_newKey 59 = .ok (.istore_n 3, 1) := by decide +kernel
theorem dX11_newKey_60 : decode cX11_newKey 60 = .ok (.iload_n 3, 1) := by decide +kernel
theorem dX11_newKey_61 : decode cX11_newKey 61 = .ok (.bipush 40, 2) := by decide +kernel
theorem dX11_newKey_63 : decode cX11_newKey 63 = .ok (.if_icmp .ge 25, 3) := by decide +kernel
theorem dX11_newKey_66 : decode cX11_newKey 66 = .ok (.aload_n 0, 1) := by decide +kernel
theorem dX11_newKey_67 : decode cX11_newKey 67 = .ok (.getfield 7, 3) := by decide +kernel
theorem dX11_newKey_70 : decode cX11_newKey 70 = .ok (.sipush 4504, 3) := by decide +kernel
theorem dX11_newKey_73 : decode cX11_newKey 73 = .ok (.bipush 40, 2) := by decide +kernel
theorem dX11_newKey_75 : decode cX11_newKey 75 = .ok (.iload_n 2, 1) := by decide +kernel
theorem dX11_newKey_76 : decode cX11_newKey 76 = .ok (.imul, 1) := by decide +kernel
theorem dX11_newKey_77 : decode cX11_newKey 77 = .ok (.iadd, 1) := by decide +kernel
theorem dX11_newKey_78 : decode cX11_newKey 78 = .ok (.iload_n 3, 1) := by decide +kernel
theorem dX11_newKey_79 : decode cX11_newKey 79 = .ok (.iadd, 1) := by decide +kernel
theorem dX11_newKey_80 : decode cX11_newKey 80 = .ok (.iconst 0, 1) := by decide +kernel
theorem dX11_newKey_81 : decode cX11_newKey 81 = .ok (.iastore, 1) := by decide +kernel
theorem dX11_newKey_82 : decode cX11_newKey 82 = .ok (.iinc 3 1, 3) := by decide +kernel
theorem dX11_newKey_85 : decode cX11_newKey 85 = .ok (.goto (-25), 3) := by decide +kernel
theorem dX11_newKey_88 : decode cX11_newKey 88 = .ok (.iload_n 2, 1) := by decide +kernel
theorem dX11_newKey_89 : decode cX11_newKey 89 = .ok (.ireturn, 1) := by decide +kernel
theorem dX11_key_0 : decode cX11_key 0 = .ok (.iload_n 1, 1) := by decide +kernel
theorem dX11_key_1 : decode cX11_key 1 = .ok (.bipush 18, 2) := by decide +kernel
theorem dX11_key_3 : decode cX11_key 3 = .ok (.if_icmp .gt 14, 3) := by decide +kernel
theorem dX11_key_6 : decode cX11_key 6 = .ok (.lload_n 2, 1) := by decide +kernel
theorem dX11_key_7 : decode cX11_key 7 = .ok (.lconst 0, 1) := by decide +kernel
theorem dX11_key_8 : decode cX11_key 8 = .ok (.ldc2_w 115, 3) := by decide +kernel
theorem dX11_key_11 : decode cX11_key 11 = .ok (.invokestatic 67, 3) := by decide +kernel
theorem dX11_key_14 : decode cX11_key 14 = .ok (.ifCond .ne 6, 3) := by decide +kernel
theorem dX11_key_17 : decode cX11_key 17 = .ok (.bipush (-2), 2) := by decide +kernel
theorem dX11_key_19 : decode cX11_key 19 = .ok (.ireturn, 1) := by decide +kernel
theorem dX11_key_20 : decode cX11_key 20 = .ok (.aload_n 0, 1) := by decide +kernel
theorem dX11_key_21 : decode cX11_key 21 = .ok (.getfield 7, 3) := by decide +kernel
theorem dX11_key_24 : decode cX11_key 24 = .ok (.sipush 8523, 3) := by decide +kernel
theorem dX11_key_27 : decode cX11_key 27 = .ok (.iaload, 1) := by decide +kernel
theorem dX11_key_28 : decode cX11_key 28 = .ok (.bipush 100, 2) := by decide +kernel
theorem dX11_key_30 : decode cX11_key 30 = .ok (.if_icmp .ne 6, 3) := by decide +kernel
theorem dX11_key_33 : decode cX11_key 33 = .ok (.bipush (-4), 2) := by decide +kernel
theorem dX11_key_35 : decode cX11_key 35 = .ok (.ireturn, 1) := by decide +kernel
theorem dX11_key_36 : decode cX11_key 36 = .ok (.aload_n 0, 1) := by decide +kernel
theorem dX11_key_37 : decode cX11_key 37 = .ok (.getfield 7, 3) := by decide +kernel
theorem dX11_key_40 : decode cX11_key 40 = .ok (.sipush 8527, 3) := by decide +kernel
theorem dX11_key_43 : decode cX11_key 43 = .ok (.iaload, 1) := by decide +kernel
theorem dX11_key_44 : decode cX11_key 44 = .ok (.ifCond .ne 6, 3) := by decide +kernel
theorem dX11_key_47 : decode cX11_key 47 = .ok (.bipush (-3), 2) := by decide +kernel
theorem dX11_key_49 : decode cX11_key 49 = .ok (.ireturn, 1) := by decide +kernel
theorem dX11_key_50 : decode cX11_key 50 = .ok (.aload_n 0, 1) := by decide +kernel
theorem dX11_key_51 : decode cX11_key 51 = .ok (.dup, 1) := by decide +kernel
theorem dX11_key_52 : decode cX11_key 52 = .ok (.getfield 117, 3) := by decide +kernel
theorem dX11_key_55 : decode cX11_key 55 = .ok (.iconst 1, 1) := by decide +kernel
theorem dX11_key_56 : decode cX11_key 56 = .ok (.iadd, 1) := by decide +kernel
theorem dX11_key_57 : decode cX11_key 57 = .ok (.putfield 117, 3) := by decide +kernel
theorem dX11_key_60 : decode cX11_key 60 = .ok (.iload_n 1, 1) := by decide +kernel
theorem dX11_key_61 : decode cX11_key 61 = .ok (.ifCond .ge 9, 3) := by decide +kernel
theorem dX11_key_64 : decode cX11_key 64 = .ok (.aload_n 0, 1) := by decide +kernel
theorem dX11_key_65 : decode cX11_key 65 = .ok (.iconst 5, 1) := by decide +kernel
theorem dX11_key_66 : decode cX11_key 66 = .ok (.invokevirtual 80, 3) := by decide +kernel
theorem dX11_key_69 : decode cX11_key 69 = .ok (.ireturn, 1) := by decide +kernel
theorem dX11_key_70 : decode cX11_key 70 = .ok (.aload_n 0, 1) := by decide +kernel
theorem dX11_key_71 : decode cX11_key 71 = .ok (.iload_n 1, 1) := by decide +kernel
theorem dX11_key_72 : decode cX11_key 72 = .ok (.invokevirtual 120, 3) := by decide +kernel
theorem dX11_key_75 : decode cX11_key 75 = .ok (.istore 4, 2) := by decide +kernel
theorem dX11_key_77 : decode cX11_key 77 = .ok (.lload_n 2, 1) := by decide +kernel
theorem dX11_key_78 : decode cX11_key 78 = .ok (.lstore 5, 2) := by decide +kernel
theorem dX11_key_80 : decode cX11_key 80 = .ok (.iconst 0, 1) := by decide +kernel
theorem dX11_key_81 : decode cX11_key 81 = .ok (.istore 7, 2) := by decide +kernel
theorem dX11_key_83 : decode cX11_key 83 = .ok (.iload 7, 2) := by decide +kernel
theorem dX11_key_85 : decode cX11_key 85 = .ok (.iload_n 1, 1) := by decide +kernel
theorem dX11_key_86 : decode cX11_key 86 = .ok (.if_icmp .ge 41, 3) := by decide +kernel
theorem dX11_key_89 : decode cX11_key 89 = .ok (.aload_n 0, 1) := by decide +kernel
theorem dX11_key_90 : decode cX11_key 90 = .ok (.getfield 7, 3) := by decide +kernel
theorem dX11_key_93 : decode cX11_key 93 = .ok (.sipush 2300, 3) := by decide +kernel
theorem dX11_key_96 : decode cX11_key 96 = .ok (.bipush 18, 2) := by decide +kernel
theorem dX11_key_98 : decode cX11_key 98 = .ok (.iload 4, 2) := by decide +kernel
theorem dX11_key_100 : decode cX11_key 100 = .ok (.imul, 1) := by decide +kernel
theorem dX11_key_101 : decode cX11_key 101 = .ok (.iadd, 1) := by decide +kernel
theorem dX11_key_102 : decode cX11_key 102 = .ok (.iload 7, 2) := by decide +kernel
theorem dX11_key_104 : decode cX11_key 104 = .ok (.iadd, 1) := by decide +kernel
theorem dX11_key_105 : decode cX11_key 105 = .ok (.lload 5, 2) := by decide +kernel
theorem dX11_key_107 : decode cX11_key 107 = .ok (.ldc2_w 123, 3) := by decide +kernel
theorem dX11_key_110 : decode cX11_key 110 = .ok (.lrem, 1) := by decide +kernel
theorem dX11_key_111 : decode cX11_key 111 = .ok (.l2i, 1) := by decide +kernel
theorem dX11_key_112 : decode cX11_key 112 = .ok (.iastore, 1) := by decide +kernel
theorem dX11_key_113 : decode cX11_key 113 = .ok (.lload 5, 2) := by decide +kernel
theorem dX11_key_115 : decode cX11_key 115 = .ok (.ldc2_w 123, 3) := by decide +kernel
theorem dX11_key_118 : decode cX11_key 118 = .ok (.ldiv, 1) := by decide +kernel
theorem dX11_key_119 : decode cX11_key 119 = .ok (.lstore 5, 2) := by decide +kernel
theorem dX11_key_121 : decode cX11_key 121 = .ok (.iinc 7 1, 3) := by decide +kernel
theorem dX11_key_124 : decode cX11_key 124 = .ok (.goto (-41), 3) := by decide +kernel
theorem dX11_key_127 : decode cX11_key 127 = .ok (.aload_n 0, 1) := by decide +kernel
theorem dX11_key_128 : decode cX11_key 128 = .ok (.iload 4, 2) := by decide +kernel
theorem dX11_key_130 : decode cX11_key 130 = .ok (.invokevirtual 74, 3) := by decide +kernel
theorem dX11_key_133 : decode cX11_key 133 = .ok (.ireturn, 1) := by decide +kernel
theorem dX11_turned_0 : decode cX11_turned 0 = .ok (.aload_n 0, 1) := by decide +kernel
theorem dX11_turned_1 : decode cX11_turned 1 = .ok (.iload_n 1, 1) := by decide +kernel
theorem dX11_turned_2 : decode cX11_turned 2 = .ok (.invokevirtual 125, 3) := by decide +kernel
theorem dX11_turned_5 : decode cX11_turned 5 = .ok (.ifCond .eq 9, 3) := by decide +kernel
theorem dX11_turned_8 : decode cX11_turned 8 = .ok (.iload_n 2, 1) := by decide +kernel
theorem dX11_turned_9 : decode cX11_turned 9 = .ok (.bipush 18, 2) := by decide +kernel
theorem dX11_turned_11 : decode cX11_turned 11 = .ok (.if_icmp .le 6, 3) := by decide +kernel
theorem dX11_turned_14 : decode cX11_turned 14 = .ok (.bipush (-2), 2) := by decide +kernel
theorem dX11_turned_16 : decode cX11_turned 16 = .ok (.ireturn, 1) := by decide +kernel
theorem dX11_turned_17 : decode cX11_turned 17 = .ok (.aload_n 0, 1) := by decide +kernel
theorem dX11_turned_18 : decode cX11_turned 18 = .ok (.getfield 7, 3) := by decide +kernel
theorem dX11_turned_21 : decode cX11_turned 21 = .ok (.sipush 8523, 3) := by decide +kernel
theorem dX11_turned_24 : decode cX11_turned 24 = .ok (.iaload, 1) := by decide +kernel
theorem dX11_turned_25 : decode cX11_turned 25 = .ok (.bipush 100, 2) := by decide +kernel
theorem dX11_turned_27 : decode cX11_turned 27 = .ok (.if_icmp .ne 6, 3) := by decide +kernel
theorem dX11_turned_30 : decode cX11_turned 30 = .ok (.bipush (-4), 2) := by decide +kernel
theorem dX11_turned_32 : decode cX11_turned 32 = .ok (.ireturn, 1) := by decide +kernel
theorem dX11_turned_33 : decode cX11_turned 33 = .ok (.aload_n 0, 1) := by decide +kernel
theorem dX11_turned_34 : decode cX11_turned 34 = .ok (.getfield 7, 3) := by decide +kernel
theorem dX11_turned_37 : decode cX11_turned 37 = .ok (.sipush 8527, 3) := by decide +kernel
theorem dX11_turned_40 : decode cX11_turned 40 = .ok (.iaload, 1) := by decide +kernel
theorem dX11_turned_41 : decode cX11_turned 41 = .ok (.ifCond .ne 6, 3) := by decide +kernel
theorem dX11_turned_44 : decode cX11_turned 44 = .ok (.bipush (-3), 2) := by decide +kernel
theorem dX11_turned_46 : decode cX11_turned 46 = .ok (.ireturn, 1) := by decide +kernel
theorem dX11_turned_47 : decode cX11_turned 47 = .ok (.aload_n 0, 1) := by decide +kernel
theorem dX11_turned_48 : decode cX11_turned 48 = .ok (.dup, 1) := by decide +kernel
theorem dX11_turned_49 : decode cX11_turned 49 = .ok (.getfield 117, 3) := by decide +kernel
theorem dX11_turned_52 : decode cX11_turned 52 = .ok (.iconst 1, 1) := by decide +kernel
theorem dX11_turned_53 : decode cX11_turned 53 = .ok (.iadd, 1) := by decide +kernel
theorem dX11_turned_54 : decode cX11_turned 54 = .ok (.putfield 117, 3) := by decide +kernel
theorem dX11_turned_57 : decode cX11_turned 57 = .ok (.iload_n 2, 1) := by decide +kernel
theorem dX11_turned_58 : decode cX11_turned 58 = .ok (.ifCond .lt 17, 3) := by decide +kernel
theorem dX11_turned_61 : decode cX11_turned 61 = .ok (.iload_n 2, 1) := by decide +kernel
theorem dX11_turned_62 : decode cX11_turned 62 = .ok (.aload_n 0, 1) := by decide +kernel
theorem dX11_turned_63 : decode cX11_turned 63 = .ok (.getfield 7, 3) := by decide +kernel
theorem dX11_turned_66 : decode cX11_turned 66 = .ok (.sipush 2200, 3) := by decide +kernel
theorem dX11_turned_69 : decode cX11_turned 69 = .ok (.iload_n 1, 1) := by decide +kernel
theorem dX11_turned_70 : decode cX11_turned 70 = .ok (.iadd, 1) := by decide +kernel
theorem dX11_turned_71 : decode cX11_turned 71 = .ok (.iaload, 1) := by decide +kernel
theorem dX11_turned_72 : decode cX11_turned 72 = .ok (.if_icmp .le 17, 3) := by decide +kernel
theorem dX11_turned_75 : decode cX11_turned 75 = .ok (.aload_n 0, 1) := by decide +kernel
theorem dX11_turned_76 : decode cX11_turned 76 = .ok (.iload_n 2, 1) := by decide +kernel
theorem dX11_turned_77 : decode cX11_turned 77 = .ok (.ifCond .ge 7, 3) := by decide +kernel
theorem dX11_turned_80 : decode cX11_turned 80 = .ok (.iconst 5, 1) := by decide +kernel
theorem dX11_turned_81 : decode cX11_turned 81 = .ok (.goto 4, 3) := by decide +kernel
theorem dX11_turned_84 : decode cX11_turned 84 = .ok (.iconst 2, 1) := by decide +kernel
theorem dX11_turned_85 : decode cX11_turned 85 = .ok (.invokevirtual 80, 3) := by decide +kernel
theorem dX11_turned_88 : decode cX11_turned 88 = .ok (.ireturn, 1) := by decide +kernel
theorem dX11_turned_89 : decode cX11_turned 89 = .ok (.aload_n 0, 1) := by decide +kernel
theorem dX11_turned_90 : decode cX11_turned 90 = .ok (.iload_n 2, 1) := by decide +kernel
theorem dX11_turned_91 : decode cX11_turned 91 = .ok (.invokevirtual 120, 3) := by decide +kernel
theorem dX11_turned_94 : decode cX11_turned 94 = .ok (.istore_n 3, 1) := by decide +kernel
theorem dX11_turned_95 : decode cX11_turned 95 = .ok (.iconst 0, 1) := by decide +kernel
theorem dX11_turned_96 : decode cX11_turned 96 = .ok (.istore 4, 2) := by decide +kernel
theorem dX11_turned_98 : decode cX11_turned 98 = .ok (.iload 4, 2) := by decide +kernel
theorem dX11_turned_100 : decode cX11_turned 100 = .ok (.iload_n 2, 1) := by decide +kernel
theorem dX11_turned_101 : decode cX11_turned 101 = .ok (.if_icmp .ge 45, 3) := by decide +kernel
theorem dX11_turned_104 : decode cX11_turned 104 = .ok (.aload_n 0, 1) := by decide +kernel
theorem dX11_turned_105 : decode cX11_turned 105 = .ok (.getfield 7, 3) := by decide +kernel
theorem dX11_turned_108 : decode cX11_turned 108 = .ok (.sipush 2300, 3) := by decide +kernel
theorem dX11_turned_111 : decode cX11_turned 111 = .ok (.bipush 18, 2) := by decide +kernel
theorem dX11_turned_113 : decode cX11_turned 113 = .ok (.iload_n 3, 1) := by decide +kernel
theorem dX11_turned_114 : decode cX11_turned 114 = .ok (.imul, 1) := by decide +kernel
theorem dX11_turned_115 : decode cX11_turned 115 = .ok (.iadd, 1) := by decide +kernel
theorem dX11_turned_116 : decode cX11_turned 116 = .ok (.iload 4, 2) := by decide +kernel
theorem dX11_turned_118 : decode cX11_turned 118 = .ok (.iadd, 1) := by decide +kernel
theorem dX11_turned_119 : decode cX11_turned 119 = .ok (.aload_n 0, 1) := by decide +kernel
theorem dX11_turned_120 : decode cX11_turned 120 = .ok (.getfield 7, 3) := by decide +kernel
theorem dX11_turned_123 : decode cX11_turned 123 = .ok (.sipush 2300, 3) := by decide +kernel
theorem dX11_turned_126 : decode cX11_turned 126 = .ok (.bipush 18, 2) := by decide +kernel
theorem dX11_turned_128 : decode cX11_turned 128 = .ok (.iload_n 1, 1) := by decide +kernel
theorem dX11_turned_129 : decode cX11_turned 129 = .ok (.imul, 1) := by decide +kernel
theorem dX11_turned_130 : decode cX11_turned 130 = .ok (.iadd, 1) := by decide +kernel
theorem dX11_turned_131 : decode cX11_turned 131 = .ok (.iload_n 2, 1) := by decide +kernel
theorem dX11_turned_132 : decode cX11_turned 132 = .ok (.iadd, 1) := by decide +kernel
theorem dX11_turned_133 : decode cX11_turned 133 = .ok (.iconst 1, 1) := by decide +kernel
theorem dX11_turned_134 : decode cX11_turned 134 = .ok (.isub, 1) := by decide +kernel
theorem dX11_turned_135 : decode cX11_turned 135 = .ok (.iload 4, 2) := by decide +kernel
theorem dX11_turned_137 : decode cX11_turned 137 = .ok (.isub, 1) := by decide +kernel
theorem dX11_turned_138 : decode cX11_turned 138 = .ok (.iaload, 1) := by decide +kernel
theorem dX11_turned_139 : decode cX11_turned 139 = .ok (.iastore, 1) := by decide +kernel
theorem dX11_turned_140 : decode cX11_turned 140 = .ok (.iinc 4 1, 3) := by decide +kernel
theorem dX11_turned_143 : decode cX11_turned 143 = .ok (.goto (-45), 3) := by decide +kernel
theorem dX11_turned_146 : decode cX11_turned 146 = .ok (.aload_n 0, 1) := by decide +kernel
theorem dX11_turned_147 : decode cX11_turned 147 = .ok (.iload_n 3, 1) := by decide +kernel
theorem dX11_turned_148 : decode cX11_turned 148 = .ok (.invokevirtual 74, 3) := by decide +kernel
theorem dX11_turned_151 : decode cX11_turned 151 = .ok (.ireturn, 1) := by decide +kernel
theorem dX11_cut_0 : decode cX11_cut 0 = .ok (.aload_n 0, 1) := by decide +kernel
theorem dX11_cut_1 : decode cX11_cut 1 = .ok (.iload_n 1, 1) := by decide +kernel
theorem dX11_cut_2 : decode cX11_cut 2 = .ok (.invokevirtual 125, 3) := by decide +kernel
theorem dX11_cut_5 : decode cX11_cut 5 = .ok (.ifCond .ne 6, 3) := by decide +kernel
theorem dX11_cut_8 : decode cX11_cut 8 = .ok (.bipush (-2), 2) := by decide +kernel
theorem dX11_cut_10 : decode cX11_cut 10 = .ok (.ireturn, 1) := by decide +kernel
theorem dX11_cut_11 : decode cX11_cut 11 = .ok (.iload_n 2, 1) := by decide +kernel
theorem dX11_cut_12 : decode cX11_cut 12 = .ok (.i2l, 1) := by decide +kernel
theorem dX11_cut_13 : decode cX11_cut 13 = .ok (.lconst 0, 1) := by decide +kernel
theorem dX11_cut_14 : decode cX11_cut 14 = .ok (.aload_n 0, 1) := by decide +kernel
theorem dX11_cut_15 : decode cX11_cut 15 = .ok (.getfield 7, 3) := by decide +kernel
theorem dX11_cut_18 : decode cX11_cut 18 = .ok (.sipush 2200, 3) := by decide +kernel
theorem dX11_cut_21 : decode cX11_cut 21 = .ok (.iload_n 1, 1) := by decide +kernel
theorem dX11_cut_22 : decode cX11_cut 22 = .ok (.iadd, 1) := by decide +kernel
theorem dX11_cut_23 : decode cX11_cut 23 = .ok (.iaload, 1) := by decide +kernel
theorem dX11_cut_24 : decode cX11_cut 24 = .ok (.iconst 1, 1) := by decide +kernel
theorem dX11_cut_25 : decode cX11_cut 25 = .ok (.isub, 1) := by decide +kernel
theorem dX11_cut_26 : decode cX11_cut 26 = .ok (.i2l, 1) := by decide +kernel
theorem dX11_cut_27 : decode cX11_cut 27 = .ok (.invokestatic 67, 3) := by decide +kernel
theorem dX11_cut_30 : decode cX11_cut 30 = .ok (.ifCond .eq 25, 3) := by decide +kernel
theorem dX11_cut_33 : decode cX11_cut 33 = .ok (.aload_n 0, 1) := by decide +kernel
theorem dX11_cut_34 : decode cX11_cut 34 = .ok (.aload_n 0, 1) := by decide +kernel
theorem dX11_cut_35 : decode cX11_cut 35 = .ok (.getfield 7, 3) := by decide +kernel
theorem dX11_cut_38 : decode cX11_cut 38 = .ok (.sipush 2300, 3) := by decide +kernel
theorem dX11_cut_41 : decode cX11_cut 41 = .ok (.bipush 18, 2) := by decide +kernel
theorem dX11_cut_43 : decode cX11_cut 43 = .ok (.iload_n 1, 1) := by decide +kernel
theorem dX11_cut_44 : decode cX11_cut 44 = .ok (.imul, 1) := by decide +kernel
theorem dX11_cut_45 : decode cX11_cut 45 = .ok (.iadd, 1) := by decide +kernel
theorem dX11_cut_46 : decode cX11_cut 46 = .ok (.iload_n 2, 1) := by decide +kernel
theorem dX11_cut_47 : decode cX11_cut 47 = .ok (.iadd, 1) := by decide +kernel
theorem dX11_cut_48 : decode cX11_cut 48 = .ok (.iaload, 1) := by decide +kernel
theorem dX11_cut_49 : decode cX11_cut 49 = .ok (.invokevirtual 74, 3) := by decide +kernel
theorem dX11_cut_52 : decode cX11_cut 52 = .ok (.goto 8, 3) := by decide +kernel
theorem dX11_cut_55 : decode cX11_cut 55 = .ok (.aload_n 0, 1) := by decide +kernel
theorem dX11_cut_56 : decode cX11_cut 56 = .ok (.iconst 2, 1) := by decide +kernel
theorem dX11_cut_57 : decode cX11_cut 57 = .ok (.invokevirtual 80, 3) := by decide +kernel
theorem dX11_cut_60 : decode cX11_cut 60 = .ok (.ireturn, 1) := by decide +kernel
theorem dX11_length_0 : decode cX11_length 0 = .ok (.aload_n 0, 1) := by decide +kernel
theorem dX11_length_1 : decode cX11_length 1 = .ok (.iload_n 1, 1) := by decide +kernel
theorem dX11_length_2 : decode cX11_length 2 = .ok (.invokevirtual 125, 3) := by decide +kernel
theorem dX11_length_5 : decode cX11_length 5 = .ok (.ifCond .eq 16, 3) := by decide +kernel
theorem dX11_length_8 : decode cX11_length 8 = .ok (.aload_n 0, 1) := by decide +kernel
theorem dX11_length_9 : decode cX11_length 9 = .ok (.getfield 7, 3) := by decide +kernel
theorem dX11_length_12 : decode cX11_length 12 = .ok (.sipush 2200, 3) := by decide +kernel
theorem dX11_length_15 : decode cX11_length 15 = .ok (.iload_n 1, 1) := by decide +kernel
theorem dX11_length_16 : decode cX11_length 16 = .ok (.iadd, 1) := by decide +kernel
theorem dX11_length_17 : decode cX11_length 17 = .ok (.iaload, 1) := by decide +kernel
theorem dX11_length_18 : decode cX11_length 18 = .ok (.goto 5, 3) := by decide +kernel
theorem dX11_length_21 : decode cX11_length 21 = .ok (.bipush (-2), 2) := by decide +kernel
theorem dX11_length_23 : decode cX11_length 23 = .ok (.ireturn, 1) := by decide +kernel
theorem dX11_tried_0 : decode cX11_tried 0 = .ok (.iload_n 1, 1) := by decide +kernel
theorem dX11_tried_1 : decode cX11_tried 1 = .ok (.iconst (-1), 1) := by decide +kernel
theorem dX11_tried_2 : decode cX11_tried 2 = .ok (.if_icmp .ne 5, 3) := by decide +kernel
theorem dX11_tried_5 : decode cX11_tried 5 = .ok (.iconst (-1), 1) := by decide +kernel
theorem dX11_tried_6 : decode cX11_tried 6 = .ok (.ireturn, 1) := by decide +kernel
theorem dX11_tried_7 : decode cX11_tried 7 = .ok (.aload_n 0, 1) := by decide +kernel
theorem dX11_tried_8 : decode cX11_tried 8 = .ok (.getfield 7, 3) := by decide +kernel
theorem dX11_tried_11 : decode cX11_tried 11 = .ok (.iconst 0, 1) := by decide +kernel
theorem dX11_tried_12 : decode cX11_tried 12 = .ok (.iload_n 1, 1) := by decide +kernel
theorem dX11_tried_13 : decode cX11_tried 13 = .ok (.iadd, 1) := by decide +kernel
theorem dX11_tried_14 : decode cX11_tried 14 = .ok (.iaload, 1) := by decide +kernel
theorem dX11_tried_15 : decode cX11_tried 15 = .ok (.istore 5, 2) := by decide +kernel
theorem dX11_tried_17 : decode cX11_tried 17 = .ok (.iload 5, 2) := by decide +kernel
theorem dX11_tried_19 : decode cX11_tried 19 = .ok (.iconst 4, 1) := by decide +kernel
theorem dX11_tried_20 : decode cX11_tried 20 = .ok (.if_icmp .ne 63, 3) := by decide +kernel
theorem dX11_tried_23 : decode cX11_tried 23 = .ok (.aload_n 0, 1) := by decide +kernel
theorem dX11_tried_24 : decode cX11_tried 24 = .ok (.iconst 4, 1) := by decide +kernel
theorem dX11_tried_25 : decode cX11_tried 25 = .ok (.iload 4, 2) := by decide +kernel
theorem dX11_tried_27 : decode cX11_tried 27 = .ok (.invokevirtual 106, 3) := by decide +kernel
theorem dX11_tried_30 : decode cX11_tried 30 = .ok (.aload_n 0, 1) := by decide +kernel
theorem dX11_tried_31 : decode cX11_tried 31 = .ok (.aload_n 0, 1) := by decide +kernel
theorem dX11_tried_32 : decode cX11_tried 32 = .ok (.getfield 7, 3) := by decide +kernel
theorem dX11_tried_35 : decode cX11_tried 35 = .ok (.sipush 200, 3) := by decide +kernel
theorem dX11_tried_38 : decode cX11_tried 38 = .ok (.iload_n 1, 1) := by decide +kernel
theorem dX11_tried_39 : decode cX11_tried 39 = .ok (.iadd, 1) := by decide +kernel
theorem dX11_tried_40 : decode cX11_tried 40 = .ok (.iaload, 1) := by decide +kernel
theorem dX11_tried_41 : decode cX11_tried 41 = .ok (.iload_n 2, 1) := by decide +kernel
theorem dX11_tried_42 : decode cX11_tried 42 = .ok (.iload_n 3, 1) := by decide +kernel
theorem dX11_tried_43 : decode cX11_tried 43 = .ok (.iload 4, 2) := by decide +kernel
theorem dX11_tried_45 : decode cX11_tried 45 = .ok (.invokevirtual 128, 3) := by decide +kernel
theorem dX11_tried_48 : decode cX11_tried 48 = .ok (.istore 6, 2) := by decide +kernel
theorem dX11_tried_50 : decode cX11_tried 50 = .ok (.iload 6, 2) := by decide +kernel
theorem dX11_tried_52 : decode cX11_tried 52 = .ok (.iconst 1, 1) := by decide +kernel
theorem dX11_tried_53 : decode cX11_tried 53 = .ok (.if_icmp .eq 8, 3) := by decide +kernel
theorem dX11_tried_56 : decode cX11_tried 56 = .ok (.iload 6, 2) := by decide +kernel
theorem dX11_tried_58 : decode cX11_tried 58 = .ok (.goto 24, 3) := by decide +kernel
theorem dX11_tried_61 : decode cX11_tried 61 = .ok (.aload_n 0, 1) := by decide +kernel
theorem dX11_tried_62 : decode cX11_tried 62 = .ok (.aload_n 0, 1) := by decide +kernel
theorem dX11_tried_63 : decode cX11_tried 63 = .ok (.getfield 7, 3) := by decide +kernel
theorem dX11_tried_66 : decode cX11_tried 66 = .ok (.sipush 300, 3) := by decide +kernel
theorem dX11_tried_69 : decode cX11_tried 69 = .ok (.iload_n 1, 1) := by decide +kernel
theorem dX11_tried_70 : decode cX11_tried 70 = .ok (.iadd, 1) := by decide +kernel
theorem dX11_tried_71 : decode cX11_tried 71 = .ok (.iaload, 1) := by decide +kernel
theorem dX11_tried_72 : decode cX11_tried 72 = .ok (.iload_n 2, 1) := by decide +kernel
theorem dX11_tried_73 : decode cX11_tried 73 = .ok (.iload_n 3, 1) := by decide +kernel
theorem dX11_tried_74 : decode cX11_tried 74 = .ok (.bipush 18, 2) := by decide +kernel
theorem dX11_tried_76 : decode cX11_tried 76 = .ok (.iadd, 1) := by decide +kernel
theorem dX11_tried_77 : decode cX11_tried 77 = .ok (.iload 4, 2) := by decide +kernel
theorem dX11_tried_79 : decode cX11_tried 79 = .ok (.invokevirtual 128, 3) := by decide +kernel
theorem dX11_tried_82 : decode cX11_tried 82 = .ok (.ireturn, 1) := by decide +kernel
theorem dX11_tried_83 : decode cX11_tried 83 = .ok (.iload 5, 2) := by decide +kernel
theorem dX11_tried_85 : decode cX11_tried 85 = .ok (.iconst 3, 1) := by decide +kernel
theorem dX11_tried_86 : decode cX11_tried 86 = .ok (.if_icmp .ne 17, 3) := by decide +kernel
theorem dX11_tried_89 : decode cX11_tried 89 = .ok (.aload_n 0, 1) := by decide +kernel
theorem dX11_tried_90 : decode cX11_tried 90 = .ok (.iconst 3, 1) := by decide +kernel
theorem dX11_tried_91 : decode cX11_tried 91 = .ok (.iload 4, 2) := by decide +kernel
theorem dX11_tried_93 : decode cX11_tried 93 = .ok (.invokevirtual 106, 3) := by decide +kernel
theorem dX11_tried_96 : decode cX11_tried 96 = .ok (.aload_n 0, 1) := by decide +kernel
theorem dX11_tried_97 : decode cX11_tried 97 = .ok (.iload_n 3, 1) := by decide +kernel
theorem dX11_tried_98 : decode cX11_tried 98 = .ok (.putfield 20, 3) := by decide +kernel
theorem dX11_tried_101 : decode cX11_tried 101 = .ok (.iconst 0, 1) := by decide +kernel
theorem dX11_tried_102 : decode cX11_tried 102 = .ok (.ireturn, 1) := by decide +kernel
theorem dX11_tried_103 : decode cX11_tried 103 = .ok (.iload 5, 2) := by decide +kernel
theorem dX11_tried_105 : decode cX11_tried 105 = .ok (.ifCond .eq 10, 3) := by decide +kernel
theorem dX11_tried_108 : decode cX11_tried 108 = .ok (.aload_n 0, 1) := by decide +kernel
theorem dX11_tried_109 : decode cX11_tried 109 = .ok (.iconst 2, 1) := by decide +kernel
theorem dX11_tried_110 : decode cX11_tried 110 = .ok (.iload 4, 2) := by decide +kernel
theorem dX11_tried_112 : decode cX11_tried 112 = .ok (.invokevirtual 106, 3) := by decide +kernel
theorem dX11_tried_115 : decode cX11_tried 115 = .ok (.aload_n 0, 1) := by decide +kernel
theorem dX11_tried_116 : decode cX11_tried 116 = .ok (.iconst 1, 1) := by decide +kernel
theorem dX11_tried_117 : decode cX11_tried 117 = .ok (.iload 4, 2) := by decide +kernel
theorem dX11_tried_119 : decode cX11_tried 119 = .ok (.invokevirtual 106, 3) := by decide +kernel
theorem dX11_tried_122 : decode cX11_tried 122 = .ok (.iconst 0, 1) := by decide +kernel
theorem dX11_tried_123 : decode cX11_tried 123 = .ok (.istore 6, 2) := by decide +kernel
theorem dX11_tried_125 : decode cX11_tried 125 = .ok (.iload 6, 2) := by decide +kernel
theorem dX11_tried_127 : decode cX11_tried 127 = .ok (.aload_n 0, 1) := by decide +kernel
theorem dX11_tried_128 : decode cX11_tried 128 = .ok (.getfield 7, 3) := by decide +kernel
theorem dX11_tried_131 : decode cX11_tried 131 = .ok (.bipush 100, 2) := by decide +kernel
theorem dX11_tried_133 : decode cX11_tried 133 = .ok (.iload_n 1, 1) := by decide +kernel
theorem dX11_tried_134 : decode cX11_tried 134 = .ok (.iadd, 1) := by decide +kernel
theorem dX11_tried_135 : decode cX11_tried 135 = .ok (.iaload, 1) := by decide +kernel
theorem dX11_tried_136 : decode cX11_tried 136 = .ok (.if_icmp .ge 103, 3) := by decide +kernel
theorem dX11_tried_139 : decode cX11_tried 139 = .ok (.aload_n 0, 1) := by decide +kernel
theorem dX11_tried_140 : decode cX11_tried 140 = .ok (.getfield 7, 3) := by decide +kernel
theorem dX11_tried_143 : decode cX11_tried 143 = .ok (.sipush 400, 3) := by decide +kernel
theorem dX11_tried_146 : decode cX11_tried 146 = .ok (.bipush 18, 2) := by decide +kernel
theorem dX11_tried_148 : decode cX11_tried 148 = .ok (.iload_n 1, 1) := by decide +kernel
theorem dX11_tried_149 : decode cX11_tried 149 = .ok (.imul, 1) := by decide +kernel
theorem dX11_tried_150 : decode cX11_tried 150 = .ok (.iadd, 1) := by decide +kernel
theorem dX11_tried_151 : decode cX11_tried 151 = .ok (.iload 6, 2) := by decide +kernel
theorem dX11_tried_153 : decode cX11_tried 153 = .ok (.iadd, 1) := by decide +kernel
theorem dX11_tried_154 : decode cX11_tried 154 = .ok (.iaload, 1) := by decide +kernel
theorem dX11_tried_155 : decode cX11_tried 155 = .ok (.istore 7, 2) := by decide +kernel
theorem dX11_tried_157 : decode cX11_tried 157 = .ok (.iload 6, 2) := by decide +kernel
theorem dX11_tried_159 : decode cX11_tried 159 = .ok (.aload_n 0, 1) := by decide +kernel
theorem dX11_tried_160 : decode cX11_tried 160 = .ok (.getfield 7, 3) := by decide +kernel
theorem dX11_tried_163 : decode cX11_tried 163 = .ok (.sipush 2200, 3) := by decide +kernel
theorem dX11_tried_166 : decode cX11_tried 166 = .ok (.iload_n 2, 1) := by decide +kernel
theorem dX11_tried_167 : decode cX11_tried 167 = .ok (.iadd, 1) := by decide +kernel
theorem dX11_tried_168 : decode cX11_tried 168 = .ok (.iaload, 1) := by decide +kernel
theorem dX11_tried_169 : decode cX11_tried 169 = .ok (.if_icmp .lt 7, 3) := by decide +kernel
theorem dX11_tried_172 : decode cX11_tried 172 = .ok (.iconst 1, 1) := by decide +kernel
theorem dX11_tried_173 : decode cX11_tried 173 = .ok (.goto 4, 3) := by decide +kernel
theorem dX11_tried_176 : decode cX11_tried 176 = .ok (.iconst 0, 1) := by decide +kernel
theorem dX11_tried_177 : decode cX11_tried 177 = .ok (.istore 8, 2) := by decide +kernel
theorem dX11_tried_179 : decode cX11_tried 179 = .ok (.iload 7, 2) := by decide +kernel
theorem dX11_tried_181 : decode cX11_tried 181 = .ok (.ifCond .eq 52, 3) := by decide +kernel
theorem dX11_tried_184 : decode cX11_tried 184 = .ok (.iload 8, 2) := by decide +kernel
theorem dX11_tried_186 : decode cX11_tried 186 = .ok (.ifCond .ne 27, 3) := by decide +kernel
theorem dX11_tried_189 : decode cX11_tried 189 = .ok (.iload 7, 2) := by decide +kernel
theorem dX11_tried_191 : decode cX11_tried 191 = .ok (.aload_n 0, 1) := by decide +kernel
theorem dX11_tried_192 : decode cX11_tried 192 = .ok (.getfield 7, 3) := by decide +kernel
theorem dX11_tried_195 : decode cX11_tried 195 = .ok (.sipush 2300, 3) := by decide +kernel
theorem dX11_tried_198 : decode cX11_tried 198 = .ok (.bipush 18, 2) := by decide +kernel
theorem dX11_tried_200 : decode cX11_tried 200 = .ok (.iload_n 2, 1) := by decide +kernel
theorem dX11_tried_201 : decode cX11_tried 201 = .ok (.imul, 1) := by decide +kernel
theorem dX11_tried_202 : decode cX11_tried 202 = .ok (.iadd, 1) := by decide +kernel
theorem dX11_tried_203 : decode cX11_tried 203 = .ok (.iload 6, 2) := by decide +kernel
theorem dX11_tried_205 : decode cX11_tried 205 = .ok (.iadd, 1) := by decide +kernel
theorem dX11_tried_206 : decode cX11_tried 206 = .ok (.iaload, 1) := by decide +kernel
theorem dX11_tried_207 : decode cX11_tried 207 = .ok (.ishr, 1) := by decide +kernel
theorem dX11_tried_208 : decode cX11_tried 208 = .ok (.iconst 1, 1) := by decide +kernel
theorem dX11_tried_209 : decode cX11_tried 209 = .ok (.iand, 1) := by decide +kernel
theorem dX11_tried_210 : decode cX11_tried 210 = .ok (.ifCond .ne 23, 3) := by decide +kernel
theorem dX11_tried_213 : decode cX11_tried 213 = .ok (.aload_n 0, 1) := by decide +kernel
theorem dX11_tried_214 : decode cX11_tried 214 = .ok (.iload_n 3, 1) := by decide +kernel
theorem dX11_tried_215 : decode cX11_tried 215 = .ok (.iload 6, 2) := by decide +kernel
theorem dX11_tried_217 : decode cX11_tried 217 = .ok (.iadd, 1) := by decide +kernel
theorem dX11_tried_218 : decode cX11_tried 218 = .ok (.putfield 20, 3) := by decide +kernel
theorem dX11_tried_221 : decode cX11_tried 221 = .ok (.iload 8, 2) := by decide +kernel
theorem dX11_tried_223 : decode cX11_tried 223 = .ok (.ifCond .eq 8, 3) := by decide +kernel
theorem dX11_tried_226 : decode cX11_tried 226 = .ok (.bipush (-2), 2) := by decide +kernel
theorem dX11_tried_228 : decode cX11_tried 228 = .ok (.goto 4, 3) := by decide +kernel
theorem dX11_tried_231 : decode cX11_tried 231 = .ok (.iconst 0, 1) := by decide +kernel
theorem dX11_tried_232 : decode cX11_tried 232 = .ok (.ireturn, 1) := by decide +kernel
theorem dX11_tried_233 : decode cX11_tried 233 = .ok (.iinc 6 1, 3) := by decide +kernel
theorem dX11_tried_236 : decode cX11_tried 236 = .ok (.goto (-111), 3) := by decide +kernel
theorem dX11_tried_239 : decode cX11_tried 239 = .ok (.aload_n 0, 1) := by decide +kernel
theorem dX11_tried_240 : decode cX11_tried 240 = .ok (.getfield 7, 3) := by decide +kernel
theorem dX11_tried_243 : decode cX11_tried 243 = .ok (.bipush 100, 2) := by decide +kernel
theorem dX11_tried_245 : decode cX11_tried 245 = .ok (.iload_n 1, 1) := by decide +kernel
theorem dX11_tried_246 : decode cX11_tried 246 = .ok (.iadd, 1) := by decide +kernel
theorem dX11_tried_247 : decode cX11_tried 247 = .ok (.iaload, 1) := by decide +kernel
theorem dX11_tried_248 : decode cX11_tried 248 = .ok (.ifCond .ge 7, 3) := by decide +kernel
theorem dX11_tried_251 : decode cX11_tried 251 = .ok (.iconst (-1), 1) := by decide +kernel
theorem dX11_tried_252 : decode cX11_tried 252 = .ok (.goto 4, 3) := by decide +kernel
theorem dX11_tried_255 : decode cX11_tried 255 = .ok (.iconst 1, 1) := by decide +kernel
theorem dX11_tried_256 : decode cX11_tried 256 = .ok (.ireturn, 1) := by decide +kernel
theorem dX11_lacks_0 : decode cX11_lacks 0 = .ok (.iload_n 1, 1) := by decide +kernel
theorem dX11_lacks_1 : decode cX11_lacks 1 = .ok (.iconst (-1), 1) := by decide +kernel
theorem dX11_lacks_2 : decode cX11_lacks 2 = .ok (.if_icmp .ne 11, 3) := by decide +kernel
theorem dX11_lacks_5 : decode cX11_lacks 5 = .ok (.aload_n 0, 1) := by decide +kernel
theorem dX11_lacks_6 : decode cX11_lacks 6 = .ok (.iconst 1, 1) := by decide +kernel
theorem dX11_lacks_7 : decode cX11_lacks 7 = .ok (.invokevirtual 80, 3) := by decide +kernel
theorem dX11_lacks_10 : decode cX11_lacks 10 = .ok (.goto 8, 3) := by decide +kernel
theorem dX11_lacks_13 : decode cX11_lacks 13 = .ok (.aload_n 0, 1) := by decide +kernel
theorem dX11_lacks_14 : decode cX11_lacks 14 = .ok (.iconst 2, 1) := by decide +kernel
theorem dX11_lacks_15 : decode cX11_lacks 15 = .ok (.invokevirtual 80, 3) := by decide +kernel
theorem dX11_lacks_18 : decode cX11_lacks 18 = .ok (.ireturn, 1) := by decide +kernel
theorem dX11_turnOne_0 : decode cX11_turnOne 0 = .ok (.aload_n 0, 1) := by decide +kernel
theorem dX11_turnOne_1 : decode cX11_turnOne 1 = .ok (.iconst 0, 1) := by decide +kernel
theorem dX11_turnOne_2 : decode cX11_turnOne 2 = .ok (.putfield 103, 3) := by decide +kernel
theorem dX11_turnOne_5 : decode cX11_turnOne 5 = .ok (.aload_n 0, 1) := by decide +kernel
theorem dX11_turnOne_6 : decode cX11_turnOne 6 = .ok (.iconst (-1), 1) := by decide +kernel
theorem dX11_turnOne_7 : decode cX11_turnOne 7 = .ok (.putfield 20, 3) := by decide +kernel
theorem dX11_turnOne_10 : decode cX11_turnOne 10 = .ok (.aload_n 0, 1) := by decide +kernel
theorem dX11_turnOne_11 : decode cX11_turnOne 11 = .ok (.iload_n 2, 1) := by decide +kernel
theorem dX11_turnOne_12 : decode cX11_turnOne 12 = .ok (.iload_n 1, 1) := by decide +kernel
theorem dX11_turnOne_13 : decode cX11_turnOne 13 = .ok (.iconst 0, 1) := by decide +kernel
theorem dX11_turnOne_14 : decode cX11_turnOne 14 = .ok (.iconst 1, 1) := by decide +kernel
theorem dX11_turnOne_15 : decode cX11_turnOne 15 = .ok (.invokevirtual 128, 3) := by decide +kernel
theorem dX11_turnOne_18 : decode cX11_turnOne 18 = .ok (.istore_n 3, 1) := by decide +kernel
theorem dX11_turnOne_19 : decode cX11_turnOne 19 = .ok (.aload_n 0, 1) := by decide +kernel
theorem dX11_turnOne_20 : decode cX11_turnOne 20 = .ok (.aload_n 0, 1) := by decide +kernel
theorem dX11_turnOne_21 : decode cX11_turnOne 21 = .ok (.getfield 20, 3) := by decide +kernel
theorem dX11_turnOne_24 : decode cX11_turnOne 24 = .ok (.putfield 16, 3) := by decide +kernel
theorem dX11_turnOne_27 : decode cX11_turnOne 27 = .ok (.iload_n 3, 1) := by decide +kernel
theorem dX11_turnOne_28 : decode cX11_turnOne 28 = .ok (.ifCond .ge 11, 3) := by decide +kernel
theorem dX11_turnOne_31 : decode cX11_turnOne 31 = .ok (.aload_n 0, 1) := by decide +kernel
theorem dX11_turnOne_32 : decode cX11_turnOne 32 = .ok (.iload_n 3, 1) := by decide +kernel
theorem dX11_turnOne_33 : decode cX11_turnOne 33 = .ok (.invokevirtual 132, 3) := by decide +kernel
theorem dX11_turnOne_36 : decode cX11_turnOne 36 = .ok (.goto 8, 3) := by decide +kernel
theorem dX11_turnOne_39 : decode cX11_turnOne 39 = .ok (.aload_n 0, 1) := by decide +kernel
theorem dX11_turnOne_40 : decode cX11_turnOne 40 = .ok (.iload_n 3, 1) := by decide +kernel
theorem dX11_turnOne_41 : decode cX11_turnOne 41 = .ok (.invokevirtual 74, 3) := by decide +kernel
theorem dX11_turnOne_44 : decode cX11_turnOne 44 = .ok (.ireturn, 1) := by decide +kernel
theorem dX11_turn_0 : decode cX11_turn 0 = .ok (.aload_n 0, 1) := by decide +kernel
theorem dX11_turn_1 : decode cX11_turn 1 = .ok (.iload_n 1, 1) := by decide +kernel
theorem dX11_turn_2 : decode cX11_turn 2 = .ok (.invokevirtual 125, 3) := by decide +kernel
theorem dX11_turn_5 : decode cX11_turn 5 = .ok (.ifCond .eq 20, 3) := by decide +kernel
theorem dX11_turn_8 : decode cX11_turn 8 = .ok (.aload_n 0, 1) := by decide +kernel
theorem dX11_turn_9 : decode cX11_turn 9 = .ok (.iload_n 2, 1) := by decide +kernel
theorem dX11_turn_10 : decode cX11_turn 10 = .ok (.invokevirtual 87, 3) := by decide +kernel
theorem dX11_turn_13 : decode cX11_turn 13 = .ok (.ifCond .eq 12, 3) := by decide +kernel
theorem dX11_turn_16 : decode cX11_turn 16 = .ok (.aload_n 0, 1) := by decide +kernel
theorem dX11_turn_17 : decode cX11_turn 17 = .ok (.iload_n 1, 1) := by decide +kernel
theorem dX11_turn_18 : decode cX11_turn 18 = .ok (.iload_n 2, 1) := by decide +kernel
theorem dX11_turn_19 : decode cX11_turn 19 = .ok (.invokevirtual 135, 3) := by decide +kernel
theorem dX11_turn_22 : decode cX11_turn 22 = .ok (.goto 5, 3) := by decide +kernel
theorem dX11_turn_25 : decode cX11_turn 25 = .ok (.bipush (-2), 2) := by decide +kernel
theorem dX11_turn_27 : decode cX11_turn 27 = .ok (.ireturn, 1) := by decide +kernel
theorem dX11_opens_0 : decode cX11_opens 0 = .ok (.aload_n 0, 1) := by decide +kernel
theorem dX11_opens_1 : decode cX11_opens 1 = .ok (.iload_n 1, 1) := by decide +kernel
theorem dX11_opens_2 : decode cX11_opens 2 = .ok (.invokevirtual 125, 3) := by decide +kernel
theorem dX11_opens_5 : decode cX11_opens 5 = .ok (.ifCond .eq 29, 3) := by decide +kernel
theorem dX11_opens_8 : decode cX11_opens 8 = .ok (.aload_n 0, 1) := by decide +kernel
theorem dX11_opens_9 : decode cX11_opens 9 = .ok (.iload_n 2, 1) := by decide +kernel
theorem dX11_opens_10 : decode cX11_opens 10 = .ok (.invokevirtual 138, 3) := by decide +kernel
theorem dX11_opens_13 : decode cX11_opens 13 = .ok (.ifCond .eq 21, 3) := by decide +kernel
theorem dX11_opens_16 : decode cX11_opens 16 = .ok (.aload_n 0, 1) := by decide +kernel
theorem dX11_opens_17 : decode cX11_opens 17 = .ok (.iload_n 1, 1) := by decide +kernel
theorem dX11_opens_18 : decode cX11_opens 18 = .ok (.aload_n 0, 1) := by decide +kernel
theorem dX11_opens_19 : decode cX11_opens 19 = .ok (.getfield 7, 3) := by decide +kernel
theorem dX11_opens_22 : decode cX11_opens 22 = .ok (.sipush 4464, 3) := by decide +kernel
theorem dX11_opens_25 : decode cX11_opens 25 = .ok (.iload_n 2, 1) := by decide +kernel
theorem dX11_opens_26 : decode cX11_opens 26 = .ok (.iadd, 1) := by decide +kernel
theorem dX11_opens_27 : decode cX11_opens 27 = .ok (.iaload, 1) := by decide +kernel
theorem dX11_opens_28 : decode cX11_opens 28 = .ok (.invokevirtual 135, 3) := by decide +kernel
theorem dX11_opens_31 : decode cX11_opens 31 = .ok (.goto 5, 3) := by decide +kernel
theorem dX11_opens_34 : decode cX11_opens 34 = .ok (.bipush (-2), 2) := by decide +kernel
theorem dX11_opens_36 : decode cX11_opens 36 = .ok (.ireturn, 1) := by decide +kernel
theorem dX11_turnAll_0 : decode cX11_turnAll 0 = .ok (.iload_n 1, 1) := by decide +kernel
theorem dX11_turnAll_1 : decode cX11_turnAll 1 = .ok (.i2l, 1) := by decide +kernel
theorem dX11_turnAll_2 : decode cX11_turnAll 2 = .ok (.lconst 0, 1) := by decide +kernel
theorem dX11_turnAll_3 : decode cX11_turnAll 3 = .ok (.aload_n 0, 1) := by decide +kernel
theorem dX11_turnAll_4 : decode cX11_turnAll 4 = .ok (.getfield 7, 3) := by decide +kernel
theorem dX11_turnAll_7 : decode cX11_turnAll 7 = .ok (.sipush 8524, 3) := by decide +kernel
theorem dX11_turnAll_10 : decode cX11_turnAll 10 = .ok (.iaload, 1) := by decide +kernel
theorem dX11_turnAll_11 : decode cX11_turnAll 11 = .ok (.iconst 1, 1) := by decide +kernel
theorem dX11_turnAll_12 : decode cX11_turnAll 12 = .ok (.isub, 1) := by decide +kernel
theorem dX11_turnAll_13 : decode cX11_turnAll 13 = .ok (.i2l, 1) := by decide +kernel
theorem dX11_turnAll_14 : decode cX11_turnAll 14 = .ok (.invokestatic 67, 3) := by decide +kernel
theorem dX11_turnAll_17 : decode cX11_turnAll 17 = .ok (.ifCond .eq 11, 3) := by decide +kernel
theorem dX11_turnAll_20 : decode cX11_turnAll 20 = .ok (.aload_n 0, 1) := by decide +kernel
theorem dX11_turnAll_21 : decode cX11_turnAll 21 = .ok (.iload_n 2, 1) := by decide +kernel
theorem dX11_turnAll_22 : decode cX11_turnAll 22 = .ok (.invokevirtual 125, 3) := by decide +kernel
theorem dX11_turnAll_25 : decode cX11_turnAll 25 = .ok (.ifCond .ne 6, 3) := by decide +kernel
theorem dX11_turnAll_28 : decode cX11_turnAll 28 = .ok (.bipush (-2), 2) := by decide +kernel
theorem dX11_turnAll_30 : decode cX11_turnAll 30 = .ok (.ireturn, 1) := by decide +kernel
theorem dX11_turnAll_31 : decode cX11_turnAll 31 = .ok (.aload_n 0, 1) := by decide +kernel
theorem dX11_turnAll_32 : decode cX11_turnAll 32 = .ok (.iconst 0, 1) := by decide +kernel
theorem dX11_turnAll_33 : decode cX11_turnAll 33 = .ok (.putfield 103, 3) := by decide +kernel
theorem dX11_turnAll_36 : decode cX11_turnAll 36 = .ok (.aload_n 0, 1) := by decide +kernel
theorem dX11_turnAll_37 : decode cX11_turnAll 37 = .ok (.iconst (-1), 1) := by decide +kernel
theorem dX11_turnAll_38 : decode cX11_turnAll 38 = .ok (.putfield 16, 3) := by decide +kernel
theorem dX11_turnAll_41 : decode cX11_turnAll 41 = .ok (.iconst 0, 1) := by decide +kernel
theorem dX11_turnAll_42 : decode cX11_turnAll 42 = .ok (.istore_n 3, 1) := by decide +kernel
theorem dX11_turnAll_43 : decode cX11_turnAll 43 = .ok (.iconst 0, 1) := by decide +kernel
theorem dX11_turnAll_44 : decode cX11_turnAll 44 = .ok (.istore 4, 2) := by decide +kernel
theorem dX11_turnAll_46 : decode cX11_turnAll 46 = .ok (.iload 4, 2) := by decide +kernel
theorem dX11_turnAll_48 : decode cX11_turnAll 48 = .ok (.aload_n 0, 1) := by decide +kernel
theorem dX11_turnAll_49 : decode cX11_turnAll 49 = .ok (.getfield 7, 3) := by decide +kernel
theorem dX11_turnAll_52 : decode cX11_turnAll 52 = .ok (.sipush 4212, 3) := by decide +kernel
theorem dX11_turnAll_55 : decode cX11_turnAll 55 = .ok (.iload_n 1, 1) := by decide +kernel
theorem dX11_turnAll_56 : decode cX11_turnAll 56 = .ok (.iadd, 1) := by decide +kernel
theorem dX11_turnAll_57 : decode cX11_turnAll 57 = .ok (.iaload, 1) := by decide +kernel
theorem dX11_turnAll_58 : decode cX11_turnAll 58 = .ok (.if_icmp .ge 73, 3) := by decide +kernel
theorem dX11_turnAll_61 : decode cX11_turnAll 61 = .ok (.aload_n 0, 1) := by decide +kernel
theorem dX11_turnAll_62 : decode cX11_turnAll 62 = .ok (.iconst (-1), 1) := by decide +kernel
theorem dX11_turnAll_63 : decode cX11_turnAll 63 = .ok (.putfield 20, 3) := by decide +kernel
theorem dX11_turnAll_66 : decode cX11_turnAll 66 = .ok (.aload_n 0, 1) := by decide +kernel
theorem dX11_turnAll_67 : decode cX11_turnAll 67 = .ok (.aload_n 0, 1) := by decide +kernel
theorem dX11_turnAll_68 : decode cX11_turnAll 68 = .ok (.getfield 7, 3) := by decide +kernel
theorem dX11_turnAll_71 : decode cX11_turnAll 71 = .ok (.sipush 4224, 3) := by decide +kernel
theorem dX11_turnAll_74 : decode cX11_turnAll 74 = .ok (.bipush 20, 2) := by decide +kernel
theorem dX11_turnAll_76 : decode cX11_turnAll 76 = .ok (.iload_n 1, 1) := by decide +kernel
theorem dX11_turnAll_77 : decode cX11_turnAll 77 = .ok (.imul, 1) := by decide +kernel
theorem dX11_turnAll_78 : decode cX11_turnAll 78 = .ok (.iadd, 1) := by decide +kernel
theorem dX11_turnAll_79 : decode cX11_turnAll 79 = .ok (.iload 4, 2) := by decide +kernel
theorem dX11_turnAll_81 : decode cX11_turnAll 81 = .ok (.iadd, 1) := by decide +kernel
theorem dX11_turnAll_82 : decode cX11_turnAll 82 = .ok (.iaload, 1) := by decide +kernel
theorem dX11_turnAll_83 : decode cX11_turnAll 83 = .ok (.iload_n 2, 1) := by decide +kernel
theorem dX11_turnAll_84 : decode cX11_turnAll 84 = .ok (.iconst 0, 1) := by decide +kernel
theorem dX11_turnAll_85 : decode cX11_turnAll 85 = .ok (.iconst 1, 1) := by decide +kernel
theorem dX11_turnAll_86 : decode cX11_turnAll 86 = .ok (.invokevirtual 128, 3) := by decide +kernel
theorem dX11_turnAll_89 : decode cX11_turnAll 89 = .ok (.istore 5, 2) := by decide +kernel
theorem dX11_turnAll_91 : decode cX11_turnAll 91 = .ok (.aload_n 0, 1) := by decide +kernel
theorem dX11_turnAll_92 : decode cX11_turnAll 92 = .ok (.aload_n 0, 1) := by decide +kernel
theorem dX11_turnAll_93 : decode cX11_turnAll 93 = .ok (.getfield 20, 3) := by decide +kernel
theorem dX11_turnAll_96 : decode cX11_turnAll 96 = .ok (.putfield 16, 3) := by decide +kernel
theorem dX11_turnAll_99 : decode cX11_turnAll 99 = .ok (.iload 5, 2) := by decide +kernel
theorem dX11_turnAll_101 : decode cX11_turnAll 101 = .ok (.ifCond .ge 10, 3) := by decide +kernel
theorem dX11_turnAll_104 : decode cX11_turnAll 104 = .ok (.aload_n 0, 1) := by decide +kernel
theorem dX11_turnAll_105 : decode cX11_turnAll 105 = .ok (.iload 5, 2) := by decide +kernel
theorem dX11_turnAll_107 : decode cX11_turnAll 107 = .ok (.invokevirtual 132, 3) := by decide +kernel
theorem dX11_turnAll_110 : decode cX11_turnAll 110 = .ok (.ireturn, 1) := by decide +kernel
theorem dX11_turnAll_111 : decode cX11_turnAll 111 = .ok (.iload 5, 2) := by decide +kernel
theorem dX11_turnAll_113 : decode cX11_turnAll 113 = .ok (.ifCond .ne 9, 3) := by decide +kernel
theorem dX11_turnAll_116 : decode cX11_turnAll 116 = .ok (.aload_n 0, 1) := by decide +kernel
theorem dX11_turnAll_117 : decode cX11_turnAll 117 = .ok (.iload_n 3, 1) := by decide +kernel
theorem dX11_turnAll_118 : decode cX11_turnAll 118 = .ok (.invokevirtual 74, 3) := by decide +kernel
theorem dX11_turnAll_121 : decode cX11_turnAll 121 = .ok (.ireturn, 1) := by decide +kernel
theorem dX11_turnAll_122 : decode cX11_turnAll 122 = .ok (.iinc 3 1, 3) := by decide +kernel
theorem dX11_turnAll_125 : decode cX11_turnAll 125 = .ok (.iinc 4 1, 3) := by decide +kernel
theorem dX11_turnAll_128 : decode cX11_turnAll 128 = .ok (.goto (-82), 3) := by decide +kernel
theorem dX11_turnAll_131 : decode cX11_turnAll 131 = .ok (.aload_n 0, 1) := by decide +kernel
theorem dX11_turnAll_132 : decode cX11_turnAll 132 = .ok (.iload_n 3, 1) := by decide +kernel
theorem dX11_turnAll_133 : decode cX11_turnAll 133 = .ok (.invokevirtual 74, 3) := by decide +kernel
theorem dX11_turnAll_136 : decode cX11_turnAll 136 = .ok (.ireturn, 1) := by decide +kernel
theorem dX11_at_0 : decode cX11_at 0 = .ok (.aload_n 0, 1) := by decide +kernel
theorem dX11_at_1 : decode cX11_at 1 = .ok (.getfield 16, 3) := by decide +kernel
theorem dX11_at_4 : decode cX11_at 4 = .ok (.ireturn, 1) := by decide +kernel
theorem dX11_would_0 : decode cX11_would 0 = .ok (.aload_n 0, 1) := by decide +kernel
theorem dX11_would_1 : decode cX11_would 1 = .ok (.aload_n 0, 1) := by decide +kernel
theorem dX11_would_2 : decode cX11_would 2 = .ok (.getfield 7, 3) := by decide +kernel
theorem dX11_would_5 : decode cX11_would 5 = .ok (.sipush 4464, 3) := by decide +kernel
theorem dX11_would_8 : decode cX11_would 8 = .ok (.iload_n 2, 1) := by decide +kernel
theorem dX11_would_9 : decode cX11_would 9 = .ok (.iadd, 1) := by decide +kernel
theorem dX11_would_10 : decode cX11_would 10 = .ok (.iaload, 1) := by decide +kernel
theorem dX11_would_11 : decode cX11_would 11 = .ok (.iload_n 1, 1) := by decide +kernel
theorem dX11_would_12 : decode cX11_would 12 = .ok (.iconst 0, 1) := by decide +kernel
theorem dX11_would_13 : decode cX11_would 13 = .ok (.iconst 0, 1) := by decide +kernel
theorem dX11_would_14 : decode cX11_would 14 = .ok (.invokevirtual 128, 3) := by decide +kernel
theorem dX11_would_17 : decode cX11_would 17 = .ok (.iconst 1, 1) := by decide +kernel
theorem dX11_would_18 : decode cX11_would 18 = .ok (.if_icmp .ne 7, 3) := by decide +kernel
theorem dX11_would_21 : decode cX11_would 21 = .ok (.iconst 1, 1) := by decide +kernel
theorem dX11_would_22 : decode cX11_would 22 = .ok (.goto 4, 3) := by decide +kernel
theorem dX11_would_25 : decode cX11_would 25 = .ok (.iconst 0, 1) := by decide +kernel
theorem dX11_would_26 : decode cX11_would 26 = .ok (.ireturn, 1) := by decide +kernel
theorem dX11_cabinet_0 : decode cX11_cabinet 0 = .ok (.iload_n 1, 1) := by decide +kernel
theorem dX11_cabinet_1 : decode cX11_cabinet 1 = .ok (.i2l, 1) := by decide +kernel
theorem dX11_cabinet_2 : decode cX11_cabinet 2 = .ok (.lconst 0, 1) := by decide +kernel
theorem dX11_cabinet_3 : decode cX11_cabinet 3 = .ok (.ldc2_w 141, 3) := by decide +kernel
theorem dX11_cabinet_6 : decode cX11_cabinet 6 = .ok (.invokestatic 67, 3) := by decide +kernel
theorem dX11_cabinet_9 : decode cX11_cabinet 9 = .ok (.ifCond .eq 9, 3) := by decide +kernel
theorem dX11_cabinet_12 : decode cX11_cabinet 12 = .ok (.iload_n 2, 1) := by decide +kernel
theorem dX11_cabinet_13 : decode cX11_cabinet 13 = .ok (.bipush 20, 2) := by decide +kernel
theorem dX11_cabinet_15 : decode cX11_cabinet 15 = .ok (.if_icmp .le 6, 3) := by decide +kernel
theorem dX11_cabinet_18 : decode cX11_cabinet 18 = .ok (.bipush (-2), 2) := by decide +kernel
theorem dX11_cabinet_20 : decode cX11_cabinet 20 = .ok (.ireturn, 1) := by decide +kernel
theorem dX11_cabinet_21 : decode cX11_cabinet 21 = .ok (.aload_n 0, 1) := by decide +kernel
theorem dX11_cabinet_22 : decode cX11_cabinet 22 = .ok (.getfield 7, 3) := by decide +kernel
theorem dX11_cabinet_25 : decode cX11_cabinet 25 = .ok (.sipush 8524, 3) := by decide +kernel
theorem dX11_cabinet_28 : decode cX11_cabinet 28 = .ok (.iaload, 1) := by decide +kernel
theorem dX11_cabinet_29 : decode cX11_cabinet 29 = .ok (.bipush 12, 2) := by decide +kernel
theorem dX11_cabinet_31 : decode cX11_cabinet 31 = .ok (.if_icmp .ne 6, 3) := by decide +kernel
theorem dX11_cabinet_34 : decode cX11_cabinet 34 = .ok (.bipush (-4), 2) := by decide +kernel
theorem dX11_cabinet_36 : decode cX11_cabinet 36 = .ok (.ireturn, 1) := by decide +kernel
theorem dX11_cabinet_37 : decode cX11_cabinet 37 = .ok (.iload_n 2, 1) := by decide +kernel
theorem dX11_cabinet_38 : decode cX11_cabinet 38 = .ok (.ifCond .ge 9, 3) := by decide +kernel
theorem dX11_cabinet_41 : decode cX11_cabinet 41 = .ok (.aload_n 0, 1) := by decide +kernel
theorem dX11_cabinet_42 : decode cX11_cabinet 42 = .ok (.iconst 5, 1) := by decide +kernel
theorem dX11_cabinet_43 : decode cX11_cabinet 43 = .ok (.invokevirtual 80, 3) := by decide +kernel
theorem dX11_cabinet_46 : decode cX11_cabinet 46 = .ok (.ireturn, 1) := by decide +kernel
theorem dX11_cabinet_47 : decode cX11_cabinet 47 = .ok (.aload_n 0, 1) := by decide +kernel
theorem dX11_cabinet_48 : decode cX11_cabinet 48 = .ok (.invokevirtual 71, 3) := by decide +kernel
theorem dX11_cabinet_51 : decode cX11_cabinet 51 = .ok (.aload_n 0, 1) := by decide +kernel
theorem dX11_cabinet_52 : decode cX11_cabinet 52 = .ok (.getfield 7, 3) := by decide +kernel
theorem dX11_cabinet_55 : decode cX11_cabinet 55 = .ok (.sipush 8524, 3) := by decide +kernel
theorem dX11_cabinet_58 : decode cX11_cabinet 58 = .ok (.iaload, 1) := by decide +kernel
theorem dX11_cabinet_59 : decode cX11_cabinet 59 = .ok (.istore_n 3, 1) := by decide +kernel
theorem dX11_cabinet_60 : decode cX11_cabinet 60 = .ok (.aload_n 0, 1) := by decide +kernel
theorem dX11_cabinet_61 : decode cX11_cabinet 61 = .ok (.getfield 7, 3) := by decide +kernel
theorem dX11_cabinet_64 : decode cX11_cabinet 64 = .ok (.sipush 8524, 3) := by decide +kernel
theorem dX11_cabinet_67 : decode cX11_cabinet 67 = .ok (.iload_n 3, 1) := by decide +kernel
theorem dX11_cabinet_68 : decode cX11_cabinet 68 = .ok (.iconst 1, 1) := by decide +kernel
theorem dX11_cabinet_69 : decode cX11_cabinet 69 = .ok (.iadd, 1) := by decide +kernel
theorem dX11_cabinet_70 : decode cX11_cabinet 70 = .ok (.iastore, 1) := by decide +kernel
theorem dX11_cabinet_71 : decode cX11_cabinet 71 = .ok (.aload_n 0, 1) := by decide +kernel
theorem dX11_cabinet_72 : decode cX11_cabinet 72 = .ok (.getfield 7, 3) := by decide +kernel
theorem dX11_cabinet_75 : decode cX11_cabinet 75 = .ok (.sipush 4200, 3) := by decide +kernel
theorem dX11_cabinet_78 : decode cX11_cabinet 78 = .ok (.iload_n 3, 1) := by decide +kernel
theorem dX11_cabinet_79 : decode cX11_cabinet 79 = .ok (.iadd, 1) := by decide +kernel
theorem dX11_cabinet_80 : decode cX11_cabinet 80 = .ok (.iload_n 1, 1) := by decide +kernel
theorem dX11_cabinet_81 : decode cX11_cabinet 81 = .ok (.iastore, 1) := by decide +kernel
theorem dX11_cabinet_82 : decode cX11_cabinet 82 = .ok (.aload_n 0, 1) := by decide +kernel
theorem dX11_cabinet_83 : decode cX11_cabinet 83 = .ok (.getfield 7, 3) := by decide +kernel
theorem dX11_cabinet_86 : decode cX11_cabinet 86 = .ok (.sipush 4212, 3) := by decide +kernel
theorem dX11_cabinet_89 : decode cX11_cabinet 89 = .ok (.iload_n 3, 1) := by decide +kernel
theorem dX11_cabinet_90 : decode cX11_cabinet 90 = .ok (.iadd, 1) := by decide +kernel
theorem dX11_cabinet_91 : decode cX11_cabinet 91 = .ok (.iload_n 2, 1) := by decide +kernel
theorem dX11_cabinet_92 : decode cX11_cabinet 92 = .ok (.iastore, 1) := by decide +kernel
theorem dX11_cabinet_93 : decode cX11_cabinet 93 = .ok (.iconst 0, 1) := by decide +kernel
theorem dX11_cabinet_94 : decode cX11_cabinet 94 = .ok (.istore 4, 2) := by decide +kernel
theorem dX11_cabinet_96 : decode cX11_cabinet 96 = .ok (.iload 4, 2) := by decide +kernel
theorem dX11_cabinet_98 : decode cX11_cabinet 98 = .ok (.bipush 20, 2) := by decide +kernel
theorem dX11_cabinet_100 : decode cX11_cabinet 100 = .ok (.if_icmp .ge 26, 3) := by decide +kernel
theorem dX11_cabinet_103 : decode cX11_cabinet 103 = .ok (.aload_n 0, 1) := by decide +kernel
theorem dX11_cabinet_104 : decode cX11_cabinet 104 = .ok (.getfield 7, 3) := by decide +kernel
theorem dX11_cabinet_107 : decode cX11_cabinet 107 = .ok (.sipush 4224, 3) := by decide +kernel
theorem dX11_cabinet_110 : decode cX11_cabinet 110 = .ok (.bipush 20, 2) := by decide +kernel
theorem dX11_cabinet_112 : decode cX11_cabinet 112 = .ok (.iload_n 3, 1) := by decide +kernel
theorem dX11_cabinet_113 : decode cX11_cabinet 113 = .ok (.imul, 1) := by decide +kernel
theorem dX11_cabinet_114 : decode cX11_cabinet 114 = .ok (.iadd, 1) := by decide +kernel
theorem dX11_cabinet_115 : decode cX11_cabinet 115 = .ok (.iload 4, 2) := by decide +kernel
theorem dX11_cabinet_117 : decode cX11_cabinet 117 = .ok (.iadd, 1) := by decide +kernel
theorem dX11_cabinet_118 : decode cX11_cabinet 118 = .ok (.iconst (-1), 1) := by decide +kernel
theorem dX11_cabinet_119 : decode cX11_cabinet 119 = .ok (.iastore, 1) := by decide +kernel
theorem dX11_cabinet_120 : decode cX11_cabinet 120 = .ok (.iinc 4 1, 3) := by decide +kernel
theorem dX11_cabinet_123 : decode cX11_cabinet 123 = .ok (.goto (-27), 3) := by decide +kernel
theorem dX11_cabinet_126 : decode cX11_cabinet 126 = .ok (.aload_n 0, 1) := by decide +kernel
theorem dX11_cabinet_127 : decode cX11_cabinet 127 = .ok (.iload_n 3, 1) := by decide +kernel
theorem dX11_cabinet_128 : decode cX11_cabinet 128 = .ok (.invokevirtual 74, 3) := by decide +kernel
theorem dX11_cabinet_131 : decode cX11_cabinet 131 = .ok (.ireturn, 1) := by decide +kernel
theorem dX11_is_0 : decode cX11_is 0 = .ok (.iload_n 0, 1) := by decide +kernel
theorem dX11_is_1 : decode cX11_is 1 = .ok (.iload_n 1, 1) := by decide +kernel
theorem dX11_is_2 : decode cX11_is 2 = .ok (.if_icmp .eq 22, 3) := by decide +kernel
theorem dX11_is_5 : decode cX11_is 5 = .ok (.iload_n 1, 1) := by decide +kernel
theorem dX11_is_6 : decode cX11_is 6 = .ok (.ifCond .ne 8, 3) := by decide +kernel
theorem dX11_is_9 : decode cX11_is 9 = .ok (.iload_n 0, 1) := by decide +kernel
theorem dX11_is_10 : decode cX11_is 10 = .ok (.iconst 4, 1) := by decide +kernel
theorem dX11_is_11 : decode cX11_is 11 = .ok (.if_icmp .ne 13, 3) := by decide +kernel
theorem dX11_is_14 : decode cX11_is 14 = .ok (.iload_n 1, 1) := by decide +kernel
theorem dX11_is_15 : decode cX11_is 15 = .ok (.iconst 1, 1) := by decide +kernel
theorem dX11_is_16 : decode cX11_is 16 = .ok (.if_icmp .ne 12, 3) := by decide +kernel
theorem dX11_is_19 : decode cX11_is 19 = .ok (.iload_n 0, 1) := by decide +kernel
theorem dX11_is_20 : decode cX11_is 20 = .ok (.iconst 2, 1) := by decide +kernel
theorem dX11_is_21 : decode cX11_is 21 = .ok (.if_icmp .ne 7, 3) := by decide +kernel
theorem dX11_is_24 : decode cX11_is 24 = .ok (.iconst 1, 1) := by decide +kernel
theorem dX11_is_25 : decode cX11_is 25 = .ok (.goto 4, 3) := by decide +kernel
theorem dX11_is_28 : decode cX11_is 28 = .ok (.iconst 0, 1) := by decide +kernel
theorem dX11_is_29 : decode cX11_is 29 = .ok (.ireturn, 1) := by decide +kernel
theorem dX11_put_0 : decode cX11_put 0 = .ok (.iload_n 1, 1) := by decide +kernel
theorem dX11_put_1 : decode cX11_put 1 = .ok (.i2l, 1) := by decide +kernel
theorem dX11_put_2 : decode cX11_put 2 = .ok (.lconst 0, 1) := by decide +kernel
theorem dX11_put_3 : decode cX11_put 3 = .ok (.aload_n 0, 1) := by decide +kernel
theorem dX11_put_4 : decode cX11_put 4 = .ok (.getfield 7, 3) := by decide +kernel
theorem dX11_put_7 : decode cX11_put 7 = .ok (.sipush 8524, 3) := by decide +kernel
theorem dX11_put_10 : decode cX11_put 10 = .ok (.iaload, 1) := by decide +kernel
theorem dX11_put_11 : decode cX11_put 11 = .ok (.iconst 1, 1) := by decide +kernel
theorem dX11_put_12 : decode cX11_put 12 = .ok (.isub, 1) := by decide +kernel
theorem dX11_put_13 : decode cX11_put 13 = .ok (.i2l, 1) := by decide +kernel
theorem dX11_put_14 : decode cX11_put 14 = .ok (.invokestatic 67, 3) := by decide +kernel
theorem dX11_put_17 : decode cX11_put 17 = .ok (.ifCond .eq 16, 3) := by decide +kernel
theorem dX11_put_20 : decode cX11_put 20 = .ok (.iload_n 3, 1) := by decide +kernel
theorem dX11_put_21 : decode cX11_put 21 = .ok (.iconst (-1), 1) := by decide +kernel
theorem dX11_put_22 : decode cX11_put 22 = .ok (.if_icmp .eq 14, 3) := by decide +kernel
theorem dX11_put_25 : decode cX11_put 25 = .ok (.aload_n 0, 1) := by decide +kernel
theorem dX11_put_26 : decode cX11_put 26 = .ok (.iload_n 3, 1) := by decide +kernel
theorem dX11_put_27 : decode cX11_put 27 = .ok (.invokevirtual 87, 3) := by decide +kernel
theorem dX11_put_30 : decode cX11_put 30 = .ok (.ifCond .ne 6, 3) := by decide +kernel
theorem dX11_put_33 : decode cX11_put 33 = .ok (.bipush (-2), 2) := by decide +kernel
theorem dX11_put_35 : decode cX11_put 35 = .ok (.ireturn, 1) := by decide +kernel
theorem dX11_put_36 : decode cX11_put 36 = .ok (.iload_n 2, 1) := by decide +kernel
theorem dX11_put_37 : decode cX11_put 37 = .ok (.i2l, 1) := by decide +kernel
theorem dX11_put_38 : decode cX11_put 38 = .ok (.lconst 0, 1) := by decide +kernel
theorem dX11_put_39 : decode cX11_put 39 = .ok (.aload_n 0, 1) := by decide +kernel
theorem dX11_put_40 : decode cX11_put 40 = .ok (.getfield 7, 3) := by decide +kernel
theorem dX11_put_43 : decode cX11_put 43 = .ok (.sipush 4212, 3) := by decide +kernel
theorem dX11_put_46 : decode cX11_put 46 = .ok (.iload_n 1, 1) := by decide +kernel
theorem dX11_put_47 : decode cX11_put 47 = .ok (.iadd, 1) := by decide +kernel
theorem dX11_put_48 : decode cX11_put 48 = .ok (.iaload, 1) := by decide +kernel
theorem dX11_put_49 : decode cX11_put 49 = .ok (.iconst 1, 1) := by decide +kernel
theorem dX11_put_50 : decode cX11_put 50 = .ok (.isub, 1) := by decide +kernel
theorem dX11_put_51 : decode cX11_put 51 = .ok (.i2l, 1) := by decide +kernel
theorem dX11_put_52 : decode cX11_put 52 = .ok (.invokestatic 67, 3) := by decide +kernel
theorem dX11_put_55 : decode cX11_put 55 = .ok (.ifCond .ne 9, 3) := by decide +kernel
theorem dX11_put_58 : decode cX11_put 58 = .ok (.aload_n 0, 1) := by decide +kernel
theorem dX11_put_59 : decode cX11_put 59 = .ok (.iconst 2, 1) := by decide +kernel
theorem dX11_put_60 : decode cX11_put 60 = .ok (.invokevirtual 80, 3) := by decide +kernel
theorem dX11_put_63 : decode cX11_put 63 = .ok (.ireturn, 1) := by decide +kernel
theorem dX11_put_64 : decode cX11_put 64 = .ok (.iload_n 3, 1) := by decide +kernel
theorem dX11_put_65 : decode cX11_put 65 = .ok (.iconst (-1), 1) := by decide +kernel
theorem dX11_put_66 : decode cX11_put 66 = .ok (.if_icmp .eq 33, 3) := by decide +kernel
theorem dX11_put_69 : decode cX11_put 69 = .ok (.aload_n 0, 1) := by decide +kernel
theorem dX11_put_70 : decode cX11_put 70 = .ok (.getfield 7, 3) := by decide +kernel
theorem dX11_put_73 : decode cX11_put 73 = .ok (.iconst 0, 1) := by decide +kernel
theorem dX11_put_74 : decode cX11_put 74 = .ok (.iload_n 3, 1) := by decide +kernel
theorem dX11_put_75 : decode cX11_put 75 = .ok (.iadd, 1) := by decide +kernel
theorem dX11_put_76 : decode cX11_put 76 = .ok (.iaload, 1) := by decide +kernel
theorem dX11_put_77 : decode cX11_put 77 = .ok (.aload_n 0, 1) := by decide +kernel
theorem dX11_put_78 : decode cX11_put 78 = .ok (.getfield 7, 3) := by decide +kernel
theorem dX11_put_81 : decode cX11_put 81 = .ok (.sipush 4200, 3) := by decide +kernel
theorem dX11_put_84 : decode cX11_put 84 = .ok (.iload_n 1, 1) := by decide +kernel
theorem dX11_put_85 : decode cX11_put 85 = .ok (.iadd, 1) := by decide +kernel
theorem dX11_put_86 : decode cX11_put 86 = .ok (.iaload, 1) := by decide +kernel
theorem dX11_put_87 : decode cX11_put 87 = .ok (.invokestatic 143, 3) := by decide +kernel
theorem dX11_put_90 : decode cX11_put 90 = .ok (.ifCond .ne 9, 3) := by decide +kernel
theorem dX11_put_93 : decode cX11_put 93 = .ok (.aload_n 0, 1) := by decide +kernel
theorem dX11_put_94 : decode cX11_put 94 = .ok (.iconst 4, 1) := by decide +kernel
theorem dX11_put_95 : decode cX11_put 95 = .ok (.invokevirtual 80, 3) := by decide +kernel
theorem dX11_put_98 : decode cX11_put 98 = .ok (.ireturn, 1) := by decide +kernel
theorem dX11_put_99 : decode cX11_put 99 = .ok (.aload_n 0, 1) := by decide +kernel
theorem dX11_put_100 : decode cX11_put 100 = .ok (.invokevirtual 71, 3) := by decide +kernel
theorem dX11_put_103 : decode cX11_put 103 = .ok (.aload_n 0, 1) := by decide +kernel
theorem dX11_put_104 : decode cX11_put 104 = .ok (.getfield 7, 3) := by decide +kernel
theorem dX11_put_107 : decode cX11_put 107 = .ok (.sipush 4224, 3) := by decide +kernel
theorem dX11_put_110 : decode cX11_put 110 = .ok (.bipush 20, 2) := by decide +kernel
theorem dX11_put_112 : decode cX11_put 112 = .ok (.iload_n 1, 1) := by decide +kernel
theorem dX11_put_113 : decode cX11_put 113 = .ok (.imul, 1) := by decide +kernel
theorem dX11_put_114 : decode cX11_put 114 = .ok (.iadd, 1) := by decide +kernel
theorem dX11_put_115 : decode cX11_put 115 = .ok (.iload_n 2, 1) := by decide +kernel
theorem dX11_put_116 : decode cX11_put 116 = .ok (.iadd, 1) := by decide +kernel
theorem dX11_put_117 : decode cX11_put 117 = .ok (.iaload, 1) := by decide +kernel
theorem dX11_put_118 : decode cX11_put 118 = .ok (.istore 4, 2) := by decide +kernel
theorem dX11_put_120 : decode cX11_put 120 = .ok (.aload_n 0, 1) := by decide +kernel
theorem dX11_put_121 : decode cX11_put 121 = .ok (.getfield 7, 3) := by decide +kernel
theorem dX11_put_124 : decode cX11_put 124 = .ok (.sipush 4224, 3) := by decide +kernel
theorem dX11_put_127 : decode cX11_put 127 = .ok (.bipush 20, 2) := by decide +kernel
theorem dX11_put_129 : decode cX11_put 129 = .ok (.iload_n 1, 1) := by decide +kernel
theorem dX11_put_130 : decode cX11_put 130 = .ok (.imul, 1) := by decide +kernel
theorem dX11_put_131 : decode cX11_put 131 = .ok (.iadd, 1) := by decide +kernel
theorem dX11_put_132 : decode cX11_put 132 = .ok (.iload_n 2, 1) := by decide +kernel
theorem dX11_put_133 : decode cX11_put 133 = .ok (.iadd, 1) := by decide +kernel
theorem dX11_put_134 : decode cX11_put 134 = .ok (.iload_n 3, 1) := by decide +kernel
theorem dX11_put_135 : decode cX11_put 135 = .ok (.iastore, 1) := by decide +kernel
theorem dX11_put_136 : decode cX11_put 136 = .ok (.aload_n 0, 1) := by decide +kernel
theorem dX11_put_137 : decode cX11_put 137 = .ok (.iload 4, 2) := by decide +kernel
theorem dX11_put_139 : decode cX11_put 139 = .ok (.invokevirtual 74, 3) := by decide +kernel
theorem dX11_put_142 : decode cX11_put 142 = .ok (.ireturn, 1) := by decide +kernel
theorem dX11_inside_0 : decode cX11_inside 0 = .ok (.iload_n 1, 1) := by decide +kernel
theorem dX11_inside_1 : decode cX11_inside 1 = .ok (.i2l, 1) := by decide +kernel
theorem dX11_inside_2 : decode cX11_inside 2 = .ok (.lconst 0, 1) := by decide +kernel
theorem dX11_inside_3 : decode cX11_inside 3 = .ok (.aload_n 0, 1) := by decide +kernel
theorem dX11_inside_4 : decode cX11_inside 4 = .ok (.getfield 7, 3) := by decide +kernel
theorem dX11_inside_7 : decode cX11_inside 7 = .ok (.sipush 8524, 3) := by decide +kernel
theorem dX11_inside_10 : decode cX11_inside 10 = .ok (.iaload, 1) := by decide +kernel
theorem dX11_inside_11 : decode cX11_inside 11 = .ok (.iconst 1, 1) := by decide +kernel
theorem dX11_inside_12 : decode cX11_inside 12 = .ok (.isub, 1) := by decide +kernel
theorem dX11_inside_13 : decode cX11_inside 13 = .ok (.i2l, 1) := by decide +kernel
theorem dX11_inside_14 : decode cX11_inside 14 = .ok (.invokestatic 67, 3) := by decide +kernel
theorem dX11_inside_17 : decode cX11_inside 17 = .ok (.ifCond .ne 6, 3) := by decide +kernel
theorem dX11_inside_20 : decode cX11_inside 20 = .ok (.bipush (-2), 2) := by decide +kernel
theorem dX11_inside_22 : decode cX11_inside 22 = .ok (.ireturn, 1) := by decide +kernel
theorem dX11_inside_23 : decode cX11_inside 23 = .ok (.iload_n 2, 1) := by decide +kernel
theorem dX11_inside_24 : decode cX11_inside 24 = .ok (.i2l, 1) := by decide +kernel
theorem dX11_inside_25 : decode cX11_inside 25 = .ok (.lconst 0, 1) := by decide +kernel
theorem dX11_inside_26 : decode cX11_inside 26 = .ok (.aload_n 0, 1) := by decide +kernel
theorem dX11_inside_27 : decode cX11_inside 27 = .ok (.getfield 7, 3) := by decide +kernel
theorem dX11_inside_30 : decode cX11_inside 30 = .ok (.sipush 4212, 3) := by decide +kernel
theorem dX11_inside_33 : decode cX11_inside 33 = .ok (.iload_n 1, 1) := by decide +kernel
theorem dX11_inside_34 : decode cX11_inside 34 = .ok (.iadd, 1) := by decide +kernel
theorem dX11_inside_35 : decode cX11_inside 35 = .ok (.iaload, 1) := by decide +kernel
theorem dX11_inside_36 : decode cX11_inside 36 = .ok (.iconst 1, 1) := by decide +kernel
theorem dX11_inside_37 : decode cX11_inside 37 = .ok (.isub, 1) := by decide +kernel
theorem dX11_inside_38 : decode cX11_inside 38 = .ok (.i2l, 1) := by decide +kernel
theorem dX11_inside_39 : decode cX11_inside 39 = .ok (.invokestatic 67, 3) := by decide +kernel
theorem dX11_inside_42 : decode cX11_inside 42 = .ok (.ifCond .eq 25, 3) := by decide +kernel
theorem dX11_inside_45 : decode cX11_inside 45 = .ok (.aload_n 0, 1) := by decide +kernel
theorem dX11_inside_46 : decode cX11_inside 46 = .ok (.aload_n 0, 1) := by decide +kernel
theorem dX11_inside_47 : decode cX11_inside 47 = .ok (.getfield 7, 3) := by decide +kernel
theorem dX11_inside_50 : decode cX11_inside 50 = .ok (.sipush 4224, 3) := by decide +kernel
theorem dX11_inside_53 : decode cX11_inside 53 = .ok (.bipush 20, 2) := by decide +kernel
theorem dX11_inside_55 : decode cX11_inside 55 = .ok (.iload_n 1, 1) := by decide +kernel
theorem dX11_inside_56 : decode cX11_inside 56 = .ok (.imul, 1) := by decide +kernel
theorem dX11_inside_57 : decode cX11_inside 57 = .ok (.iadd, 1) := by decide +kernel
theorem dX11_inside_58 : decode cX11_inside 58 = .ok (.iload_n 2, 1) := by decide +kernel
theorem dX11_inside_59 : decode cX11_inside 59 = .ok (.iadd, 1) := by decide +kernel
theorem dX11_inside_60 : decode cX11_inside 60 = .ok (.iaload, 1) := by decide +kernel
theorem dX11_inside_61 : decode cX11_inside 61 = .ok (.invokevirtual 74, 3) := by decide +kernel
theorem dX11_inside_64 : decode cX11_inside 64 = .ok (.goto 8, 3) := by decide +kernel
theorem dX11_inside_67 : decode cX11_inside 67 = .ok (.aload_n 0, 1) := by decide +kernel
theorem dX11_inside_68 : decode cX11_inside 68 = .ok (.iconst 2, 1) := by decide +kernel
theorem dX11_inside_69 : decode cX11_inside 69 = .ok (.invokevirtual 80, 3) := by decide +kernel
theorem dX11_inside_72 : decode cX11_inside 72 = .ok (.ireturn, 1) := by decide +kernel
theorem dX11_door_0 : decode cX11_door 0 = .ok (.aload_n 0, 1) := by decide +kernel
theorem dX11_door_1 : decode cX11_door 1 = .ok (.getfield 7, 3) := by decide +kernel
theorem dX11_door_4 : decode cX11_door 4 = .ok (.sipush 8525, 3) := by decide +kernel
theorem dX11_door_7 : decode cX11_door 7 = .ok (.iaload, 1) := by decide +kernel
theorem dX11_door_8 : decode cX11_door 8 = .ok (.istore_n 1, 1) := by decide +kernel
theorem dX11_door_9 : decode cX11_door 9 = .ok (.iload_n 1, 1) := by decide +kernel
theorem dX11_door_10 : decode cX11_door 10 = .ok (.bipush 40, 2) := by decide +kernel
theorem dX11_door_12 : decode cX11_door 12 = .ok (.if_icmp .ne 6, 3) := by decide +kernel
theorem dX11_door_15 : decode cX11_door 15 = .ok (.bipush (-4), 2) := by decide +kernel
theorem dX11_door_17 : decode cX11_door 17 = .ok (.ireturn, 1) := by decide +kernel
theorem dX11_door_18 : decode cX11_door 18 = .ok (.aload_n 0, 1) := by decide +kernel
theorem dX11_door_19 : decode cX11_door 19 = .ok (.invokevirtual 71, 3) := by decide +kernel
theorem dX11_door_22 : decode cX11_door 22 = .ok (.aload_n 0, 1) := by decide +kernel
theorem dX11_door_23 : decode cX11_door 23 = .ok (.getfield 7, 3) := by decide +kernel
theorem dX11_door_26 : decode cX11_door 26 = .ok (.sipush 8525, 3) := by decide +kernel
theorem dX11_door_29 : decode cX11_door 29 = .ok (.iload_n 1, 1) := by decide +kernel
theorem dX11_door_30 : decode cX11_door 30 = .ok (.iconst 1, 1) := by decide +kernel
theorem dX11_door_31 : decode cX11_door 31 = .ok (.iadd, 1) := by decide +kernel
theorem dX11_door_32 : decode cX11_door 32 = .ok (.iastore, 1) := by decide +kernel
theorem dX11_door_33 : decode cX11_door 33 = .ok (.aload_n 0, 1) := by decide +kernel
theorem dX11_door_34 : decode cX11_door 34 = .ok (.getfield 7, 3) := by decide +kernel
theorem dX11_door_37 : decode cX11_door 37 = .ok (.sipush 4464, 3) := by decide +kernel
theorem dX11_door_40 : decode cX11_door 40 = .ok (.iload_n 1, 1) := by decide +kernel
theorem dX11_door_41 : decode cX11_door 41 = .ok (.iadd, 1) := by decide +kernel
theorem dX11_door_42 : decode cX11_door 42 = .ok (.iconst (-1), 1) := by decide +kernel
theorem dX11_door_43 : decode cX11_door 43 = .ok (.iastore, 1) := by decide +kernel
theorem dX11_door_44 : decode cX11_door 44 = .ok (.iconst 0, 1) := by decide +kernel
theorem dX11_door_45 : decode cX11_door 45 = .ok (.istore_n 2, 1) := by decide +kernel
theorem dX11_door_46 : decode cX11_door 46 = .ok (.iload_n 2, 1) := by decide +kernel
theorem dX11_door_47 : decode cX11_door 47 = .ok (.bipush 100, 2) := by decide +kernel
theorem dX11_door_49 : decode cX11_door 49 = .ok (.if_icmp .ge 25, 3) := by decide +kernel
theorem dX11_door_52 : decode cX11_door 52 = .ok (.aload_n 0, 1) := by decide +kernel
theorem dX11_door_53 : decode cX11_door 53 = .ok (.getfield 7, 3) := by decide +kernel
theorem dX11_door_56 : decode cX11_door 56 = .ok (.sipush 4504, 3) := by decide +kernel
theorem dX11_door_59 : decode cX11_door 59 = .ok (.bipush 40, 2) := by decide +kernel
theorem dX11_door_61 : decode cX11_door 61 = .ok (.iload_n 2, 1) := by decide +kernel
theorem dX11_door_62 : decode cX11_door 62 = .ok (.imul, 1) := by decide +kernel
theorem dX11_door_63 : decode cX11_door 63 = .ok (.iadd, 1) := by decide +kernel
theorem dX11_door_64 : decode cX11_door 64 = .ok (.iload_n 1, 1) := by decide +kernel
theorem dX11_door_65 : decode cX11_door 65 = .ok (.iadd, 1) := by decide +kernel
theorem dX11_door_66 : decode cX11_door 66 = .ok (.iconst 0, 1) := by decide +kernel
theorem dX11_door_67 : decode cX11_door 67 = .ok (.iastore, 1) := by decide +kernel
theorem dX11_door_68 : decode cX11_door 68 = .ok (.iinc 2 1, 3) := by decide +kernel
theorem dX11_door_71 : decode cX11_door 71 = .ok (.goto (-25), 3) := by decide +kernel
theorem dX11_door_74 : decode cX11_door 74 = .ok (.iload_n 1, 1) := by decide +kernel
theorem dX11_door_75 : decode cX11_door 75 = .ok (.ireturn, 1) := by decide +kernel
theorem dX11_fit_0 : decode cX11_fit 0 = .ok (.aload_n 0, 1) := by decide +kernel
theorem dX11_fit_1 : decode cX11_fit 1 = .ok (.iload_n 1, 1) := by decide +kernel
theorem dX11_fit_2 : decode cX11_fit 2 = .ok (.invokevirtual 138, 3) := by decide +kernel
theorem dX11_fit_5 : decode cX11_fit 5 = .ok (.ifCond .eq 16, 3) := by decide +kernel
theorem dX11_fit_8 : decode cX11_fit 8 = .ok (.iload_n 2, 1) := by decide +kernel
theorem dX11_fit_9 : decode cX11_fit 9 = .ok (.iconst (-1), 1) := by decide +kernel
theorem dX11_fit_10 : decode cX11_fit 10 = .ok (.if_icmp .eq 14, 3) := by decide +kernel
theorem dX11_fit_13 : decode cX11_fit 13 = .ok (.aload_n 0, 1) := by decide +kernel
theorem dX11_fit_14 : decode cX11_fit 14 = .ok (.iload_n 2, 1) := by decide +kernel
theorem dX11_fit_15 : decode cX11_fit 15 = .ok (.invokevirtual 87, 3) := by decide +kernel
theorem dX11_fit_18 : decode cX11_fit 18 = .ok (.ifCond .ne 6, 3) := by decide +kernel
theorem dX11_fit_21 : decode cX11_fit 21 = .ok (.bipush (-2), 2) := by decide +kernel
theorem dX11_fit_23 : decode cX11_fit 23 = .ok (.ireturn, 1) := by decide +kernel
theorem dX11_fit_24 : decode cX11_fit 24 = .ok (.aload_n 0, 1) := by decide +kernel
theorem dX11_fit_25 : decode cX11_fit 25 = .ok (.invokevirtual 71, 3) := by decide +kernel
theorem dX11_fit_28 : decode cX11_fit 28 = .ok (.aload_n 0, 1) := by decide +kernel
theorem dX11_fit_29 : decode cX11_fit 29 = .ok (.getfield 7, 3) := by decide +kernel
theorem dX11_fit_32 : decode cX11_fit 32 = .ok (.sipush 4464, 3) := by decide +kernel
theorem dX11_fit_35 : decode cX11_fit 35 = .ok (.iload_n 1, 1) := by decide +kernel
theorem dX11_fit_36 : decode cX11_fit 36 = .ok (.iadd, 1) := by decide +kernel
theorem dX11_fit_37 : decode cX11_fit 37 = .ok (.iaload, 1) := by decide +kernel
theorem dX11_fit_38 : decode cX11_fit 38 = .ok (.istore_n 3, 1) := by decide +kernel
theorem dX11_fit_39 : decode cX11_fit 39 = .ok (.aload_n 0, 1) := by decide +kernel
theorem dX11_fit_40 : decode cX11_fit 40 = .ok (.getfield 7, 3) := by decide +kernel
theorem dX11_fit_43 : decode cX11_fit 43 = .ok (.sipush 4464, 3) := by decide +kernel
end
section
theorem dX11_fit_46 : decode cX11_fit 46 = .ok (.iload_n 1, 1) := by decide +kernel
theorem dX11_fit_47 : decode cX11_fit 47 = .ok (.iadd, 1) := by decide +kernel
theorem dX11_fit_48 : decode cX11_fit 48 = .ok (.iload_n 2, 1) := by decide +kernel
theorem dX11_fit_49 : decode cX11_fit 49 = .ok (.iastore, 1) := by decide +kernel
theorem dX11_fit_50 : decode cX11_fit 50 = .ok (.iload_n 3, 1) := by decide +kernel
theorem dX11_fit_51 : decode cX11_fit 51 = .ok (.ireturn, 1) := by decide +kernel
theorem dX11_person_0 : decode cX11_person 0 = .ok (.aload_n 0, 1) := by decide +kernel
theorem dX11_person_1 : decode cX11_person 1 = .ok (.getfield 7, 3) := by decide +kernel
theorem dX11_person_4 : decode cX11_person 4 = .ok (.sipush 8526, 3) := by decide +kernel
theorem dX11_person_7 : decode cX11_person 7 = .ok (.iaload, 1) := by decide +kernel
theorem dX11_person_8 : decode cX11_person 8 = .ok (.bipush 40, 2) := by decide +kernel
theorem dX11_person_10 : decode cX11_person 10 = .ok (.if_icmp .ne 6, 3) := by decide +kernel
theorem dX11_person_13 : decode cX11_person 13 = .ok (.bipush (-4), 2) := by decide +kernel
theorem dX11_person_15 : decode cX11_person 15 = .ok (.ireturn, 1) := by decide +kernel
theorem dX11_person_16 : decode cX11_person 16 = .ok (.aload_n 0, 1) := by decide +kernel
theorem dX11_person_17 : decode cX11_person 17 = .ok (.invokevirtual 71, 3) := by decide +kernel
theorem dX11_person_20 : decode cX11_person 20 = .ok (.aload_n 0, 1) := by decide +kernel
theorem dX11_person_21 : decode cX11_person 21 = .ok (.getfield 7, 3) := by decide +kernel
theorem dX11_person_24 : decode cX11_person 24 = .ok (.sipush 8526, 3) := by decide +kernel
theorem dX11_person_27 : decode cX11_person 27 = .ok (.dup2, 1) := by decide +kernel
theorem dX11_person_28 : decode cX11_person 28 = .ok (.iaload, 1) := by decide +kernel
theorem dX11_person_29 : decode cX11_person 29 = .ok (.iconst 1, 1) := by decide +kernel
theorem dX11_person_30 : decode cX11_person 30 = .ok (.iadd, 1) := by decide +kernel
theorem dX11_person_31 : decode cX11_person 31 = .ok (.iastore, 1) := by decide +kernel
theorem dX11_person_32 : decode cX11_person 32 = .ok (.aload_n 0, 1) := by decide +kernel
theorem dX11_person_33 : decode cX11_person 33 = .ok (.getfield 7, 3) := by decide +kernel
theorem dX11_person_36 : decode cX11_person 36 = .ok (.sipush 8526, 3) := by decide +kernel
theorem dX11_person_39 : decode cX11_person 39 = .ok (.iaload, 1) := by decide +kernel
theorem dX11_person_40 : decode cX11_person 40 = .ok (.iconst 1, 1) := by decide +kernel
theorem dX11_person_41 : decode cX11_person 41 = .ok (.isub, 1) := by decide +kernel
theorem dX11_person_42 : decode cX11_person 42 = .ok (.ireturn, 1) := by decide +kernel
theorem dX11_lend_0 : decode cX11_lend 0 = .ok (.aload_n 0, 1) := by decide +kernel
theorem dX11_lend_1 : decode cX11_lend 1 = .ok (.iload_n 1, 1) := by decide +kernel
theorem dX11_lend_2 : decode cX11_lend 2 = .ok (.invokevirtual 125, 3) := by decide +kernel
theorem dX11_lend_5 : decode cX11_lend 5 = .ok (.ifCond .eq 23, 3) := by decide +kernel
theorem dX11_lend_8 : decode cX11_lend 8 = .ok (.iload_n 2, 1) := by decide +kernel
theorem dX11_lend_9 : decode cX11_lend 9 = .ok (.i2l, 1) := by decide +kernel
theorem dX11_lend_10 : decode cX11_lend 10 = .ok (.lconst 0, 1) := by decide +kernel
theorem dX11_lend_11 : decode cX11_lend 11 = .ok (.aload_n 0, 1) := by decide +kernel
theorem dX11_lend_12 : decode cX11_lend 12 = .ok (.getfield 7, 3) := by decide +kernel
theorem dX11_lend_15 : decode cX11_lend 15 = .ok (.sipush 8526, 3) := by decide +kernel
theorem dX11_lend_18 : decode cX11_lend 18 = .ok (.iaload, 1) := by decide +kernel
theorem dX11_lend_19 : decode cX11_lend 19 = .ok (.iconst 1, 1) := by decide +kernel
theorem dX11_lend_20 : decode cX11_lend 20 = .ok (.isub, 1) := by decide +kernel
theorem dX11_lend_21 : decode cX11_lend 21 = .ok (.i2l, 1) := by decide +kernel
theorem dX11_lend_22 : decode cX11_lend 22 = .ok (.invokestatic 67, 3) := by decide +kernel
theorem dX11_lend_25 : decode cX11_lend 25 = .ok (.ifCond .ne 6, 3) := by decide +kernel
theorem dX11_lend_28 : decode cX11_lend 28 = .ok (.bipush (-2), 2) := by decide +kernel
theorem dX11_lend_30 : decode cX11_lend 30 = .ok (.ireturn, 1) := by decide +kernel
theorem dX11_lend_31 : decode cX11_lend 31 = .ok (.aload_n 0, 1) := by decide +kernel
theorem dX11_lend_32 : decode cX11_lend 32 = .ok (.getfield 7, 3) := by decide +kernel
theorem dX11_lend_35 : decode cX11_lend 35 = .ok (.sipush 4100, 3) := by decide +kernel
theorem dX11_lend_38 : decode cX11_lend 38 = .ok (.iload_n 1, 1) := by decide +kernel
theorem dX11_lend_39 : decode cX11_lend 39 = .ok (.iadd, 1) := by decide +kernel
theorem dX11_lend_40 : decode cX11_lend 40 = .ok (.iaload, 1) := by decide +kernel
theorem dX11_lend_41 : decode cX11_lend 41 = .ok (.iconst (-1), 1) := by decide +kernel
theorem dX11_lend_42 : decode cX11_lend 42 = .ok (.if_icmp .eq 6, 3) := by decide +kernel
theorem dX11_lend_45 : decode cX11_lend 45 = .ok (.bipush (-3), 2) := by decide +kernel
theorem dX11_lend_47 : decode cX11_lend 47 = .ok (.ireturn, 1) := by decide +kernel
theorem dX11_lend_48 : decode cX11_lend 48 = .ok (.aload_n 0, 1) := by decide +kernel
theorem dX11_lend_49 : decode cX11_lend 49 = .ok (.invokevirtual 71, 3) := by decide +kernel
theorem dX11_lend_52 : decode cX11_lend 52 = .ok (.aload_n 0, 1) := by decide +kernel
theorem dX11_lend_53 : decode cX11_lend 53 = .ok (.getfield 7, 3) := by decide +kernel
theorem dX11_lend_56 : decode cX11_lend 56 = .ok (.sipush 4100, 3) := by decide +kernel
theorem dX11_lend_59 : decode cX11_lend 59 = .ok (.iload_n 1, 1) := by decide +kernel
theorem dX11_lend_60 : decode cX11_lend 60 = .ok (.iadd, 1) := by decide +kernel
theorem dX11_lend_61 : decode cX11_lend 61 = .ok (.iload_n 2, 1) := by decide +kernel
theorem dX11_lend_62 : decode cX11_lend 62 = .ok (.iastore, 1) := by decide +kernel
theorem dX11_lend_63 : decode cX11_lend 63 = .ok (.iconst 0, 1) := by decide +kernel
theorem dX11_lend_64 : decode cX11_lend 64 = .ok (.istore_n 3, 1) := by decide +kernel
theorem dX11_lend_65 : decode cX11_lend 65 = .ok (.iconst 0, 1) := by decide +kernel
theorem dX11_lend_66 : decode cX11_lend 66 = .ok (.istore 4, 2) := by decide +kernel
theorem dX11_lend_68 : decode cX11_lend 68 = .ok (.iload 4, 2) := by decide +kernel
theorem dX11_lend_70 : decode cX11_lend 70 = .ok (.aload_n 0, 1) := by decide +kernel
theorem dX11_lend_71 : decode cX11_lend 71 = .ok (.getfield 7, 3) := by decide +kernel
theorem dX11_lend_74 : decode cX11_lend 74 = .ok (.sipush 8523, 3) := by decide +kernel
theorem dX11_lend_77 : decode cX11_lend 77 = .ok (.iaload, 1) := by decide +kernel
theorem dX11_lend_78 : decode cX11_lend 78 = .ok (.if_icmp .ge 32, 3) := by decide +kernel
theorem dX11_lend_81 : decode cX11_lend 81 = .ok (.iload_n 3, 1) := by decide +kernel
theorem dX11_lend_82 : decode cX11_lend 82 = .ok (.aload_n 0, 1) := by decide +kernel
theorem dX11_lend_83 : decode cX11_lend 83 = .ok (.getfield 7, 3) := by decide +kernel
theorem dX11_lend_86 : decode cX11_lend 86 = .ok (.sipush 4100, 3) := by decide +kernel
theorem dX11_lend_89 : decode cX11_lend 89 = .ok (.iload 4, 2) := by decide +kernel
theorem dX11_lend_91 : decode cX11_lend 91 = .ok (.iadd, 1) := by decide +kernel
theorem dX11_lend_92 : decode cX11_lend 92 = .ok (.iaload, 1) := by decide +kernel
theorem dX11_lend_93 : decode cX11_lend 93 = .ok (.iload_n 2, 1) := by decide +kernel
theorem dX11_lend_94 : decode cX11_lend 94 = .ok (.if_icmp .ne 7, 3) := by decide +kernel
theorem dX11_lend_97 : decode cX11_lend 97 = .ok (.iconst 1, 1) := by decide +kernel
theorem dX11_lend_98 : decode cX11_lend 98 = .ok (.goto 4, 3) := by decide +kernel
theorem dX11_lend_101 : decode cX11_lend 101 = .ok (.iconst 0, 1) := by decide +kernel
theorem dX11_lend_102 : decode cX11_lend 102 = .ok (.iadd, 1) := by decide +kernel
theorem dX11_lend_103 : decode cX11_lend 103 = .ok (.istore_n 3, 1) := by decide +kernel
theorem dX11_lend_104 : decode cX11_lend 104 = .ok (.iinc 4 1, 3) := by decide +kernel
theorem dX11_lend_107 : decode cX11_lend 107 = .ok (.goto (-39), 3) := by decide +kernel
theorem dX11_lend_110 : decode cX11_lend 110 = .ok (.iload_n 3, 1) := by decide +kernel
theorem dX11_lend_111 : decode cX11_lend 111 = .ok (.ireturn, 1) := by decide +kernel
theorem dX11_bringBack_0 : decode cX11_bringBack 0 = .ok (.aload_n 0, 1) := by decide +kernel
theorem dX11_bringBack_1 : decode cX11_bringBack 1 = .ok (.iload_n 1, 1) := by decide +kernel
theorem dX11_bringBack_2 : decode cX11_bringBack 2 = .ok (.invokevirtual 125, 3) := by decide +kernel
theorem dX11_bringBack_5 : decode cX11_bringBack 5 = .ok (.ifCond .ne 6, 3) := by decide +kernel
theorem dX11_bringBack_8 : decode cX11_bringBack 8 = .ok (.bipush (-2), 2) := by decide +kernel
theorem dX11_bringBack_10 : decode cX11_bringBack 10 = .ok (.ireturn, 1) := by decide +kernel
theorem dX11_bringBack_11 : decode cX11_bringBack 11 = .ok (.aload_n 0, 1) := by decide +kernel
theorem dX11_bringBack_12 : decode cX11_bringBack 12 = .ok (.getfield 7, 3) := by decide +kernel
theorem dX11_bringBack_15 : decode cX11_bringBack 15 = .ok (.sipush 4100, 3) := by decide +kernel
theorem dX11_bringBack_18 : decode cX11_bringBack 18 = .ok (.iload_n 1, 1) := by decide +kernel
theorem dX11_bringBack_19 : decode cX11_bringBack 19 = .ok (.iadd, 1) := by decide +kernel
theorem dX11_bringBack_20 : decode cX11_bringBack 20 = .ok (.iaload, 1) := by decide +kernel
theorem dX11_bringBack_21 : decode cX11_bringBack 21 = .ok (.istore_n 2, 1) := by decide +kernel
theorem dX11_bringBack_22 : decode cX11_bringBack 22 = .ok (.iload_n 2, 1) := by decide +kernel
theorem dX11_bringBack_23 : decode cX11_bringBack 23 = .ok (.ifCond .ge 6, 3) := by decide +kernel
theorem dX11_bringBack_26 : decode cX11_bringBack 26 = .ok (.bipush (-3), 2) := by decide +kernel
theorem dX11_bringBack_28 : decode cX11_bringBack 28 = .ok (.ireturn, 1) := by decide +kernel
theorem dX11_bringBack_29 : decode cX11_bringBack 29 = .ok (.aload_n 0, 1) := by decide +kernel
theorem dX11_bringBack_30 : decode cX11_bringBack 30 = .ok (.invokevirtual 71, 3) := by decide +kernel
theorem dX11_bringBack_33 : decode cX11_bringBack 33 = .ok (.aload_n 0, 1) := by decide +kernel
theorem dX11_bringBack_34 : decode cX11_bringBack 34 = .ok (.getfield 7, 3) := by decide +kernel
theorem dX11_bringBack_37 : decode cX11_bringBack 37 = .ok (.sipush 4100, 3) := by decide +kernel
theorem dX11_bringBack_40 : decode cX11_bringBack 40 = .ok (.iload_n 1, 1) := by decide +kernel
theorem dX11_bringBack_41 : decode cX11_bringBack 41 = .ok (.iadd, 1) := by decide +kernel
theorem dX11_bringBack_42 : decode cX11_bringBack 42 = .ok (.iconst (-1), 1) := by decide +kernel
theorem dX11_bringBack_43 : decode cX11_bringBack 43 = .ok (.iastore, 1) := by decide +kernel
theorem dX11_bringBack_44 : decode cX11_bringBack 44 = .ok (.iload_n 2, 1) := by decide +kernel
theorem dX11_bringBack_45 : decode cX11_bringBack 45 = .ok (.ireturn, 1) := by decide +kernel
theorem dX11_lose_0 : decode cX11_lose 0 = .ok (.aload_n 0, 1) := by decide +kernel
theorem dX11_lose_1 : decode cX11_lose 1 = .ok (.iload_n 1, 1) := by decide +kernel
theorem dX11_lose_2 : decode cX11_lose 2 = .ok (.invokevirtual 125, 3) := by decide +kernel
theorem dX11_lose_5 : decode cX11_lose 5 = .ok (.ifCond .ne 6, 3) := by decide +kernel
theorem dX11_lose_8 : decode cX11_lose 8 = .ok (.bipush (-2), 2) := by decide +kernel
theorem dX11_lose_10 : decode cX11_lose 10 = .ok (.ireturn, 1) := by decide +kernel
theorem dX11_lose_11 : decode cX11_lose 11 = .ok (.aload_n 0, 1) := by decide +kernel
theorem dX11_lose_12 : decode cX11_lose 12 = .ok (.getfield 7, 3) := by decide +kernel
theorem dX11_lose_15 : decode cX11_lose 15 = .ok (.sipush 4100, 3) := by decide +kernel
theorem dX11_lose_18 : decode cX11_lose 18 = .ok (.iload_n 1, 1) := by decide +kernel
theorem dX11_lose_19 : decode cX11_lose 19 = .ok (.iadd, 1) := by decide +kernel
theorem dX11_lose_20 : decode cX11_lose 20 = .ok (.iaload, 1) := by decide +kernel
theorem dX11_lose_21 : decode cX11_lose 21 = .ok (.istore_n 2, 1) := by decide +kernel
theorem dX11_lose_22 : decode cX11_lose 22 = .ok (.iload_n 2, 1) := by decide +kernel
theorem dX11_lose_23 : decode cX11_lose 23 = .ok (.bipush (-6), 2) := by decide +kernel
theorem dX11_lose_25 : decode cX11_lose 25 = .ok (.if_icmp .ne 6, 3) := by decide +kernel
theorem dX11_lose_28 : decode cX11_lose 28 = .ok (.bipush (-3), 2) := by decide +kernel
theorem dX11_lose_30 : decode cX11_lose 30 = .ok (.ireturn, 1) := by decide +kernel
theorem dX11_lose_31 : decode cX11_lose 31 = .ok (.aload_n 0, 1) := by decide +kernel
theorem dX11_lose_32 : decode cX11_lose 32 = .ok (.invokevirtual 71, 3) := by decide +kernel
theorem dX11_lose_35 : decode cX11_lose 35 = .ok (.aload_n 0, 1) := by decide +kernel
theorem dX11_lose_36 : decode cX11_lose 36 = .ok (.getfield 7, 3) := by decide +kernel
theorem dX11_lose_39 : decode cX11_lose 39 = .ok (.sipush 4100, 3) := by decide +kernel
theorem dX11_lose_42 : decode cX11_lose 42 = .ok (.iload_n 1, 1) := by decide +kernel
theorem dX11_lose_43 : decode cX11_lose 43 = .ok (.iadd, 1) := by decide +kernel
theorem dX11_lose_44 : decode cX11_lose 44 = .ok (.bipush (-6), 2) := by decide +kernel
theorem dX11_lose_46 : decode cX11_lose 46 = .ok (.iastore, 1) := by decide +kernel
theorem dX11_lose_47 : decode cX11_lose 47 = .ok (.iload_n 2, 1) := by decide +kernel
theorem dX11_lose_48 : decode cX11_lose 48 = .ok (.ireturn, 1) := by decide +kernel
theorem dX11_found_0 : decode cX11_found 0 = .ok (.aload_n 0, 1) := by decide +kernel
theorem dX11_found_1 : decode cX11_found 1 = .ok (.iload_n 1, 1) := by decide +kernel
theorem dX11_found_2 : decode cX11_found 2 = .ok (.invokevirtual 125, 3) := by decide +kernel
theorem dX11_found_5 : decode cX11_found 5 = .ok (.ifCond .ne 6, 3) := by decide +kernel
theorem dX11_found_8 : decode cX11_found 8 = .ok (.bipush (-2), 2) := by decide +kernel
theorem dX11_found_10 : decode cX11_found 10 = .ok (.ireturn, 1) := by decide +kernel
theorem dX11_found_11 : decode cX11_found 11 = .ok (.aload_n 0, 1) := by decide +kernel
theorem dX11_found_12 : decode cX11_found 12 = .ok (.getfield 7, 3) := by decide +kernel
theorem dX11_found_15 : decode cX11_found 15 = .ok (.sipush 4100, 3) := by decide +kernel
theorem dX11_found_18 : decode cX11_found 18 = .ok (.iload_n 1, 1) := by decide +kernel
theorem dX11_found_19 : decode cX11_found 19 = .ok (.iadd, 1) := by decide +kernel
theorem dX11_found_20 : decode cX11_found 20 = .ok (.iaload, 1) := by decide +kernel
theorem dX11_found_21 : decode cX11_found 21 = .ok (.bipush (-6), 2) := by decide +kernel
theorem dX11_found_23 : decode cX11_found 23 = .ok (.if_icmp .eq 6, 3) := by decide +kernel
theorem dX11_found_26 : decode cX11_found 26 = .ok (.bipush (-3), 2) := by decide +kernel
theorem dX11_found_28 : decode cX11_found 28 = .ok (.ireturn, 1) := by decide +kernel
theorem dX11_found_29 : decode cX11_found 29 = .ok (.aload_n 0, 1) := by decide +kernel
theorem dX11_found_30 : decode cX11_found 30 = .ok (.invokevirtual 71, 3) := by decide +kernel
theorem dX11_found_33 : decode cX11_found 33 = .ok (.aload_n 0, 1) := by decide +kernel
theorem dX11_found_34 : decode cX11_found 34 = .ok (.getfield 7, 3) := by decide +kernel
theorem dX11_found_37 : decode cX11_found 37 = .ok (.sipush 4100, 3) := by decide +kernel
theorem dX11_found_40 : decode cX11_found 40 = .ok (.iload_n 1, 1) := by decide +kernel
theorem dX11_found_41 : decode cX11_found 41 = .ok (.iadd, 1) := by decide +kernel
theorem dX11_found_42 : decode cX11_found 42 = .ok (.iconst (-1), 1) := by decide +kernel
theorem dX11_found_43 : decode cX11_found 43 = .ok (.iastore, 1) := by decide +kernel
theorem dX11_found_44 : decode cX11_found 44 = .ok (.iconst 1, 1) := by decide +kernel
theorem dX11_found_45 : decode cX11_found 45 = .ok (.ireturn, 1) := by decide +kernel
theorem dX11_holder_0 : decode cX11_holder 0 = .ok (.aload_n 0, 1) := by decide +kernel
theorem dX11_holder_1 : decode cX11_holder 1 = .ok (.iload_n 1, 1) := by decide +kernel
theorem dX11_holder_2 : decode cX11_holder 2 = .ok (.invokevirtual 125, 3) := by decide +kernel
theorem dX11_holder_5 : decode cX11_holder 5 = .ok (.ifCond .eq 16, 3) := by decide +kernel
theorem dX11_holder_8 : decode cX11_holder 8 = .ok (.aload_n 0, 1) := by decide +kernel
theorem dX11_holder_9 : decode cX11_holder 9 = .ok (.getfield 7, 3) := by decide +kernel
theorem dX11_holder_12 : decode cX11_holder 12 = .ok (.sipush 4100, 3) := by decide +kernel
theorem dX11_holder_15 : decode cX11_holder 15 = .ok (.iload_n 1, 1) := by decide +kernel
theorem dX11_holder_16 : decode cX11_holder 16 = .ok (.iadd, 1) := by decide +kernel
theorem dX11_holder_17 : decode cX11_holder 17 = .ok (.iaload, 1) := by decide +kernel
theorem dX11_holder_18 : decode cX11_holder 18 = .ok (.goto 5, 3) := by decide +kernel
theorem dX11_holder_21 : decode cX11_holder 21 = .ok (.bipush (-2), 2) := by decide +kernel
theorem dX11_holder_23 : decode cX11_holder 23 = .ok (.ireturn, 1) := by decide +kernel
theorem dX11_wish_0 : decode cX11_wish 0 = .ok (.aload_n 0, 1) := by decide +kernel
theorem dX11_wish_1 : decode cX11_wish 1 = .ok (.iload_n 1, 1) := by decide +kernel
theorem dX11_wish_2 : decode cX11_wish 2 = .ok (.invokevirtual 125, 3) := by decide +kernel
theorem dX11_wish_5 : decode cX11_wish 5 = .ok (.ifCond .eq 23, 3) := by decide +kernel
theorem dX11_wish_8 : decode cX11_wish 8 = .ok (.aload_n 0, 1) := by decide +kernel
theorem dX11_wish_9 : decode cX11_wish 9 = .ok (.iload_n 2, 1) := by decide +kernel
theorem dX11_wish_10 : decode cX11_wish 10 = .ok (.invokevirtual 138, 3) := by decide +kernel
theorem dX11_wish_13 : decode cX11_wish 13 = .ok (.ifCond .eq 15, 3) := by decide +kernel
theorem dX11_wish_16 : decode cX11_wish 16 = .ok (.iload_n 3, 1) := by decide +kernel
theorem dX11_wish_17 : decode cX11_wish 17 = .ok (.i2l, 1) := by decide +kernel
theorem dX11_wish_18 : decode cX11_wish 18 = .ok (.lconst 0, 1) := by decide +kernel
theorem dX11_wish_19 : decode cX11_wish 19 = .ok (.ldc2_w 147, 3) := by decide +kernel
theorem dX11_wish_22 : decode cX11_wish 22 = .ok (.invokestatic 67, 3) := by decide +kernel
theorem dX11_wish_25 : decode cX11_wish 25 = .ok (.ifCond .ne 6, 3) := by decide +kernel
theorem dX11_wish_28 : decode cX11_wish 28 = .ok (.bipush (-2), 2) := by decide +kernel
theorem dX11_wish_30 : decode cX11_wish 30 = .ok (.ireturn, 1) := by decide +kernel
theorem dX11_wish_31 : decode cX11_wish 31 = .ok (.aload_n 0, 1) := by decide +kernel
theorem dX11_wish_32 : decode cX11_wish 32 = .ok (.invokevirtual 71, 3) := by decide +kernel
theorem dX11_wish_35 : decode cX11_wish 35 = .ok (.aload_n 0, 1) := by decide +kernel
theorem dX11_wish_36 : decode cX11_wish 36 = .ok (.getfield 7, 3) := by decide +kernel
theorem dX11_wish_39 : decode cX11_wish 39 = .ok (.sipush 4504, 3) := by decide +kernel
theorem dX11_wish_42 : decode cX11_wish 42 = .ok (.bipush 40, 2) := by decide +kernel
theorem dX11_wish_44 : decode cX11_wish 44 = .ok (.iload_n 1, 1) := by decide +kernel
theorem dX11_wish_45 : decode cX11_wish 45 = .ok (.imul, 1) := by decide +kernel
theorem dX11_wish_46 : decode cX11_wish 46 = .ok (.iadd, 1) := by decide +kernel
theorem dX11_wish_47 : decode cX11_wish 47 = .ok (.iload_n 2, 1) := by decide +kernel
theorem dX11_wish_48 : decode cX11_wish 48 = .ok (.iadd, 1) := by decide +kernel
theorem dX11_wish_49 : decode cX11_wish 49 = .ok (.iaload, 1) := by decide +kernel
theorem dX11_wish_50 : decode cX11_wish 50 = .ok (.istore 4, 2) := by decide +kernel
theorem dX11_wish_52 : decode cX11_wish 52 = .ok (.aload_n 0, 1) := by decide +kernel
theorem dX11_wish_53 : decode cX11_wish 53 = .ok (.getfield 7, 3) := by decide +kernel
theorem dX11_wish_56 : decode cX11_wish 56 = .ok (.sipush 4504, 3) := by decide +kernel
theorem dX11_wish_59 : decode cX11_wish 59 = .ok (.bipush 40, 2) := by decide +kernel
theorem dX11_wish_61 : decode cX11_wish 61 = .ok (.iload_n 1, 1) := by decide +kernel
theorem dX11_wish_62 : decode cX11_wish 62 = .ok (.imul, 1) := by decide +kernel
theorem dX11_wish_63 : decode cX11_wish 63 = .ok (.iadd, 1) := by decide +kernel
theorem dX11_wish_64 : decode cX11_wish 64 = .ok (.iload_n 2, 1) := by decide +kernel
theorem dX11_wish_65 : decode cX11_wish 65 = .ok (.iadd, 1) := by decide +kernel
theorem dX11_wish_66 : decode cX11_wish 66 = .ok (.iload_n 3, 1) := by decide +kernel
theorem dX11_wish_67 : decode cX11_wish 67 = .ok (.iastore, 1) := by decide +kernel
theorem dX11_wish_68 : decode cX11_wish 68 = .ok (.iload 4, 2) := by decide +kernel
theorem dX11_wish_70 : decode cX11_wish 70 = .ok (.ireturn, 1) := by decide +kernel
theorem dX11_areRight_0 : decode cX11_areRight 0 = .ok (.iload_n 0, 1) := by decide +kernel
theorem dX11_areRight_1 : decode cX11_areRight 1 = .ok (.i2l, 1) := by decide +kernel
theorem dX11_areRight_2 : decode cX11_areRight 2 = .ok (.lconst 1, 1) := by decide +kernel
theorem dX11_areRight_3 : decode cX11_areRight 3 = .ok (.ldc2_w 149, 3) := by decide +kernel
theorem dX11_areRight_6 : decode cX11_areRight 6 = .ok (.invokestatic 67, 3) := by decide +kernel
theorem dX11_areRight_9 : decode cX11_areRight 9 = .ok (.ifCond .eq 43, 3) := by decide +kernel
theorem dX11_areRight_12 : decode cX11_areRight 12 = .ok (.iload_n 1, 1) := by decide +kernel
theorem dX11_areRight_13 : decode cX11_areRight 13 = .ok (.i2l, 1) := by decide +kernel
theorem dX11_areRight_14 : decode cX11_areRight 14 = .ok (.lconst 1, 1) := by decide +kernel
theorem dX11_areRight_15 : decode cX11_areRight 15 = .ok (.ldc2_w 149, 3) := by decide +kernel
theorem dX11_areRight_18 : decode cX11_areRight 18 = .ok (.invokestatic 67, 3) := by decide +kernel
theorem dX11_areRight_21 : decode cX11_areRight 21 = .ok (.ifCond .eq 31, 3) := by decide +kernel
theorem dX11_areRight_24 : decode cX11_areRight 24 = .ok (.iload_n 2, 1) := by decide +kernel
theorem dX11_areRight_25 : decode cX11_areRight 25 = .ok (.i2l, 1) := by decide +kernel
theorem dX11_areRight_26 : decode cX11_areRight 26 = .ok (.lconst 1, 1) := by decide +kernel
theorem dX11_areRight_27 : decode cX11_areRight 27 = .ok (.ldc2_w 151, 3) := by decide +kernel
theorem dX11_areRight_30 : decode cX11_areRight 30 = .ok (.invokestatic 67, 3) := by decide +kernel
theorem dX11_areRight_33 : decode cX11_areRight 33 = .ok (.ifCond .eq 19, 3) := by decide +kernel
theorem dX11_areRight_36 : decode cX11_areRight 36 = .ok (.iload_n 3, 1) := by decide +kernel
theorem dX11_areRight_37 : decode cX11_areRight 37 = .ok (.i2l, 1) := by decide +kernel
theorem dX11_areRight_38 : decode cX11_areRight 38 = .ok (.lconst 0, 1) := by decide +kernel
theorem dX11_areRight_39 : decode cX11_areRight 39 = .ok (.ldc2_w 91, 3) := by decide +kernel
theorem dX11_areRight_42 : decode cX11_areRight 42 = .ok (.invokestatic 67, 3) := by decide +kernel
theorem dX11_areRight_45 : decode cX11_areRight 45 = .ok (.ifCond .eq 7, 3) := by decide +kernel
theorem dX11_areRight_48 : decode cX11_areRight 48 = .ok (.iconst 1, 1) := by decide +kernel
theorem dX11_areRight_49 : decode cX11_areRight 49 = .ok (.goto 4, 3) := by decide +kernel
theorem dX11_areRight_52 : decode cX11_areRight 52 = .ok (.iconst 0, 1) := by decide +kernel
theorem dX11_areRight_53 : decode cX11_areRight 53 = .ok (.ireturn, 1) := by decide +kernel
theorem dX11_against_0 : decode cX11_against 0 = .ok (.iconst 0, 1) := by decide +kernel
theorem dX11_against_1 : decode cX11_against 1 = .ok (.istore_n 3, 1) := by decide +kernel
theorem dX11_against_2 : decode cX11_against 2 = .ok (.iload_n 3, 1) := by decide +kernel
theorem dX11_against_3 : decode cX11_against 3 = .ok (.iload_n 1, 1) := by decide +kernel
theorem dX11_against_4 : decode cX11_against 4 = .ok (.if_icmp .ge 150, 3) := by decide +kernel
theorem dX11_against_7 : decode cX11_against 7 = .ok (.aload_n 0, 1) := by decide +kernel
theorem dX11_against_8 : decode cX11_against 8 = .ok (.getfield 7, 3) := by decide +kernel
theorem dX11_against_11 : decode cX11_against 11 = .ok (.sipush 4464, 3) := by decide +kernel
theorem dX11_against_14 : decode cX11_against 14 = .ok (.iload_n 3, 1) := by decide +kernel
theorem dX11_against_15 : decode cX11_against 15 = .ok (.iadd, 1) := by decide +kernel
theorem dX11_against_16 : decode cX11_against 16 = .ok (.iaload, 1) := by decide +kernel
theorem dX11_against_17 : decode cX11_against 17 = .ok (.istore 4, 2) := by decide +kernel
theorem dX11_against_19 : decode cX11_against 19 = .ok (.iload 4, 2) := by decide +kernel
theorem dX11_against_21 : decode cX11_against 21 = .ok (.iconst (-1), 1) := by decide +kernel
theorem dX11_against_22 : decode cX11_against 22 = .ok (.if_icmp .eq 29, 3) := by decide +kernel
theorem dX11_against_25 : decode cX11_against 25 = .ok (.aload_n 0, 1) := by decide +kernel
theorem dX11_against_26 : decode cX11_against 26 = .ok (.getfield 7, 3) := by decide +kernel
theorem dX11_against_29 : decode cX11_against 29 = .ok (.iconst 0, 1) := by decide +kernel
theorem dX11_against_30 : decode cX11_against 30 = .ok (.iload 4, 2) := by decide +kernel
theorem dX11_against_32 : decode cX11_against 32 = .ok (.iadd, 1) := by decide +kernel
theorem dX11_against_33 : decode cX11_against 33 = .ok (.iaload, 1) := by decide +kernel
theorem dX11_against_34 : decode cX11_against 34 = .ok (.iconst 4, 1) := by decide +kernel
theorem dX11_against_35 : decode cX11_against 35 = .ok (.if_icmp .eq 16, 3) := by decide +kernel
theorem dX11_against_38 : decode cX11_against 38 = .ok (.aload_n 0, 1) := by decide +kernel
theorem dX11_against_39 : decode cX11_against 39 = .ok (.getfield 7, 3) := by decide +kernel
theorem dX11_against_42 : decode cX11_against 42 = .ok (.bipush 100, 2) := by decide +kernel
theorem dX11_against_44 : decode cX11_against 44 = .ok (.iload 4, 2) := by decide +kernel
theorem dX11_against_46 : decode cX11_against 46 = .ok (.iadd, 1) := by decide +kernel
theorem dX11_against_47 : decode cX11_against 47 = .ok (.iaload, 1) := by decide +kernel
theorem dX11_against_48 : decode cX11_against 48 = .ok (.ifCond .ge 28, 3) := by decide +kernel
theorem dX11_against_51 : decode cX11_against 51 = .ok (.iload 4, 2) := by decide +kernel
theorem dX11_against_53 : decode cX11_against 53 = .ok (.iconst (-1), 1) := by decide +kernel
theorem dX11_against_54 : decode cX11_against 54 = .ok (.if_icmp .eq 20, 3) := by decide +kernel
theorem dX11_against_57 : decode cX11_against 57 = .ok (.aload_n 0, 1) := by decide +kernel
theorem dX11_against_58 : decode cX11_against 58 = .ok (.getfield 7, 3) := by decide +kernel
theorem dX11_against_61 : decode cX11_against 61 = .ok (.iconst 0, 1) := by decide +kernel
theorem dX11_against_62 : decode cX11_against 62 = .ok (.iload 4, 2) := by decide +kernel
theorem dX11_against_64 : decode cX11_against 64 = .ok (.iadd, 1) := by decide +kernel
theorem dX11_against_65 : decode cX11_against 65 = .ok (.iaload, 1) := by decide +kernel
theorem dX11_against_66 : decode cX11_against 66 = .ok (.iconst 4, 1) := by decide +kernel
theorem dX11_against_67 : decode cX11_against 67 = .ok (.if_icmp .ne 7, 3) := by decide +kernel
theorem dX11_against_70 : decode cX11_against 70 = .ok (.iconst 3, 1) := by decide +kernel
theorem dX11_against_71 : decode cX11_against 71 = .ok (.goto 4, 3) := by decide +kernel
theorem dX11_against_74 : decode cX11_against 74 = .ok (.iconst 1, 1) := by decide +kernel
theorem dX11_against_75 : decode cX11_against 75 = .ok (.ireturn, 1) := by decide +kernel
theorem dX11_against_76 : decode cX11_against 76 = .ok (.aload_n 0, 1) := by decide +kernel
theorem dX11_against_77 : decode cX11_against 77 = .ok (.getfield 7, 3) := by decide +kernel
theorem dX11_against_80 : decode cX11_against 80 = .ok (.bipush 100, 2) := by decide +kernel
theorem dX11_against_82 : decode cX11_against 82 = .ok (.iload 4, 2) := by decide +kernel
theorem dX11_against_84 : decode cX11_against 84 = .ok (.iadd, 1) := by decide +kernel
theorem dX11_against_85 : decode cX11_against 85 = .ok (.iaload, 1) := by decide +kernel
theorem dX11_against_86 : decode cX11_against 86 = .ok (.iload_n 2, 1) := by decide +kernel
theorem dX11_against_87 : decode cX11_against 87 = .ok (.if_icmp .eq 7, 3) := by decide +kernel
theorem dX11_against_90 : decode cX11_against 90 = .ok (.iconst 1, 1) := by decide +kernel
theorem dX11_against_91 : decode cX11_against 91 = .ok (.goto 4, 3) := by decide +kernel
theorem dX11_against_94 : decode cX11_against 94 = .ok (.iconst 0, 1) := by decide +kernel
theorem dX11_against_95 : decode cX11_against 95 = .ok (.istore 5, 2) := by decide +kernel
theorem dX11_against_97 : decode cX11_against 97 = .ok (.iconst 0, 1) := by decide +kernel
theorem dX11_against_98 : decode cX11_against 98 = .ok (.istore 6, 2) := by decide +kernel
theorem dX11_against_100 : decode cX11_against 100 = .ok (.iload 6, 2) := by decide +kernel
theorem dX11_against_102 : decode cX11_against 102 = .ok (.iload_n 3, 1) := by decide +kernel
theorem dX11_against_103 : decode cX11_against 103 = .ok (.if_icmp .ge 37, 3) := by decide +kernel
theorem dX11_against_106 : decode cX11_against 106 = .ok (.iload 5, 2) := by decide +kernel
theorem dX11_against_108 : decode cX11_against 108 = .ok (.ifCond .ne 19, 3) := by decide +kernel
theorem dX11_against_111 : decode cX11_against 111 = .ok (.aload_n 0, 1) := by decide +kernel
theorem dX11_against_112 : decode cX11_against 112 = .ok (.getfield 7, 3) := by decide +kernel
theorem dX11_against_115 : decode cX11_against 115 = .ok (.sipush 4464, 3) := by decide +kernel
theorem dX11_against_118 : decode cX11_against 118 = .ok (.iload 6, 2) := by decide +kernel
theorem dX11_against_120 : decode cX11_against 120 = .ok (.iadd, 1) := by decide +kernel
theorem dX11_against_121 : decode cX11_against 121 = .ok (.iaload, 1) := by decide +kernel
theorem dX11_against_122 : decode cX11_against 122 = .ok (.iload 4, 2) := by decide +kernel
theorem dX11_against_124 : decode cX11_against 124 = .ok (.if_icmp .ne 7, 3) := by decide +kernel
theorem dX11_against_127 : decode cX11_against 127 = .ok (.iconst 1, 1) := by decide +kernel
theorem dX11_against_128 : decode cX11_against 128 = .ok (.goto 4, 3) := by decide +kernel
theorem dX11_against_131 : decode cX11_against 131 = .ok (.iconst 0, 1) := by decide +kernel
theorem dX11_against_132 : decode cX11_against 132 = .ok (.istore 5, 2) := by decide +kernel
theorem dX11_against_134 : decode cX11_against 134 = .ok (.iinc 6 1, 3) := by decide +kernel
theorem dX11_against_137 : decode cX11_against 137 = .ok (.goto (-37), 3) := by decide +kernel
theorem dX11_against_140 : decode cX11_against 140 = .ok (.iload 5, 2) := by decide +kernel
theorem dX11_against_142 : decode cX11_against 142 = .ok (.ifCond .eq 6, 3) := by decide +kernel
theorem dX11_against_145 : decode cX11_against 145 = .ok (.bipush (-3), 2) := by decide +kernel
theorem dX11_against_147 : decode cX11_against 147 = .ok (.ireturn, 1) := by decide +kernel
theorem dX11_against_148 : decode cX11_against 148 = .ok (.iinc 3 1, 3) := by decide +kernel
theorem dX11_against_151 : decode cX11_against 151 = .ok (.goto (-149), 3) := by decide +kernel
theorem dX11_against_154 : decode cX11_against 154 = .ok (.iconst 0, 1) := by decide +kernel
theorem dX11_against_155 : decode cX11_against 155 = .ok (.ireturn, 1) := by decide +kernel
theorem dX11_work_0 : decode cX11_work 0 = .ok (.iload_n 1, 1) := by decide +kernel
theorem dX11_work_1 : decode cX11_work 1 = .ok (.iload_n 2, 1) := by decide +kernel
theorem dX11_work_2 : decode cX11_work 2 = .ok (.iload_n 3, 1) := by decide +kernel
theorem dX11_work_3 : decode cX11_work 3 = .ok (.iload 4, 2) := by decide +kernel
theorem dX11_work_5 : decode cX11_work 5 = .ok (.invokestatic 153, 3) := by decide +kernel
theorem dX11_work_8 : decode cX11_work 8 = .ok (.ifCond .ne 6, 3) := by decide +kernel
theorem dX11_work_11 : decode cX11_work 11 = .ok (.bipush (-2), 2) := by decide +kernel
theorem dX11_work_13 : decode cX11_work 13 = .ok (.ireturn, 1) := by decide +kernel
theorem dX11_work_14 : decode cX11_work 14 = .ok (.iload_n 1, 1) := by decide +kernel
theorem dX11_work_15 : decode cX11_work 15 = .ok (.aload_n 0, 1) := by decide +kernel
theorem dX11_work_16 : decode cX11_work 16 = .ok (.getfield 7, 3) := by decide +kernel
theorem dX11_work_19 : decode cX11_work 19 = .ok (.sipush 8523, 3) := by decide +kernel
theorem dX11_work_22 : decode cX11_work 22 = .ok (.iaload, 1) := by decide +kernel
theorem dX11_work_23 : decode cX11_work 23 = .ok (.if_icmp .gt 15, 3) := by decide +kernel
theorem dX11_work_26 : decode cX11_work 26 = .ok (.iload_n 2, 1) := by decide +kernel
theorem dX11_work_27 : decode cX11_work 27 = .ok (.aload_n 0, 1) := by decide +kernel
theorem dX11_work_28 : decode cX11_work 28 = .ok (.getfield 7, 3) := by decide +kernel
theorem dX11_work_31 : decode cX11_work 31 = .ok (.sipush 8525, 3) := by decide +kernel
theorem dX11_work_34 : decode cX11_work 34 = .ok (.iaload, 1) := by decide +kernel
theorem dX11_work_35 : decode cX11_work 35 = .ok (.if_icmp .le 8, 3) := by decide +kernel
theorem dX11_work_38 : decode cX11_work 38 = .ok (.bipush (-3), 2) := by decide +kernel
theorem dX11_work_40 : decode cX11_work 40 = .ok (.goto 13, 3) := by decide +kernel
theorem dX11_work_43 : decode cX11_work 43 = .ok (.aload_n 0, 1) := by decide +kernel
theorem dX11_work_44 : decode cX11_work 44 = .ok (.iconst (-1), 1) := by decide +kernel
theorem dX11_work_45 : decode cX11_work 45 = .ok (.iload_n 1, 1) := by decide +kernel
theorem dX11_work_46 : decode cX11_work 46 = .ok (.iload_n 2, 1) := by decide +kernel
theorem dX11_work_47 : decode cX11_work 47 = .ok (.iload_n 3, 1) := by decide +kernel
theorem dX11_work_48 : decode cX11_work 48 = .ok (.iload 4, 2) := by decide +kernel
theorem dX11_work_50 : decode cX11_work 50 = .ok (.invokevirtual 157, 3) := by decide +kernel
theorem dX11_work_53 : decode cX11_work 53 = .ok (.ireturn, 1) := by decide +kernel
theorem dX11_anew_0 : decode cX11_anew 0 = .ok (.iload_n 2, 1) := by decide +kernel
theorem dX11_anew_1 : decode cX11_anew 1 = .ok (.iload_n 3, 1) := by decide +kernel
theorem dX11_anew_2 : decode cX11_anew 2 = .ok (.iload 4, 2) := by decide +kernel
theorem dX11_anew_4 : decode cX11_anew 4 = .ok (.iload 5, 2) := by decide +kernel
theorem dX11_anew_6 : decode cX11_anew 6 = .ok (.invokestatic 153, 3) := by decide +kernel
theorem dX11_anew_9 : decode cX11_anew 9 = .ok (.ifCond .eq 16, 3) := by decide +kernel
theorem dX11_anew_12 : decode cX11_anew 12 = .ok (.iload_n 1, 1) := by decide +kernel
theorem dX11_anew_13 : decode cX11_anew 13 = .ok (.i2l, 1) := by decide +kernel
theorem dX11_anew_14 : decode cX11_anew 14 = .ok (.lconst 0, 1) := by decide +kernel
theorem dX11_anew_15 : decode cX11_anew 15 = .ok (.iload_n 2, 1) := by decide +kernel
theorem dX11_anew_16 : decode cX11_anew 16 = .ok (.iconst 1, 1) := by decide +kernel
theorem dX11_anew_17 : decode cX11_anew 17 = .ok (.isub, 1) := by decide +kernel
theorem dX11_anew_18 : decode cX11_anew 18 = .ok (.i2l, 1) := by decide +kernel
theorem dX11_anew_19 : decode cX11_anew 19 = .ok (.invokestatic 67, 3) := by decide +kernel
theorem dX11_anew_22 : decode cX11_anew 22 = .ok (.ifCond .ne 6, 3) := by decide +kernel
theorem dX11_anew_25 : decode cX11_anew 25 = .ok (.bipush (-2), 2) := by decide +kernel
theorem dX11_anew_27 : decode cX11_anew 27 = .ok (.ireturn, 1) := by decide +kernel
theorem dX11_anew_28 : decode cX11_anew 28 = .ok (.iload_n 2, 1) := by decide +kernel
theorem dX11_anew_29 : decode cX11_anew 29 = .ok (.aload_n 0, 1) := by decide +kernel
theorem dX11_anew_30 : decode cX11_anew 30 = .ok (.getfield 7, 3) := by decide +kernel
theorem dX11_anew_33 : decode cX11_anew 33 = .ok (.sipush 8523, 3) := by decide +kernel
theorem dX11_anew_36 : decode cX11_anew 36 = .ok (.iaload, 1) := by decide +kernel
theorem dX11_anew_37 : decode cX11_anew 37 = .ok (.if_icmp .gt 45, 3) := by decide +kernel
theorem dX11_anew_40 : decode cX11_anew 40 = .ok (.iload_n 3, 1) := by decide +kernel
theorem dX11_anew_41 : decode cX11_anew 41 = .ok (.aload_n 0, 1) := by decide +kernel
theorem dX11_anew_42 : decode cX11_anew 42 = .ok (.getfield 7, 3) := by decide +kernel
theorem dX11_anew_45 : decode cX11_anew 45 = .ok (.sipush 8525, 3) := by decide +kernel
theorem dX11_anew_48 : decode cX11_anew 48 = .ok (.iaload, 1) := by decide +kernel
theorem dX11_anew_49 : decode cX11_anew 49 = .ok (.if_icmp .gt 33, 3) := by decide +kernel
theorem dX11_anew_52 : decode cX11_anew 52 = .ok (.aload_n 0, 1) := by decide +kernel
theorem dX11_anew_53 : decode cX11_anew 53 = .ok (.getfield 7, 3) := by decide +kernel
theorem dX11_anew_56 : decode cX11_anew 56 = .ok (.sipush 4100, 3) := by decide +kernel
theorem dX11_anew_59 : decode cX11_anew 59 = .ok (.iload_n 1, 1) := by decide +kernel
theorem dX11_anew_60 : decode cX11_anew 60 = .ok (.iadd, 1) := by decide +kernel
theorem dX11_anew_61 : decode cX11_anew 61 = .ok (.iaload, 1) := by decide +kernel
theorem dX11_anew_62 : decode cX11_anew 62 = .ok (.bipush (-6), 2) := by decide +kernel
theorem dX11_anew_64 : decode cX11_anew 64 = .ok (.if_icmp .ne 18, 3) := by decide +kernel
theorem dX11_anew_67 : decode cX11_anew 67 = .ok (.aload_n 0, 1) := by decide +kernel
theorem dX11_anew_68 : decode cX11_anew 68 = .ok (.getfield 7, 3) := by decide +kernel
theorem dX11_anew_71 : decode cX11_anew 71 = .ok (.sipush 2200, 3) := by decide +kernel
theorem dX11_anew_74 : decode cX11_anew 74 = .ok (.iload_n 1, 1) := by decide +kernel
theorem dX11_anew_75 : decode cX11_anew 75 = .ok (.iadd, 1) := by decide +kernel
theorem dX11_anew_76 : decode cX11_anew 76 = .ok (.iaload, 1) := by decide +kernel
theorem dX11_anew_77 : decode cX11_anew 77 = .ok (.iload 4, 2) := by decide +kernel
theorem dX11_anew_79 : decode cX11_anew 79 = .ok (.if_icmp .eq 8, 3) := by decide +kernel
theorem dX11_anew_82 : decode cX11_anew 82 = .ok (.bipush (-3), 2) := by decide +kernel
theorem dX11_anew_84 : decode cX11_anew 84 = .ok (.goto 14, 3) := by decide +kernel
theorem dX11_anew_87 : decode cX11_anew 87 = .ok (.aload_n 0, 1) := by decide +kernel
theorem dX11_anew_88 : decode cX11_anew 88 = .ok (.iload_n 1, 1) := by decide +kernel
theorem dX11_anew_89 : decode cX11_anew 89 = .ok (.iload_n 2, 1) := by decide +kernel
theorem dX11_anew_90 : decode cX11_anew 90 = .ok (.iload_n 3, 1) := by decide +kernel
theorem dX11_anew_91 : decode cX11_anew 91 = .ok (.iload 4, 2) := by decide +kernel
theorem dX11_anew_93 : decode cX11_anew 93 = .ok (.iload 5, 2) := by decide +kernel
theorem dX11_anew_95 : decode cX11_anew 95 = .ok (.invokevirtual 157, 3) := by decide +kernel
theorem dX11_anew_98 : decode cX11_anew 98 = .ok (.ireturn, 1) := by decide +kernel
theorem dX11_searched_0 : decode cX11_searched 0 = .ok (.aload_n 0, 1) := by decide +kernel
theorem dX11_searched_1 : decode cX11_searched 1 = .ok (.iload_n 3, 1) := by decide +kernel
theorem dX11_searched_2 : decode cX11_searched 2 = .ok (.iload 4, 2) := by decide +kernel
theorem dX11_searched_4 : decode cX11_searched 4 = .ok (.invokevirtual 161, 3) := by decide +kernel
theorem dX11_searched_7 : decode cX11_searched 7 = .ok (.istore 6, 2) := by decide +kernel
theorem dX11_searched_9 : decode cX11_searched 9 = .ok (.iload 6, 2) := by decide +kernel
theorem dX11_searched_11 : decode cX11_searched 11 = .ok (.ifCond .eq 22, 3) := by decide +kernel
theorem dX11_searched_14 : decode cX11_searched 14 = .ok (.iload 6, 2) := by decide +kernel
theorem dX11_searched_16 : decode cX11_searched 16 = .ok (.bipush (-3), 2) := by decide +kernel
theorem dX11_searched_18 : decode cX11_searched 18 = .ok (.if_icmp .ne 8, 3) := by decide +kernel
theorem dX11_searched_21 : decode cX11_searched 21 = .ok (.bipush (-3), 2) := by decide +kernel
theorem dX11_searched_23 : decode cX11_searched 23 = .ok (.goto 9, 3) := by decide +kernel
theorem dX11_searched_26 : decode cX11_searched 26 = .ok (.aload_n 0, 1) := by decide +kernel
theorem dX11_searched_27 : decode cX11_searched 27 = .ok (.iload 6, 2) := by decide +kernel
theorem dX11_searched_29 : decode cX11_searched 29 = .ok (.invokevirtual 80, 3) := by decide +kernel
theorem dX11_searched_32 : decode cX11_searched 32 = .ok (.ireturn, 1) := by decide +kernel
theorem dX11_searched_33 : decode cX11_searched 33 = .ok (.aload_n 0, 1) := by decide +kernel
theorem dX11_searched_34 : decode cX11_searched 34 = .ok (.iconst 0, 1) := by decide +kernel
theorem dX11_searched_35 : decode cX11_searched 35 = .ok (.putfield 164, 3) := by decide +kernel
theorem dX11_searched_38 : decode cX11_searched 38 = .ok (.iconst 0, 1) := by decide +kernel
theorem dX11_searched_39 : decode cX11_searched 39 = .ok (.istore 7, 2) := by decide +kernel
theorem dX11_searched_41 : decode cX11_searched 41 = .ok (.iload 7, 2) := by decide +kernel
theorem dX11_searched_43 : decode cX11_searched 43 = .ok (.iload_n 2, 1) := by decide +kernel
theorem dX11_searched_44 : decode cX11_searched 44 = .ok (.if_icmp .ge 161, 3) := by decide +kernel
theorem dX11_searched_47 : decode cX11_searched 47 = .ok (.iload 7, 2) := by decide +kernel
theorem dX11_searched_49 : decode cX11_searched 49 = .ok (.iload_n 1, 1) := by decide +kernel
theorem dX11_searched_50 : decode cX11_searched 50 = .ok (.if_icmp .eq 24, 3) := by decide +kernel
theorem dX11_searched_53 : decode cX11_searched 53 = .ok (.aload_n 0, 1) := by decide +kernel
theorem dX11_searched_54 : decode cX11_searched 54 = .ok (.getfield 32, 3) := by decide +kernel
theorem dX11_searched_57 : decode cX11_searched 57 = .ok (.aload_n 0, 1) := by decide +kernel
theorem dX11_searched_58 : decode cX11_searched 58 = .ok (.getfield 164, 3) := by decide +kernel
theorem dX11_searched_61 : decode cX11_searched 61 = .ok (.iload 7, 2) := by decide +kernel
theorem dX11_searched_63 : decode cX11_searched 63 = .ok (.iastore, 1) := by decide +kernel
theorem dX11_searched_64 : decode cX11_searched 64 = .ok (.aload_n 0, 1) := by decide +kernel
theorem dX11_searched_65 : decode cX11_searched 65 = .ok (.dup, 1) := by decide +kernel
theorem dX11_searched_66 : decode cX11_searched 66 = .ok (.getfield 164, 3) := by decide +kernel
theorem dX11_searched_69 : decode cX11_searched 69 = .ok (.iconst 1, 1) := by decide +kernel
theorem dX11_searched_70 : decode cX11_searched 70 = .ok (.iadd, 1) := by decide +kernel
theorem dX11_searched_71 : decode cX11_searched 71 = .ok (.putfield 164, 3) := by decide +kernel
theorem dX11_searched_74 : decode cX11_searched 74 = .ok (.iconst 0, 1) := by decide +kernel
theorem dX11_searched_75 : decode cX11_searched 75 = .ok (.istore 8, 2) := by decide +kernel
theorem dX11_searched_77 : decode cX11_searched 77 = .ok (.iload 8, 2) := by decide +kernel
theorem dX11_searched_79 : decode cX11_searched 79 = .ok (.iload_n 3, 1) := by decide +kernel
theorem dX11_searched_80 : decode cX11_searched 80 = .ok (.if_icmp .ge 68, 3) := by decide +kernel
theorem dX11_searched_83 : decode cX11_searched 83 = .ok (.aload_n 0, 1) := by decide +kernel
theorem dX11_searched_84 : decode cX11_searched 84 = .ok (.getfield 7, 3) := by decide +kernel
theorem dX11_searched_87 : decode cX11_searched 87 = .ok (.sipush 4504, 3) := by decide +kernel
theorem dX11_searched_90 : decode cX11_searched 90 = .ok (.bipush 40, 2) := by decide +kernel
theorem dX11_searched_92 : decode cX11_searched 92 = .ok (.iload 7, 2) := by decide +kernel
theorem dX11_searched_94 : decode cX11_searched 94 = .ok (.imul, 1) := by decide +kernel
theorem dX11_searched_95 : decode cX11_searched 95 = .ok (.iadd, 1) := by decide +kernel
theorem dX11_searched_96 : decode cX11_searched 96 = .ok (.iload 8, 2) := by decide +kernel
theorem dX11_searched_98 : decode cX11_searched 98 = .ok (.iadd, 1) := by decide +kernel
theorem dX11_searched_99 : decode cX11_searched 99 = .ok (.iaload, 1) := by decide +kernel
theorem dX11_searched_100 : decode cX11_searched 100 = .ok (.istore 9, 2) := by decide +kernel
theorem dX11_searched_102 : decode cX11_searched 102 = .ok (.aload_n 0, 1) := by decide +kernel
theorem dX11_searched_103 : decode cX11_searched 103 = .ok (.getfield 35, 3) := by decide +kernel
theorem dX11_searched_106 : decode cX11_searched 106 = .ok (.bipush 6, 2) := by decide +kernel
theorem dX11_searched_108 : decode cX11_searched 108 = .ok (.iload 7, 2) := by decide +kernel
theorem dX11_searched_110 : decode cX11_searched 110 = .ok (.imul, 1) := by decide +kernel
theorem dX11_searched_111 : decode cX11_searched 111 = .ok (.iload 8, 2) := by decide +kernel
theorem dX11_searched_113 : decode cX11_searched 113 = .ok (.iadd, 1) := by decide +kernel
theorem dX11_searched_114 : decode cX11_searched 114 = .ok (.iload 7, 2) := by decide +kernel
theorem dX11_searched_116 : decode cX11_searched 116 = .ok (.iload_n 1, 1) := by decide +kernel
theorem dX11_searched_117 : decode cX11_searched 117 = .ok (.if_icmp .eq 8, 3) := by decide +kernel
theorem dX11_searched_120 : decode cX11_searched 120 = .ok (.iload 9, 2) := by decide +kernel
theorem dX11_searched_122 : decode cX11_searched 122 = .ok (.goto 19, 3) := by decide +kernel
theorem dX11_searched_125 : decode cX11_searched 125 = .ok (.aload_n 0, 1) := by decide +kernel
theorem dX11_searched_126 : decode cX11_searched 126 = .ok (.iload 7, 2) := by decide +kernel
theorem dX11_searched_128 : decode cX11_searched 128 = .ok (.iload 8, 2) := by decide +kernel
theorem dX11_searched_130 : decode cX11_searched 130 = .ok (.invokevirtual 167, 3) := by decide +kernel
theorem dX11_searched_133 : decode cX11_searched 133 = .ok (.ifCond .eq 7, 3) := by decide +kernel
theorem dX11_searched_136 : decode cX11_searched 136 = .ok (.iconst 2, 1) := by decide +kernel
theorem dX11_searched_137 : decode cX11_searched 137 = .ok (.goto 4, 3) := by decide +kernel
theorem dX11_searched_140 : decode cX11_searched 140 = .ok (.iconst 0, 1) := by decide +kernel
theorem dX11_searched_141 : decode cX11_searched 141 = .ok (.iastore, 1) := by decide +kernel
theorem dX11_searched_142 : decode cX11_searched 142 = .ok (.iinc 8 1, 3) := by decide +kernel
theorem dX11_searched_145 : decode cX11_searched 145 = .ok (.goto (-68), 3) := by decide +kernel
theorem dX11_searched_148 : decode cX11_searched 148 = .ok (.iconst 0, 1) := by decide +kernel
theorem dX11_searched_149 : decode cX11_searched 149 = .ok (.istore 8, 2) := by decide +kernel
theorem dX11_searched_151 : decode cX11_searched 151 = .ok (.iload 8, 2) := by decide +kernel
theorem dX11_searched_153 : decode cX11_searched 153 = .ok (.iload 4, 2) := by decide +kernel
theorem dX11_searched_155 : decode cX11_searched 155 = .ok (.if_icmp .ge 44, 3) := by decide +kernel
theorem dX11_searched_158 : decode cX11_searched 158 = .ok (.iload 7, 2) := by decide +kernel
theorem dX11_searched_160 : decode cX11_searched 160 = .ok (.iload_n 1, 1) := by decide +kernel
theorem dX11_searched_161 : decode cX11_searched 161 = .ok (.if_icmp .ne 38, 3) := by decide +kernel
theorem dX11_searched_164 : decode cX11_searched 164 = .ok (.aload_n 0, 1) := by decide +kernel
theorem dX11_searched_165 : decode cX11_searched 165 = .ok (.getfield 26, 3) := by decide +kernel
theorem dX11_searched_168 : decode cX11_searched 168 = .ok (.iconst 5, 1) := by decide +kernel
theorem dX11_searched_169 : decode cX11_searched 169 = .ok (.iload 7, 2) := by decide +kernel
theorem dX11_searched_171 : decode cX11_searched 171 = .ok (.imul, 1) := by decide +kernel
theorem dX11_searched_172 : decode cX11_searched 172 = .ok (.iload 8, 2) := by decide +kernel
theorem dX11_searched_174 : decode cX11_searched 174 = .ok (.iadd, 1) := by decide +kernel
theorem dX11_searched_175 : decode cX11_searched 175 = .ok (.aload_n 0, 1) := by decide +kernel
theorem dX11_searched_176 : decode cX11_searched 176 = .ok (.getfield 7, 3) := by decide +kernel
theorem dX11_searched_179 : decode cX11_searched 179 = .ok (.sipush 2300, 3) := by decide +kernel
theorem dX11_searched_182 : decode cX11_searched 182 = .ok (.bipush 18, 2) := by decide +kernel
theorem dX11_searched_184 : decode cX11_searched 184 = .ok (.iload 7, 2) := by decide +kernel
theorem dX11_searched_186 : decode cX11_searched 186 = .ok (.imul, 1) := by decide +kernel
theorem dX11_searched_187 : decode cX11_searched 187 = .ok (.iadd, 1) := by decide +kernel
theorem dX11_searched_188 : decode cX11_searched 188 = .ok (.iload 8, 2) := by decide +kernel
theorem dX11_searched_190 : decode cX11_searched 190 = .ok (.iadd, 1) := by decide +kernel
theorem dX11_searched_191 : decode cX11_searched 191 = .ok (.iaload, 1) := by decide +kernel
theorem dX11_searched_192 : decode cX11_searched 192 = .ok (.iastore, 1) := by decide +kernel
theorem dX11_searched_193 : decode cX11_searched 193 = .ok (.iinc 8 1, 3) := by decide +kernel
theorem dX11_searched_196 : decode cX11_searched 196 = .ok (.goto (-45), 3) := by decide +kernel
theorem dX11_searched_199 : decode cX11_searched 199 = .ok (.iinc 7 1, 3) := by decide +kernel
theorem dX11_searched_202 : decode cX11_searched 202 = .ok (.goto (-161), 3) := by decide +kernel
theorem dX11_searched_205 : decode cX11_searched 205 = .ok (.aload_n 0, 1) := by decide +kernel
theorem dX11_searched_206 : decode cX11_searched 206 = .ok (.iconst 0, 1) := by decide +kernel
theorem dX11_searched_207 : decode cX11_searched 207 = .ok (.putfield 170, 3) := by decide +kernel
theorem dX11_searched_210 : decode cX11_searched 210 = .ok (.aload_n 0, 1) := by decide +kernel
theorem dX11_searched_211 : decode cX11_searched 211 = .ok (.iload_n 1, 1) := by decide +kernel
theorem dX11_searched_212 : decode cX11_searched 212 = .ok (.iload_n 2, 1) := by decide +kernel
theorem dX11_searched_213 : decode cX11_searched 213 = .ok (.iload_n 3, 1) := by decide +kernel
theorem dX11_searched_214 : decode cX11_searched 214 = .ok (.iload 4, 2) := by decide +kernel
theorem dX11_searched_216 : decode cX11_searched 216 = .ok (.iload 5, 2) := by decide +kernel
theorem dX11_searched_218 : decode cX11_searched 218 = .ok (.invokevirtual 173, 3) := by decide +kernel
theorem dX11_searched_221 : decode cX11_searched 221 = .ok (.istore 7, 2) := by decide +kernel
theorem dX11_searched_223 : decode cX11_searched 223 = .ok (.iload 7, 2) := by decide +kernel
theorem dX11_searched_225 : decode cX11_searched 225 = .ok (.iconst 1, 1) := by decide +kernel
theorem dX11_searched_226 : decode cX11_searched 226 = .ok (.if_icmp .ne 14, 3) := by decide +kernel
theorem dX11_searched_229 : decode cX11_searched 229 = .ok (.aload_n 0, 1) := by decide +kernel
theorem dX11_searched_230 : decode cX11_searched 230 = .ok (.invokevirtual 71, 3) := by decide +kernel
theorem dX11_searched_233 : decode cX11_searched 233 = .ok (.aload_n 0, 1) := by decide +kernel
theorem dX11_searched_234 : decode cX11_searched 234 = .ok (.iload_n 3, 1) := by decide +kernel
theorem dX11_searched_235 : decode cX11_searched 235 = .ok (.iload 4, 2) := by decide +kernel
theorem dX11_searched_237 : decode cX11_searched 237 = .ok (.invokevirtual 176, 3) := by decide +kernel
theorem dX11_searched_240 : decode cX11_searched 240 = .ok (.aload_n 0, 1) := by decide +kernel
theorem dX11_searched_241 : decode cX11_searched 241 = .ok (.iload 7, 2) := by decide +kernel
theorem dX11_searched_243 : decode cX11_searched 243 = .ok (.invokevirtual 74, 3) := by decide +kernel
theorem dX11_searched_246 : decode cX11_searched 246 = .ok (.ireturn, 1) := by decide +kernel
theorem dX11_search_0 : decode cX11_search 0 = .ok (.aload_n 0, 1) := by decide +kernel
theorem dX11_search_1 : decode cX11_search 1 = .ok (.getfield 164, 3) := by decide +kernel
theorem dX11_search_4 : decode cX11_search 4 = .ok (.ifCond .ne 20, 3) := by decide +kernel
theorem dX11_search_7 : decode cX11_search 7 = .ok (.aload_n 0, 1) := by decide +kernel
theorem dX11_search_8 : decode cX11_search 8 = .ok (.iload_n 2, 1) := by decide +kernel
theorem dX11_search_9 : decode cX11_search 9 = .ok (.iload_n 3, 1) := by decide +kernel
theorem dX11_search_10 : decode cX11_search 10 = .ok (.iload 4, 2) := by decide +kernel
theorem dX11_search_12 : decode cX11_search 12 = .ok (.invokevirtual 180, 3) := by decide +kernel
theorem dX11_search_15 : decode cX11_search 15 = .ok (.ifCond .eq 7, 3) := by decide +kernel
theorem dX11_search_18 : decode cX11_search 18 = .ok (.iconst 1, 1) := by decide +kernel
theorem dX11_search_19 : decode cX11_search 19 = .ok (.goto 4, 3) := by decide +kernel
theorem dX11_search_22 : decode cX11_search 22 = .ok (.iconst 0, 1) := by decide +kernel
theorem dX11_search_23 : decode cX11_search 23 = .ok (.ireturn, 1) := by decide +kernel
theorem dX11_search_24 : decode cX11_search 24 = .ok (.iconst 0, 1) := by decide +kernel
theorem dX11_search_25 : decode cX11_search 25 = .ok (.istore 6, 2) := by decide +kernel
theorem dX11_search_27 : decode cX11_search 27 = .ok (.aload_n 0, 1) := by decide +kernel
theorem dX11_search_28 : decode cX11_search 28 = .ok (.getfield 29, 3) := by decide +kernel
theorem dX11_search_31 : decode cX11_search 31 = .ok (.iconst 0, 1) := by decide +kernel
theorem dX11_search_32 : decode cX11_search 32 = .ok (.iconst 0, 1) := by decide +kernel
theorem dX11_search_33 : decode cX11_search 33 = .ok (.iastore, 1) := by decide +kernel
theorem dX11_search_34 : decode cX11_search 34 = .ok (.iload 6, 2) := by decide +kernel
theorem dX11_search_36 : decode cX11_search 36 = .ok (.ifCond .lt 153, 3) := by decide +kernel
theorem dX11_search_39 : decode cX11_search 39 = .ok (.aload_n 0, 1) := by decide +kernel
theorem dX11_search_40 : decode cX11_search 40 = .ok (.getfield 29, 3) := by decide +kernel
theorem dX11_search_43 : decode cX11_search 43 = .ok (.iload 6, 2) := by decide +kernel
theorem dX11_search_45 : decode cX11_search 45 = .ok (.iaload, 1) := by decide +kernel
theorem dX11_search_46 : decode cX11_search 46 = .ok (.bipush 10, 2) := by decide +kernel
theorem dX11_search_48 : decode cX11_search 48 = .ok (.if_icmp .ne 9, 3) := by decide +kernel
theorem dX11_search_51 : decode cX11_search 51 = .ok (.iinc 6 (-1), 3) := by decide +kernel
theorem dX11_search_54 : decode cX11_search 54 = .ok (.goto (-20), 3) := by decide +kernel
theorem dX11_search_57 : decode cX11_search 57 = .ok (.aload_n 0, 1) := by decide +kernel
theorem dX11_search_58 : decode cX11_search 58 = .ok (.getfield 170, 3) := by decide +kernel
theorem dX11_search_61 : decode cX11_search 61 = .ok (.sipush 4000, 3) := by decide +kernel
theorem dX11_search_64 : decode cX11_search 64 = .ok (.if_icmp .ne 6, 3) := by decide +kernel
theorem dX11_search_67 : decode cX11_search 67 = .ok (.bipush (-5), 2) := by decide +kernel
theorem dX11_search_69 : decode cX11_search 69 = .ok (.ireturn, 1) := by decide +kernel
theorem dX11_search_70 : decode cX11_search 70 = .ok (.aload_n 0, 1) := by decide +kernel
theorem dX11_search_71 : decode cX11_search 71 = .ok (.dup, 1) := by decide +kernel
theorem dX11_search_72 : decode cX11_search 72 = .ok (.getfield 170, 3) := by decide +kernel
theorem dX11_search_75 : decode cX11_search 75 = .ok (.iconst 1, 1) := by decide +kernel
theorem dX11_search_76 : decode cX11_search 76 = .ok (.iadd, 1) := by decide +kernel
theorem dX11_search_77 : decode cX11_search 77 = .ok (.putfield 170, 3) := by decide +kernel
theorem dX11_search_80 : decode cX11_search 80 = .ok (.aload_n 0, 1) := by decide +kernel
theorem dX11_search_81 : decode cX11_search 81 = .ok (.getfield 26, 3) := by decide +kernel
theorem dX11_search_84 : decode cX11_search 84 = .ok (.iconst 5, 1) := by decide +kernel
theorem dX11_search_85 : decode cX11_search 85 = .ok (.aload_n 0, 1) := by decide +kernel
theorem dX11_search_86 : decode cX11_search 86 = .ok (.getfield 32, 3) := by decide +kernel
theorem dX11_search_89 : decode cX11_search 89 = .ok (.iload 6, 2) := by decide +kernel
theorem dX11_search_91 : decode cX11_search 91 = .ok (.iload 4, 2) := by decide +kernel
theorem dX11_search_93 : decode cX11_search 93 = .ok (.idiv, 1) := by decide +kernel
theorem dX11_search_94 : decode cX11_search 94 = .ok (.iaload, 1) := by decide +kernel
theorem dX11_search_95 : decode cX11_search 95 = .ok (.imul, 1) := by decide +kernel
theorem dX11_search_96 : decode cX11_search 96 = .ok (.iload 6, 2) := by decide +kernel
theorem dX11_search_98 : decode cX11_search 98 = .ok (.iload 4, 2) := by decide +kernel
theorem dX11_search_100 : decode cX11_search 100 = .ok (.irem, 1) := by decide +kernel
theorem dX11_search_101 : decode cX11_search 101 = .ok (.iadd, 1) := by decide +kernel
theorem dX11_search_102 : decode cX11_search 102 = .ok (.aload_n 0, 1) := by decide +kernel
theorem dX11_search_103 : decode cX11_search 103 = .ok (.getfield 29, 3) := by decide +kernel
theorem dX11_search_106 : decode cX11_search 106 = .ok (.iload 6, 2) := by decide +kernel
theorem dX11_search_108 : decode cX11_search 108 = .ok (.iaload, 1) := by decide +kernel
theorem dX11_search_109 : decode cX11_search 109 = .ok (.iastore, 1) := by decide +kernel
theorem dX11_search_110 : decode cX11_search 110 = .ok (.aload_n 0, 1) := by decide +kernel
theorem dX11_search_111 : decode cX11_search 111 = .ok (.getfield 29, 3) := by decide +kernel
theorem dX11_search_114 : decode cX11_search 114 = .ok (.iload 6, 2) := by decide +kernel
theorem dX11_search_116 : decode cX11_search 116 = .ok (.dup2, 1) := by decide +kernel
theorem dX11_search_117 : decode cX11_search 117 = .ok (.iaload, 1) := by decide +kernel
theorem dX11_search_118 : decode cX11_search 118 = .ok (.iconst 1, 1) := by decide +kernel
theorem dX11_search_119 : decode cX11_search 119 = .ok (.iadd, 1) := by decide +kernel
theorem dX11_search_120 : decode cX11_search 120 = .ok (.iastore, 1) := by decide +kernel
theorem dX11_search_121 : decode cX11_search 121 = .ok (.aload_n 0, 1) := by decide +kernel
theorem dX11_search_122 : decode cX11_search 122 = .ok (.iload 6, 2) := by decide +kernel
theorem dX11_search_124 : decode cX11_search 124 = .ok (.iload_n 1, 1) := by decide +kernel
theorem dX11_search_125 : decode cX11_search 125 = .ok (.iload_n 3, 1) := by decide +kernel
theorem dX11_search_126 : decode cX11_search 126 = .ok (.iload 4, 2) := by decide +kernel
theorem dX11_search_128 : decode cX11_search 128 = .ok (.iload 5, 2) := by decide +kernel
theorem dX11_search_130 : decode cX11_search 130 = .ok (.invokevirtual 184, 3) := by decide +kernel
theorem dX11_search_133 : decode cX11_search 133 = .ok (.ifCond .eq (-99), 3) := by decide +kernel
theorem dX11_search_136 : decode cX11_search 136 = .ok (.iload 6, 2) := by decide +kernel
theorem dX11_search_138 : decode cX11_search 138 = .ok (.iconst 1, 1) := by decide +kernel
theorem dX11_search_139 : decode cX11_search 139 = .ok (.iadd, 1) := by decide +kernel
theorem dX11_search_140 : decode cX11_search 140 = .ok (.aload_n 0, 1) := by decide +kernel
theorem dX11_search_141 : decode cX11_search 141 = .ok (.getfield 164, 3) := by decide +kernel
theorem dX11_search_144 : decode cX11_search 144 = .ok (.iload 4, 2) := by decide +kernel
theorem dX11_search_146 : decode cX11_search 146 = .ok (.imul, 1) := by decide +kernel
theorem dX11_search_147 : decode cX11_search 147 = .ok (.if_icmp .lt 14, 3) := by decide +kernel
theorem dX11_search_150 : decode cX11_search 150 = .ok (.aload_n 0, 1) := by decide +kernel
theorem dX11_search_151 : decode cX11_search 151 = .ok (.iload_n 2, 1) := by decide +kernel
theorem dX11_search_152 : decode cX11_search 152 = .ok (.iload_n 3, 1) := by decide +kernel
theorem dX11_search_153 : decode cX11_search 153 = .ok (.iload 4, 2) := by decide +kernel
theorem dX11_search_155 : decode cX11_search 155 = .ok (.invokevirtual 180, 3) := by decide +kernel
theorem dX11_search_158 : decode cX11_search 158 = .ok (.ifCond .eq (-124), 3) := by decide +kernel
theorem dX11_search_161 : decode cX11_search 161 = .ok (.iinc 6 1, 3) := by decide +kernel
theorem dX11_search_164 : decode cX11_search 164 = .ok (.iload 6, 2) := by decide +kernel
theorem dX11_search_166 : decode cX11_search 166 = .ok (.aload_n 0, 1) := by decide +kernel
theorem dX11_search_167 : decode cX11_search 167 = .ok (.getfield 164, 3) := by decide +kernel
theorem dX11_search_170 : decode cX11_search 170 = .ok (.iload 4, 2) := by decide +kernel
theorem dX11_search_172 : decode cX11_search 172 = .ok (.imul, 1) := by decide +kernel
theorem dX11_search_173 : decode cX11_search 173 = .ok (.if_icmp .ne 5, 3) := by decide +kernel
theorem dX11_search_176 : decode cX11_search 176 = .ok (.iconst 1, 1) := by decide +kernel
theorem dX11_search_177 : decode cX11_search 177 = .ok (.ireturn, 1) := by decide +kernel
theorem dX11_search_178 : decode cX11_search 178 = .ok (.aload_n 0, 1) := by decide +kernel
theorem dX11_search_179 : decode cX11_search 179 = .ok (.getfield 29, 3) := by decide +kernel
theorem dX11_search_182 : decode cX11_search 182 = .ok (.iload 6, 2) := by decide +kernel
theorem dX11_search_184 : decode cX11_search 184 = .ok (.iconst 0, 1) := by decide +kernel
theorem dX11_search_185 : decode cX11_search 185 = .ok (.iastore, 1) := by decide +kernel
theorem dX11_search_186 : decode cX11_search 186 = .ok (.goto (-152), 3) := by decide +kernel
theorem dX11_search_189 : decode cX11_search 189 = .ok (.iconst 0, 1) := by decide +kernel
theorem dX11_search_190 : decode cX11_search 190 = .ok (.ireturn, 1) := by decide +kernel
theorem dX11_stands_0 : decode cX11_stands 0 = .ok (.iload_n 1, 1) := by decide +kernel
theorem dX11_stands_1 : decode cX11_stands 1 = .ok (.iload 4, 2) := by decide +kernel
theorem dX11_stands_3 : decode cX11_stands 3 = .ok (.idiv, 1) := by decide +kernel
theorem dX11_stands_4 : decode cX11_stands 4 = .ok (.istore 6, 2) := by decide +kernel
theorem dX11_stands_6 : decode cX11_stands 6 = .ok (.aload_n 0, 1) := by decide +kernel
theorem dX11_stands_7 : decode cX11_stands 7 = .ok (.getfield 32, 3) := by decide +kernel
theorem dX11_stands_10 : decode cX11_stands 10 = .ok (.iload 6, 2) := by decide +kernel
theorem dX11_stands_12 : decode cX11_stands 12 = .ok (.iaload, 1) := by decide +kernel
theorem dX11_stands_13 : decode cX11_stands 13 = .ok (.istore 7, 2) := by decide +kernel
theorem dX11_stands_15 : decode cX11_stands 15 = .ok (.iload_n 1, 1) := by decide +kernel
theorem dX11_stands_16 : decode cX11_stands 16 = .ok (.iload 4, 2) := by decide +kernel
theorem dX11_stands_18 : decode cX11_stands 18 = .ok (.irem, 1) := by decide +kernel
theorem dX11_stands_19 : decode cX11_stands 19 = .ok (.istore 8, 2) := by decide +kernel
theorem dX11_stands_21 : decode cX11_stands 21 = .ok (.aload_n 0, 1) := by decide +kernel
theorem dX11_stands_22 : decode cX11_stands 22 = .ok (.getfield 26, 3) := by decide +kernel
theorem dX11_stands_25 : decode cX11_stands 25 = .ok (.iconst 5, 1) := by decide +kernel
theorem dX11_stands_26 : decode cX11_stands 26 = .ok (.iload 7, 2) := by decide +kernel
theorem dX11_stands_28 : decode cX11_stands 28 = .ok (.imul, 1) := by decide +kernel
theorem dX11_stands_29 : decode cX11_stands 29 = .ok (.iload 8, 2) := by decide +kernel
theorem dX11_stands_31 : decode cX11_stands 31 = .ok (.iadd, 1) := by decide +kernel
theorem dX11_stands_32 : decode cX11_stands 32 = .ok (.iaload, 1) := by decide +kernel
theorem dX11_stands_33 : decode cX11_stands 33 = .ok (.istore 9, 2) := by decide +kernel
theorem dX11_stands_35 : decode cX11_stands 35 = .ok (.iload 8, 2) := by decide +kernel
theorem dX11_stands_37 : decode cX11_stands 37 = .ok (.ifCond .le 36, 3) := by decide +kernel
theorem dX11_stands_40 : decode cX11_stands 40 = .ok (.iload 9, 2) := by decide +kernel
theorem dX11_stands_42 : decode cX11_stands 42 = .ok (.aload_n 0, 1) := by decide +kernel
theorem dX11_stands_43 : decode cX11_stands 43 = .ok (.getfield 26, 3) := by decide +kernel
theorem dX11_stands_46 : decode cX11_stands 46 = .ok (.iconst 5, 1) := by decide +kernel
theorem dX11_stands_47 : decode cX11_stands 47 = .ok (.iload 7, 2) := by decide +kernel
theorem dX11_stands_49 : decode cX11_stands 49 = .ok (.imul, 1) := by decide +kernel
theorem dX11_stands_50 : decode cX11_stands 50 = .ok (.iload 8, 2) := by decide +kernel
theorem dX11_stands_52 : decode cX11_stands 52 = .ok (.iadd, 1) := by decide +kernel
theorem dX11_stands_53 : decode cX11_stands 53 = .ok (.iconst 1, 1) := by decide +kernel
theorem dX11_stands_54 : decode cX11_stands 54 = .ok (.isub, 1) := by decide +kernel
theorem dX11_stands_55 : decode cX11_stands 55 = .ok (.iaload, 1) := by decide +kernel
theorem dX11_stands_56 : decode cX11_stands 56 = .ok (.isub, 1) := by decide +kernel
theorem dX11_stands_57 : decode cX11_stands 57 = .ok (.i2l, 1) := by decide +kernel
theorem dX11_stands_58 : decode cX11_stands 58 = .ok (.iload 5, 2) := by decide +kernel
theorem dX11_stands_60 : decode cX11_stands 60 = .ok (.ineg, 1) := by decide +kernel
theorem dX11_stands_61 : decode cX11_stands 61 = .ok (.i2l, 1) := by decide +kernel
theorem dX11_stands_62 : decode cX11_stands 62 = .ok (.iload 5, 2) := by decide +kernel
theorem dX11_stands_64 : decode cX11_stands 64 = .ok (.i2l, 1) := by decide +kernel
theorem dX11_stands_65 : decode cX11_stands 65 = .ok (.invokestatic 67, 3) := by decide +kernel
theorem dX11_stands_68 : decode cX11_stands 68 = .ok (.ifCond .ne 5, 3) := by decide +kernel
theorem dX11_stands_71 : decode cX11_stands 71 = .ok (.iconst 0, 1) := by decide +kernel
theorem dX11_stands_72 : decode cX11_stands 72 = .ok (.ireturn, 1) := by decide +kernel
theorem dX11_stands_73 : decode cX11_stands 73 = .ok (.iconst 0, 1) := by decide +kernel
theorem dX11_stands_74 : decode cX11_stands 74 = .ok (.istore 10, 2) := by decide +kernel
theorem dX11_stands_76 : decode cX11_stands 76 = .ok (.iload 10, 2) := by decide +kernel
theorem dX11_stands_78 : decode cX11_stands 78 = .ok (.iload_n 3, 1) := by decide +kernel
theorem dX11_stands_79 : decode cX11_stands 79 = .ok (.if_icmp .ge 65, 3) := by decide +kernel
theorem dX11_stands_82 : decode cX11_stands 82 = .ok (.aload_n 0, 1) := by decide +kernel
theorem dX11_stands_83 : decode cX11_stands 83 = .ok (.getfield 35, 3) := by decide +kernel
theorem dX11_stands_86 : decode cX11_stands 86 = .ok (.bipush 6, 2) := by decide +kernel
theorem dX11_stands_88 : decode cX11_stands 88 = .ok (.iload 7, 2) := by decide +kernel
theorem dX11_stands_90 : decode cX11_stands 90 = .ok (.imul, 1) := by decide +kernel
theorem dX11_stands_91 : decode cX11_stands 91 = .ok (.iload 10, 2) := by decide +kernel
theorem dX11_stands_93 : decode cX11_stands 93 = .ok (.iadd, 1) := by decide +kernel
theorem dX11_stands_94 : decode cX11_stands 94 = .ok (.iaload, 1) := by decide +kernel
theorem dX11_stands_95 : decode cX11_stands 95 = .ok (.iconst 1, 1) := by decide +kernel
theorem dX11_stands_96 : decode cX11_stands 96 = .ok (.if_icmp .ne 42, 3) := by decide +kernel
theorem dX11_stands_99 : decode cX11_stands 99 = .ok (.aload_n 0, 1) := by decide +kernel
theorem dX11_stands_100 : decode cX11_stands 100 = .ok (.iload 10, 2) := by decide +kernel
theorem dX11_stands_102 : decode cX11_stands 102 = .ok (.iload 8, 2) := by decide +kernel
theorem dX11_stands_104 : decode cX11_stands 104 = .ok (.iload 6, 2) := by decide +kernel
theorem dX11_stands_106 : decode cX11_stands 106 = .ok (.invokevirtual 188, 3) := by decide +kernel
theorem dX11_stands_109 : decode cX11_stands 109 = .ok (.invokestatic 97, 3) := by decide +kernel
theorem dX11_stands_112 : decode cX11_stands 112 = .ok (.aload_n 0, 1) := by decide +kernel
theorem dX11_stands_113 : decode cX11_stands 113 = .ok (.getfield 7, 3) := by decide +kernel
theorem dX11_stands_116 : decode cX11_stands 116 = .ok (.iconst 0, 1) := by decide +kernel
theorem dX11_stands_117 : decode cX11_stands 117 = .ok (.aload_n 0, 1) := by decide +kernel
theorem dX11_stands_118 : decode cX11_stands 118 = .ok (.getfield 7, 3) := by decide +kernel
theorem dX11_stands_121 : decode cX11_stands 121 = .ok (.sipush 4464, 3) := by decide +kernel
theorem dX11_stands_124 : decode cX11_stands 124 = .ok (.iload 10, 2) := by decide +kernel
theorem dX11_stands_126 : decode cX11_stands 126 = .ok (.iadd, 1) := by decide +kernel
theorem dX11_stands_127 : decode cX11_stands 127 = .ok (.iaload, 1) := by decide +kernel
theorem dX11_stands_128 : decode cX11_stands 128 = .ok (.iadd, 1) := by decide +kernel
theorem dX11_stands_129 : decode cX11_stands 129 = .ok (.iaload, 1) := by decide +kernel
theorem dX11_stands_130 : decode cX11_stands 130 = .ok (.invokestatic 100, 3) := by decide +kernel
theorem dX11_stands_133 : decode cX11_stands 133 = .ok (.if_icmp .le 5, 3) := by decide +kernel
theorem dX11_stands_136 : decode cX11_stands 136 = .ok (.iconst 0, 1) := by decide +kernel
theorem dX11_stands_137 : decode cX11_stands 137 = .ok (.ireturn, 1) := by decide +kernel
theorem dX11_stands_138 : decode cX11_stands 138 = .ok (.iinc 10 1, 3) := by decide +kernel
theorem dX11_stands_141 : decode cX11_stands 141 = .ok (.goto (-65), 3) := by decide +kernel
theorem dX11_stands_144 : decode cX11_stands 144 = .ok (.iconst 1, 1) := by decide +kernel
theorem dX11_stands_145 : decode cX11_stands 145 = .ok (.istore 10, 2) := by decide +kernel
theorem dX11_stands_147 : decode cX11_stands 147 = .ok (.iconst 0, 1) := by decide +kernel
theorem dX11_stands_148 : decode cX11_stands 148 = .ok (.istore 11, 2) := by decide +kernel
theorem dX11_stands_150 : decode cX11_stands 150 = .ok (.iload 11, 2) := by decide +kernel
theorem dX11_stands_152 : decode cX11_stands 152 = .ok (.iload 6, 2) := by decide +kernel
theorem dX11_stands_154 : decode cX11_stands 154 = .ok (.if_icmp .ge 48, 3) := by decide +kernel
theorem dX11_stands_157 : decode cX11_stands 157 = .ok (.iload 8, 2) := by decide +kernel
theorem dX11_stands_159 : decode cX11_stands 159 = .ok (.iload 4, 2) := by decide +kernel
theorem dX11_stands_161 : decode cX11_stands 161 = .ok (.iconst 1, 1) := by decide +kernel
theorem dX11_stands_162 : decode cX11_stands 162 = .ok (.isub, 1) := by decide +kernel
theorem dX11_stands_163 : decode cX11_stands 163 = .ok (.if_icmp .ne 39, 3) := by decide +kernel
theorem dX11_stands_166 : decode cX11_stands 166 = .ok (.iload 10, 2) := by decide +kernel
theorem dX11_stands_168 : decode cX11_stands 168 = .ok (.ifCond .eq 25, 3) := by decide +kernel
theorem dX11_stands_171 : decode cX11_stands 171 = .ok (.aload_n 0, 1) := by decide +kernel
theorem dX11_stands_172 : decode cX11_stands 172 = .ok (.iload 7, 2) := by decide +kernel
theorem dX11_stands_174 : decode cX11_stands 174 = .ok (.aload_n 0, 1) := by decide +kernel
theorem dX11_stands_175 : decode cX11_stands 175 = .ok (.getfield 32, 3) := by decide +kernel
theorem dX11_stands_178 : decode cX11_stands 178 = .ok (.iload 11, 2) := by decide +kernel
theorem dX11_stands_180 : decode cX11_stands 180 = .ok (.iaload, 1) := by decide +kernel
theorem dX11_stands_181 : decode cX11_stands 181 = .ok (.iload 4, 2) := by decide +kernel
theorem dX11_stands_183 : decode cX11_stands 183 = .ok (.invokevirtual 192, 3) := by decide +kernel
theorem dX11_stands_186 : decode cX11_stands 186 = .ok (.ifCond .ne 7, 3) := by decide +kernel
theorem dX11_stands_189 : decode cX11_stands 189 = .ok (.iconst 1, 1) := by decide +kernel
theorem dX11_stands_190 : decode cX11_stands 190 = .ok (.goto 4, 3) := by decide +kernel
theorem dX11_stands_193 : decode cX11_stands 193 = .ok (.iconst 0, 1) := by decide +kernel
theorem dX11_stands_194 : decode cX11_stands 194 = .ok (.istore 10, 2) := by decide +kernel
theorem dX11_stands_196 : decode cX11_stands 196 = .ok (.iinc 11 1, 3) := by decide +kernel
theorem dX11_stands_199 : decode cX11_stands 199 = .ok (.goto (-49), 3) := by decide +kernel
theorem dX11_stands_202 : decode cX11_stands 202 = .ok (.iload 10, 2) := by decide +kernel
theorem dX11_stands_204 : decode cX11_stands 204 = .ok (.ifCond .eq 33, 3) := by decide +kernel
theorem dX11_stands_207 : decode cX11_stands 207 = .ok (.iload 8, 2) := by decide +kernel
theorem dX11_stands_209 : decode cX11_stands 209 = .ok (.iload 4, 2) := by decide +kernel
theorem dX11_stands_211 : decode cX11_stands 211 = .ok (.iconst 1, 1) := by decide +kernel
theorem dX11_stands_212 : decode cX11_stands 212 = .ok (.isub, 1) := by decide +kernel
theorem dX11_stands_213 : decode cX11_stands 213 = .ok (.if_icmp .lt 20, 3) := by decide +kernel
theorem dX11_stands_216 : decode cX11_stands 216 = .ok (.iload_n 2, 1) := by decide +kernel
theorem dX11_stands_217 : decode cX11_stands 217 = .ok (.iconst (-1), 1) := by decide +kernel
theorem dX11_stands_218 : decode cX11_stands 218 = .ok (.if_icmp .eq 15, 3) := by decide +kernel
theorem dX11_stands_221 : decode cX11_stands 221 = .ok (.aload_n 0, 1) := by decide +kernel
theorem dX11_stands_222 : decode cX11_stands 222 = .ok (.iload 7, 2) := by decide +kernel
theorem dX11_stands_224 : decode cX11_stands 224 = .ok (.iload_n 2, 1) := by decide +kernel
theorem dX11_stands_225 : decode cX11_stands 225 = .ok (.iload 4, 2) := by decide +kernel
theorem dX11_stands_227 : decode cX11_stands 227 = .ok (.invokevirtual 192, 3) := by decide +kernel
theorem dX11_stands_230 : decode cX11_stands 230 = .ok (.ifCond .ne 7, 3) := by decide +kernel
theorem dX11_stands_233 : decode cX11_stands 233 = .ok (.iconst 1, 1) := by decide +kernel
theorem dX11_stands_234 : decode cX11_stands 234 = .ok (.goto 4, 3) := by decide +kernel
theorem dX11_stands_237 : decode cX11_stands 237 = .ok (.iconst 0, 1) := by decide +kernel
theorem dX11_stands_238 : decode cX11_stands 238 = .ok (.ireturn, 1) := by decide +kernel
theorem dX11_areAlike_0 : decode cX11_areAlike 0 = .ok (.iconst 1, 1) := by decide +kernel
theorem dX11_areAlike_1 : decode cX11_areAlike 1 = .ok (.istore 4, 2) := by decide +kernel
theorem dX11_areAlike_3 : decode cX11_areAlike 3 = .ok (.iconst 0, 1) := by decide +kernel
theorem dX11_areAlike_4 : decode cX11_areAlike 4 = .ok (.istore 5, 2) := by decide +kernel
theorem dX11_areAlike_6 : decode cX11_areAlike 6 = .ok (.iload 5, 2) := by decide +kernel
theorem dX11_areAlike_8 : decode cX11_areAlike 8 = .ok (.iload_n 3, 1) := by decide +kernel
theorem dX11_areAlike_9 : decode cX11_areAlike 9 = .ok (.if_icmp .ge 46, 3) := by decide +kernel
theorem dX11_areAlike_12 : decode cX11_areAlike 12 = .ok (.iload 4, 2) := by decide +kernel
theorem dX11_areAlike_14 : decode cX11_areAlike 14 = .ok (.ifCond .eq 32, 3) := by decide +kernel
theorem dX11_areAlike_17 : decode cX11_areAlike 17 = .ok (.aload_n 0, 1) := by decide +kernel
theorem dX11_areAlike_18 : decode cX11_areAlike 18 = .ok (.getfield 26, 3) := by decide +kernel
theorem dX11_areAlike_21 : decode cX11_areAlike 21 = .ok (.iconst 5, 1) := by decide +kernel
theorem dX11_areAlike_22 : decode cX11_areAlike 22 = .ok (.iload_n 1, 1) := by decide +kernel
theorem dX11_areAlike_23 : decode cX11_areAlike 23 = .ok (.imul, 1) := by decide +kernel
theorem dX11_areAlike_24 : decode cX11_areAlike 24 = .ok (.iload 5, 2) := by decide +kernel
theorem dX11_areAlike_26 : decode cX11_areAlike 26 = .ok (.iadd, 1) := by decide +kernel
theorem dX11_areAlike_27 : decode cX11_areAlike 27 = .ok (.iaload, 1) := by decide +kernel
theorem dX11_areAlike_28 : decode cX11_areAlike 28 = .ok (.aload_n 0, 1) := by decide +kernel
theorem dX11_areAlike_29 : decode cX11_areAlike 29 = .ok (.getfield 26, 3) := by decide +kernel
theorem dX11_areAlike_32 : decode cX11_areAlike 32 = .ok (.iconst 5, 1) := by decide +kernel
theorem dX11_areAlike_33 : decode cX11_areAlike 33 = .ok (.iload_n 2, 1) := by decide +kernel
theorem dX11_areAlike_34 : decode cX11_areAlike 34 = .ok (.imul, 1) := by decide +kernel
theorem dX11_areAlike_35 : decode cX11_areAlike 35 = .ok (.iload 5, 2) := by decide +kernel
theorem dX11_areAlike_37 : decode cX11_areAlike 37 = .ok (.iadd, 1) := by decide +kernel
theorem dX11_areAlike_38 : decode cX11_areAlike 38 = .ok (.iaload, 1) := by decide +kernel
theorem dX11_areAlike_39 : decode cX11_areAlike 39 = .ok (.if_icmp .ne 7, 3) := by decide +kernel
theorem dX11_areAlike_42 : decode cX11_areAlike 42 = .ok (.iconst 1, 1) := by decide +kernel
theorem dX11_areAlike_43 : decode cX11_areAlike 43 = .ok (.goto 4, 3) := by decide +kernel
theorem dX11_areAlike_46 : decode cX11_areAlike 46 = .ok (.iconst 0, 1) := by decide +kernel
theorem dX11_areAlike_47 : decode cX11_areAlike 47 = .ok (.istore 4, 2) := by decide +kernel
theorem dX11_areAlike_49 : decode cX11_areAlike 49 = .ok (.iinc 5 1, 3) := by decide +kernel
theorem dX11_areAlike_52 : decode cX11_areAlike 52 = .ok (.goto (-46), 3) := by decide +kernel
theorem dX11_areAlike_55 : decode cX11_areAlike 55 = .ok (.iload 4, 2) := by decide +kernel
theorem dX11_areAlike_57 : decode cX11_areAlike 57 = .ok (.ireturn, 1) := by decide +kernel
theorem dX11_cutsAt_0 : decode cX11_cutsAt 0 = .ok (.iconst 0, 1) := by decide +kernel
theorem dX11_cutsAt_1 : decode cX11_cutsAt 1 = .ok (.istore 4, 2) := by decide +kernel
theorem dX11_cutsAt_3 : decode cX11_cutsAt 3 = .ok (.iconst 0, 1) := by decide +kernel
theorem dX11_cutsAt_4 : decode cX11_cutsAt 4 = .ok (.istore 5, 2) := by decide +kernel
theorem dX11_cutsAt_6 : decode cX11_cutsAt 6 = .ok (.iload 5, 2) := by decide +kernel
theorem dX11_cutsAt_8 : decode cX11_cutsAt 8 = .ok (.iload_n 3, 1) := by decide +kernel
theorem dX11_cutsAt_9 : decode cX11_cutsAt 9 = .ok (.if_icmp .gt 57, 3) := by decide +kernel
theorem dX11_cutsAt_12 : decode cX11_cutsAt 12 = .ok (.iload 4, 2) := by decide +kernel
theorem dX11_cutsAt_14 : decode cX11_cutsAt 14 = .ok (.aload_n 0, 1) := by decide +kernel
theorem dX11_cutsAt_15 : decode cX11_cutsAt 15 = .ok (.getfield 35, 3) := by decide +kernel
theorem dX11_cutsAt_18 : decode cX11_cutsAt 18 = .ok (.bipush 6, 2) := by decide +kernel
theorem dX11_cutsAt_20 : decode cX11_cutsAt 20 = .ok (.aload_n 0, 1) := by decide +kernel
theorem dX11_cutsAt_21 : decode cX11_cutsAt 21 = .ok (.getfield 32, 3) := by decide +kernel
theorem dX11_cutsAt_24 : decode cX11_cutsAt 24 = .ok (.iload 5, 2) := by decide +kernel
theorem dX11_cutsAt_26 : decode cX11_cutsAt 26 = .ok (.iaload, 1) := by decide +kernel
theorem dX11_cutsAt_27 : decode cX11_cutsAt 27 = .ok (.imul, 1) := by decide +kernel
theorem dX11_cutsAt_28 : decode cX11_cutsAt 28 = .ok (.iload_n 1, 1) := by decide +kernel
theorem dX11_cutsAt_29 : decode cX11_cutsAt 29 = .ok (.iadd, 1) := by decide +kernel
theorem dX11_cutsAt_30 : decode cX11_cutsAt 30 = .ok (.iaload, 1) := by decide +kernel
theorem dX11_cutsAt_31 : decode cX11_cutsAt 31 = .ok (.iconst 1, 1) := by decide +kernel
theorem dX11_cutsAt_32 : decode cX11_cutsAt 32 = .ok (.if_icmp .ne 24, 3) := by decide +kernel
theorem dX11_cutsAt_35 : decode cX11_cutsAt 35 = .ok (.iconst 1, 1) := by decide +kernel
theorem dX11_cutsAt_36 : decode cX11_cutsAt 36 = .ok (.aload_n 0, 1) := by decide +kernel
theorem dX11_cutsAt_37 : decode cX11_cutsAt 37 = .ok (.getfield 26, 3) := by decide +kernel
theorem dX11_cutsAt_40 : decode cX11_cutsAt 40 = .ok (.iconst 5, 1) := by decide +kernel
theorem dX11_cutsAt_41 : decode cX11_cutsAt 41 = .ok (.aload_n 0, 1) := by decide +kernel
theorem dX11_cutsAt_42 : decode cX11_cutsAt 42 = .ok (.getfield 32, 3) := by decide +kernel
theorem dX11_cutsAt_45 : decode cX11_cutsAt 45 = .ok (.iload 5, 2) := by decide +kernel
theorem dX11_cutsAt_47 : decode cX11_cutsAt 47 = .ok (.iaload, 1) := by decide +kernel
theorem dX11_cutsAt_48 : decode cX11_cutsAt 48 = .ok (.imul, 1) := by decide +kernel
theorem dX11_cutsAt_49 : decode cX11_cutsAt 49 = .ok (.iload_n 2, 1) := by decide +kernel
theorem dX11_cutsAt_50 : decode cX11_cutsAt 50 = .ok (.iadd, 1) := by decide +kernel
theorem dX11_cutsAt_51 : decode cX11_cutsAt 51 = .ok (.iaload, 1) := by decide +kernel
theorem dX11_cutsAt_52 : decode cX11_cutsAt 52 = .ok (.ishl, 1) := by decide +kernel
theorem dX11_cutsAt_53 : decode cX11_cutsAt 53 = .ok (.goto 4, 3) := by decide +kernel
theorem dX11_cutsAt_56 : decode cX11_cutsAt 56 = .ok (.iconst 0, 1) := by decide +kernel
theorem dX11_cutsAt_57 : decode cX11_cutsAt 57 = .ok (.ior, 1) := by decide +kernel
theorem dX11_cutsAt_58 : decode cX11_cutsAt 58 = .ok (.istore 4, 2) := by decide +kernel
theorem dX11_cutsAt_60 : decode cX11_cutsAt 60 = .ok (.iinc 5 1, 3) := by decide +kernel
theorem dX11_cutsAt_63 : decode cX11_cutsAt 63 = .ok (.goto (-57), 3) := by decide +kernel
theorem dX11_cutsAt_66 : decode cX11_cutsAt 66 = .ok (.iload 4, 2) := by decide +kernel
theorem dX11_cutsAt_68 : decode cX11_cutsAt 68 = .ok (.ireturn, 1) := by decide +kernel
theorem dX11_areNeversMet_0 : decode cX11_areNeversMet 0 = .ok (.iconst 0, 1) := by decide +kernel
theorem dX11_areNeversMet_1 : decode cX11_areNeversMet 1 = .ok (.istore 4, 2) := by decide +kernel
theorem dX11_areNeversMet_3 : decode cX11_areNeversMet 3 = .ok (.iload 4, 2) := by decide +kernel
theorem dX11_areNeversMet_5 : decode cX11_areNeversMet 5 = .ok (.iload_n 2, 1) := by decide +kernel
theorem dX11_areNeversMet_6 : decode cX11_areNeversMet 6 = .ok (.if_icmp .ge 88, 3) := by decide +kernel
theorem dX11_areNeversMet_9 : decode cX11_areNeversMet 9 = .ok (.iconst 0, 1) := by decide +kernel
theorem dX11_areNeversMet_10 : decode cX11_areNeversMet 10 = .ok (.istore 5, 2) := by decide +kernel
theorem dX11_areNeversMet_12 : decode cX11_areNeversMet 12 = .ok (.iload 5, 2) := by decide +kernel
theorem dX11_areNeversMet_14 : decode cX11_areNeversMet 14 = .ok (.iload_n 3, 1) := by decide +kernel
theorem dX11_areNeversMet_15 : decode cX11_areNeversMet 15 = .ok (.if_icmp .ge 73, 3) := by decide +kernel
theorem dX11_areNeversMet_18 : decode cX11_areNeversMet 18 = .ok (.aload_n 0, 1) := by decide +kernel
theorem dX11_areNeversMet_19 : decode cX11_areNeversMet 19 = .ok (.iload 4, 2) := by decide +kernel
theorem dX11_areNeversMet_21 : decode cX11_areNeversMet 21 = .ok (.iload 5, 2) := by decide +kernel
theorem dX11_areNeversMet_23 : decode cX11_areNeversMet 23 = .ok (.aload_n 0, 1) := by decide +kernel
theorem dX11_areNeversMet_24 : decode cX11_areNeversMet 24 = .ok (.getfield 164, 3) := by decide +kernel
theorem dX11_areNeversMet_27 : decode cX11_areNeversMet 27 = .ok (.iconst 1, 1) := by decide +kernel
theorem dX11_areNeversMet_28 : decode cX11_areNeversMet 28 = .ok (.isub, 1) := by decide +kernel
theorem dX11_areNeversMet_29 : decode cX11_areNeversMet 29 = .ok (.invokevirtual 188, 3) := by decide +kernel
theorem dX11_areNeversMet_32 : decode cX11_areNeversMet 32 = .ok (.istore 6, 2) := by decide +kernel
theorem dX11_areNeversMet_34 : decode cX11_areNeversMet 34 = .ok (.aload_n 0, 1) := by decide +kernel
theorem dX11_areNeversMet_35 : decode cX11_areNeversMet 35 = .ok (.getfield 38, 3) := by decide +kernel
theorem dX11_areNeversMet_38 : decode cX11_areNeversMet 38 = .ok (.iconst 5, 1) := by decide +kernel
theorem dX11_areNeversMet_39 : decode cX11_areNeversMet 39 = .ok (.iload 4, 2) := by decide +kernel
theorem dX11_areNeversMet_41 : decode cX11_areNeversMet 41 = .ok (.imul, 1) := by decide +kernel
theorem dX11_areNeversMet_42 : decode cX11_areNeversMet 42 = .ok (.iload 5, 2) := by decide +kernel
theorem dX11_areNeversMet_44 : decode cX11_areNeversMet 44 = .ok (.iadd, 1) := by decide +kernel
theorem dX11_areNeversMet_45 : decode cX11_areNeversMet 45 = .ok (.iload 6, 2) := by decide +kernel
theorem dX11_areNeversMet_47 : decode cX11_areNeversMet 47 = .ok (.ifCond .le 8, 3) := by decide +kernel
theorem dX11_areNeversMet_50 : decode cX11_areNeversMet 50 = .ok (.iload 6, 2) := by decide +kernel
theorem dX11_areNeversMet_52 : decode cX11_areNeversMet 52 = .ok (.goto 29, 3) := by decide +kernel
theorem dX11_areNeversMet_55 : decode cX11_areNeversMet 55 = .ok (.aload_n 0, 1) := by decide +kernel
theorem dX11_areNeversMet_56 : decode cX11_areNeversMet 56 = .ok (.getfield 7, 3) := by decide +kernel
theorem dX11_areNeversMet_59 : decode cX11_areNeversMet 59 = .ok (.sipush 400, 3) := by decide +kernel
theorem dX11_areNeversMet_62 : decode cX11_areNeversMet 62 = .ok (.bipush 18, 2) := by decide +kernel
theorem dX11_areNeversMet_64 : decode cX11_areNeversMet 64 = .ok (.aload_n 0, 1) := by decide +kernel
theorem dX11_areNeversMet_65 : decode cX11_areNeversMet 65 = .ok (.getfield 7, 3) := by decide +kernel
theorem dX11_areNeversMet_68 : decode cX11_areNeversMet 68 = .ok (.sipush 4464, 3) := by decide +kernel
theorem dX11_areNeversMet_71 : decode cX11_areNeversMet 71 = .ok (.iload 4, 2) := by decide +kernel
theorem dX11_areNeversMet_73 : decode cX11_areNeversMet 73 = .ok (.iadd, 1) := by decide +kernel
theorem dX11_areNeversMet_74 : decode cX11_areNeversMet 74 = .ok (.iaload, 1) := by decide +kernel
theorem dX11_areNeversMet_75 : decode cX11_areNeversMet 75 = .ok (.imul, 1) := by decide +kernel
theorem dX11_areNeversMet_76 : decode cX11_areNeversMet 76 = .ok (.iadd, 1) := by decide +kernel
theorem dX11_areNeversMet_77 : decode cX11_areNeversMet 77 = .ok (.iload 5, 2) := by decide +kernel
theorem dX11_areNeversMet_79 : decode cX11_areNeversMet 79 = .ok (.iadd, 1) := by decide +kernel
theorem dX11_areNeversMet_80 : decode cX11_areNeversMet 80 = .ok (.iaload, 1) := by decide +kernel
theorem dX11_areNeversMet_81 : decode cX11_areNeversMet 81 = .ok (.iastore, 1) := by decide +kernel
theorem dX11_areNeversMet_82 : decode cX11_areNeversMet 82 = .ok (.iinc 5 1, 3) := by decide +kernel
theorem dX11_areNeversMet_85 : decode cX11_areNeversMet 85 = .ok (.goto (-73), 3) := by decide +kernel
theorem dX11_areNeversMet_88 : decode cX11_areNeversMet 88 = .ok (.iinc 4 1, 3) := by decide +kernel
theorem dX11_areNeversMet_91 : decode cX11_areNeversMet 91 = .ok (.goto (-88), 3) := by decide +kernel
theorem dX11_areNeversMet_94 : decode cX11_areNeversMet 94 = .ok (.iconst 1, 1) := by decide +kernel
theorem dX11_areNeversMet_95 : decode cX11_areNeversMet 95 = .ok (.istore 4, 2) := by decide +kernel
theorem dX11_areNeversMet_97 : decode cX11_areNeversMet 97 = .ok (.iconst 0, 1) := by decide +kernel
theorem dX11_areNeversMet_98 : decode cX11_areNeversMet 98 = .ok (.istore 5, 2) := by decide +kernel
theorem dX11_areNeversMet_100 : decode cX11_areNeversMet 100 = .ok (.iload 5, 2) := by decide +kernel
theorem dX11_areNeversMet_102 : decode cX11_areNeversMet 102 = .ok (.iload_n 1, 1) := by decide +kernel
theorem dX11_areNeversMet_103 : decode cX11_areNeversMet 103 = .ok (.if_icmp .ge 65, 3) := by decide +kernel
theorem dX11_areNeversMet_106 : decode cX11_areNeversMet 106 = .ok (.iconst 0, 1) := by decide +kernel
theorem dX11_areNeversMet_107 : decode cX11_areNeversMet 107 = .ok (.istore 6, 2) := by decide +kernel
theorem dX11_areNeversMet_109 : decode cX11_areNeversMet 109 = .ok (.iload 6, 2) := by decide +kernel
theorem dX11_areNeversMet_111 : decode cX11_areNeversMet 111 = .ok (.iload_n 2, 1) := by decide +kernel
theorem dX11_areNeversMet_112 : decode cX11_areNeversMet 112 = .ok (.if_icmp .ge 50, 3) := by decide +kernel
theorem dX11_areNeversMet_115 : decode cX11_areNeversMet 115 = .ok (.iload 4, 2) := by decide +kernel
theorem dX11_areNeversMet_117 : decode cX11_areNeversMet 117 = .ok (.ifCond .eq 36, 3) := by decide +kernel
theorem dX11_areNeversMet_120 : decode cX11_areNeversMet 120 = .ok (.aload_n 0, 1) := by decide +kernel
theorem dX11_areNeversMet_121 : decode cX11_areNeversMet 121 = .ok (.getfield 35, 3) := by decide +kernel
theorem dX11_areNeversMet_124 : decode cX11_areNeversMet 124 = .ok (.bipush 6, 2) := by decide +kernel
theorem dX11_areNeversMet_126 : decode cX11_areNeversMet 126 = .ok (.iload 5, 2) := by decide +kernel
theorem dX11_areNeversMet_128 : decode cX11_areNeversMet 128 = .ok (.imul, 1) := by decide +kernel
theorem dX11_areNeversMet_129 : decode cX11_areNeversMet 129 = .ok (.iload 6, 2) := by decide +kernel
theorem dX11_areNeversMet_131 : decode cX11_areNeversMet 131 = .ok (.iadd, 1) := by decide +kernel
theorem dX11_areNeversMet_132 : decode cX11_areNeversMet 132 = .ok (.iaload, 1) := by decide +kernel
theorem dX11_areNeversMet_133 : decode cX11_areNeversMet 133 = .ok (.iconst 2, 1) := by decide +kernel
theorem dX11_areNeversMet_134 : decode cX11_areNeversMet 134 = .ok (.if_icmp .ne 15, 3) := by decide +kernel
theorem dX11_areNeversMet_137 : decode cX11_areNeversMet 137 = .ok (.aload_n 0, 1) := by decide +kernel
theorem dX11_areNeversMet_138 : decode cX11_areNeversMet 138 = .ok (.iload 5, 2) := by decide +kernel
theorem dX11_areNeversMet_140 : decode cX11_areNeversMet 140 = .ok (.iload 6, 2) := by decide +kernel
theorem dX11_areNeversMet_142 : decode cX11_areNeversMet 142 = .ok (.iload_n 3, 1) := by decide +kernel
theorem dX11_areNeversMet_143 : decode cX11_areNeversMet 143 = .ok (.invokevirtual 195, 3) := by decide +kernel
theorem dX11_areNeversMet_146 : decode cX11_areNeversMet 146 = .ok (.ifCond .eq 7, 3) := by decide +kernel
theorem dX11_areNeversMet_149 : decode cX11_areNeversMet 149 = .ok (.iconst 1, 1) := by decide +kernel
theorem dX11_areNeversMet_150 : decode cX11_areNeversMet 150 = .ok (.goto 4, 3) := by decide +kernel
theorem dX11_areNeversMet_153 : decode cX11_areNeversMet 153 = .ok (.iconst 0, 1) := by decide +kernel
theorem dX11_areNeversMet_154 : decode cX11_areNeversMet 154 = .ok (.istore 4, 2) := by decide +kernel
theorem dX11_areNeversMet_156 : decode cX11_areNeversMet 156 = .ok (.iinc 6 1, 3) := by decide +kernel
theorem dX11_areNeversMet_159 : decode cX11_areNeversMet 159 = .ok (.goto (-50), 3) := by decide +kernel
theorem dX11_areNeversMet_162 : decode cX11_areNeversMet 162 = .ok (.iinc 5 1, 3) := by decide +kernel
theorem dX11_areNeversMet_165 : decode cX11_areNeversMet 165 = .ok (.goto (-65), 3) := by decide +kernel
theorem dX11_areNeversMet_168 : decode cX11_areNeversMet 168 = .ok (.iload 4, 2) := by decide +kernel
theorem dX11_areNeversMet_170 : decode cX11_areNeversMet 170 = .ok (.ireturn, 1) := by decide +kernel
theorem dX11_bars_0 : decode cX11_bars 0 = .ok (.aload_n 0, 1) := by decide +kernel
theorem dX11_bars_1 : decode cX11_bars 1 = .ok (.getfield 7, 3) := by decide +kernel
theorem dX11_bars_4 : decode cX11_bars 4 = .ok (.iconst 0, 1) := by decide +kernel
theorem dX11_bars_5 : decode cX11_bars 5 = .ok (.aload_n 0, 1) := by decide +kernel
theorem dX11_bars_6 : decode cX11_bars 6 = .ok (.getfield 7, 3) := by decide +kernel
theorem dX11_bars_9 : decode cX11_bars 9 = .ok (.sipush 4464, 3) := by decide +kernel
theorem dX11_bars_12 : decode cX11_bars 12 = .ok (.iload_n 2, 1) := by decide +kernel
theorem dX11_bars_13 : decode cX11_bars 13 = .ok (.iadd, 1) := by decide +kernel
theorem dX11_bars_14 : decode cX11_bars 14 = .ok (.iaload, 1) := by decide +kernel
theorem dX11_bars_15 : decode cX11_bars 15 = .ok (.iadd, 1) := by decide +kernel
theorem dX11_bars_16 : decode cX11_bars 16 = .ok (.iaload, 1) := by decide +kernel
theorem dX11_bars_17 : decode cX11_bars 17 = .ok (.iconst 3, 1) := by decide +kernel
theorem dX11_bars_18 : decode cX11_bars 18 = .ok (.if_icmp .ne 7, 3) := by decide +kernel
theorem dX11_bars_21 : decode cX11_bars 21 = .ok (.iconst 1, 1) := by decide +kernel
theorem dX11_bars_22 : decode cX11_bars 22 = .ok (.goto 4, 3) := by decide +kernel
theorem dX11_bars_25 : decode cX11_bars 25 = .ok (.iconst 0, 1) := by decide +kernel
theorem dX11_bars_26 : decode cX11_bars 26 = .ok (.istore 4, 2) := by decide +kernel
theorem dX11_bars_28 : decode cX11_bars 28 = .ok (.iconst 0, 1) := by decide +kernel
theorem dX11_bars_29 : decode cX11_bars 29 = .ok (.istore 5, 2) := by decide +kernel
theorem dX11_bars_31 : decode cX11_bars 31 = .ok (.iload 5, 2) := by decide +kernel
theorem dX11_bars_33 : decode cX11_bars 33 = .ok (.iload_n 3, 1) := by decide +kernel
theorem dX11_bars_34 : decode cX11_bars 34 = .ok (.if_icmp .ge 58, 3) := by decide +kernel
theorem dX11_bars_37 : decode cX11_bars 37 = .ok (.aload_n 0, 1) := by decide +kernel
theorem dX11_bars_38 : decode cX11_bars 38 = .ok (.getfield 38, 3) := by decide +kernel
theorem dX11_bars_41 : decode cX11_bars 41 = .ok (.iconst 5, 1) := by decide +kernel
theorem dX11_bars_42 : decode cX11_bars 42 = .ok (.iload_n 2, 1) := by decide +kernel
theorem dX11_bars_43 : decode cX11_bars 43 = .ok (.imul, 1) := by decide +kernel
theorem dX11_bars_44 : decode cX11_bars 44 = .ok (.iload 5, 2) := by decide +kernel
theorem dX11_bars_46 : decode cX11_bars 46 = .ok (.iadd, 1) := by decide +kernel
theorem dX11_bars_47 : decode cX11_bars 47 = .ok (.iaload, 1) := by decide +kernel
theorem dX11_bars_48 : decode cX11_bars 48 = .ok (.istore 6, 2) := by decide +kernel
theorem dX11_bars_50 : decode cX11_bars 50 = .ok (.iload 4, 2) := by decide +kernel
theorem dX11_bars_52 : decode cX11_bars 52 = .ok (.ifCond .ne 27, 3) := by decide +kernel
theorem dX11_bars_55 : decode cX11_bars 55 = .ok (.iload 6, 2) := by decide +kernel
theorem dX11_bars_57 : decode cX11_bars 57 = .ok (.ifCond .eq 26, 3) := by decide +kernel
theorem dX11_bars_60 : decode cX11_bars 60 = .ok (.iload 6, 2) := by decide +kernel
theorem dX11_bars_62 : decode cX11_bars 62 = .ok (.aload_n 0, 1) := by decide +kernel
theorem dX11_bars_63 : decode cX11_bars 63 = .ok (.getfield 26, 3) := by decide +kernel
theorem dX11_bars_66 : decode cX11_bars 66 = .ok (.iconst 5, 1) := by decide +kernel
theorem dX11_bars_67 : decode cX11_bars 67 = .ok (.iload_n 1, 1) := by decide +kernel
theorem dX11_bars_68 : decode cX11_bars 68 = .ok (.imul, 1) := by decide +kernel
theorem dX11_bars_69 : decode cX11_bars 69 = .ok (.iload 5, 2) := by decide +kernel
theorem dX11_bars_71 : decode cX11_bars 71 = .ok (.iadd, 1) := by decide +kernel
theorem dX11_bars_72 : decode cX11_bars 72 = .ok (.iaload, 1) := by decide +kernel
theorem dX11_bars_73 : decode cX11_bars 73 = .ok (.ishr, 1) := by decide +kernel
theorem dX11_bars_74 : decode cX11_bars 74 = .ok (.iconst 1, 1) := by decide +kernel
theorem dX11_bars_75 : decode cX11_bars 75 = .ok (.iand, 1) := by decide +kernel
theorem dX11_bars_76 : decode cX11_bars 76 = .ok (.ifCond .ne 7, 3) := by decide +kernel
theorem dX11_bars_79 : decode cX11_bars 79 = .ok (.iconst 1, 1) := by decide +kernel
theorem dX11_bars_80 : decode cX11_bars 80 = .ok (.goto 4, 3) := by decide +kernel
theorem dX11_bars_83 : decode cX11_bars 83 = .ok (.iconst 0, 1) := by decide +kernel
theorem dX11_bars_84 : decode cX11_bars 84 = .ok (.istore 4, 2) := by decide +kernel
theorem dX11_bars_86 : decode cX11_bars 86 = .ok (.iinc 5 1, 3) := by decide +kernel
theorem dX11_bars_89 : decode cX11_bars 89 = .ok (.goto (-58), 3) := by decide +kernel
theorem dX11_bars_92 : decode cX11_bars 92 = .ok (.iload 4, 2) := by decide +kernel
theorem dX11_bars_94 : decode cX11_bars 94 = .ok (.ireturn, 1) := by decide +kernel
theorem dX11_take_0 : decode cX11_take 0 = .ok (.iconst 0, 1) := by decide +kernel
theorem dX11_take_1 : decode cX11_take 1 = .ok (.istore_n 3, 1) := by decide +kernel
theorem dX11_take_2 : decode cX11_take 2 = .ok (.iload_n 3, 1) := by decide +kernel
theorem dX11_take_3 : decode cX11_take 3 = .ok (.aload_n 0, 1) := by decide +kernel
theorem dX11_take_4 : decode cX11_take 4 = .ok (.getfield 164, 3) := by decide +kernel
theorem dX11_take_7 : decode cX11_take 7 = .ok (.if_icmp .ge 73, 3) := by decide +kernel
theorem dX11_take_10 : decode cX11_take 10 = .ok (.aload_n 0, 1) := by decide +kernel
theorem dX11_take_11 : decode cX11_take 11 = .ok (.getfield 32, 3) := by decide +kernel
theorem dX11_take_14 : decode cX11_take 14 = .ok (.iload_n 3, 1) := by decide +kernel
theorem dX11_take_15 : decode cX11_take 15 = .ok (.iaload, 1) := by decide +kernel
theorem dX11_take_16 : decode cX11_take 16 = .ok (.istore 4, 2) := by decide +kernel
theorem dX11_take_18 : decode cX11_take 18 = .ok (.aload_n 0, 1) := by decide +kernel
theorem dX11_take_19 : decode cX11_take 19 = .ok (.getfield 7, 3) := by decide +kernel
theorem dX11_take_22 : decode cX11_take 22 = .ok (.sipush 2200, 3) := by decide +kernel
theorem dX11_take_25 : decode cX11_take 25 = .ok (.iload 4, 2) := by decide +kernel
theorem dX11_take_27 : decode cX11_take 27 = .ok (.iadd, 1) := by decide +kernel
theorem dX11_take_28 : decode cX11_take 28 = .ok (.iload_n 2, 1) := by decide +kernel
theorem dX11_take_29 : decode cX11_take 29 = .ok (.iastore, 1) := by decide +kernel
theorem dX11_take_30 : decode cX11_take 30 = .ok (.iconst 0, 1) := by decide +kernel
theorem dX11_take_31 : decode cX11_take 31 = .ok (.istore 5, 2) := by decide +kernel
theorem dX11_take_33 : decode cX11_take 33 = .ok (.iload 5, 2) := by decide +kernel
theorem dX11_take_35 : decode cX11_take 35 = .ok (.iload_n 2, 1) := by decide +kernel
theorem dX11_take_36 : decode cX11_take 36 = .ok (.if_icmp .ge 38, 3) := by decide +kernel
theorem dX11_take_39 : decode cX11_take 39 = .ok (.aload_n 0, 1) := by decide +kernel
theorem dX11_take_40 : decode cX11_take 40 = .ok (.getfield 7, 3) := by decide +kernel
theorem dX11_take_43 : decode cX11_take 43 = .ok (.sipush 2300, 3) := by decide +kernel
theorem dX11_take_46 : decode cX11_take 46 = .ok (.bipush 18, 2) := by decide +kernel
theorem dX11_take_48 : decode cX11_take 48 = .ok (.iload 4, 2) := by decide +kernel
theorem dX11_take_50 : decode cX11_take 50 = .ok (.imul, 1) := by decide +kernel
theorem dX11_take_51 : decode cX11_take 51 = .ok (.iadd, 1) := by decide +kernel
theorem dX11_take_52 : decode cX11_take 52 = .ok (.iload 5, 2) := by decide +kernel
theorem dX11_take_54 : decode cX11_take 54 = .ok (.iadd, 1) := by decide +kernel
theorem dX11_take_55 : decode cX11_take 55 = .ok (.aload_n 0, 1) := by decide +kernel
theorem dX11_take_56 : decode cX11_take 56 = .ok (.getfield 26, 3) := by decide +kernel
theorem dX11_take_59 : decode cX11_take 59 = .ok (.iconst 5, 1) := by decide +kernel
theorem dX11_take_60 : decode cX11_take 60 = .ok (.iload 4, 2) := by decide +kernel
theorem dX11_take_62 : decode cX11_take 62 = .ok (.imul, 1) := by decide +kernel
theorem dX11_take_63 : decode cX11_take 63 = .ok (.iload 5, 2) := by decide +kernel
theorem dX11_take_65 : decode cX11_take 65 = .ok (.iadd, 1) := by decide +kernel
theorem dX11_take_66 : decode cX11_take 66 = .ok (.iaload, 1) := by decide +kernel
theorem dX11_take_67 : decode cX11_take 67 = .ok (.iastore, 1) := by decide +kernel
theorem dX11_take_68 : decode cX11_take 68 = .ok (.iinc 5 1, 3) := by decide +kernel
theorem dX11_take_71 : decode cX11_take 71 = .ok (.goto (-38), 3) := by decide +kernel
theorem dX11_take_74 : decode cX11_take 74 = .ok (.iinc 3 1, 3) := by decide +kernel
theorem dX11_take_77 : decode cX11_take 77 = .ok (.goto (-75), 3) := by decide +kernel
theorem dX11_take_80 : decode cX11_take 80 = .ok (.iconst 0, 1) := by decide +kernel
theorem dX11_take_81 : decode cX11_take 81 = .ok (.istore_n 3, 1) := by decide +kernel
theorem dX11_take_82 : decode cX11_take 82 = .ok (.iload_n 3, 1) := by decide +kernel
theorem dX11_take_83 : decode cX11_take 83 = .ok (.iload_n 1, 1) := by decide +kernel
theorem dX11_take_84 : decode cX11_take 84 = .ok (.if_icmp .ge 60, 3) := by decide +kernel
theorem dX11_take_87 : decode cX11_take 87 = .ok (.iconst 0, 1) := by decide +kernel
theorem dX11_take_88 : decode cX11_take 88 = .ok (.istore 4, 2) := by decide +kernel
theorem dX11_take_90 : decode cX11_take 90 = .ok (.iload 4, 2) := by decide +kernel
theorem dX11_take_92 : decode cX11_take 92 = .ok (.iload_n 2, 1) := by decide +kernel
theorem dX11_take_93 : decode cX11_take 93 = .ok (.if_icmp .ge 45, 3) := by decide +kernel
theorem dX11_take_96 : decode cX11_take 96 = .ok (.aload_n 0, 1) := by decide +kernel
theorem dX11_take_97 : decode cX11_take 97 = .ok (.getfield 7, 3) := by decide +kernel
theorem dX11_take_100 : decode cX11_take 100 = .ok (.sipush 400, 3) := by decide +kernel
theorem dX11_take_103 : decode cX11_take 103 = .ok (.bipush 18, 2) := by decide +kernel
theorem dX11_take_105 : decode cX11_take 105 = .ok (.aload_n 0, 1) := by decide +kernel
theorem dX11_take_106 : decode cX11_take 106 = .ok (.getfield 7, 3) := by decide +kernel
theorem dX11_take_109 : decode cX11_take 109 = .ok (.sipush 4464, 3) := by decide +kernel
theorem dX11_take_112 : decode cX11_take 112 = .ok (.iload_n 3, 1) := by decide +kernel
theorem dX11_take_113 : decode cX11_take 113 = .ok (.iadd, 1) := by decide +kernel
theorem dX11_take_114 : decode cX11_take 114 = .ok (.iaload, 1) := by decide +kernel
theorem dX11_take_115 : decode cX11_take 115 = .ok (.imul, 1) := by decide +kernel
theorem dX11_take_116 : decode cX11_take 116 = .ok (.iadd, 1) := by decide +kernel
theorem dX11_take_117 : decode cX11_take 117 = .ok (.iload 4, 2) := by decide +kernel
theorem dX11_take_119 : decode cX11_take 119 = .ok (.iadd, 1) := by decide +kernel
theorem dX11_take_120 : decode cX11_take 120 = .ok (.aload_n 0, 1) := by decide +kernel
theorem dX11_take_121 : decode cX11_take 121 = .ok (.getfield 38, 3) := by decide +kernel
theorem dX11_take_124 : decode cX11_take 124 = .ok (.iconst 5, 1) := by decide +kernel
theorem dX11_take_125 : decode cX11_take 125 = .ok (.iload_n 3, 1) := by decide +kernel
theorem dX11_take_126 : decode cX11_take 126 = .ok (.imul, 1) := by decide +kernel
theorem dX11_take_127 : decode cX11_take 127 = .ok (.iload 4, 2) := by decide +kernel
theorem dX11_take_129 : decode cX11_take 129 = .ok (.iadd, 1) := by decide +kernel
theorem dX11_take_130 : decode cX11_take 130 = .ok (.iaload, 1) := by decide +kernel
theorem dX11_take_131 : decode cX11_take 131 = .ok (.iastore, 1) := by decide +kernel
theorem dX11_take_132 : decode cX11_take 132 = .ok (.iinc 4 1, 3) := by decide +kernel
theorem dX11_take_135 : decode cX11_take 135 = .ok (.goto (-45), 3) := by decide +kernel
theorem dX11_take_138 : decode cX11_take 138 = .ok (.iinc 3 1, 3) := by decide +kernel
theorem dX11_take_141 : decode cX11_take 141 = .ok (.goto (-59), 3) := by decide +kernel
theorem dX11_take_144 : decode cX11_take 144 = .ok (.return_, 1) := by decide +kernel
theorem dX11_trials_0 : decode cX11_trials 0 = .ok (.aload_n 0, 1) := by decide +kernel
theorem dX11_trials_1 : decode cX11_trials 1 = .ok (.getfield 170, 3) := by decide +kernel
theorem dX11_trials_4 : decode cX11_trials 4 = .ok (.ireturn, 1) := by decide +kernel
theorem dX11_narrows_0 : decode cX11_narrows 0 = .ok (.iload_n 1, 1) := by decide +kernel
theorem dX11_narrows_1 : decode cX11_narrows 1 = .ok (.iconst (-1), 1) := by decide +kernel
theorem dX11_narrows_2 : decode cX11_narrows 2 = .ok (.if_icmp .ne 5, 3) := by decide +kernel
theorem dX11_narrows_5 : decode cX11_narrows 5 = .ok (.iconst 0, 1) := by decide +kernel
theorem dX11_narrows_6 : decode cX11_narrows 6 = .ok (.ireturn, 1) := by decide +kernel
theorem dX11_narrows_7 : decode cX11_narrows 7 = .ok (.aload_n 0, 1) := by decide +kernel
theorem dX11_narrows_8 : decode cX11_narrows 8 = .ok (.getfield 7, 3) := by decide +kernel
theorem dX11_narrows_11 : decode cX11_narrows 11 = .ok (.iconst 0, 1) := by decide +kernel
theorem dX11_narrows_12 : decode cX11_narrows 12 = .ok (.iload_n 1, 1) := by decide +kernel
theorem dX11_narrows_13 : decode cX11_narrows 13 = .ok (.iadd, 1) := by decide +kernel
theorem dX11_narrows_14 : decode cX11_narrows 14 = .ok (.iaload, 1) := by decide +kernel
theorem dX11_narrows_15 : decode cX11_narrows 15 = .ok (.iconst 4, 1) := by decide +kernel
theorem dX11_narrows_16 : decode cX11_narrows 16 = .ok (.if_icmp .ne 47, 3) := by decide +kernel
theorem dX11_narrows_19 : decode cX11_narrows 19 = .ok (.aload_n 0, 1) := by decide +kernel
theorem dX11_narrows_20 : decode cX11_narrows 20 = .ok (.aload_n 0, 1) := by decide +kernel
theorem dX11_narrows_21 : decode cX11_narrows 21 = .ok (.getfield 7, 3) := by decide +kernel
theorem dX11_narrows_24 : decode cX11_narrows 24 = .ok (.sipush 200, 3) := by decide +kernel
theorem dX11_narrows_27 : decode cX11_narrows 27 = .ok (.iload_n 1, 1) := by decide +kernel
theorem dX11_narrows_28 : decode cX11_narrows 28 = .ok (.iadd, 1) := by decide +kernel
theorem dX11_narrows_29 : decode cX11_narrows 29 = .ok (.iaload, 1) := by decide +kernel
theorem dX11_narrows_30 : decode cX11_narrows 30 = .ok (.iload_n 2, 1) := by decide +kernel
theorem dX11_narrows_31 : decode cX11_narrows 31 = .ok (.invokevirtual 198, 3) := by decide +kernel
theorem dX11_narrows_34 : decode cX11_narrows 34 = .ok (.istore_n 3, 1) := by decide +kernel
theorem dX11_narrows_35 : decode cX11_narrows 35 = .ok (.iload_n 3, 1) := by decide +kernel
theorem dX11_narrows_36 : decode cX11_narrows 36 = .ok (.ifCond .eq 25, 3) := by decide +kernel
theorem dX11_narrows_39 : decode cX11_narrows 39 = .ok (.aload_n 0, 1) := by decide +kernel
theorem dX11_narrows_40 : decode cX11_narrows 40 = .ok (.aload_n 0, 1) := by decide +kernel
theorem dX11_narrows_41 : decode cX11_narrows 41 = .ok (.getfield 7, 3) := by decide +kernel
theorem dX11_narrows_44 : decode cX11_narrows 44 = .ok (.sipush 300, 3) := by decide +kernel
theorem dX11_narrows_47 : decode cX11_narrows 47 = .ok (.iload_n 1, 1) := by decide +kernel
theorem dX11_narrows_48 : decode cX11_narrows 48 = .ok (.iadd, 1) := by decide +kernel
theorem dX11_narrows_49 : decode cX11_narrows 49 = .ok (.iaload, 1) := by decide +kernel
theorem dX11_narrows_50 : decode cX11_narrows 50 = .ok (.iload_n 2, 1) := by decide +kernel
theorem dX11_narrows_51 : decode cX11_narrows 51 = .ok (.invokevirtual 198, 3) := by decide +kernel
theorem dX11_narrows_54 : decode cX11_narrows 54 = .ok (.ifCond .eq 7, 3) := by decide +kernel
theorem dX11_narrows_57 : decode cX11_narrows 57 = .ok (.iconst 1, 1) := by decide +kernel
theorem dX11_narrows_58 : decode cX11_narrows 58 = .ok (.goto 4, 3) := by decide +kernel
theorem dX11_narrows_61 : decode cX11_narrows 61 = .ok (.iconst 0, 1) := by decide +kernel
theorem dX11_narrows_62 : decode cX11_narrows 62 = .ok (.ireturn, 1) := by decide +kernel
theorem dX11_narrows_63 : decode cX11_narrows 63 = .ok (.aload_n 0, 1) := by decide +kernel
theorem dX11_narrows_64 : decode cX11_narrows 64 = .ok (.aload_n 0, 1) := by decide +kernel
theorem dX11_narrows_65 : decode cX11_narrows 65 = .ok (.getfield 201, 3) := by decide +kernel
theorem dX11_narrows_68 : decode cX11_narrows 68 = .ok (.ifCond .ne 15, 3) := by decide +kernel
theorem dX11_narrows_71 : decode cX11_narrows 71 = .ok (.aload_n 0, 1) := by decide +kernel
theorem dX11_narrows_72 : decode cX11_narrows 72 = .ok (.getfield 7, 3) := by decide +kernel
theorem dX11_narrows_75 : decode cX11_narrows 75 = .ok (.iconst 0, 1) := by decide +kernel
theorem dX11_narrows_76 : decode cX11_narrows 76 = .ok (.iload_n 1, 1) := by decide +kernel
theorem dX11_narrows_77 : decode cX11_narrows 77 = .ok (.iadd, 1) := by decide +kernel
theorem dX11_narrows_78 : decode cX11_narrows 78 = .ok (.iaload, 1) := by decide +kernel
theorem dX11_narrows_79 : decode cX11_narrows 79 = .ok (.iconst 3, 1) := by decide +kernel
theorem dX11_narrows_80 : decode cX11_narrows 80 = .ok (.if_icmp .ne 7, 3) := by decide +kernel
theorem dX11_narrows_83 : decode cX11_narrows 83 = .ok (.iconst 1, 1) := by decide +kernel
theorem dX11_narrows_84 : decode cX11_narrows 84 = .ok (.goto 4, 3) := by decide +kernel
theorem dX11_narrows_87 : decode cX11_narrows 87 = .ok (.iconst 0, 1) := by decide +kernel
theorem dX11_narrows_88 : decode cX11_narrows 88 = .ok (.putfield 201, 3) := by decide +kernel
theorem dX11_narrows_91 : decode cX11_narrows 91 = .ok (.iconst 0, 1) := by decide +kernel
theorem dX11_narrows_92 : decode cX11_narrows 92 = .ok (.istore_n 3, 1) := by decide +kernel
theorem dX11_narrows_93 : decode cX11_narrows 93 = .ok (.iload_n 3, 1) := by decide +kernel
theorem dX11_narrows_94 : decode cX11_narrows 94 = .ok (.aload_n 0, 1) := by decide +kernel
theorem dX11_narrows_95 : decode cX11_narrows 95 = .ok (.getfield 7, 3) := by decide +kernel
theorem dX11_narrows_98 : decode cX11_narrows 98 = .ok (.bipush 100, 2) := by decide +kernel
theorem dX11_narrows_100 : decode cX11_narrows 100 = .ok (.iload_n 1, 1) := by decide +kernel
theorem dX11_narrows_101 : decode cX11_narrows 101 = .ok (.iadd, 1) := by decide +kernel
theorem dX11_narrows_102 : decode cX11_narrows 102 = .ok (.iaload, 1) := by decide +kernel
theorem dX11_narrows_103 : decode cX11_narrows 103 = .ok (.if_icmp .ge 60, 3) := by decide +kernel
theorem dX11_narrows_106 : decode cX11_narrows 106 = .ok (.aload_n 0, 1) := by decide +kernel
theorem dX11_narrows_107 : decode cX11_narrows 107 = .ok (.getfield 7, 3) := by decide +kernel
theorem dX11_narrows_110 : decode cX11_narrows 110 = .ok (.sipush 400, 3) := by decide +kernel
theorem dX11_narrows_113 : decode cX11_narrows 113 = .ok (.bipush 18, 2) := by decide +kernel
theorem dX11_narrows_115 : decode cX11_narrows 115 = .ok (.iload_n 1, 1) := by decide +kernel
theorem dX11_narrows_116 : decode cX11_narrows 116 = .ok (.imul, 1) := by decide +kernel
theorem dX11_narrows_117 : decode cX11_narrows 117 = .ok (.iadd, 1) := by decide +kernel
theorem dX11_narrows_118 : decode cX11_narrows 118 = .ok (.iload_n 3, 1) := by decide +kernel
theorem dX11_narrows_119 : decode cX11_narrows 119 = .ok (.iadd, 1) := by decide +kernel
theorem dX11_narrows_120 : decode cX11_narrows 120 = .ok (.iaload, 1) := by decide +kernel
theorem dX11_narrows_121 : decode cX11_narrows 121 = .ok (.istore 4, 2) := by decide +kernel
theorem dX11_narrows_123 : decode cX11_narrows 123 = .ok (.iload 4, 2) := by decide +kernel
theorem dX11_narrows_125 : decode cX11_narrows 125 = .ok (.ifCond .eq 16, 3) := by decide +kernel
theorem dX11_narrows_128 : decode cX11_narrows 128 = .ok (.iload_n 3, 1) := by decide +kernel
theorem dX11_narrows_129 : decode cX11_narrows 129 = .ok (.iload_n 2, 1) := by decide +kernel
theorem dX11_narrows_130 : decode cX11_narrows 130 = .ok (.if_icmp .lt 11, 3) := by decide +kernel
theorem dX11_narrows_133 : decode cX11_narrows 133 = .ok (.aload_n 0, 1) := by decide +kernel
theorem dX11_narrows_134 : decode cX11_narrows 134 = .ok (.iconst 1, 1) := by decide +kernel
theorem dX11_narrows_135 : decode cX11_narrows 135 = .ok (.putfield 201, 3) := by decide +kernel
theorem dX11_narrows_138 : decode cX11_narrows 138 = .ok (.goto 19, 3) := by decide +kernel
theorem dX11_narrows_141 : decode cX11_narrows 141 = .ok (.iload 4, 2) := by decide +kernel
theorem dX11_narrows_143 : decode cX11_narrows 143 = .ok (.ifCond .eq 14, 3) := by decide +kernel
theorem dX11_narrows_146 : decode cX11_narrows 146 = .ok (.aload_n 0, 1) := by decide +kernel
theorem dX11_narrows_147 : decode cX11_narrows 147 = .ok (.getfield 41, 3) := by decide +kernel
theorem dX11_narrows_150 : decode cX11_narrows 150 = .ok (.iload_n 3, 1) := by decide +kernel
theorem dX11_narrows_151 : decode cX11_narrows 151 = .ok (.dup2, 1) := by decide +kernel
theorem dX11_narrows_152 : decode cX11_narrows 152 = .ok (.iaload, 1) := by decide +kernel
theorem dX11_narrows_153 : decode cX11_narrows 153 = .ok (.iload 4, 2) := by decide +kernel
theorem dX11_narrows_155 : decode cX11_narrows 155 = .ok (.iand, 1) := by decide +kernel
theorem dX11_narrows_156 : decode cX11_narrows 156 = .ok (.iastore, 1) := by decide +kernel
theorem dX11_narrows_157 : decode cX11_narrows 157 = .ok (.iinc 3 1, 3) := by decide +kernel
theorem dX11_narrows_160 : decode cX11_narrows 160 = .ok (.goto (-67), 3) := by decide +kernel
theorem dX11_narrows_163 : decode cX11_narrows 163 = .ok (.aload_n 0, 1) := by decide +kernel
theorem dX11_narrows_164 : decode cX11_narrows 164 = .ok (.getfield 7, 3) := by decide +kernel
theorem dX11_narrows_167 : decode cX11_narrows 167 = .ok (.bipush 100, 2) := by decide +kernel
theorem dX11_narrows_169 : decode cX11_narrows 169 = .ok (.iload_n 1, 1) := by decide +kernel
theorem dX11_narrows_170 : decode cX11_narrows 170 = .ok (.iadd, 1) := by decide +kernel
theorem dX11_narrows_171 : decode cX11_narrows 171 = .ok (.iaload, 1) := by decide +kernel
theorem dX11_narrows_172 : decode cX11_narrows 172 = .ok (.ifCond .lt 7, 3) := by decide +kernel
theorem dX11_narrows_175 : decode cX11_narrows 175 = .ok (.iconst 1, 1) := by decide +kernel
theorem dX11_narrows_176 : decode cX11_narrows 176 = .ok (.goto 4, 3) := by decide +kernel
theorem dX11_narrows_179 : decode cX11_narrows 179 = .ok (.iconst 0, 1) := by decide +kernel
theorem dX11_narrows_180 : decode cX11_narrows 180 = .ok (.ireturn, 1) := by decide +kernel
theorem dX11_count_0 : decode cX11_count 0 = .ok (.aload_n 0, 1) := by decide +kernel
theorem dX11_count_1 : decode cX11_count 1 = .ok (.iload_n 1, 1) := by decide +kernel
theorem dX11_count_2 : decode cX11_count 2 = .ok (.invokevirtual 138, 3) := by decide +kernel
theorem dX11_count_5 : decode cX11_count 5 = .ok (.ifCond .eq 27, 3) := by decide +kernel
theorem dX11_count_8 : decode cX11_count 8 = .ok (.iload_n 2, 1) := by decide +kernel
theorem dX11_count_9 : decode cX11_count 9 = .ok (.i2l, 1) := by decide +kernel
theorem dX11_count_10 : decode cX11_count 10 = .ok (.lconst 0, 1) := by decide +kernel
theorem dX11_count_11 : decode cX11_count 11 = .ok (.ldc2_w 204, 3) := by decide +kernel
theorem dX11_count_14 : decode cX11_count 14 = .ok (.invokestatic 67, 3) := by decide +kernel
theorem dX11_count_17 : decode cX11_count 17 = .ok (.ifCond .eq 15, 3) := by decide +kernel
theorem dX11_count_20 : decode cX11_count 20 = .ok (.iload_n 3, 1) := by decide +kernel
theorem dX11_count_21 : decode cX11_count 21 = .ok (.i2l, 1) := by decide +kernel
theorem dX11_count_22 : decode cX11_count 22 = .ok (.lconst 0, 1) := by decide +kernel
theorem dX11_count_23 : decode cX11_count 23 = .ok (.ldc2_w 91, 3) := by decide +kernel
theorem dX11_count_26 : decode cX11_count 26 = .ok (.invokestatic 67, 3) := by decide +kernel
theorem dX11_count_29 : decode cX11_count 29 = .ok (.ifCond .ne 7, 3) := by decide +kernel
theorem dX11_count_32 : decode cX11_count 32 = .ok (.ldc2_w 206, 3) := by decide +kernel
theorem dX11_count_35 : decode cX11_count 35 = .ok (.lreturn, 1) := by decide +kernel
theorem dX11_count_36 : decode cX11_count 36 = .ok (.iconst 0, 1) := by decide +kernel
theorem dX11_count_37 : decode cX11_count 37 = .ok (.istore 4, 2) := by decide +kernel
theorem dX11_count_39 : decode cX11_count 39 = .ok (.iload 4, 2) := by decide +kernel
theorem dX11_count_41 : decode cX11_count 41 = .ok (.bipush 18, 2) := by decide +kernel
theorem dX11_count_43 : decode cX11_count 43 = .ok (.if_icmp .ge 19, 3) := by decide +kernel
theorem dX11_count_46 : decode cX11_count 46 = .ok (.aload_n 0, 1) := by decide +kernel
theorem dX11_count_47 : decode cX11_count 47 = .ok (.getfield 41, 3) := by decide +kernel
theorem dX11_count_50 : decode cX11_count 50 = .ok (.iload 4, 2) := by decide +kernel
theorem dX11_count_52 : decode cX11_count 52 = .ok (.sipush 1023, 3) := by decide +kernel
theorem dX11_count_55 : decode cX11_count 55 = .ok (.iastore, 1) := by decide +kernel
theorem dX11_count_56 : decode cX11_count 56 = .ok (.iinc 4 1, 3) := by decide +kernel
theorem dX11_count_59 : decode cX11_count 59 = .ok (.goto (-20), 3) := by decide +kernel
theorem dX11_count_62 : decode cX11_count 62 = .ok (.aload_n 0, 1) := by decide +kernel
theorem dX11_count_63 : decode cX11_count 63 = .ok (.iconst 0, 1) := by decide +kernel
theorem dX11_count_64 : decode cX11_count 64 = .ok (.putfield 201, 3) := by decide +kernel
theorem dX11_count_67 : decode cX11_count 67 = .ok (.aload_n 0, 1) := by decide +kernel
theorem dX11_count_68 : decode cX11_count 68 = .ok (.aload_n 0, 1) := by decide +kernel
theorem dX11_count_69 : decode cX11_count 69 = .ok (.getfield 7, 3) := by decide +kernel
theorem dX11_count_72 : decode cX11_count 72 = .ok (.sipush 4464, 3) := by decide +kernel
theorem dX11_count_75 : decode cX11_count 75 = .ok (.iload_n 1, 1) := by decide +kernel
theorem dX11_count_76 : decode cX11_count 76 = .ok (.iadd, 1) := by decide +kernel
theorem dX11_count_77 : decode cX11_count 77 = .ok (.iaload, 1) := by decide +kernel
theorem dX11_count_78 : decode cX11_count 78 = .ok (.iload_n 2, 1) := by decide +kernel
theorem dX11_count_79 : decode cX11_count 79 = .ok (.invokevirtual 198, 3) := by decide +kernel
theorem dX11_count_82 : decode cX11_count 82 = .ok (.ifCond .ne 10, 3) := by decide +kernel
theorem dX11_count_85 : decode cX11_count 85 = .ok (.aload_n 0, 1) := by decide +kernel
theorem dX11_count_86 : decode cX11_count 86 = .ok (.iconst 1, 1) := by decide +kernel
theorem dX11_count_87 : decode cX11_count 87 = .ok (.invokevirtual 80, 3) := by decide +kernel
theorem dX11_count_90 : decode cX11_count 90 = .ok (.i2l, 1) := by decide +kernel
theorem dX11_count_91 : decode cX11_count 91 = .ok (.lreturn, 1) := by decide +kernel
theorem dX11_count_92 : decode cX11_count 92 = .ok (.aload_n 0, 1) := by decide +kernel
theorem dX11_count_93 : decode cX11_count 93 = .ok (.iconst 0, 1) := by decide +kernel
theorem dX11_count_94 : decode cX11_count 94 = .ok (.putfield 57, 3) := by decide +kernel
theorem dX11_count_97 : decode cX11_count 97 = .ok (.aload_n 0, 1) := by decide +kernel
theorem dX11_count_98 : decode cX11_count 98 = .ok (.getfield 201, 3) := by decide +kernel
theorem dX11_count_101 : decode cX11_count 101 = .ok (.ifCond .ne 7, 3) := by decide +kernel
theorem dX11_count_104 : decode cX11_count 104 = .ok (.iload_n 2, 1) := by decide +kernel
theorem dX11_count_105 : decode cX11_count 105 = .ok (.ifCond .ne 16, 3) := by decide +kernel
theorem dX11_count_108 : decode cX11_count 108 = .ok (.aload_n 0, 1) := by decide +kernel
theorem dX11_count_109 : decode cX11_count 109 = .ok (.getfield 201, 3) := by decide +kernel
theorem dX11_count_112 : decode cX11_count 112 = .ok (.ifCond .eq 7, 3) := by decide +kernel
theorem dX11_count_115 : decode cX11_count 115 = .ok (.lconst 0, 1) := by decide +kernel
theorem dX11_count_116 : decode cX11_count 116 = .ok (.goto 4, 3) := by decide +kernel
theorem dX11_count_119 : decode cX11_count 119 = .ok (.lconst 1, 1) := by decide +kernel
theorem dX11_count_120 : decode cX11_count 120 = .ok (.lreturn, 1) := by decide +kernel
theorem dX11_count_121 : decode cX11_count 121 = .ok (.iconst 0, 1) := by decide +kernel
theorem dX11_count_122 : decode cX11_count 122 = .ok (.istore 4, 2) := by decide +kernel
theorem dX11_count_124 : decode cX11_count 124 = .ok (.iload 4, 2) := by decide +kernel
theorem dX11_count_126 : decode cX11_count 126 = .ok (.bipush 10, 2) := by decide +kernel
theorem dX11_count_128 : decode cX11_count 128 = .ok (.if_icmp .ge 28, 3) := by decide +kernel
theorem dX11_count_131 : decode cX11_count 131 = .ok (.aload_n 0, 1) := by decide +kernel
theorem dX11_count_132 : decode cX11_count 132 = .ok (.getfield 44, 3) := by decide +kernel
theorem dX11_count_135 : decode cX11_count 135 = .ok (.iload 4, 2) := by decide +kernel
theorem dX11_count_137 : decode cX11_count 137 = .ok (.aload_n 0, 1) := by decide +kernel
theorem dX11_count_138 : decode cX11_count 138 = .ok (.getfield 41, 3) := by decide +kernel
theorem dX11_count_141 : decode cX11_count 141 = .ok (.iconst 0, 1) := by decide +kernel
theorem dX11_count_142 : decode cX11_count 142 = .ok (.iaload, 1) := by decide +kernel
theorem dX11_count_143 : decode cX11_count 143 = .ok (.iload 4, 2) := by decide +kernel
theorem dX11_count_145 : decode cX11_count 145 = .ok (.ishr, 1) := by decide +kernel
theorem dX11_count_146 : decode cX11_count 146 = .ok (.iconst 1, 1) := by decide +kernel
theorem dX11_count_147 : decode cX11_count 147 = .ok (.iand, 1) := by decide +kernel
theorem dX11_count_148 : decode cX11_count 148 = .ok (.i2l, 1) := by decide +kernel
theorem dX11_count_149 : decode cX11_count 149 = .ok (.lastore, 1) := by decide +kernel
theorem dX11_count_150 : decode cX11_count 150 = .ok (.iinc 4 1, 3) := by decide +kernel
theorem dX11_count_153 : decode cX11_count 153 = .ok (.goto (-29), 3) := by decide +kernel
theorem dX11_count_156 : decode cX11_count 156 = .ok (.iconst 1, 1) := by decide +kernel
theorem dX11_count_157 : decode cX11_count 157 = .ok (.istore 4, 2) := by decide +kernel
theorem dX11_count_159 : decode cX11_count 159 = .ok (.iload 4, 2) := by decide +kernel
theorem dX11_count_161 : decode cX11_count 161 = .ok (.iload_n 2, 1) := by decide +kernel
theorem dX11_count_162 : decode cX11_count 162 = .ok (.if_icmp .ge 133, 3) := by decide +kernel
theorem dX11_count_165 : decode cX11_count 165 = .ok (.iconst 0, 1) := by decide +kernel
theorem dX11_count_166 : decode cX11_count 166 = .ok (.istore 5, 2) := by decide +kernel
theorem dX11_count_168 : decode cX11_count 168 = .ok (.iload 5, 2) := by decide +kernel
theorem dX11_count_170 : decode cX11_count 170 = .ok (.bipush 10, 2) := by decide +kernel
theorem dX11_count_172 : decode cX11_count 172 = .ok (.if_icmp .ge 87, 3) := by decide +kernel
theorem dX11_count_175 : decode cX11_count 175 = .ok (.aload_n 0, 1) := by decide +kernel
theorem dX11_count_176 : decode cX11_count 176 = .ok (.getfield 48, 3) := by decide +kernel
theorem dX11_count_179 : decode cX11_count 179 = .ok (.iload 5, 2) := by decide +kernel
theorem dX11_count_181 : decode cX11_count 181 = .ok (.lconst 0, 1) := by decide +kernel
theorem dX11_count_182 : decode cX11_count 182 = .ok (.lastore, 1) := by decide +kernel
theorem dX11_count_183 : decode cX11_count 183 = .ok (.iconst 0, 1) := by decide +kernel
theorem dX11_count_184 : decode cX11_count 184 = .ok (.istore 6, 2) := by decide +kernel
theorem dX11_count_186 : decode cX11_count 186 = .ok (.iload 6, 2) := by decide +kernel
theorem dX11_count_188 : decode cX11_count 188 = .ok (.bipush 10, 2) := by decide +kernel
theorem dX11_count_190 : decode cX11_count 190 = .ok (.if_icmp .ge 63, 3) := by decide +kernel
theorem dX11_count_193 : decode cX11_count 193 = .ok (.aload_n 0, 1) := by decide +kernel
theorem dX11_count_194 : decode cX11_count 194 = .ok (.getfield 48, 3) := by decide +kernel
theorem dX11_count_197 : decode cX11_count 197 = .ok (.iload 5, 2) := by decide +kernel
theorem dX11_count_199 : decode cX11_count 199 = .ok (.dup2, 1) := by decide +kernel
theorem dX11_count_200 : decode cX11_count 200 = .ok (.laload, 1) := by decide +kernel
theorem dX11_count_201 : decode cX11_count 201 = .ok (.iload 5, 2) := by decide +kernel
theorem dX11_count_203 : decode cX11_count 203 = .ok (.iload 6, 2) := by decide +kernel
theorem dX11_count_205 : decode cX11_count 205 = .ok (.isub, 1) := by decide +kernel
theorem dX11_count_206 : decode cX11_count 206 = .ok (.i2l, 1) := by decide +kernel
theorem dX11_count_207 : decode cX11_count 207 = .ok (.iload_n 3, 1) := by decide +kernel
theorem dX11_count_208 : decode cX11_count 208 = .ok (.ineg, 1) := by decide +kernel
theorem dX11_count_209 : decode cX11_count 209 = .ok (.i2l, 1) := by decide +kernel
theorem dX11_count_210 : decode cX11_count 210 = .ok (.iload_n 3, 1) := by decide +kernel
theorem dX11_count_211 : decode cX11_count 211 = .ok (.i2l, 1) := by decide +kernel
theorem dX11_count_212 : decode cX11_count 212 = .ok (.invokestatic 67, 3) := by decide +kernel
theorem dX11_count_215 : decode cX11_count 215 = .ok (.ifCond .eq 29, 3) := by decide +kernel
theorem dX11_count_218 : decode cX11_count 218 = .ok (.aload_n 0, 1) := by decide +kernel
theorem dX11_count_219 : decode cX11_count 219 = .ok (.getfield 41, 3) := by decide +kernel
theorem dX11_count_222 : decode cX11_count 222 = .ok (.iload 4, 2) := by decide +kernel
theorem dX11_count_224 : decode cX11_count 224 = .ok (.iaload, 1) := by decide +kernel
theorem dX11_count_225 : decode cX11_count 225 = .ok (.iload 5, 2) := by decide +kernel
theorem dX11_count_227 : decode cX11_count 227 = .ok (.ishr, 1) := by decide +kernel
theorem dX11_count_228 : decode cX11_count 228 = .ok (.iconst 1, 1) := by decide +kernel
theorem dX11_count_229 : decode cX11_count 229 = .ok (.iand, 1) := by decide +kernel
theorem dX11_count_230 : decode cX11_count 230 = .ok (.iconst 1, 1) := by decide +kernel
theorem dX11_count_231 : decode cX11_count 231 = .ok (.if_icmp .ne 13, 3) := by decide +kernel
theorem dX11_count_234 : decode cX11_count 234 = .ok (.aload_n 0, 1) := by decide +kernel
theorem dX11_count_235 : decode cX11_count 235 = .ok (.getfield 44, 3) := by decide +kernel
theorem dX11_count_238 : decode cX11_count 238 = .ok (.iload 6, 2) := by decide +kernel
theorem dX11_count_240 : decode cX11_count 240 = .ok (.laload, 1) := by decide +kernel
theorem dX11_count_241 : decode cX11_count 241 = .ok (.goto 4, 3) := by decide +kernel
theorem dX11_count_244 : decode cX11_count 244 = .ok (.lconst 0, 1) := by decide +kernel
theorem dX11_count_245 : decode cX11_count 245 = .ok (.ladd, 1) := by decide +kernel
theorem dX11_count_246 : decode cX11_count 246 = .ok (.lastore, 1) := by decide +kernel
theorem dX11_count_247 : decode cX11_count 247 = .ok (.iinc 6 1, 3) := by decide +kernel
theorem dX11_count_250 : decode cX11_count 250 = .ok (.goto (-64), 3) := by decide +kernel
theorem dX11_count_253 : decode cX11_count 253 = .ok (.iinc 5 1, 3) := by decide +kernel
theorem dX11_count_256 : decode cX11_count 256 = .ok (.goto (-88), 3) := by decide +kernel
theorem dX11_count_259 : decode cX11_count 259 = .ok (.iconst 0, 1) := by decide +kernel
theorem dX11_count_260 : decode cX11_count 260 = .ok (.istore 5, 2) := by decide +kernel
theorem dX11_count_262 : decode cX11_count 262 = .ok (.iload 5, 2) := by decide +kernel
theorem dX11_count_264 : decode cX11_count 264 = .ok (.bipush 10, 2) := by decide +kernel
theorem dX11_count_266 : decode cX11_count 266 = .ok (.if_icmp .ge 23, 3) := by decide +kernel
theorem dX11_count_269 : decode cX11_count 269 = .ok (.aload_n 0, 1) := by decide +kernel
theorem dX11_count_270 : decode cX11_count 270 = .ok (.getfield 44, 3) := by decide +kernel
theorem dX11_count_273 : decode cX11_count 273 = .ok (.iload 5, 2) := by decide +kernel
theorem dX11_count_275 : decode cX11_count 275 = .ok (.aload_n 0, 1) := by decide +kernel
theorem dX11_count_276 : decode cX11_count 276 = .ok (.getfield 48, 3) := by decide +kernel
theorem dX11_count_279 : decode cX11_count 279 = .ok (.iload 5, 2) := by decide +kernel
theorem dX11_count_281 : decode cX11_count 281 = .ok (.laload, 1) := by decide +kernel
theorem dX11_count_282 : decode cX11_count 282 = .ok (.lastore, 1) := by decide +kernel
theorem dX11_count_283 : decode cX11_count 283 = .ok (.iinc 5 1, 3) := by decide +kernel
theorem dX11_count_286 : decode cX11_count 286 = .ok (.goto (-24), 3) := by decide +kernel
theorem dX11_count_289 : decode cX11_count 289 = .ok (.iinc 4 1, 3) := by decide +kernel
theorem dX11_count_292 : decode cX11_count 292 = .ok (.goto (-133), 3) := by decide +kernel
theorem dX11_count_295 : decode cX11_count 295 = .ok (.lconst 0, 1) := by decide +kernel
theorem dX11_count_296 : decode cX11_count 296 = .ok (.lstore 4, 2) := by decide +kernel
theorem dX11_count_298 : decode cX11_count 298 = .ok (.iconst 0, 1) := by decide +kernel
theorem dX11_count_299 : decode cX11_count 299 = .ok (.istore 6, 2) := by decide +kernel
theorem dX11_count_301 : decode cX11_count 301 = .ok (.iload 6, 2) := by decide +kernel
theorem dX11_count_303 : decode cX11_count 303 = .ok (.bipush 10, 2) := by decide +kernel
theorem dX11_count_305 : decode cX11_count 305 = .ok (.if_icmp .ge 21, 3) := by decide +kernel
theorem dX11_count_308 : decode cX11_count 308 = .ok (.lload 4, 2) := by decide +kernel
theorem dX11_count_310 : decode cX11_count 310 = .ok (.aload_n 0, 1) := by decide +kernel
theorem dX11_count_311 : decode cX11_count 311 = .ok (.getfield 44, 3) := by decide +kernel
theorem dX11_count_314 : decode cX11_count 314 = .ok (.iload 6, 2) := by decide +kernel
theorem dX11_count_316 : decode cX11_count 316 = .ok (.laload, 1) := by decide +kernel
theorem dX11_count_317 : decode cX11_count 317 = .ok (.ladd, 1) := by decide +kernel
theorem dX11_count_318 : decode cX11_count 318 = .ok (.lstore 4, 2) := by decide +kernel
theorem dX11_count_320 : decode cX11_count 320 = .ok (.iinc 6 1, 3) := by decide +kernel
theorem dX11_count_323 : decode cX11_count 323 = .ok (.goto (-22), 3) := by decide +kernel
theorem dX11_count_326 : decode cX11_count 326 = .ok (.lload 4, 2) := by decide +kernel
theorem dX11_count_328 : decode cX11_count 328 = .ok (.lreturn, 1) := by decide +kernel
theorem dX11_opened_0 : decode cX11_opened 0 = .ok (.iconst 0, 1) := by decide +kernel
theorem dX11_opened_1 : decode cX11_opened 1 = .ok (.istore_n 2, 1) := by decide +kernel
theorem dX11_opened_2 : decode cX11_opened 2 = .ok (.iconst 0, 1) := by decide +kernel
theorem dX11_opened_3 : decode cX11_opened 3 = .ok (.istore_n 3, 1) := by decide +kernel
theorem dX11_opened_4 : decode cX11_opened 4 = .ok (.iload_n 3, 1) := by decide +kernel
theorem dX11_opened_5 : decode cX11_opened 5 = .ok (.bipush 31, 2) := by decide +kernel
theorem dX11_opened_7 : decode cX11_opened 7 = .ok (.if_icmp .ge 40, 3) := by decide +kernel
theorem dX11_opened_10 : decode cX11_opened 10 = .ok (.iload_n 3, 1) := by decide +kernel
theorem dX11_opened_11 : decode cX11_opened 11 = .ok (.aload_n 0, 1) := by decide +kernel
theorem dX11_opened_12 : decode cX11_opened 12 = .ok (.getfield 7, 3) := by decide +kernel
theorem dX11_opened_15 : decode cX11_opened 15 = .ok (.sipush 8525, 3) := by decide +kernel
theorem dX11_opened_18 : decode cX11_opened 18 = .ok (.iaload, 1) := by decide +kernel
theorem dX11_opened_19 : decode cX11_opened 19 = .ok (.if_icmp .ge 28, 3) := by decide +kernel
theorem dX11_opened_22 : decode cX11_opened 22 = .ok (.iload_n 2, 1) := by decide +kernel
theorem dX11_opened_23 : decode cX11_opened 23 = .ok (.aload_n 0, 1) := by decide +kernel
theorem dX11_opened_24 : decode cX11_opened 24 = .ok (.iload_n 1, 1) := by decide +kernel
theorem dX11_opened_25 : decode cX11_opened 25 = .ok (.iload_n 3, 1) := by decide +kernel
theorem dX11_opened_26 : decode cX11_opened 26 = .ok (.invokevirtual 167, 3) := by decide +kernel
theorem dX11_opened_29 : decode cX11_opened 29 = .ok (.ifCond .eq 9, 3) := by decide +kernel
theorem dX11_opened_32 : decode cX11_opened 32 = .ok (.iconst 1, 1) := by decide +kernel
theorem dX11_opened_33 : decode cX11_opened 33 = .ok (.iload_n 3, 1) := by decide +kernel
theorem dX11_opened_34 : decode cX11_opened 34 = .ok (.ishl, 1) := by decide +kernel
theorem dX11_opened_35 : decode cX11_opened 35 = .ok (.goto 4, 3) := by decide +kernel
theorem dX11_opened_38 : decode cX11_opened 38 = .ok (.iconst 0, 1) := by decide +kernel
theorem dX11_opened_39 : decode cX11_opened 39 = .ok (.ior, 1) := by decide +kernel
theorem dX11_opened_40 : decode cX11_opened 40 = .ok (.istore_n 2, 1) := by decide +kernel
theorem dX11_opened_41 : decode cX11_opened 41 = .ok (.iinc 3 1, 3) := by decide +kernel
theorem dX11_opened_44 : decode cX11_opened 44 = .ok (.goto (-40), 3) := by decide +kernel
theorem dX11_opened_47 : decode cX11_opened 47 = .ok (.iload_n 2, 1) := by decide +kernel
theorem dX11_opened_48 : decode cX11_opened 48 = .ok (.ireturn, 1) := by decide +kernel
theorem dX11_areDoors_0 : decode cX11_areDoors 0 = .ok (.iload_n 1, 1) := by decide +kernel
theorem dX11_areDoors_1 : decode cX11_areDoors 1 = .ok (.ifCond .lt 33, 3) := by decide +kernel
theorem dX11_areDoors_4 : decode cX11_areDoors 4 = .ok (.aload_n 0, 1) := by decide +kernel
theorem dX11_areDoors_5 : decode cX11_areDoors 5 = .ok (.getfield 7, 3) := by decide +kernel
theorem dX11_areDoors_8 : decode cX11_areDoors 8 = .ok (.sipush 8525, 3) := by decide +kernel
theorem dX11_areDoors_11 : decode cX11_areDoors 11 = .ok (.iaload, 1) := by decide +kernel
theorem dX11_areDoors_12 : decode cX11_areDoors 12 = .ok (.bipush 31, 2) := by decide +kernel
theorem dX11_areDoors_14 : decode cX11_areDoors 14 = .ok (.if_icmp .ge 16, 3) := by decide +kernel
theorem dX11_areDoors_17 : decode cX11_areDoors 17 = .ok (.iload_n 1, 1) := by decide +kernel
theorem dX11_areDoors_18 : decode cX11_areDoors 18 = .ok (.aload_n 0, 1) := by decide +kernel
theorem dX11_areDoors_19 : decode cX11_areDoors 19 = .ok (.getfield 7, 3) := by decide +kernel
theorem dX11_areDoors_22 : decode cX11_areDoors 22 = .ok (.sipush 8525, 3) := by decide +kernel
theorem dX11_areDoors_25 : decode cX11_areDoors 25 = .ok (.iaload, 1) := by decide +kernel
theorem dX11_areDoors_26 : decode cX11_areDoors 26 = .ok (.ishr, 1) := by decide +kernel
theorem dX11_areDoors_27 : decode cX11_areDoors 27 = .ok (.ifCond .ne 7, 3) := by decide +kernel
theorem dX11_areDoors_30 : decode cX11_areDoors 30 = .ok (.iconst 1, 1) := by decide +kernel
theorem dX11_areDoors_31 : decode cX11_areDoors 31 = .ok (.goto 4, 3) := by decide +kernel
theorem dX11_areDoors_34 : decode cX11_areDoors 34 = .ok (.iconst 0, 1) := by decide +kernel
theorem dX11_areDoors_35 : decode cX11_areDoors 35 = .ok (.ireturn, 1) := by decide +kernel
theorem dX11_first_0 : decode cX11_first 0 = .ok (.aload_n 0, 1) := by decide +kernel
theorem dX11_first_1 : decode cX11_first 1 = .ok (.getfield 7, 3) := by decide +kernel
theorem dX11_first_4 : decode cX11_first 4 = .ok (.sipush 8523, 3) := by decide +kernel
theorem dX11_first_7 : decode cX11_first 7 = .ok (.iaload, 1) := by decide +kernel
theorem dX11_first_8 : decode cX11_first 8 = .ok (.bipush 14, 2) := by decide +kernel
theorem dX11_first_10 : decode cX11_first 10 = .ok (.if_icmp .ge 14, 3) := by decide +kernel
theorem dX11_first_13 : decode cX11_first 13 = .ok (.aload_n 0, 1) := by decide +kernel
theorem dX11_first_14 : decode cX11_first 14 = .ok (.getfield 7, 3) := by decide +kernel
theorem dX11_first_17 : decode cX11_first 17 = .ok (.sipush 8523, 3) := by decide +kernel
theorem dX11_first_20 : decode cX11_first 20 = .ok (.iaload, 1) := by decide +kernel
theorem dX11_first_21 : decode cX11_first 21 = .ok (.goto 5, 3) := by decide +kernel
theorem dX11_first_24 : decode cX11_first 24 = .ok (.bipush 14, 2) := by decide +kernel
theorem dX11_first_26 : decode cX11_first 26 = .ok (.istore_n 2, 1) := by decide +kernel
theorem dX11_first_27 : decode cX11_first 27 = .ok (.iconst 0, 1) := by decide +kernel
theorem dX11_first_28 : decode cX11_first 28 = .ok (.istore_n 3, 1) := by decide +kernel
theorem dX11_first_29 : decode cX11_first 29 = .ok (.iload_n 3, 1) := by decide +kernel
theorem dX11_first_30 : decode cX11_first 30 = .ok (.iload_n 2, 1) := by decide +kernel
theorem dX11_first_31 : decode cX11_first 31 = .ok (.if_icmp .ge 22, 3) := by decide +kernel
theorem dX11_first_34 : decode cX11_first 34 = .ok (.aload_n 0, 1) := by decide +kernel
theorem dX11_first_35 : decode cX11_first 35 = .ok (.getfield 51, 3) := by decide +kernel
theorem dX11_first_38 : decode cX11_first 38 = .ok (.iload_n 3, 1) := by decide +kernel
theorem dX11_first_39 : decode cX11_first 39 = .ok (.aload_n 0, 1) := by decide +kernel
theorem dX11_first_40 : decode cX11_first 40 = .ok (.iload_n 3, 1) := by decide +kernel
theorem dX11_first_41 : decode cX11_first 41 = .ok (.invokevirtual 208, 3) := by decide +kernel
theorem dX11_first_44 : decode cX11_first 44 = .ok (.iload_n 1, 1) := by decide +kernel
theorem dX11_first_45 : decode cX11_first 45 = .ok (.iand, 1) := by decide +kernel
theorem dX11_first_46 : decode cX11_first 46 = .ok (.iastore, 1) := by decide +kernel
theorem dX11_first_47 : decode cX11_first 47 = .ok (.iinc 3 1, 3) := by decide +kernel
theorem dX11_first_50 : decode cX11_first 50 = .ok (.goto (-21), 3) := by decide +kernel
theorem dX11_first_53 : decode cX11_first 53 = .ok (.iload_n 2, 1) := by decide +kernel
theorem dX11_first_54 : decode cX11_first 54 = .ok (.ireturn, 1) := by decide +kernel
theorem dX11_carry_0 : decode cX11_carry 0 = .ok (.aload_n 0, 1) := by decide +kernel
theorem dX11_carry_1 : decode cX11_carry 1 = .ok (.iload_n 1, 1) := by decide +kernel
theorem dX11_carry_2 : decode cX11_carry 2 = .ok (.invokevirtual 211, 3) := by decide +kernel
theorem dX11_carry_5 : decode cX11_carry 5 = .ok (.ifCond .ne 6, 3) := by decide +kernel
theorem dX11_carry_8 : decode cX11_carry 8 = .ok (.bipush (-2), 2) := by decide +kernel
theorem dX11_carry_10 : decode cX11_carry 10 = .ok (.ireturn, 1) := by decide +kernel
theorem dX11_carry_11 : decode cX11_carry 11 = .ok (.aload_n 0, 1) := by decide +kernel
theorem dX11_carry_12 : decode cX11_carry 12 = .ok (.iload_n 1, 1) := by decide +kernel
theorem dX11_carry_13 : decode cX11_carry 13 = .ok (.invokevirtual 214, 3) := by decide +kernel
theorem dX11_carry_16 : decode cX11_carry 16 = .ok (.istore_n 2, 1) := by decide +kernel
theorem dX11_carry_17 : decode cX11_carry 17 = .ok (.iconst 1, 1) := by decide +kernel
theorem dX11_carry_18 : decode cX11_carry 18 = .ok (.iload_n 2, 1) := by decide +kernel
theorem dX11_carry_19 : decode cX11_carry 19 = .ok (.ishl, 1) := by decide +kernel
theorem dX11_carry_20 : decode cX11_carry 20 = .ok (.iconst 1, 1) := by decide +kernel
theorem dX11_carry_21 : decode cX11_carry 21 = .ok (.isub, 1) := by decide +kernel
theorem dX11_carry_22 : decode cX11_carry 22 = .ok (.istore_n 3, 1) := by decide +kernel
theorem dX11_carry_23 : decode cX11_carry 23 = .ok (.iconst 0, 1) := by decide +kernel
theorem dX11_carry_24 : decode cX11_carry 24 = .ok (.istore 4, 2) := by decide +kernel
theorem dX11_carry_26 : decode cX11_carry 26 = .ok (.iconst 0, 1) := by decide +kernel
theorem dX11_carry_27 : decode cX11_carry 27 = .ok (.istore 5, 2) := by decide +kernel
theorem dX11_carry_29 : decode cX11_carry 29 = .ok (.iload 5, 2) := by decide +kernel
theorem dX11_carry_31 : decode cX11_carry 31 = .ok (.iload_n 2, 1) := by decide +kernel
theorem dX11_carry_32 : decode cX11_carry 32 = .ok (.if_icmp .ge 21, 3) := by decide +kernel
theorem dX11_carry_35 : decode cX11_carry 35 = .ok (.iload 4, 2) := by decide +kernel
theorem dX11_carry_37 : decode cX11_carry 37 = .ok (.aload_n 0, 1) := by decide +kernel
theorem dX11_carry_38 : decode cX11_carry 38 = .ok (.getfield 51, 3) := by decide +kernel
theorem dX11_carry_41 : decode cX11_carry 41 = .ok (.iload 5, 2) := by decide +kernel
theorem dX11_carry_43 : decode cX11_carry 43 = .ok (.iaload, 1) := by decide +kernel
theorem dX11_carry_44 : decode cX11_carry 44 = .ok (.ior, 1) := by decide +kernel
theorem dX11_carry_45 : decode cX11_carry 45 = .ok (.istore 4, 2) := by decide +kernel
theorem dX11_carry_47 : decode cX11_carry 47 = .ok (.iinc 5 1, 3) := by decide +kernel
theorem dX11_carry_50 : decode cX11_carry 50 = .ok (.goto (-21), 3) := by decide +kernel
theorem dX11_carry_53 : decode cX11_carry 53 = .ok (.aload_n 0, 1) := by decide +kernel
theorem dX11_carry_54 : decode cX11_carry 54 = .ok (.getfield 54, 3) := by decide +kernel
theorem dX11_carry_57 : decode cX11_carry 57 = .ok (.iconst 0, 1) := by decide +kernel
theorem dX11_carry_58 : decode cX11_carry 58 = .ok (.iconst 0, 1) := by decide +kernel
theorem dX11_carry_59 : decode cX11_carry 59 = .ok (.iastore, 1) := by decide +kernel
theorem dX11_carry_60 : decode cX11_carry 60 = .ok (.iconst 0, 1) := by decide +kernel
theorem dX11_carry_61 : decode cX11_carry 61 = .ok (.istore 5, 2) := by decide +kernel
theorem dX11_carry_63 : decode cX11_carry 63 = .ok (.iload 5, 2) := by decide +kernel
theorem dX11_carry_65 : decode cX11_carry 65 = .ok (.iconst 1, 1) := by decide +kernel
theorem dX11_carry_66 : decode cX11_carry 66 = .ok (.iload_n 2, 1) := by decide +kernel
theorem dX11_carry_67 : decode cX11_carry 67 = .ok (.ishl, 1) := by decide +kernel
theorem dX11_carry_68 : decode cX11_carry 68 = .ok (.if_icmp .ge 100, 3) := by decide +kernel
theorem dX11_carry_71 : decode cX11_carry 71 = .ok (.iconst 0, 1) := by decide +kernel
theorem dX11_carry_72 : decode cX11_carry 72 = .ok (.istore 6, 2) := by decide +kernel
theorem dX11_carry_74 : decode cX11_carry 74 = .ok (.iload 5, 2) := by decide +kernel
theorem dX11_carry_76 : decode cX11_carry 76 = .ok (.ifCond .le 19, 3) := by decide +kernel
theorem dX11_carry_79 : decode cX11_carry 79 = .ok (.iload 5, 2) := by decide +kernel
theorem dX11_carry_81 : decode cX11_carry 81 = .ok (.iload 6, 2) := by decide +kernel
theorem dX11_carry_83 : decode cX11_carry 83 = .ok (.ishr, 1) := by decide +kernel
theorem dX11_carry_84 : decode cX11_carry 84 = .ok (.iconst 1, 1) := by decide +kernel
theorem dX11_carry_85 : decode cX11_carry 85 = .ok (.iand, 1) := by decide +kernel
theorem dX11_carry_86 : decode cX11_carry 86 = .ok (.ifCond .ne 9, 3) := by decide +kernel
theorem dX11_carry_89 : decode cX11_carry 89 = .ok (.iinc 6 1, 3) := by decide +kernel
theorem dX11_carry_92 : decode cX11_carry 92 = .ok (.goto (-18), 3) := by decide +kernel
theorem dX11_carry_95 : decode cX11_carry 95 = .ok (.aload_n 0, 1) := by decide +kernel
theorem dX11_carry_96 : decode cX11_carry 96 = .ok (.getfield 54, 3) := by decide +kernel
theorem dX11_carry_99 : decode cX11_carry 99 = .ok (.iload 5, 2) := by decide +kernel
theorem dX11_carry_101 : decode cX11_carry 101 = .ok (.iload 5, 2) := by decide +kernel
theorem dX11_carry_103 : decode cX11_carry 103 = .ok (.ifCond .ne 7, 3) := by decide +kernel
theorem dX11_carry_106 : decode cX11_carry 106 = .ok (.iconst 0, 1) := by decide +kernel
theorem dX11_carry_107 : decode cX11_carry 107 = .ok (.goto 23, 3) := by decide +kernel
theorem dX11_carry_110 : decode cX11_carry 110 = .ok (.aload_n 0, 1) := by decide +kernel
theorem dX11_carry_111 : decode cX11_carry 111 = .ok (.getfield 54, 3) := by decide +kernel
theorem dX11_carry_114 : decode cX11_carry 114 = .ok (.iload 5, 2) := by decide +kernel
theorem dX11_carry_116 : decode cX11_carry 116 = .ok (.iload 5, 2) := by decide +kernel
theorem dX11_carry_118 : decode cX11_carry 118 = .ok (.iconst 1, 1) := by decide +kernel
theorem dX11_carry_119 : decode cX11_carry 119 = .ok (.isub, 1) := by decide +kernel
theorem dX11_carry_120 : decode cX11_carry 120 = .ok (.iand, 1) := by decide +kernel
theorem dX11_carry_121 : decode cX11_carry 121 = .ok (.iaload, 1) := by decide +kernel
theorem dX11_carry_122 : decode cX11_carry 122 = .ok (.aload_n 0, 1) := by decide +kernel
theorem dX11_carry_123 : decode cX11_carry 123 = .ok (.getfield 51, 3) := by decide +kernel
theorem dX11_carry_126 : decode cX11_carry 126 = .ok (.iload 6, 2) := by decide +kernel
theorem dX11_carry_128 : decode cX11_carry 128 = .ok (.iaload, 1) := by decide +kernel
theorem dX11_carry_129 : decode cX11_carry 129 = .ok (.ior, 1) := by decide +kernel
theorem dX11_carry_130 : decode cX11_carry 130 = .ok (.iastore, 1) := by decide +kernel
theorem dX11_carry_131 : decode cX11_carry 131 = .ok (.aload_n 0, 1) := by decide +kernel
theorem dX11_carry_132 : decode cX11_carry 132 = .ok (.getfield 54, 3) := by decide +kernel
theorem dX11_carry_135 : decode cX11_carry 135 = .ok (.iload 5, 2) := by decide +kernel
theorem dX11_carry_137 : decode cX11_carry 137 = .ok (.iaload, 1) := by decide +kernel
theorem dX11_carry_138 : decode cX11_carry 138 = .ok (.iload 4, 2) := by decide +kernel
theorem dX11_carry_140 : decode cX11_carry 140 = .ok (.if_icmp .ne 20, 3) := by decide +kernel
theorem dX11_carry_143 : decode cX11_carry 143 = .ok (.iload 5, 2) := by decide +kernel
theorem dX11_carry_145 : decode cX11_carry 145 = .ok (.invokestatic 97, 3) := by decide +kernel
theorem dX11_carry_148 : decode cX11_carry 148 = .ok (.iload_n 3, 1) := by decide +kernel
theorem dX11_carry_149 : decode cX11_carry 149 = .ok (.invokestatic 97, 3) := by decide +kernel
theorem dX11_carry_152 : decode cX11_carry 152 = .ok (.if_icmp .ge 8, 3) := by decide +kernel
theorem dX11_carry_155 : decode cX11_carry 155 = .ok (.iload 5, 2) := by decide +kernel
theorem dX11_carry_157 : decode cX11_carry 157 = .ok (.goto 4, 3) := by decide +kernel
theorem dX11_carry_160 : decode cX11_carry 160 = .ok (.iload_n 3, 1) := by decide +kernel
theorem dX11_carry_161 : decode cX11_carry 161 = .ok (.istore_n 3, 1) := by decide +kernel
theorem dX11_carry_162 : decode cX11_carry 162 = .ok (.iinc 5 1, 3) := by decide +kernel
theorem dX11_carry_165 : decode cX11_carry 165 = .ok (.goto (-102), 3) := by decide +kernel
theorem dX11_carry_168 : decode cX11_carry 168 = .ok (.iload_n 3, 1) := by decide +kernel
theorem dX11_carry_169 : decode cX11_carry 169 = .ok (.ireturn, 1) := by decide +kernel
theorem dX11_closed_0 : decode cX11_closed 0 = .ok (.aload_n 0, 1) := by decide +kernel
theorem dX11_closed_1 : decode cX11_closed 1 = .ok (.iload_n 1, 1) := by decide +kernel
theorem dX11_closed_2 : decode cX11_closed 2 = .ok (.invokevirtual 211, 3) := by decide +kernel
theorem dX11_closed_5 : decode cX11_closed 5 = .ok (.ifCond .ne 6, 3) := by decide +kernel
theorem dX11_closed_8 : decode cX11_closed 8 = .ok (.bipush (-2), 2) := by decide +kernel
theorem dX11_closed_10 : decode cX11_closed 10 = .ok (.ireturn, 1) := by decide +kernel
theorem dX11_closed_11 : decode cX11_closed 11 = .ok (.aload_n 0, 1) := by decide +kernel
theorem dX11_closed_12 : decode cX11_closed 12 = .ok (.iload_n 1, 1) := by decide +kernel
theorem dX11_closed_13 : decode cX11_closed 13 = .ok (.invokevirtual 214, 3) := by decide +kernel
theorem dX11_closed_16 : decode cX11_closed 16 = .ok (.istore_n 2, 1) := by decide +kernel
theorem dX11_closed_17 : decode cX11_closed 17 = .ok (.iload_n 1, 1) := by decide +kernel
theorem dX11_closed_18 : decode cX11_closed 18 = .ok (.istore_n 3, 1) := by decide +kernel
theorem dX11_closed_19 : decode cX11_closed 19 = .ok (.iconst 0, 1) := by decide +kernel
theorem dX11_closed_20 : decode cX11_closed 20 = .ok (.istore 4, 2) := by decide +kernel
theorem dX11_closed_22 : decode cX11_closed 22 = .ok (.iload 4, 2) := by decide +kernel
theorem dX11_closed_24 : decode cX11_closed 24 = .ok (.iload_n 2, 1) := by decide +kernel
theorem dX11_closed_25 : decode cX11_closed 25 = .ok (.if_icmp .ge 21, 3) := by decide +kernel
theorem dX11_closed_28 : decode cX11_closed 28 = .ok (.iload_n 3, 1) := by decide +kernel
theorem dX11_closed_29 : decode cX11_closed 29 = .ok (.aload_n 0, 1) := by decide +kernel
theorem dX11_closed_30 : decode cX11_closed 30 = .ok (.getfield 51, 3) := by decide +kernel
theorem dX11_closed_33 : decode cX11_closed 33 = .ok (.iload 4, 2) := by decide +kernel
theorem dX11_closed_35 : decode cX11_closed 35 = .ok (.iaload, 1) := by decide +kernel
theorem dX11_closed_36 : decode cX11_closed 36 = .ok (.iconst (-1), 1) := by decide +kernel
theorem dX11_closed_37 : decode cX11_closed 37 = .ok (.ixor, 1) := by decide +kernel
theorem dX11_closed_38 : decode cX11_closed 38 = .ok (.iand, 1) := by decide +kernel
theorem dX11_closed_39 : decode cX11_closed 39 = .ok (.istore_n 3, 1) := by decide +kernel
theorem dX11_closed_40 : decode cX11_closed 40 = .ok (.iinc 4 1, 3) := by decide +kernel
theorem dX11_closed_43 : decode cX11_closed 43 = .ok (.goto (-21), 3) := by decide +kernel
theorem dX11_closed_46 : decode cX11_closed 46 = .ok (.iload_n 3, 1) := by decide +kernel
theorem dX11_closed_47 : decode cX11_closed 47 = .ok (.ireturn, 1) := by decide +kernel
theorem dX11_endangered_0 : decode cX11_endangered 0 = .ok (.aload_n 0, 1) := by decide +kernel
theorem dX11_endangered_1 : decode cX11_endangered 1 = .ok (.iload_n 1, 1) := by decide +kernel
theorem dX11_endangered_2 : decode cX11_endangered 2 = .ok (.invokevirtual 125, 3) := by decide +kernel
theorem dX11_endangered_5 : decode cX11_endangered 5 = .ok (.ifCond .eq 11, 3) := by decide +kernel
theorem dX11_endangered_8 : decode cX11_endangered 8 = .ok (.aload_n 0, 1) := by decide +kernel
theorem dX11_endangered_9 : decode cX11_endangered 9 = .ok (.iload_n 1, 1) := by decide +kernel
theorem dX11_endangered_10 : decode cX11_endangered 10 = .ok (.invokevirtual 208, 3) := by decide +kernel
theorem dX11_endangered_13 : decode cX11_endangered 13 = .ok (.goto 5, 3) := by decide +kernel
theorem dX11_endangered_16 : decode cX11_endangered 16 = .ok (.bipush (-2), 2) := by decide +kernel
theorem dX11_endangered_18 : decode cX11_endangered 18 = .ok (.ireturn, 1) := by decide +kernel
theorem dX11_undo_0 : decode cX11_undo 0 = .ok (.aload_n 0, 1) := by decide +kernel
theorem dX11_undo_1 : decode cX11_undo 1 = .ok (.getfield 63, 3) := by decide +kernel
theorem dX11_undo_4 : decode cX11_undo 4 = .ok (.ifCond .ne 6, 3) := by decide +kernel
theorem dX11_undo_7 : decode cX11_undo 7 = .ok (.bipush (-3), 2) := by decide +kernel
theorem dX11_undo_9 : decode cX11_undo 9 = .ok (.ireturn, 1) := by decide +kernel
theorem dX11_undo_10 : decode cX11_undo 10 = .ok (.iconst 0, 1) := by decide +kernel
theorem dX11_undo_11 : decode cX11_undo 11 = .ok (.istore_n 1, 1) := by decide +kernel
theorem dX11_undo_12 : decode cX11_undo 12 = .ok (.iload_n 1, 1) := by decide +kernel
theorem dX11_undo_13 : decode cX11_undo 13 = .ok (.sipush 8530, 3) := by decide +kernel
theorem dX11_undo_16 : decode cX11_undo 16 = .ok (.if_icmp .ge 21, 3) := by decide +kernel
theorem dX11_undo_19 : decode cX11_undo 19 = .ok (.aload_n 0, 1) := by decide +kernel
theorem dX11_undo_20 : decode cX11_undo 20 = .ok (.getfield 7, 3) := by decide +kernel
theorem dX11_undo_23 : decode cX11_undo 23 = .ok (.iload_n 1, 1) := by decide +kernel
theorem dX11_undo_24 : decode cX11_undo 24 = .ok (.aload_n 0, 1) := by decide +kernel
theorem dX11_undo_25 : decode cX11_undo 25 = .ok (.getfield 13, 3) := by decide +kernel
theorem dX11_undo_28 : decode cX11_undo 28 = .ok (.iload_n 1, 1) := by decide +kernel
theorem dX11_undo_29 : decode cX11_undo 29 = .ok (.iaload, 1) := by decide +kernel
theorem dX11_undo_30 : decode cX11_undo 30 = .ok (.iastore, 1) := by decide +kernel
theorem dX11_undo_31 : decode cX11_undo 31 = .ok (.iinc 1 1, 3) := by decide +kernel
theorem dX11_undo_34 : decode cX11_undo 34 = .ok (.goto (-22), 3) := by decide +kernel
theorem dX11_undo_37 : decode cX11_undo 37 = .ok (.aload_n 0, 1) := by decide +kernel
theorem dX11_undo_38 : decode cX11_undo 38 = .ok (.iconst 0, 1) := by decide +kernel
theorem dX11_undo_39 : decode cX11_undo 39 = .ok (.putfield 63, 3) := by decide +kernel
theorem dX11_undo_42 : decode cX11_undo 42 = .ok (.iconst 1, 1) := by decide +kernel
theorem dX11_undo_43 : decode cX11_undo 43 = .ok (.ireturn, 1) := by decide +kernel
theorem dX11_finding_0 : decode cX11_finding 0 = .ok (.aload_n 0, 1) := by decide +kernel
theorem dX11_finding_1 : decode cX11_finding 1 = .ok (.getfield 57, 3) := by decide +kernel
theorem dX11_finding_4 : decode cX11_finding 4 = .ok (.ireturn, 1) := by decide +kernel
theorem dX11_trace_0 : decode cX11_trace 0 = .ok (.iload_n 1, 1) := by decide +kernel
theorem dX11_trace_1 : decode cX11_trace 1 = .ok (.i2l, 1) := by decide +kernel
theorem dX11_trace_2 : decode cX11_trace 2 = .ok (.lconst 0, 1) := by decide +kernel
theorem dX11_trace_3 : decode cX11_trace 3 = .ok (.aload_n 0, 1) := by decide +kernel
theorem dX11_trace_4 : decode cX11_trace 4 = .ok (.getfield 103, 3) := by decide +kernel
theorem dX11_trace_7 : decode cX11_trace 7 = .ok (.bipush 40, 2) := by decide +kernel
theorem dX11_trace_9 : decode cX11_trace 9 = .ok (.if_icmp .ge 10, 3) := by decide +kernel
theorem dX11_trace_12 : decode cX11_trace 12 = .ok (.aload_n 0, 1) := by decide +kernel
theorem dX11_trace_13 : decode cX11_trace 13 = .ok (.getfield 103, 3) := by decide +kernel
theorem dX11_trace_16 : decode cX11_trace 16 = .ok (.goto 5, 3) := by decide +kernel
theorem dX11_trace_19 : decode cX11_trace 19 = .ok (.bipush 40, 2) := by decide +kernel
theorem dX11_trace_21 : decode cX11_trace 21 = .ok (.iconst 1, 1) := by decide +kernel
theorem dX11_trace_22 : decode cX11_trace 22 = .ok (.isub, 1) := by decide +kernel
theorem dX11_trace_23 : decode cX11_trace 23 = .ok (.i2l, 1) := by decide +kernel
theorem dX11_trace_24 : decode cX11_trace 24 = .ok (.invokestatic 67, 3) := by decide +kernel
theorem dX11_trace_27 : decode cX11_trace 27 = .ok (.ifCond .eq 12, 3) := by decide +kernel
theorem dX11_trace_30 : decode cX11_trace 30 = .ok (.aload_n 0, 1) := by decide +kernel
theorem dX11_trace_31 : decode cX11_trace 31 = .ok (.getfield 23, 3) := by decide +kernel
theorem dX11_trace_34 : decode cX11_trace 34 = .ok (.iload_n 1, 1) := by decide +kernel
theorem dX11_trace_35 : decode cX11_trace 35 = .ok (.iaload, 1) := by decide +kernel
theorem dX11_trace_36 : decode cX11_trace 36 = .ok (.goto 4, 3) := by decide +kernel
theorem dX11_trace_39 : decode cX11_trace 39 = .ok (.iconst (-1), 1) := by decide +kernel
theorem dX11_trace_40 : decode cX11_trace 40 = .ok (.ireturn, 1) := by decide +kernel
theorem dX11_told_0 : decode cX11_told 0 = .ok (.iload_n 1, 1) := by decide +kernel
theorem dX11_told_1 : decode cX11_told 1 = .ok (.tableswitch 133 0 9 #[55, 64, 73, 82, 91, 100, 109, 114, 119, 124], 55) := by decide +kernel
theorem dX11_told_56 : decode cX11_told 56 = .ok (.aload_n 0, 1) := by decide +kernel
theorem dX11_told_57 : decode cX11_told 57 = .ok (.getfield 7, 3) := by decide +kernel
theorem dX11_told_60 : decode cX11_told 60 = .ok (.sipush 8522, 3) := by decide +kernel
theorem dX11_told_63 : decode cX11_told 63 = .ok (.iaload, 1) := by decide +kernel
theorem dX11_told_64 : decode cX11_told 64 = .ok (.ireturn, 1) := by decide +kernel
theorem dX11_told_65 : decode cX11_told 65 = .ok (.aload_n 0, 1) := by decide +kernel
theorem dX11_told_66 : decode cX11_told 66 = .ok (.getfield 7, 3) := by decide +kernel
theorem dX11_told_69 : decode cX11_told 69 = .ok (.sipush 8523, 3) := by decide +kernel
theorem dX11_told_72 : decode cX11_told 72 = .ok (.iaload, 1) := by decide +kernel
theorem dX11_told_73 : decode cX11_told 73 = .ok (.ireturn, 1) := by decide +kernel
theorem dX11_told_74 : decode cX11_told 74 = .ok (.aload_n 0, 1) := by decide +kernel
theorem dX11_told_75 : decode cX11_told 75 = .ok (.getfield 7, 3) := by decide +kernel
theorem dX11_told_78 : decode cX11_told 78 = .ok (.sipush 8524, 3) := by decide +kernel
theorem dX11_told_81 : decode cX11_told 81 = .ok (.iaload, 1) := by decide +kernel
theorem dX11_told_82 : decode cX11_told 82 = .ok (.ireturn, 1) := by decide +kernel
theorem dX11_told_83 : decode cX11_told 83 = .ok (.aload_n 0, 1) := by decide +kernel
theorem dX11_told_84 : decode cX11_told 84 = .ok (.getfield 7, 3) := by decide +kernel
theorem dX11_told_87 : decode cX11_told 87 = .ok (.sipush 8525, 3) := by decide +kernel
theorem dX11_told_90 : decode cX11_told 90 = .ok (.iaload, 1) := by decide +kernel
theorem dX11_told_91 : decode cX11_told 91 = .ok (.ireturn, 1) := by decide +kernel
theorem dX11_told_92 : decode cX11_told 92 = .ok (.aload_n 0, 1) := by decide +kernel
theorem dX11_told_93 : decode cX11_told 93 = .ok (.getfield 7, 3) := by decide +kernel
theorem dX11_told_96 : decode cX11_told 96 = .ok (.sipush 8526, 3) := by decide +kernel
theorem dX11_told_99 : decode cX11_told 99 = .ok (.iaload, 1) := by decide +kernel
theorem dX11_told_100 : decode cX11_told 100 = .ok (.ireturn, 1) := by decide +kernel
theorem dX11_told_101 : decode cX11_told 101 = .ok (.aload_n 0, 1) := by decide +kernel
theorem dX11_told_102 : decode cX11_told 102 = .ok (.getfield 7, 3) := by decide +kernel
theorem dX11_told_105 : decode cX11_told 105 = .ok (.sipush 8527, 3) := by decide +kernel
theorem dX11_told_108 : decode cX11_told 108 = .ok (.iaload, 1) := by decide +kernel
theorem dX11_told_109 : decode cX11_told 109 = .ok (.ireturn, 1) := by decide +kernel
theorem dX11_told_110 : decode cX11_told 110 = .ok (.aload_n 0, 1) := by decide +kernel
theorem dX11_told_111 : decode cX11_told 111 = .ok (.getfield 117, 3) := by decide +kernel
theorem dX11_told_114 : decode cX11_told 114 = .ok (.ireturn, 1) := by decide +kernel
theorem dX11_told_115 : decode cX11_told 115 = .ok (.aload_n 0, 1) := by decide +kernel
theorem dX11_told_116 : decode cX11_told 116 = .ok (.getfield 60, 3) := by decide +kernel
theorem dX11_told_119 : decode cX11_told 119 = .ok (.ireturn, 1) := by decide +kernel
theorem dX11_told_120 : decode cX11_told 120 = .ok (.aload_n 0, 1) := by decide +kernel
theorem dX11_told_121 : decode cX11_told 121 = .ok (.getfield 103, 3) := by decide +kernel
theorem dX11_told_124 : decode cX11_told 124 = .ok (.ireturn, 1) := by decide +kernel
theorem dX11_told_125 : decode cX11_told 125 = .ok (.aload_n 0, 1) := by decide +kernel
theorem dX11_told_126 : decode cX11_told 126 = .ok (.getfield 7, 3) := by decide +kernel
theorem dX11_told_129 : decode cX11_told 129 = .ok (.sipush 8528, 3) := by decide +kernel
theorem dX11_told_132 : decode cX11_told 132 = .ok (.iaload, 1) := by decide +kernel
theorem dX11_told_133 : decode cX11_told 133 = .ok (.ireturn, 1) := by decide +kernel
theorem dX11_told_134 : decode cX11_told 134 = .ok (.bipush (-2), 2) := by decide +kernel
theorem dX11_told_136 : decode cX11_told 136 = .ok (.ireturn, 1) := by decide +kernel
theorem dJ6_bitCount_0f7a4_0 : decode cJ6_bitCount_0f7a4 0 = .ok (.iload_n 0, 1) := by decide +kernel
theorem dJ6_bitCount_0f7a4_1 : decode cJ6_bitCount_0f7a4 1 = .ok (.iload_n 0, 1) := by decide +kernel
theorem dJ6_bitCount_0f7a4_2 : decode cJ6_bitCount_0f7a4 2 = .ok (.iconst 1, 1) := by decide +kernel
theorem dJ6_bitCount_0f7a4_3 : decode cJ6_bitCount_0f7a4 3 = .ok (.iushr, 1) := by decide +kernel
theorem dJ6_bitCount_0f7a4_4 : decode cJ6_bitCount_0f7a4 4 = .ok (.ldc_w 265, 3) := by decide +kernel
theorem dJ6_bitCount_0f7a4_7 : decode cJ6_bitCount_0f7a4 7 = .ok (.iand, 1) := by decide +kernel
theorem dJ6_bitCount_0f7a4_8 : decode cJ6_bitCount_0f7a4 8 = .ok (.isub, 1) := by decide +kernel
theorem dJ6_bitCount_0f7a4_9 : decode cJ6_bitCount_0f7a4 9 = .ok (.istore_n 0, 1) := by decide +kernel
theorem dJ6_bitCount_0f7a4_10 : decode cJ6_bitCount_0f7a4 10 = .ok (.iload_n 0, 1) := by decide +kernel
theorem dJ6_bitCount_0f7a4_11 : decode cJ6_bitCount_0f7a4 11 = .ok (.ldc_w 266, 3) := by decide +kernel
theorem dJ6_bitCount_0f7a4_14 : decode cJ6_bitCount_0f7a4 14 = .ok (.iand, 1) := by decide +kernel
theorem dJ6_bitCount_0f7a4_15 : decode cJ6_bitCount_0f7a4 15 = .ok (.iload_n 0, 1) := by decide +kernel
theorem dJ6_bitCount_0f7a4_16 : decode cJ6_bitCount_0f7a4 16 = .ok (.iconst 2, 1) := by decide +kernel
theorem dJ6_bitCount_0f7a4_17 : decode cJ6_bitCount_0f7a4 17 = .ok (.iushr, 1) := by decide +kernel
theorem dJ6_bitCount_0f7a4_18 : decode cJ6_bitCount_0f7a4 18 = .ok (.ldc_w 266, 3) := by decide +kernel
theorem dJ6_bitCount_0f7a4_21 : decode cJ6_bitCount_0f7a4 21 = .ok (.iand, 1) := by decide +kernel
theorem dJ6_bitCount_0f7a4_22 : decode cJ6_bitCount_0f7a4 22 = .ok (.iadd, 1) := by decide +kernel
theorem dJ6_bitCount_0f7a4_23 : decode cJ6_bitCount_0f7a4 23 = .ok (.istore_n 0, 1) := by decide +kernel
theorem dJ6_bitCount_0f7a4_24 : decode cJ6_bitCount_0f7a4 24 = .ok (.iload_n 0, 1) := by decide +kernel
theorem dJ6_bitCount_0f7a4_25 : decode cJ6_bitCount_0f7a4 25 = .ok (.iload_n 0, 1) := by decide +kernel
theorem dJ6_bitCount_0f7a4_26 : decode cJ6_bitCount_0f7a4 26 = .ok (.iconst 4, 1) := by decide +kernel
theorem dJ6_bitCount_0f7a4_27 : decode cJ6_bitCount_0f7a4 27 = .ok (.iushr, 1) := by decide +kernel
theorem dJ6_bitCount_0f7a4_28 : decode cJ6_bitCount_0f7a4 28 = .ok (.iadd, 1) := by decide +kernel
theorem dJ6_bitCount_0f7a4_29 : decode cJ6_bitCount_0f7a4 29 = .ok (.ldc_w 267, 3) := by decide +kernel
theorem dJ6_bitCount_0f7a4_32 : decode cJ6_bitCount_0f7a4 32 = .ok (.iand, 1) := by decide +kernel
theorem dJ6_bitCount_0f7a4_33 : decode cJ6_bitCount_0f7a4 33 = .ok (.istore_n 0, 1) := by decide +kernel
theorem dJ6_bitCount_0f7a4_34 : decode cJ6_bitCount_0f7a4 34 = .ok (.iload_n 0, 1) := by decide +kernel
theorem dJ6_bitCount_0f7a4_35 : decode cJ6_bitCount_0f7a4 35 = .ok (.iload_n 0, 1) := by decide +kernel
theorem dJ6_bitCount_0f7a4_36 : decode cJ6_bitCount_0f7a4 36 = .ok (.bipush 8, 2) := by decide +kernel
theorem dJ6_bitCount_0f7a4_38 : decode cJ6_bitCount_0f7a4 38 = .ok (.iushr, 1) := by decide +kernel
theorem dJ6_bitCount_0f7a4_39 : decode cJ6_bitCount_0f7a4 39 = .ok (.iadd, 1) := by decide +kernel
theorem dJ6_bitCount_0f7a4_40 : decode cJ6_bitCount_0f7a4 40 = .ok (.istore_n 0, 1) := by decide +kernel
theorem dJ6_bitCount_0f7a4_41 : decode cJ6_bitCount_0f7a4 41 = .ok (.iload_n 0, 1) := by decide +kernel
theorem dJ6_bitCount_0f7a4_42 : decode cJ6_bitCount_0f7a4 42 = .ok (.iload_n 0, 1) := by decide +kernel
theorem dJ6_bitCount_0f7a4_43 : decode cJ6_bitCount_0f7a4 43 = .ok (.bipush 16, 2) := by decide +kernel
theorem dJ6_bitCount_0f7a4_45 : decode cJ6_bitCount_0f7a4 45 = .ok (.iushr, 1) := by decide +kernel
theorem dJ6_bitCount_0f7a4_46 : decode cJ6_bitCount_0f7a4 46 = .ok (.iadd, 1) := by decide +kernel
theorem dJ6_bitCount_0f7a4_47 : decode cJ6_bitCount_0f7a4 47 = .ok (.istore_n 0, 1) := by decide +kernel
theorem dJ6_bitCount_0f7a4_48 : decode cJ6_bitCount_0f7a4 48 = .ok (.iload_n 0, 1) := by decide +kernel
theorem dJ6_bitCount_0f7a4_49 : decode cJ6_bitCount_0f7a4 49 = .ok (.bipush 63, 2) := by decide +kernel
theorem dJ6_bitCount_0f7a4_51 : decode cJ6_bitCount_0f7a4 51 = .ok (.iand, 1) := by decide +kernel
theorem dJ6_bitCount_0f7a4_52 : decode cJ6_bitCount_0f7a4 52 = .ok (.ireturn, 1) := by decide +kernel
theorem dJ9_abs_0f7a4_0 : decode cJ9_abs_0f7a4 0 = .ok (.iload_n 0, 1) := by decide +kernel
theorem dJ9_abs_0f7a4_1 : decode cJ9_abs_0f7a4 1 = .ok (.ifCond .ge 8, 3) := by decide +kernel
theorem dJ9_abs_0f7a4_4 : decode cJ9_abs_0f7a4 4 = .ok (.iload_n 0, 1) := by decide +kernel
theorem dJ9_abs_0f7a4_5 : decode cJ9_abs_0f7a4 5 = .ok (.ineg, 1) := by decide +kernel
theorem dJ9_abs_0f7a4_6 : decode cJ9_abs_0f7a4 6 = .ok (.goto 4, 3) := by decide +kernel
theorem dJ9_abs_0f7a4_9 : decode cJ9_abs_0f7a4 9 = .ok (.iload_n 0, 1) := by decide +kernel
theorem dJ9_abs_0f7a4_10 : decode cJ9_abs_0f7a4 10 = .ok (.ireturn, 1) := by decide +kernel
theorem dJ9_max_7cf53_0 : decode cJ9_max_7cf53 0 = .ok (.iload_n 0, 1) := by decide +kernel
theorem dJ9_max_7cf53_1 : decode cJ9_max_7cf53 1 = .ok (.iload_n 1, 1) := by decide +kernel
theorem dJ9_max_7cf53_2 : decode cJ9_max_7cf53 2 = .ok (.if_icmp .lt 7, 3) := by decide +kernel
theorem dJ9_max_7cf53_5 : decode cJ9_max_7cf53 5 = .ok (.iload_n 0, 1) := by decide +kernel
theorem dJ9_max_7cf53_6 : decode cJ9_max_7cf53 6 = .ok (.goto 4, 3) := by decide +kernel
theorem dJ9_max_7cf53_9 : decode cJ9_max_7cf53 9 = .ok (.iload_n 1, 1) := by decide +kernel
theorem dJ9_max_7cf53_10 : decode cJ9_max_7cf53 10 = .ok (.ireturn, 1) := by decide +kernel
theorem dJ9_min_7cf53_0 : decode cJ9_min_7cf53 0 = .ok (.iload_n 0, 1) := by decide +kernel
theorem dJ9_min_7cf53_1 : decode cJ9_min_7cf53 1 = .ok (.iload_n 1, 1) := by decide +kernel
theorem dJ9_min_7cf53_2 : decode cJ9_min_7cf53 2 = .ok (.if_icmp .gt 7, 3) := by decide +kernel
theorem dJ9_min_7cf53_5 : decode cJ9_min_7cf53 5 = .ok (.iload_n 0, 1) := by decide +kernel
theorem dJ9_min_7cf53_6 : decode cJ9_min_7cf53 6 = .ok (.goto 4, 3) := by decide +kernel
theorem dJ9_min_7cf53_9 : decode cJ9_min_7cf53 9 = .ok (.iload_n 1, 1) := by decide +kernel
theorem dJ9_min_7cf53_10 : decode cJ9_min_7cf53 10 = .ok (.ireturn, 1) := by decide +kernel
theorem dL_law_0 : decode cL_law 0 = .ok (.new 7, 3) := by decide +kernel
theorem dL_law_3 : decode cL_law 3 = .ok (.dup, 1) := by decide +kernel
theorem dL_law_4 : decode cL_law 4 = .ok (.invokespecial 9, 3) := by decide +kernel
theorem dL_law_7 : decode cL_law 7 = .ok (.astore_n 1, 1) := by decide +kernel
theorem dL_law_8 : decode cL_law 8 = .ok (.new 10, 3) := by decide +kernel
theorem dL_law_11 : decode cL_law 11 = .ok (.dup, 1) := by decide +kernel
theorem dL_law_12 : decode cL_law 12 = .ok (.invokespecial 12, 3) := by decide +kernel
theorem dL_law_15 : decode cL_law 15 = .ok (.astore_n 2, 1) := by decide +kernel
theorem dL_law_16 : decode cL_law 16 = .ok (.iconst 0, 1) := by decide +kernel
theorem dL_law_17 : decode cL_law 17 = .ok (.istore_n 3, 1) := by decide +kernel
theorem dL_law_18 : decode cL_law 18 = .ok (.iload_n 3, 1) := by decide +kernel
theorem dL_law_19 : decode cL_law 19 = .ok (.aload_n 0, 1) := by decide +kernel
theorem dL_law_20 : decode cL_law 20 = .ok (.arraylength, 1) := by decide +kernel
theorem dL_law_21 : decode cL_law 21 = .ok (.bipush 6, 2) := by decide +kernel
theorem dL_law_23 : decode cL_law 23 = .ok (.isub, 1) := by decide +kernel
theorem dL_law_24 : decode cL_law 24 = .ok (.if_icmp .gt 1424, 3) := by decide +kernel
theorem dL_law_27 : decode cL_law 27 = .ok (.aload_n 0, 1) := by decide +kernel
theorem dL_law_28 : decode cL_law 28 = .ok (.iload_n 3, 1) := by decide +kernel
theorem dL_law_29 : decode cL_law 29 = .ok (.iaload, 1) := by decide +kernel
theorem dL_law_30 : decode cL_law 30 = .ok (.bipush 63, 2) := by decide +kernel
theorem dL_law_32 : decode cL_law 32 = .ok (.iand, 1) := by decide +kernel
theorem dL_law_33 : decode cL_law 33 = .ok (.tableswitch 1409 0 40 #[179, 212, 245, 314, 357, 380, 403, 426, 449, 472, 495, 558, 591, 624, 647, 680, 713, 746, 759, 792, 835, 868, 881, 914, 927, 960, 983, 1006, 1029, 1052, 1095, 1148, 1211, 1224, 1268, 1291, 1314, 1337, 1350, 1363, 1386], 179) := by decide +kernel
theorem dL_law_212 : decode cL_law 212 = .ok (.aload_n 1, 1) := by decide +kernel
theorem dL_law_213 : decode cL_law 213 = .ok (.aload_n 0, 1) := by decide +kernel
theorem dL_law_214 : decode cL_law 214 = .ok (.iload_n 3, 1) := by decide +kernel
theorem dL_law_215 : decode cL_law 215 = .ok (.iconst 1, 1) := by decide +kernel
theorem dL_law_216 : decode cL_law 216 = .ok (.iadd, 1) := by decide +kernel
theorem dL_law_217 : decode cL_law 217 = .ok (.iaload, 1) := by decide +kernel
theorem dL_law_218 : decode cL_law 218 = .ok (.aload_n 0, 1) := by decide +kernel
theorem dL_law_219 : decode cL_law 219 = .ok (.iload_n 3, 1) := by decide +kernel
theorem dL_law_220 : decode cL_law 220 = .ok (.iconst 2, 1) := by decide +kernel
theorem dL_law_221 : decode cL_law 221 = .ok (.iadd, 1) := by decide +kernel
theorem dL_law_222 : decode cL_law 222 = .ok (.iaload, 1) := by decide +kernel
theorem dL_law_223 : decode cL_law 223 = .ok (.invokevirtual 13, 3) := by decide +kernel
theorem dL_law_226 : decode cL_law 226 = .ok (.aload_n 2, 1) := by decide +kernel
theorem dL_law_227 : decode cL_law 227 = .ok (.aload_n 0, 1) := by decide +kernel
theorem dL_law_228 : decode cL_law 228 = .ok (.iload_n 3, 1) := by decide +kernel
theorem dL_law_229 : decode cL_law 229 = .ok (.iconst 1, 1) := by decide +kernel
theorem dL_law_230 : decode cL_law 230 = .ok (.iadd, 1) := by decide +kernel
theorem dL_law_231 : decode cL_law 231 = .ok (.iaload, 1) := by decide +kernel
theorem dL_law_232 : decode cL_law 232 = .ok (.aload_n 0, 1) := by decide +kernel
theorem dL_law_233 : decode cL_law 233 = .ok (.iload_n 3, 1) := by decide +kernel
theorem dL_law_234 : decode cL_law 234 = .ok (.iconst 2, 1) := by decide +kernel
theorem dL_law_235 : decode cL_law 235 = .ok (.iadd, 1) := by decide +kernel
theorem dL_law_236 : decode cL_law 236 = .ok (.iaload, 1) := by decide +kernel
theorem dL_law_237 : decode cL_law 237 = .ok (.invokevirtual 17, 3) := by decide +kernel
theorem dL_law_240 : decode cL_law 240 = .ok (.if_icmp .eq 1202, 3) := by decide +kernel
theorem dL_law_243 : decode cL_law 243 = .ok (.iconst 0, 1) := by decide +kernel
theorem dL_law_244 : decode cL_law 244 = .ok (.ireturn, 1) := by decide +kernel
theorem dL_law_245 : decode cL_law 245 = .ok (.aload_n 1, 1) := by decide +kernel
theorem dL_law_246 : decode cL_law 246 = .ok (.aload_n 0, 1) := by decide +kernel
theorem dL_law_247 : decode cL_law 247 = .ok (.iload_n 3, 1) := by decide +kernel
theorem dL_law_248 : decode cL_law 248 = .ok (.iconst 1, 1) := by decide +kernel
theorem dL_law_249 : decode cL_law 249 = .ok (.iadd, 1) := by decide +kernel
theorem dL_law_250 : decode cL_law 250 = .ok (.iaload, 1) := by decide +kernel
theorem dL_law_251 : decode cL_law 251 = .ok (.aload_n 0, 1) := by decide +kernel
theorem dL_law_252 : decode cL_law 252 = .ok (.iload_n 3, 1) := by decide +kernel
theorem dL_law_253 : decode cL_law 253 = .ok (.iconst 2, 1) := by decide +kernel
theorem dL_law_254 : decode cL_law 254 = .ok (.iadd, 1) := by decide +kernel
theorem dL_law_255 : decode cL_law 255 = .ok (.iaload, 1) := by decide +kernel
theorem dL_law_256 : decode cL_law 256 = .ok (.invokevirtual 18, 3) := by decide +kernel
theorem dL_law_259 : decode cL_law 259 = .ok (.aload_n 2, 1) := by decide +kernel
theorem dL_law_260 : decode cL_law 260 = .ok (.aload_n 0, 1) := by decide +kernel
theorem dL_law_261 : decode cL_law 261 = .ok (.iload_n 3, 1) := by decide +kernel
theorem dL_law_262 : decode cL_law 262 = .ok (.iconst 1, 1) := by decide +kernel
theorem dL_law_263 : decode cL_law 263 = .ok (.iadd, 1) := by decide +kernel
theorem dL_law_264 : decode cL_law 264 = .ok (.iaload, 1) := by decide +kernel
theorem dL_law_265 : decode cL_law 265 = .ok (.aload_n 0, 1) := by decide +kernel
theorem dL_law_266 : decode cL_law 266 = .ok (.iload_n 3, 1) := by decide +kernel
theorem dL_law_267 : decode cL_law 267 = .ok (.iconst 2, 1) := by decide +kernel
theorem dL_law_268 : decode cL_law 268 = .ok (.iadd, 1) := by decide +kernel
theorem dL_law_269 : decode cL_law 269 = .ok (.iaload, 1) := by decide +kernel
theorem dL_law_270 : decode cL_law 270 = .ok (.invokevirtual 21, 3) := by decide +kernel
theorem dL_law_273 : decode cL_law 273 = .ok (.if_icmp .eq 1169, 3) := by decide +kernel
theorem dL_law_276 : decode cL_law 276 = .ok (.iconst 0, 1) := by decide +kernel
theorem dL_law_277 : decode cL_law 277 = .ok (.ireturn, 1) := by decide +kernel
theorem dL_law_278 : decode cL_law 278 = .ok (.aload_n 1, 1) := by decide +kernel
theorem dL_law_279 : decode cL_law 279 = .ok (.aload_n 0, 1) := by decide +kernel
theorem dL_law_280 : decode cL_law 280 = .ok (.iload_n 3, 1) := by decide +kernel
theorem dL_law_281 : decode cL_law 281 = .ok (.iconst 1, 1) := by decide +kernel
theorem dL_law_282 : decode cL_law 282 = .ok (.iadd, 1) := by decide +kernel
theorem dL_law_283 : decode cL_law 283 = .ok (.iaload, 1) := by decide +kernel
theorem dL_law_284 : decode cL_law 284 = .ok (.aload_n 0, 1) := by decide +kernel
theorem dL_law_285 : decode cL_law 285 = .ok (.iload_n 3, 1) := by decide +kernel
theorem dL_law_286 : decode cL_law 286 = .ok (.iconst 2, 1) := by decide +kernel
theorem dL_law_287 : decode cL_law 287 = .ok (.iadd, 1) := by decide +kernel
theorem dL_law_288 : decode cL_law 288 = .ok (.iaload, 1) := by decide +kernel
theorem dL_law_289 : decode cL_law 289 = .ok (.aload_n 0, 1) := by decide +kernel
theorem dL_law_290 : decode cL_law 290 = .ok (.iload_n 3, 1) := by decide +kernel
theorem dL_law_291 : decode cL_law 291 = .ok (.iconst 3, 1) := by decide +kernel
theorem dL_law_292 : decode cL_law 292 = .ok (.iadd, 1) := by decide +kernel
theorem dL_law_293 : decode cL_law 293 = .ok (.iaload, 1) := by decide +kernel
theorem dL_law_294 : decode cL_law 294 = .ok (.aload_n 0, 1) := by decide +kernel
theorem dL_law_295 : decode cL_law 295 = .ok (.iload_n 3, 1) := by decide +kernel
theorem dL_law_296 : decode cL_law 296 = .ok (.iconst 4, 1) := by decide +kernel
theorem dL_law_297 : decode cL_law 297 = .ok (.iadd, 1) := by decide +kernel
theorem dL_law_298 : decode cL_law 298 = .ok (.iaload, 1) := by decide +kernel
theorem dL_law_299 : decode cL_law 299 = .ok (.ifCond .eq 7, 3) := by decide +kernel
theorem dL_law_302 : decode cL_law 302 = .ok (.iconst 1, 1) := by decide +kernel
theorem dL_law_303 : decode cL_law 303 = .ok (.goto 4, 3) := by decide +kernel
theorem dL_law_306 : decode cL_law 306 = .ok (.iconst 0, 1) := by decide +kernel
theorem dL_law_307 : decode cL_law 307 = .ok (.invokevirtual 22, 3) := by decide +kernel
theorem dL_law_310 : decode cL_law 310 = .ok (.aload_n 2, 1) := by decide +kernel
theorem dL_law_311 : decode cL_law 311 = .ok (.aload_n 0, 1) := by decide +kernel
theorem dL_law_312 : decode cL_law 312 = .ok (.iload_n 3, 1) := by decide +kernel
theorem dL_law_313 : decode cL_law 313 = .ok (.iconst 1, 1) := by decide +kernel
theorem dL_law_314 : decode cL_law 314 = .ok (.iadd, 1) := by decide +kernel
theorem dL_law_315 : decode cL_law 315 = .ok (.iaload, 1) := by decide +kernel
theorem dL_law_316 : decode cL_law 316 = .ok (.aload_n 0, 1) := by decide +kernel
theorem dL_law_317 : decode cL_law 317 = .ok (.iload_n 3, 1) := by decide +kernel
theorem dL_law_318 : decode cL_law 318 = .ok (.iconst 2, 1) := by decide +kernel
theorem dL_law_319 : decode cL_law 319 = .ok (.iadd, 1) := by decide +kernel
theorem dL_law_320 : decode cL_law 320 = .ok (.iaload, 1) := by decide +kernel
theorem dL_law_321 : decode cL_law 321 = .ok (.aload_n 0, 1) := by decide +kernel
theorem dL_law_322 : decode cL_law 322 = .ok (.iload_n 3, 1) := by decide +kernel
theorem dL_law_323 : decode cL_law 323 = .ok (.iconst 3, 1) := by decide +kernel
theorem dL_law_324 : decode cL_law 324 = .ok (.iadd, 1) := by decide +kernel
theorem dL_law_325 : decode cL_law 325 = .ok (.iaload, 1) := by decide +kernel
theorem dL_law_326 : decode cL_law 326 = .ok (.aload_n 0, 1) := by decide +kernel
theorem dL_law_327 : decode cL_law 327 = .ok (.iload_n 3, 1) := by decide +kernel
theorem dL_law_328 : decode cL_law 328 = .ok (.iconst 4, 1) := by decide +kernel
theorem dL_law_329 : decode cL_law 329 = .ok (.iadd, 1) := by decide +kernel
theorem dL_law_330 : decode cL_law 330 = .ok (.iaload, 1) := by decide +kernel
theorem dL_law_331 : decode cL_law 331 = .ok (.ifCond .eq 7, 3) := by decide +kernel
theorem dL_law_334 : decode cL_law 334 = .ok (.iconst 1, 1) := by decide +kernel
theorem dL_law_335 : decode cL_law 335 = .ok (.goto 4, 3) := by decide +kernel
theorem dL_law_338 : decode cL_law 338 = .ok (.iconst 0, 1) := by decide +kernel
theorem dL_law_339 : decode cL_law 339 = .ok (.invokevirtual 26, 3) := by decide +kernel
theorem dL_law_342 : decode cL_law 342 = .ok (.if_icmp .eq 1100, 3) := by decide +kernel
theorem dL_law_345 : decode cL_law 345 = .ok (.iconst 0, 1) := by decide +kernel
theorem dL_law_346 : decode cL_law 346 = .ok (.ireturn, 1) := by decide +kernel
theorem dL_law_347 : decode cL_law 347 = .ok (.aload_n 1, 1) := by decide +kernel
theorem dL_law_348 : decode cL_law 348 = .ok (.aload_n 0, 1) := by decide +kernel
theorem dL_law_349 : decode cL_law 349 = .ok (.iload_n 3, 1) := by decide +kernel
theorem dL_law_350 : decode cL_law 350 = .ok (.iconst 1, 1) := by decide +kernel
theorem dL_law_351 : decode cL_law 351 = .ok (.iadd, 1) := by decide +kernel
theorem dL_law_352 : decode cL_law 352 = .ok (.iaload, 1) := by decide +kernel
theorem dL_law_353 : decode cL_law 353 = .ok (.aload_n 0, 1) := by decide +kernel
theorem dL_law_354 : decode cL_law 354 = .ok (.iload_n 3, 1) := by decide +kernel
theorem dL_law_355 : decode cL_law 355 = .ok (.iconst 2, 1) := by decide +kernel
theorem dL_law_356 : decode cL_law 356 = .ok (.iadd, 1) := by decide +kernel
theorem dL_law_357 : decode cL_law 357 = .ok (.iaload, 1) := by decide +kernel
theorem dL_law_358 : decode cL_law 358 = .ok (.aload_n 0, 1) := by decide +kernel
theorem dL_law_359 : decode cL_law 359 = .ok (.iload_n 3, 1) := by decide +kernel
theorem dL_law_360 : decode cL_law 360 = .ok (.iconst 3, 1) := by decide +kernel
theorem dL_law_361 : decode cL_law 361 = .ok (.iadd, 1) := by decide +kernel
theorem dL_law_362 : decode cL_law 362 = .ok (.iaload, 1) := by decide +kernel
theorem dL_law_363 : decode cL_law 363 = .ok (.invokevirtual 27, 3) := by decide +kernel
theorem dL_law_366 : decode cL_law 366 = .ok (.aload_n 2, 1) := by decide +kernel
theorem dL_law_367 : decode cL_law 367 = .ok (.aload_n 0, 1) := by decide +kernel
theorem dL_law_368 : decode cL_law 368 = .ok (.iload_n 3, 1) := by decide +kernel
theorem dL_law_369 : decode cL_law 369 = .ok (.iconst 1, 1) := by decide +kernel
theorem dL_law_370 : decode cL_law 370 = .ok (.iadd, 1) := by decide +kernel
theorem dL_law_371 : decode cL_law 371 = .ok (.iaload, 1) := by decide +kernel
theorem dL_law_372 : decode cL_law 372 = .ok (.aload_n 0, 1) := by decide +kernel
theorem dL_law_373 : decode cL_law 373 = .ok (.iload_n 3, 1) := by decide +kernel
theorem dL_law_374 : decode cL_law 374 = .ok (.iconst 2, 1) := by decide +kernel
theorem dL_law_375 : decode cL_law 375 = .ok (.iadd, 1) := by decide +kernel
theorem dL_law_376 : decode cL_law 376 = .ok (.iaload, 1) := by decide +kernel
theorem dL_law_377 : decode cL_law 377 = .ok (.aload_n 0, 1) := by decide +kernel
theorem dL_law_378 : decode cL_law 378 = .ok (.iload_n 3, 1) := by decide +kernel
theorem dL_law_379 : decode cL_law 379 = .ok (.iconst 3, 1) := by decide +kernel
theorem dL_law_380 : decode cL_law 380 = .ok (.iadd, 1) := by decide +kernel
theorem dL_law_381 : decode cL_law 381 = .ok (.iaload, 1) := by decide +kernel
theorem dL_law_382 : decode cL_law 382 = .ok (.invokevirtual 31, 3) := by decide +kernel
theorem dL_law_385 : decode cL_law 385 = .ok (.if_icmp .eq 1057, 3) := by decide +kernel
theorem dL_law_388 : decode cL_law 388 = .ok (.iconst 0, 1) := by decide +kernel
theorem dL_law_389 : decode cL_law 389 = .ok (.ireturn, 1) := by decide +kernel
theorem dL_law_390 : decode cL_law 390 = .ok (.aload_n 1, 1) := by decide +kernel
theorem dL_law_391 : decode cL_law 391 = .ok (.aload_n 0, 1) := by decide +kernel
theorem dL_law_392 : decode cL_law 392 = .ok (.iload_n 3, 1) := by decide +kernel
theorem dL_law_393 : decode cL_law 393 = .ok (.iconst 1, 1) := by decide +kernel
theorem dL_law_394 : decode cL_law 394 = .ok (.iadd, 1) := by decide +kernel
theorem dL_law_395 : decode cL_law 395 = .ok (.iaload, 1) := by decide +kernel
theorem dL_law_396 : decode cL_law 396 = .ok (.invokevirtual 32, 3) := by decide +kernel
theorem dL_law_399 : decode cL_law 399 = .ok (.aload_n 2, 1) := by decide +kernel
theorem dL_law_400 : decode cL_law 400 = .ok (.aload_n 0, 1) := by decide +kernel
theorem dL_law_401 : decode cL_law 401 = .ok (.iload_n 3, 1) := by decide +kernel
theorem dL_law_402 : decode cL_law 402 = .ok (.iconst 1, 1) := by decide +kernel
theorem dL_law_403 : decode cL_law 403 = .ok (.iadd, 1) := by decide +kernel
theorem dL_law_404 : decode cL_law 404 = .ok (.iaload, 1) := by decide +kernel
theorem dL_law_405 : decode cL_law 405 = .ok (.invokevirtual 36, 3) := by decide +kernel
theorem dL_law_408 : decode cL_law 408 = .ok (.if_icmp .eq 1034, 3) := by decide +kernel
theorem dL_law_411 : decode cL_law 411 = .ok (.iconst 0, 1) := by decide +kernel
theorem dL_law_412 : decode cL_law 412 = .ok (.ireturn, 1) := by decide +kernel
theorem dL_law_413 : decode cL_law 413 = .ok (.aload_n 1, 1) := by decide +kernel
theorem dL_law_414 : decode cL_law 414 = .ok (.aload_n 0, 1) := by decide +kernel
theorem dL_law_415 : decode cL_law 415 = .ok (.iload_n 3, 1) := by decide +kernel
theorem dL_law_416 : decode cL_law 416 = .ok (.iconst 1, 1) := by decide +kernel
theorem dL_law_417 : decode cL_law 417 = .ok (.iadd, 1) := by decide +kernel
theorem dL_law_418 : decode cL_law 418 = .ok (.iaload, 1) := by decide +kernel
theorem dL_law_419 : decode cL_law 419 = .ok (.invokevirtual 37, 3) := by decide +kernel
theorem dL_law_422 : decode cL_law 422 = .ok (.aload_n 2, 1) := by decide +kernel
theorem dL_law_423 : decode cL_law 423 = .ok (.aload_n 0, 1) := by decide +kernel
theorem dL_law_424 : decode cL_law 424 = .ok (.iload_n 3, 1) := by decide +kernel
theorem dL_law_425 : decode cL_law 425 = .ok (.iconst 1, 1) := by decide +kernel
theorem dL_law_426 : decode cL_law 426 = .ok (.iadd, 1) := by decide +kernel
theorem dL_law_427 : decode cL_law 427 = .ok (.iaload, 1) := by decide +kernel
theorem dL_law_428 : decode cL_law 428 = .ok (.invokevirtual 40, 3) := by decide +kernel
theorem dL_law_431 : decode cL_law 431 = .ok (.if_icmp .eq 1011, 3) := by decide +kernel
theorem dL_law_434 : decode cL_law 434 = .ok (.iconst 0, 1) := by decide +kernel
theorem dL_law_435 : decode cL_law 435 = .ok (.ireturn, 1) := by decide +kernel
theorem dL_law_436 : decode cL_law 436 = .ok (.aload_n 1, 1) := by decide +kernel
theorem dL_law_437 : decode cL_law 437 = .ok (.aload_n 0, 1) := by decide +kernel
theorem dL_law_438 : decode cL_law 438 = .ok (.iload_n 3, 1) := by decide +kernel
theorem dL_law_439 : decode cL_law 439 = .ok (.iconst 1, 1) := by decide +kernel
theorem dL_law_440 : decode cL_law 440 = .ok (.iadd, 1) := by decide +kernel
theorem dL_law_441 : decode cL_law 441 = .ok (.iaload, 1) := by decide +kernel
theorem dL_law_442 : decode cL_law 442 = .ok (.invokevirtual 41, 3) := by decide +kernel
theorem dL_law_445 : decode cL_law 445 = .ok (.aload_n 2, 1) := by decide +kernel
theorem dL_law_446 : decode cL_law 446 = .ok (.aload_n 0, 1) := by decide +kernel
theorem dL_law_447 : decode cL_law 447 = .ok (.iload_n 3, 1) := by decide +kernel
theorem dL_law_448 : decode cL_law 448 = .ok (.iconst 1, 1) := by decide +kernel
theorem dL_law_449 : decode cL_law 449 = .ok (.iadd, 1) := by decide +kernel
theorem dL_law_450 : decode cL_law 450 = .ok (.iaload, 1) := by decide +kernel
theorem dL_law_451 : decode cL_law 451 = .ok (.invokevirtual 44, 3) := by decide +kernel
theorem dL_law_454 : decode cL_law 454 = .ok (.if_icmp .eq 988, 3) := by decide +kernel
theorem dL_law_457 : decode cL_law 457 = .ok (.iconst 0, 1) := by decide +kernel
theorem dL_law_458 : decode cL_law 458 = .ok (.ireturn, 1) := by decide +kernel
theorem dL_law_459 : decode cL_law 459 = .ok (.aload_n 1, 1) := by decide +kernel
theorem dL_law_460 : decode cL_law 460 = .ok (.aload_n 0, 1) := by decide +kernel
theorem dL_law_461 : decode cL_law 461 = .ok (.iload_n 3, 1) := by decide +kernel
theorem dL_law_462 : decode cL_law 462 = .ok (.iconst 1, 1) := by decide +kernel
theorem dL_law_463 : decode cL_law 463 = .ok (.iadd, 1) := by decide +kernel
theorem dL_law_464 : decode cL_law 464 = .ok (.iaload, 1) := by decide +kernel
theorem dL_law_465 : decode cL_law 465 = .ok (.invokevirtual 45, 3) := by decide +kernel
theorem dL_law_468 : decode cL_law 468 = .ok (.aload_n 2, 1) := by decide +kernel
theorem dL_law_469 : decode cL_law 469 = .ok (.aload_n 0, 1) := by decide +kernel
theorem dL_law_470 : decode cL_law 470 = .ok (.iload_n 3, 1) := by decide +kernel
theorem dL_law_471 : decode cL_law 471 = .ok (.iconst 1, 1) := by decide +kernel
theorem dL_law_472 : decode cL_law 472 = .ok (.iadd, 1) := by decide +kernel
theorem dL_law_473 : decode cL_law 473 = .ok (.iaload, 1) := by decide +kernel
theorem dL_law_474 : decode cL_law 474 = .ok (.invokevirtual 48, 3) := by decide +kernel
theorem dL_law_477 : decode cL_law 477 = .ok (.if_icmp .eq 965, 3) := by decide +kernel
theorem dL_law_480 : decode cL_law 480 = .ok (.iconst 0, 1) := by decide +kernel
theorem dL_law_481 : decode cL_law 481 = .ok (.ireturn, 1) := by decide +kernel
theorem dL_law_482 : decode cL_law 482 = .ok (.aload_n 1, 1) := by decide +kernel
theorem dL_law_483 : decode cL_law 483 = .ok (.aload_n 0, 1) := by decide +kernel
theorem dL_law_484 : decode cL_law 484 = .ok (.iload_n 3, 1) := by decide +kernel
theorem dL_law_485 : decode cL_law 485 = .ok (.iconst 1, 1) := by decide +kernel
theorem dL_law_486 : decode cL_law 486 = .ok (.iadd, 1) := by decide +kernel
theorem dL_law_487 : decode cL_law 487 = .ok (.iaload, 1) := by decide +kernel
theorem dL_law_488 : decode cL_law 488 = .ok (.invokevirtual 49, 3) := by decide +kernel
theorem dL_law_491 : decode cL_law 491 = .ok (.aload_n 2, 1) := by decide +kernel
theorem dL_law_492 : decode cL_law 492 = .ok (.aload_n 0, 1) := by decide +kernel
theorem dL_law_493 : decode cL_law 493 = .ok (.iload_n 3, 1) := by decide +kernel
theorem dL_law_494 : decode cL_law 494 = .ok (.iconst 1, 1) := by decide +kernel
theorem dL_law_495 : decode cL_law 495 = .ok (.iadd, 1) := by decide +kernel
theorem dL_law_496 : decode cL_law 496 = .ok (.iaload, 1) := by decide +kernel
theorem dL_law_497 : decode cL_law 497 = .ok (.invokevirtual 52, 3) := by decide +kernel
theorem dL_law_500 : decode cL_law 500 = .ok (.if_icmp .eq 942, 3) := by decide +kernel
theorem dL_law_503 : decode cL_law 503 = .ok (.iconst 0, 1) := by decide +kernel
theorem dL_law_504 : decode cL_law 504 = .ok (.ireturn, 1) := by decide +kernel
theorem dL_law_505 : decode cL_law 505 = .ok (.aload_n 1, 1) := by decide +kernel
theorem dL_law_506 : decode cL_law 506 = .ok (.aload_n 0, 1) := by decide +kernel
theorem dL_law_507 : decode cL_law 507 = .ok (.iload_n 3, 1) := by decide +kernel
theorem dL_law_508 : decode cL_law 508 = .ok (.iconst 1, 1) := by decide +kernel
theorem dL_law_509 : decode cL_law 509 = .ok (.iadd, 1) := by decide +kernel
theorem dL_law_510 : decode cL_law 510 = .ok (.iaload, 1) := by decide +kernel
theorem dL_law_511 : decode cL_law 511 = .ok (.invokevirtual 53, 3) := by decide +kernel
theorem dL_law_514 : decode cL_law 514 = .ok (.aload_n 2, 1) := by decide +kernel
theorem dL_law_515 : decode cL_law 515 = .ok (.aload_n 0, 1) := by decide +kernel
theorem dL_law_516 : decode cL_law 516 = .ok (.iload_n 3, 1) := by decide +kernel
theorem dL_law_517 : decode cL_law 517 = .ok (.iconst 1, 1) := by decide +kernel
theorem dL_law_518 : decode cL_law 518 = .ok (.iadd, 1) := by decide +kernel
theorem dL_law_519 : decode cL_law 519 = .ok (.iaload, 1) := by decide +kernel
theorem dL_law_520 : decode cL_law 520 = .ok (.invokevirtual 56, 3) := by decide +kernel
theorem dL_law_523 : decode cL_law 523 = .ok (.if_icmp .eq 919, 3) := by decide +kernel
theorem dL_law_526 : decode cL_law 526 = .ok (.iconst 0, 1) := by decide +kernel
theorem dL_law_527 : decode cL_law 527 = .ok (.ireturn, 1) := by decide +kernel
theorem dL_law_528 : decode cL_law 528 = .ok (.aload_n 1, 1) := by decide +kernel
theorem dL_law_529 : decode cL_law 529 = .ok (.aload_n 0, 1) := by decide +kernel
theorem dL_law_530 : decode cL_law 530 = .ok (.iload_n 3, 1) := by decide +kernel
theorem dL_law_531 : decode cL_law 531 = .ok (.iconst 1, 1) := by decide +kernel
theorem dL_law_532 : decode cL_law 532 = .ok (.iadd, 1) := by decide +kernel
theorem dL_law_533 : decode cL_law 533 = .ok (.iaload, 1) := by decide +kernel
theorem dL_law_534 : decode cL_law 534 = .ok (.aload_n 0, 1) := by decide +kernel
theorem dL_law_535 : decode cL_law 535 = .ok (.iload_n 3, 1) := by decide +kernel
theorem dL_law_536 : decode cL_law 536 = .ok (.iconst 2, 1) := by decide +kernel
theorem dL_law_537 : decode cL_law 537 = .ok (.iadd, 1) := by decide +kernel
theorem dL_law_538 : decode cL_law 538 = .ok (.iaload, 1) := by decide +kernel
theorem dL_law_539 : decode cL_law 539 = .ok (.i2l, 1) := by decide +kernel
theorem dL_law_540 : decode cL_law 540 = .ok (.bipush 32, 2) := by decide +kernel
theorem dL_law_542 : decode cL_law 542 = .ok (.lshl, 1) := by decide +kernel
theorem dL_law_543 : decode cL_law 543 = .ok (.aload_n 0, 1) := by decide +kernel
theorem dL_law_544 : decode cL_law 544 = .ok (.iload_n 3, 1) := by decide +kernel
theorem dL_law_545 : decode cL_law 545 = .ok (.iconst 3, 1) := by decide +kernel
theorem dL_law_546 : decode cL_law 546 = .ok (.iadd, 1) := by decide +kernel
theorem dL_law_547 : decode cL_law 547 = .ok (.iaload, 1) := by decide +kernel
theorem dL_law_548 : decode cL_law 548 = .ok (.i2l, 1) := by decide +kernel
theorem dL_law_549 : decode cL_law 549 = .ok (.ldc2_w 57, 3) := by decide +kernel
theorem dL_law_552 : decode cL_law 552 = .ok (.land, 1) := by decide +kernel
theorem dL_law_553 : decode cL_law 553 = .ok (.lor, 1) := by decide +kernel
theorem dL_law_554 : decode cL_law 554 = .ok (.invokevirtual 59, 3) := by decide +kernel
theorem dL_law_557 : decode cL_law 557 = .ok (.aload_n 2, 1) := by decide +kernel
theorem dL_law_558 : decode cL_law 558 = .ok (.aload_n 0, 1) := by decide +kernel
theorem dL_law_559 : decode cL_law 559 = .ok (.iload_n 3, 1) := by decide +kernel
theorem dL_law_560 : decode cL_law 560 = .ok (.iconst 1, 1) := by decide +kernel
theorem dL_law_561 : decode cL_law 561 = .ok (.iadd, 1) := by decide +kernel
theorem dL_law_562 : decode cL_law 562 = .ok (.iaload, 1) := by decide +kernel
theorem dL_law_563 : decode cL_law 563 = .ok (.aload_n 0, 1) := by decide +kernel
theorem dL_law_564 : decode cL_law 564 = .ok (.iload_n 3, 1) := by decide +kernel
theorem dL_law_565 : decode cL_law 565 = .ok (.iconst 2, 1) := by decide +kernel
theorem dL_law_566 : decode cL_law 566 = .ok (.iadd, 1) := by decide +kernel
theorem dL_law_567 : decode cL_law 567 = .ok (.iaload, 1) := by decide +kernel
theorem dL_law_568 : decode cL_law 568 = .ok (.i2l, 1) := by decide +kernel
theorem dL_law_569 : decode cL_law 569 = .ok (.bipush 32, 2) := by decide +kernel
theorem dL_law_571 : decode cL_law 571 = .ok (.lshl, 1) := by decide +kernel
theorem dL_law_572 : decode cL_law 572 = .ok (.aload_n 0, 1) := by decide +kernel
theorem dL_law_573 : decode cL_law 573 = .ok (.iload_n 3, 1) := by decide +kernel
theorem dL_law_574 : decode cL_law 574 = .ok (.iconst 3, 1) := by decide +kernel
theorem dL_law_575 : decode cL_law 575 = .ok (.iadd, 1) := by decide +kernel
theorem dL_law_576 : decode cL_law 576 = .ok (.iaload, 1) := by decide +kernel
theorem dL_law_577 : decode cL_law 577 = .ok (.i2l, 1) := by decide +kernel
theorem dL_law_578 : decode cL_law 578 = .ok (.ldc2_w 57, 3) := by decide +kernel
theorem dL_law_581 : decode cL_law 581 = .ok (.land, 1) := by decide +kernel
theorem dL_law_582 : decode cL_law 582 = .ok (.lor, 1) := by decide +kernel
theorem dL_law_583 : decode cL_law 583 = .ok (.invokevirtual 63, 3) := by decide +kernel
theorem dL_law_586 : decode cL_law 586 = .ok (.if_icmp .eq 856, 3) := by decide +kernel
theorem dL_law_589 : decode cL_law 589 = .ok (.iconst 0, 1) := by decide +kernel
theorem dL_law_590 : decode cL_law 590 = .ok (.ireturn, 1) := by decide +kernel
theorem dL_law_591 : decode cL_law 591 = .ok (.aload_n 1, 1) := by decide +kernel
theorem dL_law_592 : decode cL_law 592 = .ok (.aload_n 0, 1) := by decide +kernel
theorem dL_law_593 : decode cL_law 593 = .ok (.iload_n 3, 1) := by decide +kernel
theorem dL_law_594 : decode cL_law 594 = .ok (.iconst 1, 1) := by decide +kernel
theorem dL_law_595 : decode cL_law 595 = .ok (.iadd, 1) := by decide +kernel
theorem dL_law_596 : decode cL_law 596 = .ok (.iaload, 1) := by decide +kernel
theorem dL_law_597 : decode cL_law 597 = .ok (.aload_n 0, 1) := by decide +kernel
theorem dL_law_598 : decode cL_law 598 = .ok (.iload_n 3, 1) := by decide +kernel
theorem dL_law_599 : decode cL_law 599 = .ok (.iconst 2, 1) := by decide +kernel
theorem dL_law_600 : decode cL_law 600 = .ok (.iadd, 1) := by decide +kernel
theorem dL_law_601 : decode cL_law 601 = .ok (.iaload, 1) := by decide +kernel
theorem dL_law_602 : decode cL_law 602 = .ok (.invokevirtual 64, 3) := by decide +kernel
theorem dL_law_605 : decode cL_law 605 = .ok (.aload_n 2, 1) := by decide +kernel
theorem dL_law_606 : decode cL_law 606 = .ok (.aload_n 0, 1) := by decide +kernel
theorem dL_law_607 : decode cL_law 607 = .ok (.iload_n 3, 1) := by decide +kernel
theorem dL_law_608 : decode cL_law 608 = .ok (.iconst 1, 1) := by decide +kernel
theorem dL_law_609 : decode cL_law 609 = .ok (.iadd, 1) := by decide +kernel
theorem dL_law_610 : decode cL_law 610 = .ok (.iaload, 1) := by decide +kernel
theorem dL_law_611 : decode cL_law 611 = .ok (.aload_n 0, 1) := by decide +kernel
theorem dL_law_612 : decode cL_law 612 = .ok (.iload_n 3, 1) := by decide +kernel
theorem dL_law_613 : decode cL_law 613 = .ok (.iconst 2, 1) := by decide +kernel
theorem dL_law_614 : decode cL_law 614 = .ok (.iadd, 1) := by decide +kernel
theorem dL_law_615 : decode cL_law 615 = .ok (.iaload, 1) := by decide +kernel
theorem dL_law_616 : decode cL_law 616 = .ok (.invokevirtual 67, 3) := by decide +kernel
theorem dL_law_619 : decode cL_law 619 = .ok (.if_icmp .eq 823, 3) := by decide +kernel
theorem dL_law_622 : decode cL_law 622 = .ok (.iconst 0, 1) := by decide +kernel
theorem dL_law_623 : decode cL_law 623 = .ok (.ireturn, 1) := by decide +kernel
theorem dL_law_624 : decode cL_law 624 = .ok (.aload_n 1, 1) := by decide +kernel
theorem dL_law_625 : decode cL_law 625 = .ok (.aload_n 0, 1) := by decide +kernel
theorem dL_law_626 : decode cL_law 626 = .ok (.iload_n 3, 1) := by decide +kernel
theorem dL_law_627 : decode cL_law 627 = .ok (.iconst 1, 1) := by decide +kernel
theorem dL_law_628 : decode cL_law 628 = .ok (.iadd, 1) := by decide +kernel
theorem dL_law_629 : decode cL_law 629 = .ok (.iaload, 1) := by decide +kernel
theorem dL_law_630 : decode cL_law 630 = .ok (.aload_n 0, 1) := by decide +kernel
theorem dL_law_631 : decode cL_law 631 = .ok (.iload_n 3, 1) := by decide +kernel
theorem dL_law_632 : decode cL_law 632 = .ok (.iconst 2, 1) := by decide +kernel
theorem dL_law_633 : decode cL_law 633 = .ok (.iadd, 1) := by decide +kernel
theorem dL_law_634 : decode cL_law 634 = .ok (.iaload, 1) := by decide +kernel
theorem dL_law_635 : decode cL_law 635 = .ok (.invokevirtual 68, 3) := by decide +kernel
theorem dL_law_638 : decode cL_law 638 = .ok (.aload_n 2, 1) := by decide +kernel
theorem dL_law_639 : decode cL_law 639 = .ok (.aload_n 0, 1) := by decide +kernel
theorem dL_law_640 : decode cL_law 640 = .ok (.iload_n 3, 1) := by decide +kernel
theorem dL_law_641 : decode cL_law 641 = .ok (.iconst 1, 1) := by decide +kernel
theorem dL_law_642 : decode cL_law 642 = .ok (.iadd, 1) := by decide +kernel
theorem dL_law_643 : decode cL_law 643 = .ok (.iaload, 1) := by decide +kernel
theorem dL_law_644 : decode cL_law 644 = .ok (.aload_n 0, 1) := by decide +kernel
theorem dL_law_645 : decode cL_law 645 = .ok (.iload_n 3, 1) := by decide +kernel
theorem dL_law_646 : decode cL_law 646 = .ok (.iconst 2, 1) := by decide +kernel
theorem dL_law_647 : decode cL_law 647 = .ok (.iadd, 1) := by decide +kernel
theorem dL_law_648 : decode cL_law 648 = .ok (.iaload, 1) := by decide +kernel
theorem dL_law_649 : decode cL_law 649 = .ok (.invokevirtual 71, 3) := by decide +kernel
theorem dL_law_652 : decode cL_law 652 = .ok (.if_icmp .eq 790, 3) := by decide +kernel
theorem dL_law_655 : decode cL_law 655 = .ok (.iconst 0, 1) := by decide +kernel
theorem dL_law_656 : decode cL_law 656 = .ok (.ireturn, 1) := by decide +kernel
theorem dL_law_657 : decode cL_law 657 = .ok (.aload_n 1, 1) := by decide +kernel
theorem dL_law_658 : decode cL_law 658 = .ok (.aload_n 0, 1) := by decide +kernel
theorem dL_law_659 : decode cL_law 659 = .ok (.iload_n 3, 1) := by decide +kernel
theorem dL_law_660 : decode cL_law 660 = .ok (.iconst 1, 1) := by decide +kernel
theorem dL_law_661 : decode cL_law 661 = .ok (.iadd, 1) := by decide +kernel
theorem dL_law_662 : decode cL_law 662 = .ok (.iaload, 1) := by decide +kernel
theorem dL_law_663 : decode cL_law 663 = .ok (.invokevirtual 72, 3) := by decide +kernel
theorem dL_law_666 : decode cL_law 666 = .ok (.aload_n 2, 1) := by decide +kernel
theorem dL_law_667 : decode cL_law 667 = .ok (.aload_n 0, 1) := by decide +kernel
theorem dL_law_668 : decode cL_law 668 = .ok (.iload_n 3, 1) := by decide +kernel
theorem dL_law_669 : decode cL_law 669 = .ok (.iconst 1, 1) := by decide +kernel
theorem dL_law_670 : decode cL_law 670 = .ok (.iadd, 1) := by decide +kernel
theorem dL_law_671 : decode cL_law 671 = .ok (.iaload, 1) := by decide +kernel
theorem dL_law_672 : decode cL_law 672 = .ok (.invokevirtual 75, 3) := by decide +kernel
theorem dL_law_675 : decode cL_law 675 = .ok (.if_icmp .eq 767, 3) := by decide +kernel
theorem dL_law_678 : decode cL_law 678 = .ok (.iconst 0, 1) := by decide +kernel
theorem dL_law_679 : decode cL_law 679 = .ok (.ireturn, 1) := by decide +kernel
theorem dL_law_680 : decode cL_law 680 = .ok (.aload_n 1, 1) := by decide +kernel
theorem dL_law_681 : decode cL_law 681 = .ok (.aload_n 0, 1) := by decide +kernel
theorem dL_law_682 : decode cL_law 682 = .ok (.iload_n 3, 1) := by decide +kernel
theorem dL_law_683 : decode cL_law 683 = .ok (.iconst 1, 1) := by decide +kernel
theorem dL_law_684 : decode cL_law 684 = .ok (.iadd, 1) := by decide +kernel
theorem dL_law_685 : decode cL_law 685 = .ok (.iaload, 1) := by decide +kernel
theorem dL_law_686 : decode cL_law 686 = .ok (.aload_n 0, 1) := by decide +kernel
theorem dL_law_687 : decode cL_law 687 = .ok (.iload_n 3, 1) := by decide +kernel
theorem dL_law_688 : decode cL_law 688 = .ok (.iconst 2, 1) := by decide +kernel
theorem dL_law_689 : decode cL_law 689 = .ok (.iadd, 1) := by decide +kernel
theorem dL_law_690 : decode cL_law 690 = .ok (.iaload, 1) := by decide +kernel
theorem dL_law_691 : decode cL_law 691 = .ok (.invokevirtual 76, 3) := by decide +kernel
theorem dL_law_694 : decode cL_law 694 = .ok (.aload_n 2, 1) := by decide +kernel
theorem dL_law_695 : decode cL_law 695 = .ok (.aload_n 0, 1) := by decide +kernel
theorem dL_law_696 : decode cL_law 696 = .ok (.iload_n 3, 1) := by decide +kernel
theorem dL_law_697 : decode cL_law 697 = .ok (.iconst 1, 1) := by decide +kernel
theorem dL_law_698 : decode cL_law 698 = .ok (.iadd, 1) := by decide +kernel
theorem dL_law_699 : decode cL_law 699 = .ok (.iaload, 1) := by decide +kernel
theorem dL_law_700 : decode cL_law 700 = .ok (.aload_n 0, 1) := by decide +kernel
theorem dL_law_701 : decode cL_law 701 = .ok (.iload_n 3, 1) := by decide +kernel
theorem dL_law_702 : decode cL_law 702 = .ok (.iconst 2, 1) := by decide +kernel
theorem dL_law_703 : decode cL_law 703 = .ok (.iadd, 1) := by decide +kernel
theorem dL_law_704 : decode cL_law 704 = .ok (.iaload, 1) := by decide +kernel
theorem dL_law_705 : decode cL_law 705 = .ok (.invokevirtual 79, 3) := by decide +kernel
theorem dL_law_708 : decode cL_law 708 = .ok (.if_icmp .eq 734, 3) := by decide +kernel
theorem dL_law_711 : decode cL_law 711 = .ok (.iconst 0, 1) := by decide +kernel
theorem dL_law_712 : decode cL_law 712 = .ok (.ireturn, 1) := by decide +kernel
theorem dL_law_713 : decode cL_law 713 = .ok (.aload_n 1, 1) := by decide +kernel
theorem dL_law_714 : decode cL_law 714 = .ok (.aload_n 0, 1) := by decide +kernel
theorem dL_law_715 : decode cL_law 715 = .ok (.iload_n 3, 1) := by decide +kernel
theorem dL_law_716 : decode cL_law 716 = .ok (.iconst 1, 1) := by decide +kernel
theorem dL_law_717 : decode cL_law 717 = .ok (.iadd, 1) := by decide +kernel
theorem dL_law_718 : decode cL_law 718 = .ok (.iaload, 1) := by decide +kernel
theorem dL_law_719 : decode cL_law 719 = .ok (.aload_n 0, 1) := by decide +kernel
theorem dL_law_720 : decode cL_law 720 = .ok (.iload_n 3, 1) := by decide +kernel
theorem dL_law_721 : decode cL_law 721 = .ok (.iconst 2, 1) := by decide +kernel
theorem dL_law_722 : decode cL_law 722 = .ok (.iadd, 1) := by decide +kernel
theorem dL_law_723 : decode cL_law 723 = .ok (.iaload, 1) := by decide +kernel
theorem dL_law_724 : decode cL_law 724 = .ok (.invokevirtual 80, 3) := by decide +kernel
theorem dL_law_727 : decode cL_law 727 = .ok (.aload_n 2, 1) := by decide +kernel
theorem dL_law_728 : decode cL_law 728 = .ok (.aload_n 0, 1) := by decide +kernel
theorem dL_law_729 : decode cL_law 729 = .ok (.iload_n 3, 1) := by decide +kernel
theorem dL_law_730 : decode cL_law 730 = .ok (.iconst 1, 1) := by decide +kernel
theorem dL_law_731 : decode cL_law 731 = .ok (.iadd, 1) := by decide +kernel
theorem dL_law_732 : decode cL_law 732 = .ok (.iaload, 1) := by decide +kernel
theorem dL_law_733 : decode cL_law 733 = .ok (.aload_n 0, 1) := by decide +kernel
theorem dL_law_734 : decode cL_law 734 = .ok (.iload_n 3, 1) := by decide +kernel
theorem dL_law_735 : decode cL_law 735 = .ok (.iconst 2, 1) := by decide +kernel
theorem dL_law_736 : decode cL_law 736 = .ok (.iadd, 1) := by decide +kernel
theorem dL_law_737 : decode cL_law 737 = .ok (.iaload, 1) := by decide +kernel
theorem dL_law_738 : decode cL_law 738 = .ok (.invokevirtual 83, 3) := by decide +kernel
theorem dL_law_741 : decode cL_law 741 = .ok (.if_icmp .eq 701, 3) := by decide +kernel
theorem dL_law_744 : decode cL_law 744 = .ok (.iconst 0, 1) := by decide +kernel
theorem dL_law_745 : decode cL_law 745 = .ok (.ireturn, 1) := by decide +kernel
theorem dL_law_746 : decode cL_law 746 = .ok (.aload_n 1, 1) := by decide +kernel
theorem dL_law_747 : decode cL_law 747 = .ok (.aload_n 0, 1) := by decide +kernel
theorem dL_law_748 : decode cL_law 748 = .ok (.iload_n 3, 1) := by decide +kernel
theorem dL_law_749 : decode cL_law 749 = .ok (.iconst 1, 1) := by decide +kernel
theorem dL_law_750 : decode cL_law 750 = .ok (.iadd, 1) := by decide +kernel
theorem dL_law_751 : decode cL_law 751 = .ok (.iaload, 1) := by decide +kernel
theorem dL_law_752 : decode cL_law 752 = .ok (.aload_n 0, 1) := by decide +kernel
theorem dL_law_753 : decode cL_law 753 = .ok (.iload_n 3, 1) := by decide +kernel
theorem dL_law_754 : decode cL_law 754 = .ok (.iconst 2, 1) := by decide +kernel
theorem dL_law_755 : decode cL_law 755 = .ok (.iadd, 1) := by decide +kernel
theorem dL_law_756 : decode cL_law 756 = .ok (.iaload, 1) := by decide +kernel
theorem dL_law_757 : decode cL_law 757 = .ok (.invokevirtual 84, 3) := by decide +kernel
theorem dL_law_760 : decode cL_law 760 = .ok (.aload_n 2, 1) := by decide +kernel
theorem dL_law_761 : decode cL_law 761 = .ok (.aload_n 0, 1) := by decide +kernel
theorem dL_law_762 : decode cL_law 762 = .ok (.iload_n 3, 1) := by decide +kernel
theorem dL_law_763 : decode cL_law 763 = .ok (.iconst 1, 1) := by decide +kernel
theorem dL_law_764 : decode cL_law 764 = .ok (.iadd, 1) := by decide +kernel
theorem dL_law_765 : decode cL_law 765 = .ok (.iaload, 1) := by decide +kernel
theorem dL_law_766 : decode cL_law 766 = .ok (.aload_n 0, 1) := by decide +kernel
theorem dL_law_767 : decode cL_law 767 = .ok (.iload_n 3, 1) := by decide +kernel
theorem dL_law_768 : decode cL_law 768 = .ok (.iconst 2, 1) := by decide +kernel
theorem dL_law_769 : decode cL_law 769 = .ok (.iadd, 1) := by decide +kernel
theorem dL_law_770 : decode cL_law 770 = .ok (.iaload, 1) := by decide +kernel
theorem dL_law_771 : decode cL_law 771 = .ok (.invokevirtual 87, 3) := by decide +kernel
theorem dL_law_774 : decode cL_law 774 = .ok (.if_icmp .eq 668, 3) := by decide +kernel
theorem dL_law_777 : decode cL_law 777 = .ok (.iconst 0, 1) := by decide +kernel
theorem dL_law_778 : decode cL_law 778 = .ok (.ireturn, 1) := by decide +kernel
theorem dL_law_779 : decode cL_law 779 = .ok (.aload_n 1, 1) := by decide +kernel
theorem dL_law_780 : decode cL_law 780 = .ok (.invokevirtual 88, 3) := by decide +kernel
theorem dL_law_783 : decode cL_law 783 = .ok (.aload_n 2, 1) := by decide +kernel
theorem dL_law_784 : decode cL_law 784 = .ok (.invokevirtual 92, 3) := by decide +kernel
theorem dL_law_787 : decode cL_law 787 = .ok (.if_icmp .eq 655, 3) := by decide +kernel
theorem dL_law_790 : decode cL_law 790 = .ok (.iconst 0, 1) := by decide +kernel
theorem dL_law_791 : decode cL_law 791 = .ok (.ireturn, 1) := by decide +kernel
theorem dL_law_792 : decode cL_law 792 = .ok (.aload_n 1, 1) := by decide +kernel
theorem dL_law_793 : decode cL_law 793 = .ok (.aload_n 0, 1) := by decide +kernel
theorem dL_law_794 : decode cL_law 794 = .ok (.iload_n 3, 1) := by decide +kernel
theorem dL_law_795 : decode cL_law 795 = .ok (.iconst 1, 1) := by decide +kernel
theorem dL_law_796 : decode cL_law 796 = .ok (.iadd, 1) := by decide +kernel
theorem dL_law_797 : decode cL_law 797 = .ok (.iaload, 1) := by decide +kernel
theorem dL_law_798 : decode cL_law 798 = .ok (.aload_n 0, 1) := by decide +kernel
theorem dL_law_799 : decode cL_law 799 = .ok (.iload_n 3, 1) := by decide +kernel
theorem dL_law_800 : decode cL_law 800 = .ok (.iconst 2, 1) := by decide +kernel
theorem dL_law_801 : decode cL_law 801 = .ok (.iadd, 1) := by decide +kernel
theorem dL_law_802 : decode cL_law 802 = .ok (.iaload, 1) := by decide +kernel
theorem dL_law_803 : decode cL_law 803 = .ok (.invokevirtual 93, 3) := by decide +kernel
theorem dL_law_806 : decode cL_law 806 = .ok (.aload_n 2, 1) := by decide +kernel
theorem dL_law_807 : decode cL_law 807 = .ok (.aload_n 0, 1) := by decide +kernel
theorem dL_law_808 : decode cL_law 808 = .ok (.iload_n 3, 1) := by decide +kernel
theorem dL_law_809 : decode cL_law 809 = .ok (.iconst 1, 1) := by decide +kernel
theorem dL_law_810 : decode cL_law 810 = .ok (.iadd, 1) := by decide +kernel
theorem dL_law_811 : decode cL_law 811 = .ok (.iaload, 1) := by decide +kernel
theorem dL_law_812 : decode cL_law 812 = .ok (.aload_n 0, 1) := by decide +kernel
theorem dL_law_813 : decode cL_law 813 = .ok (.iload_n 3, 1) := by decide +kernel
theorem dL_law_814 : decode cL_law 814 = .ok (.iconst 2, 1) := by decide +kernel
theorem dL_law_815 : decode cL_law 815 = .ok (.iadd, 1) := by decide +kernel
theorem dL_law_816 : decode cL_law 816 = .ok (.iaload, 1) := by decide +kernel
theorem dL_law_817 : decode cL_law 817 = .ok (.invokevirtual 96, 3) := by decide +kernel
theorem dL_law_820 : decode cL_law 820 = .ok (.if_icmp .eq 622, 3) := by decide +kernel
theorem dL_law_823 : decode cL_law 823 = .ok (.iconst 0, 1) := by decide +kernel
theorem dL_law_824 : decode cL_law 824 = .ok (.ireturn, 1) := by decide +kernel
theorem dL_law_825 : decode cL_law 825 = .ok (.aload_n 1, 1) := by decide +kernel
theorem dL_law_826 : decode cL_law 826 = .ok (.aload_n 0, 1) := by decide +kernel
theorem dL_law_827 : decode cL_law 827 = .ok (.iload_n 3, 1) := by decide +kernel
theorem dL_law_828 : decode cL_law 828 = .ok (.iconst 1, 1) := by decide +kernel
theorem dL_law_829 : decode cL_law 829 = .ok (.iadd, 1) := by decide +kernel
theorem dL_law_830 : decode cL_law 830 = .ok (.iaload, 1) := by decide +kernel
theorem dL_law_831 : decode cL_law 831 = .ok (.aload_n 0, 1) := by decide +kernel
theorem dL_law_832 : decode cL_law 832 = .ok (.iload_n 3, 1) := by decide +kernel
theorem dL_law_833 : decode cL_law 833 = .ok (.iconst 2, 1) := by decide +kernel
theorem dL_law_834 : decode cL_law 834 = .ok (.iadd, 1) := by decide +kernel
theorem dL_law_835 : decode cL_law 835 = .ok (.iaload, 1) := by decide +kernel
theorem dL_law_836 : decode cL_law 836 = .ok (.aload_n 0, 1) := by decide +kernel
theorem dL_law_837 : decode cL_law 837 = .ok (.iload_n 3, 1) := by decide +kernel
theorem dL_law_838 : decode cL_law 838 = .ok (.iconst 3, 1) := by decide +kernel
theorem dL_law_839 : decode cL_law 839 = .ok (.iadd, 1) := by decide +kernel
theorem dL_law_840 : decode cL_law 840 = .ok (.iaload, 1) := by decide +kernel
theorem dL_law_841 : decode cL_law 841 = .ok (.invokevirtual 97, 3) := by decide +kernel
theorem dL_law_844 : decode cL_law 844 = .ok (.aload_n 2, 1) := by decide +kernel
theorem dL_law_845 : decode cL_law 845 = .ok (.aload_n 0, 1) := by decide +kernel
theorem dL_law_846 : decode cL_law 846 = .ok (.iload_n 3, 1) := by decide +kernel
theorem dL_law_847 : decode cL_law 847 = .ok (.iconst 1, 1) := by decide +kernel
theorem dL_law_848 : decode cL_law 848 = .ok (.iadd, 1) := by decide +kernel
theorem dL_law_849 : decode cL_law 849 = .ok (.iaload, 1) := by decide +kernel
theorem dL_law_850 : decode cL_law 850 = .ok (.aload_n 0, 1) := by decide +kernel
theorem dL_law_851 : decode cL_law 851 = .ok (.iload_n 3, 1) := by decide +kernel
theorem dL_law_852 : decode cL_law 852 = .ok (.iconst 2, 1) := by decide +kernel
theorem dL_law_853 : decode cL_law 853 = .ok (.iadd, 1) := by decide +kernel
theorem dL_law_854 : decode cL_law 854 = .ok (.iaload, 1) := by decide +kernel
theorem dL_law_855 : decode cL_law 855 = .ok (.aload_n 0, 1) := by decide +kernel
theorem dL_law_856 : decode cL_law 856 = .ok (.iload_n 3, 1) := by decide +kernel
theorem dL_law_857 : decode cL_law 857 = .ok (.iconst 3, 1) := by decide +kernel
theorem dL_law_858 : decode cL_law 858 = .ok (.iadd, 1) := by decide +kernel
theorem dL_law_859 : decode cL_law 859 = .ok (.iaload, 1) := by decide +kernel
theorem dL_law_860 : decode cL_law 860 = .ok (.invokevirtual 100, 3) := by decide +kernel
theorem dL_law_863 : decode cL_law 863 = .ok (.if_icmp .eq 579, 3) := by decide +kernel
theorem dL_law_866 : decode cL_law 866 = .ok (.iconst 0, 1) := by decide +kernel
theorem dL_law_867 : decode cL_law 867 = .ok (.ireturn, 1) := by decide +kernel
theorem dL_law_868 : decode cL_law 868 = .ok (.aload_n 1, 1) := by decide +kernel
theorem dL_law_869 : decode cL_law 869 = .ok (.aload_n 0, 1) := by decide +kernel
theorem dL_law_870 : decode cL_law 870 = .ok (.iload_n 3, 1) := by decide +kernel
theorem dL_law_871 : decode cL_law 871 = .ok (.iconst 1, 1) := by decide +kernel
theorem dL_law_872 : decode cL_law 872 = .ok (.iadd, 1) := by decide +kernel
theorem dL_law_873 : decode cL_law 873 = .ok (.iaload, 1) := by decide +kernel
theorem dL_law_874 : decode cL_law 874 = .ok (.aload_n 0, 1) := by decide +kernel
theorem dL_law_875 : decode cL_law 875 = .ok (.iload_n 3, 1) := by decide +kernel
theorem dL_law_876 : decode cL_law 876 = .ok (.iconst 2, 1) := by decide +kernel
theorem dL_law_877 : decode cL_law 877 = .ok (.iadd, 1) := by decide +kernel
theorem dL_law_878 : decode cL_law 878 = .ok (.iaload, 1) := by decide +kernel
theorem dL_law_879 : decode cL_law 879 = .ok (.invokevirtual 101, 3) := by decide +kernel
theorem dL_law_882 : decode cL_law 882 = .ok (.aload_n 2, 1) := by decide +kernel
theorem dL_law_883 : decode cL_law 883 = .ok (.aload_n 0, 1) := by decide +kernel
theorem dL_law_884 : decode cL_law 884 = .ok (.iload_n 3, 1) := by decide +kernel
theorem dL_law_885 : decode cL_law 885 = .ok (.iconst 1, 1) := by decide +kernel
theorem dL_law_886 : decode cL_law 886 = .ok (.iadd, 1) := by decide +kernel
theorem dL_law_887 : decode cL_law 887 = .ok (.iaload, 1) := by decide +kernel
theorem dL_law_888 : decode cL_law 888 = .ok (.aload_n 0, 1) := by decide +kernel
theorem dL_law_889 : decode cL_law 889 = .ok (.iload_n 3, 1) := by decide +kernel
theorem dL_law_890 : decode cL_law 890 = .ok (.iconst 2, 1) := by decide +kernel
theorem dL_law_891 : decode cL_law 891 = .ok (.iadd, 1) := by decide +kernel
theorem dL_law_892 : decode cL_law 892 = .ok (.iaload, 1) := by decide +kernel
theorem dL_law_893 : decode cL_law 893 = .ok (.invokevirtual 104, 3) := by decide +kernel
theorem dL_law_896 : decode cL_law 896 = .ok (.if_icmp .eq 546, 3) := by decide +kernel
theorem dL_law_899 : decode cL_law 899 = .ok (.iconst 0, 1) := by decide +kernel
theorem dL_law_900 : decode cL_law 900 = .ok (.ireturn, 1) := by decide +kernel
theorem dL_law_901 : decode cL_law 901 = .ok (.aload_n 1, 1) := by decide +kernel
theorem dL_law_902 : decode cL_law 902 = .ok (.invokevirtual 105, 3) := by decide +kernel
theorem dL_law_905 : decode cL_law 905 = .ok (.aload_n 2, 1) := by decide +kernel
theorem dL_law_906 : decode cL_law 906 = .ok (.invokevirtual 108, 3) := by decide +kernel
theorem dL_law_909 : decode cL_law 909 = .ok (.if_icmp .eq 533, 3) := by decide +kernel
theorem dL_law_912 : decode cL_law 912 = .ok (.iconst 0, 1) := by decide +kernel
theorem dL_law_913 : decode cL_law 913 = .ok (.ireturn, 1) := by decide +kernel
theorem dL_law_914 : decode cL_law 914 = .ok (.aload_n 1, 1) := by decide +kernel
theorem dL_law_915 : decode cL_law 915 = .ok (.aload_n 0, 1) := by decide +kernel
theorem dL_law_916 : decode cL_law 916 = .ok (.iload_n 3, 1) := by decide +kernel
theorem dL_law_917 : decode cL_law 917 = .ok (.iconst 1, 1) := by decide +kernel
theorem dL_law_918 : decode cL_law 918 = .ok (.iadd, 1) := by decide +kernel
theorem dL_law_919 : decode cL_law 919 = .ok (.iaload, 1) := by decide +kernel
theorem dL_law_920 : decode cL_law 920 = .ok (.aload_n 0, 1) := by decide +kernel
theorem dL_law_921 : decode cL_law 921 = .ok (.iload_n 3, 1) := by decide +kernel
theorem dL_law_922 : decode cL_law 922 = .ok (.iconst 2, 1) := by decide +kernel
theorem dL_law_923 : decode cL_law 923 = .ok (.iadd, 1) := by decide +kernel
theorem dL_law_924 : decode cL_law 924 = .ok (.iaload, 1) := by decide +kernel
theorem dL_law_925 : decode cL_law 925 = .ok (.invokevirtual 109, 3) := by decide +kernel
theorem dL_law_928 : decode cL_law 928 = .ok (.aload_n 2, 1) := by decide +kernel
theorem dL_law_929 : decode cL_law 929 = .ok (.aload_n 0, 1) := by decide +kernel
theorem dL_law_930 : decode cL_law 930 = .ok (.iload_n 3, 1) := by decide +kernel
theorem dL_law_931 : decode cL_law 931 = .ok (.iconst 1, 1) := by decide +kernel
theorem dL_law_932 : decode cL_law 932 = .ok (.iadd, 1) := by decide +kernel
theorem dL_law_933 : decode cL_law 933 = .ok (.iaload, 1) := by decide +kernel
theorem dL_law_934 : decode cL_law 934 = .ok (.aload_n 0, 1) := by decide +kernel
theorem dL_law_935 : decode cL_law 935 = .ok (.iload_n 3, 1) := by decide +kernel
theorem dL_law_936 : decode cL_law 936 = .ok (.iconst 2, 1) := by decide +kernel
theorem dL_law_937 : decode cL_law 937 = .ok (.iadd, 1) := by decide +kernel
theorem dL_law_938 : decode cL_law 938 = .ok (.iaload, 1) := by decide +kernel
theorem dL_law_939 : decode cL_law 939 = .ok (.invokevirtual 112, 3) := by decide +kernel
theorem dL_law_942 : decode cL_law 942 = .ok (.if_icmp .eq 500, 3) := by decide +kernel
theorem dL_law_945 : decode cL_law 945 = .ok (.iconst 0, 1) := by decide +kernel
theorem dL_law_946 : decode cL_law 946 = .ok (.ireturn, 1) := by decide +kernel
theorem dL_law_947 : decode cL_law 947 = .ok (.aload_n 1, 1) := by decide +kernel
theorem dL_law_948 : decode cL_law 948 = .ok (.invokevirtual 113, 3) := by decide +kernel
theorem dL_law_951 : decode cL_law 951 = .ok (.aload_n 2, 1) := by decide +kernel
theorem dL_law_952 : decode cL_law 952 = .ok (.invokevirtual 116, 3) := by decide +kernel
theorem dL_law_955 : decode cL_law 955 = .ok (.if_icmp .eq 487, 3) := by decide +kernel
theorem dL_law_958 : decode cL_law 958 = .ok (.iconst 0, 1) := by decide +kernel
theorem dL_law_959 : decode cL_law 959 = .ok (.ireturn, 1) := by decide +kernel
theorem dL_law_960 : decode cL_law 960 = .ok (.aload_n 1, 1) := by decide +kernel
theorem dL_law_961 : decode cL_law 961 = .ok (.aload_n 0, 1) := by decide +kernel
theorem dL_law_962 : decode cL_law 962 = .ok (.iload_n 3, 1) := by decide +kernel
theorem dL_law_963 : decode cL_law 963 = .ok (.iconst 1, 1) := by decide +kernel
theorem dL_law_964 : decode cL_law 964 = .ok (.iadd, 1) := by decide +kernel
theorem dL_law_965 : decode cL_law 965 = .ok (.iaload, 1) := by decide +kernel
theorem dL_law_966 : decode cL_law 966 = .ok (.aload_n 0, 1) := by decide +kernel
theorem dL_law_967 : decode cL_law 967 = .ok (.iload_n 3, 1) := by decide +kernel
theorem dL_law_968 : decode cL_law 968 = .ok (.iconst 2, 1) := by decide +kernel
theorem dL_law_969 : decode cL_law 969 = .ok (.iadd, 1) := by decide +kernel
theorem dL_law_970 : decode cL_law 970 = .ok (.iaload, 1) := by decide +kernel
theorem dL_law_971 : decode cL_law 971 = .ok (.invokevirtual 117, 3) := by decide +kernel
theorem dL_law_974 : decode cL_law 974 = .ok (.aload_n 2, 1) := by decide +kernel
theorem dL_law_975 : decode cL_law 975 = .ok (.aload_n 0, 1) := by decide +kernel
theorem dL_law_976 : decode cL_law 976 = .ok (.iload_n 3, 1) := by decide +kernel
theorem dL_law_977 : decode cL_law 977 = .ok (.iconst 1, 1) := by decide +kernel
theorem dL_law_978 : decode cL_law 978 = .ok (.iadd, 1) := by decide +kernel
theorem dL_law_979 : decode cL_law 979 = .ok (.iaload, 1) := by decide +kernel
theorem dL_law_980 : decode cL_law 980 = .ok (.aload_n 0, 1) := by decide +kernel
theorem dL_law_981 : decode cL_law 981 = .ok (.iload_n 3, 1) := by decide +kernel
theorem dL_law_982 : decode cL_law 982 = .ok (.iconst 2, 1) := by decide +kernel
theorem dL_law_983 : decode cL_law 983 = .ok (.iadd, 1) := by decide +kernel
theorem dL_law_984 : decode cL_law 984 = .ok (.iaload, 1) := by decide +kernel
theorem dL_law_985 : decode cL_law 985 = .ok (.invokevirtual 120, 3) := by decide +kernel
theorem dL_law_988 : decode cL_law 988 = .ok (.if_icmp .eq 454, 3) := by decide +kernel
theorem dL_law_991 : decode cL_law 991 = .ok (.iconst 0, 1) := by decide +kernel
theorem dL_law_992 : decode cL_law 992 = .ok (.ireturn, 1) := by decide +kernel
theorem dL_law_993 : decode cL_law 993 = .ok (.aload_n 1, 1) := by decide +kernel
theorem dL_law_994 : decode cL_law 994 = .ok (.aload_n 0, 1) := by decide +kernel
theorem dL_law_995 : decode cL_law 995 = .ok (.iload_n 3, 1) := by decide +kernel
theorem dL_law_996 : decode cL_law 996 = .ok (.iconst 1, 1) := by decide +kernel
theorem dL_law_997 : decode cL_law 997 = .ok (.iadd, 1) := by decide +kernel
theorem dL_law_998 : decode cL_law 998 = .ok (.iaload, 1) := by decide +kernel
theorem dL_law_999 : decode cL_law 999 = .ok (.invokevirtual 121, 3) := by decide +kernel
theorem dL_law_1002 : decode cL_law 1002 = .ok (.aload_n 2, 1) := by decide +kernel
theorem dL_law_1003 : decode cL_law 1003 = .ok (.aload_n 0, 1) := by decide +kernel
theorem dL_law_1004 : decode cL_law 1004 = .ok (.iload_n 3, 1) := by decide +kernel
theorem dL_law_1005 : decode cL_law 1005 = .ok (.iconst 1, 1) := by decide +kernel
theorem dL_law_1006 : decode cL_law 1006 = .ok (.iadd, 1) := by decide +kernel
theorem dL_law_1007 : decode cL_law 1007 = .ok (.iaload, 1) := by decide +kernel
theorem dL_law_1008 : decode cL_law 1008 = .ok (.invokevirtual 124, 3) := by decide +kernel
theorem dL_law_1011 : decode cL_law 1011 = .ok (.if_icmp .eq 431, 3) := by decide +kernel
theorem dL_law_1014 : decode cL_law 1014 = .ok (.iconst 0, 1) := by decide +kernel
theorem dL_law_1015 : decode cL_law 1015 = .ok (.ireturn, 1) := by decide +kernel
theorem dL_law_1016 : decode cL_law 1016 = .ok (.aload_n 1, 1) := by decide +kernel
theorem dL_law_1017 : decode cL_law 1017 = .ok (.aload_n 0, 1) := by decide +kernel
theorem dL_law_1018 : decode cL_law 1018 = .ok (.iload_n 3, 1) := by decide +kernel
theorem dL_law_1019 : decode cL_law 1019 = .ok (.iconst 1, 1) := by decide +kernel
theorem dL_law_1020 : decode cL_law 1020 = .ok (.iadd, 1) := by decide +kernel
theorem dL_law_1021 : decode cL_law 1021 = .ok (.iaload, 1) := by decide +kernel
theorem dL_law_1022 : decode cL_law 1022 = .ok (.invokevirtual 125, 3) := by decide +kernel
theorem dL_law_1025 : decode cL_law 1025 = .ok (.aload_n 2, 1) := by decide +kernel
theorem dL_law_1026 : decode cL_law 1026 = .ok (.aload_n 0, 1) := by decide +kernel
theorem dL_law_1027 : decode cL_law 1027 = .ok (.iload_n 3, 1) := by decide +kernel
theorem dL_law_1028 : decode cL_law 1028 = .ok (.iconst 1, 1) := by decide +kernel
theorem dL_law_1029 : decode cL_law 1029 = .ok (.iadd, 1) := by decide +kernel
theorem dL_law_1030 : decode cL_law 1030 = .ok (.iaload, 1) := by decide +kernel
theorem dL_law_1031 : decode cL_law 1031 = .ok (.invokevirtual 128, 3) := by decide +kernel
theorem dL_law_1034 : decode cL_law 1034 = .ok (.if_icmp .eq 408, 3) := by decide +kernel
theorem dL_law_1037 : decode cL_law 1037 = .ok (.iconst 0, 1) := by decide +kernel
theorem dL_law_1038 : decode cL_law 1038 = .ok (.ireturn, 1) := by decide +kernel
theorem dL_law_1039 : decode cL_law 1039 = .ok (.aload_n 1, 1) := by decide +kernel
theorem dL_law_1040 : decode cL_law 1040 = .ok (.aload_n 0, 1) := by decide +kernel
theorem dL_law_1041 : decode cL_law 1041 = .ok (.iload_n 3, 1) := by decide +kernel
theorem dL_law_1042 : decode cL_law 1042 = .ok (.iconst 1, 1) := by decide +kernel
theorem dL_law_1043 : decode cL_law 1043 = .ok (.iadd, 1) := by decide +kernel
theorem dL_law_1044 : decode cL_law 1044 = .ok (.iaload, 1) := by decide +kernel
theorem dL_law_1045 : decode cL_law 1045 = .ok (.invokevirtual 129, 3) := by decide +kernel
theorem dL_law_1048 : decode cL_law 1048 = .ok (.aload_n 2, 1) := by decide +kernel
theorem dL_law_1049 : decode cL_law 1049 = .ok (.aload_n 0, 1) := by decide +kernel
theorem dL_law_1050 : decode cL_law 1050 = .ok (.iload_n 3, 1) := by decide +kernel
theorem dL_law_1051 : decode cL_law 1051 = .ok (.iconst 1, 1) := by decide +kernel
theorem dL_law_1052 : decode cL_law 1052 = .ok (.iadd, 1) := by decide +kernel
theorem dL_law_1053 : decode cL_law 1053 = .ok (.iaload, 1) := by decide +kernel
theorem dL_law_1054 : decode cL_law 1054 = .ok (.invokevirtual 132, 3) := by decide +kernel
theorem dL_law_1057 : decode cL_law 1057 = .ok (.if_icmp .eq 385, 3) := by decide +kernel
theorem dL_law_1060 : decode cL_law 1060 = .ok (.iconst 0, 1) := by decide +kernel
theorem dL_law_1061 : decode cL_law 1061 = .ok (.ireturn, 1) := by decide +kernel
theorem dL_law_1062 : decode cL_law 1062 = .ok (.aload_n 1, 1) := by decide +kernel
theorem dL_law_1063 : decode cL_law 1063 = .ok (.aload_n 0, 1) := by decide +kernel
theorem dL_law_1064 : decode cL_law 1064 = .ok (.iload_n 3, 1) := by decide +kernel
theorem dL_law_1065 : decode cL_law 1065 = .ok (.iconst 1, 1) := by decide +kernel
theorem dL_law_1066 : decode cL_law 1066 = .ok (.iadd, 1) := by decide +kernel
theorem dL_law_1067 : decode cL_law 1067 = .ok (.iaload, 1) := by decide +kernel
theorem dL_law_1068 : decode cL_law 1068 = .ok (.invokevirtual 133, 3) := by decide +kernel
theorem dL_law_1071 : decode cL_law 1071 = .ok (.aload_n 2, 1) := by decide +kernel
theorem dL_law_1072 : decode cL_law 1072 = .ok (.aload_n 0, 1) := by decide +kernel
theorem dL_law_1073 : decode cL_law 1073 = .ok (.iload_n 3, 1) := by decide +kernel
theorem dL_law_1074 : decode cL_law 1074 = .ok (.iconst 1, 1) := by decide +kernel
theorem dL_law_1075 : decode cL_law 1075 = .ok (.iadd, 1) := by decide +kernel
theorem dL_law_1076 : decode cL_law 1076 = .ok (.iaload, 1) := by decide +kernel
theorem dL_law_1077 : decode cL_law 1077 = .ok (.invokevirtual 136, 3) := by decide +kernel
theorem dL_law_1080 : decode cL_law 1080 = .ok (.if_icmp .eq 362, 3) := by decide +kernel
theorem dL_law_1083 : decode cL_law 1083 = .ok (.iconst 0, 1) := by decide +kernel
theorem dL_law_1084 : decode cL_law 1084 = .ok (.ireturn, 1) := by decide +kernel
theorem dL_law_1085 : decode cL_law 1085 = .ok (.aload_n 1, 1) := by decide +kernel
theorem dL_law_1086 : decode cL_law 1086 = .ok (.aload_n 0, 1) := by decide +kernel
theorem dL_law_1087 : decode cL_law 1087 = .ok (.iload_n 3, 1) := by decide +kernel
theorem dL_law_1088 : decode cL_law 1088 = .ok (.iconst 1, 1) := by decide +kernel
theorem dL_law_1089 : decode cL_law 1089 = .ok (.iadd, 1) := by decide +kernel
theorem dL_law_1090 : decode cL_law 1090 = .ok (.iaload, 1) := by decide +kernel
theorem dL_law_1091 : decode cL_law 1091 = .ok (.aload_n 0, 1) := by decide +kernel
theorem dL_law_1092 : decode cL_law 1092 = .ok (.iload_n 3, 1) := by decide +kernel
theorem dL_law_1093 : decode cL_law 1093 = .ok (.iconst 2, 1) := by decide +kernel
theorem dL_law_1094 : decode cL_law 1094 = .ok (.iadd, 1) := by decide +kernel
theorem dL_law_1095 : decode cL_law 1095 = .ok (.iaload, 1) := by decide +kernel
theorem dL_law_1096 : decode cL_law 1096 = .ok (.aload_n 0, 1) := by decide +kernel
theorem dL_law_1097 : decode cL_law 1097 = .ok (.iload_n 3, 1) := by decide +kernel
theorem dL_law_1098 : decode cL_law 1098 = .ok (.iconst 3, 1) := by decide +kernel
theorem dL_law_1099 : decode cL_law 1099 = .ok (.iadd, 1) := by decide +kernel
theorem dL_law_1100 : decode cL_law 1100 = .ok (.iaload, 1) := by decide +kernel
theorem dL_law_1101 : decode cL_law 1101 = .ok (.invokevirtual 137, 3) := by decide +kernel
theorem dL_law_1104 : decode cL_law 1104 = .ok (.aload_n 2, 1) := by decide +kernel
theorem dL_law_1105 : decode cL_law 1105 = .ok (.aload_n 0, 1) := by decide +kernel
theorem dL_law_1106 : decode cL_law 1106 = .ok (.iload_n 3, 1) := by decide +kernel
theorem dL_law_1107 : decode cL_law 1107 = .ok (.iconst 1, 1) := by decide +kernel
theorem dL_law_1108 : decode cL_law 1108 = .ok (.iadd, 1) := by decide +kernel
theorem dL_law_1109 : decode cL_law 1109 = .ok (.iaload, 1) := by decide +kernel
theorem dL_law_1110 : decode cL_law 1110 = .ok (.aload_n 0, 1) := by decide +kernel
theorem dL_law_1111 : decode cL_law 1111 = .ok (.iload_n 3, 1) := by decide +kernel
theorem dL_law_1112 : decode cL_law 1112 = .ok (.iconst 2, 1) := by decide +kernel
theorem dL_law_1113 : decode cL_law 1113 = .ok (.iadd, 1) := by decide +kernel
theorem dL_law_1114 : decode cL_law 1114 = .ok (.iaload, 1) := by decide +kernel
theorem dL_law_1115 : decode cL_law 1115 = .ok (.aload_n 0, 1) := by decide +kernel
theorem dL_law_1116 : decode cL_law 1116 = .ok (.iload_n 3, 1) := by decide +kernel
theorem dL_law_1117 : decode cL_law 1117 = .ok (.iconst 3, 1) := by decide +kernel
theorem dL_law_1118 : decode cL_law 1118 = .ok (.iadd, 1) := by decide +kernel
theorem dL_law_1119 : decode cL_law 1119 = .ok (.iaload, 1) := by decide +kernel
theorem dL_law_1120 : decode cL_law 1120 = .ok (.invokevirtual 140, 3) := by decide +kernel
theorem dL_law_1123 : decode cL_law 1123 = .ok (.if_icmp .eq 319, 3) := by decide +kernel
theorem dL_law_1126 : decode cL_law 1126 = .ok (.iconst 0, 1) := by decide +kernel
theorem dL_law_1127 : decode cL_law 1127 = .ok (.ireturn, 1) := by decide +kernel
theorem dL_law_1128 : decode cL_law 1128 = .ok (.aload_n 1, 1) := by decide +kernel
theorem dL_law_1129 : decode cL_law 1129 = .ok (.aload_n 0, 1) := by decide +kernel
theorem dL_law_1130 : decode cL_law 1130 = .ok (.iload_n 3, 1) := by decide +kernel
theorem dL_law_1131 : decode cL_law 1131 = .ok (.iconst 1, 1) := by decide +kernel
theorem dL_law_1132 : decode cL_law 1132 = .ok (.iadd, 1) := by decide +kernel
theorem dL_law_1133 : decode cL_law 1133 = .ok (.iaload, 1) := by decide +kernel
theorem dL_law_1134 : decode cL_law 1134 = .ok (.aload_n 0, 1) := by decide +kernel
theorem dL_law_1135 : decode cL_law 1135 = .ok (.iload_n 3, 1) := by decide +kernel
theorem dL_law_1136 : decode cL_law 1136 = .ok (.iconst 2, 1) := by decide +kernel
theorem dL_law_1137 : decode cL_law 1137 = .ok (.iadd, 1) := by decide +kernel
theorem dL_law_1138 : decode cL_law 1138 = .ok (.iaload, 1) := by decide +kernel
theorem dL_law_1139 : decode cL_law 1139 = .ok (.aload_n 0, 1) := by decide +kernel
theorem dL_law_1140 : decode cL_law 1140 = .ok (.iload_n 3, 1) := by decide +kernel
theorem dL_law_1141 : decode cL_law 1141 = .ok (.iconst 3, 1) := by decide +kernel
theorem dL_law_1142 : decode cL_law 1142 = .ok (.iadd, 1) := by decide +kernel
theorem dL_law_1143 : decode cL_law 1143 = .ok (.iaload, 1) := by decide +kernel
theorem dL_law_1144 : decode cL_law 1144 = .ok (.aload_n 0, 1) := by decide +kernel
theorem dL_law_1145 : decode cL_law 1145 = .ok (.iload_n 3, 1) := by decide +kernel
theorem dL_law_1146 : decode cL_law 1146 = .ok (.iconst 4, 1) := by decide +kernel
theorem dL_law_1147 : decode cL_law 1147 = .ok (.iadd, 1) := by decide +kernel
theorem dL_law_1148 : decode cL_law 1148 = .ok (.iaload, 1) := by decide +kernel
theorem dL_law_1149 : decode cL_law 1149 = .ok (.invokevirtual 141, 3) := by decide +kernel
theorem dL_law_1152 : decode cL_law 1152 = .ok (.aload_n 2, 1) := by decide +kernel
theorem dL_law_1153 : decode cL_law 1153 = .ok (.aload_n 0, 1) := by decide +kernel
theorem dL_law_1154 : decode cL_law 1154 = .ok (.iload_n 3, 1) := by decide +kernel
theorem dL_law_1155 : decode cL_law 1155 = .ok (.iconst 1, 1) := by decide +kernel
theorem dL_law_1156 : decode cL_law 1156 = .ok (.iadd, 1) := by decide +kernel
theorem dL_law_1157 : decode cL_law 1157 = .ok (.iaload, 1) := by decide +kernel
theorem dL_law_1158 : decode cL_law 1158 = .ok (.aload_n 0, 1) := by decide +kernel
theorem dL_law_1159 : decode cL_law 1159 = .ok (.iload_n 3, 1) := by decide +kernel
theorem dL_law_1160 : decode cL_law 1160 = .ok (.iconst 2, 1) := by decide +kernel
theorem dL_law_1161 : decode cL_law 1161 = .ok (.iadd, 1) := by decide +kernel
theorem dL_law_1162 : decode cL_law 1162 = .ok (.iaload, 1) := by decide +kernel
theorem dL_law_1163 : decode cL_law 1163 = .ok (.aload_n 0, 1) := by decide +kernel
theorem dL_law_1164 : decode cL_law 1164 = .ok (.iload_n 3, 1) := by decide +kernel
theorem dL_law_1165 : decode cL_law 1165 = .ok (.iconst 3, 1) := by decide +kernel
theorem dL_law_1166 : decode cL_law 1166 = .ok (.iadd, 1) := by decide +kernel
theorem dL_law_1167 : decode cL_law 1167 = .ok (.iaload, 1) := by decide +kernel
theorem dL_law_1168 : decode cL_law 1168 = .ok (.aload_n 0, 1) := by decide +kernel
theorem dL_law_1169 : decode cL_law 1169 = .ok (.iload_n 3, 1) := by decide +kernel
theorem dL_law_1170 : decode cL_law 1170 = .ok (.iconst 4, 1) := by decide +kernel
theorem dL_law_1171 : decode cL_law 1171 = .ok (.iadd, 1) := by decide +kernel
theorem dL_law_1172 : decode cL_law 1172 = .ok (.iaload, 1) := by decide +kernel
theorem dL_law_1173 : decode cL_law 1173 = .ok (.invokevirtual 145, 3) := by decide +kernel
theorem dL_law_1176 : decode cL_law 1176 = .ok (.if_icmp .eq 266, 3) := by decide +kernel
theorem dL_law_1179 : decode cL_law 1179 = .ok (.iconst 0, 1) := by decide +kernel
theorem dL_law_1180 : decode cL_law 1180 = .ok (.ireturn, 1) := by decide +kernel
theorem dL_law_1181 : decode cL_law 1181 = .ok (.aload_n 1, 1) := by decide +kernel
theorem dL_law_1182 : decode cL_law 1182 = .ok (.aload_n 0, 1) := by decide +kernel
theorem dL_law_1183 : decode cL_law 1183 = .ok (.iload_n 3, 1) := by decide +kernel
theorem dL_law_1184 : decode cL_law 1184 = .ok (.iconst 1, 1) := by decide +kernel
theorem dL_law_1185 : decode cL_law 1185 = .ok (.iadd, 1) := by decide +kernel
theorem dL_law_1186 : decode cL_law 1186 = .ok (.iaload, 1) := by decide +kernel
theorem dL_law_1187 : decode cL_law 1187 = .ok (.aload_n 0, 1) := by decide +kernel
theorem dL_law_1188 : decode cL_law 1188 = .ok (.iload_n 3, 1) := by decide +kernel
theorem dL_law_1189 : decode cL_law 1189 = .ok (.iconst 2, 1) := by decide +kernel
theorem dL_law_1190 : decode cL_law 1190 = .ok (.iadd, 1) := by decide +kernel
theorem dL_law_1191 : decode cL_law 1191 = .ok (.iaload, 1) := by decide +kernel
theorem dL_law_1192 : decode cL_law 1192 = .ok (.aload_n 0, 1) := by decide +kernel
theorem dL_law_1193 : decode cL_law 1193 = .ok (.iload_n 3, 1) := by decide +kernel
theorem dL_law_1194 : decode cL_law 1194 = .ok (.iconst 3, 1) := by decide +kernel
theorem dL_law_1195 : decode cL_law 1195 = .ok (.iadd, 1) := by decide +kernel
theorem dL_law_1196 : decode cL_law 1196 = .ok (.iaload, 1) := by decide +kernel
theorem dL_law_1197 : decode cL_law 1197 = .ok (.aload_n 0, 1) := by decide +kernel
theorem dL_law_1198 : decode cL_law 1198 = .ok (.iload_n 3, 1) := by decide +kernel
theorem dL_law_1199 : decode cL_law 1199 = .ok (.iconst 4, 1) := by decide +kernel
theorem dL_law_1200 : decode cL_law 1200 = .ok (.iadd, 1) := by decide +kernel
theorem dL_law_1201 : decode cL_law 1201 = .ok (.iaload, 1) := by decide +kernel
theorem dL_law_1202 : decode cL_law 1202 = .ok (.aload_n 0, 1) := by decide +kernel
theorem dL_law_1203 : decode cL_law 1203 = .ok (.iload_n 3, 1) := by decide +kernel
theorem dL_law_1204 : decode cL_law 1204 = .ok (.iconst 5, 1) := by decide +kernel
theorem dL_law_1205 : decode cL_law 1205 = .ok (.iadd, 1) := by decide +kernel
theorem dL_law_1206 : decode cL_law 1206 = .ok (.iaload, 1) := by decide +kernel
theorem dL_law_1207 : decode cL_law 1207 = .ok (.invokevirtual 146, 3) := by decide +kernel
theorem dL_law_1210 : decode cL_law 1210 = .ok (.aload_n 2, 1) := by decide +kernel
theorem dL_law_1211 : decode cL_law 1211 = .ok (.aload_n 0, 1) := by decide +kernel
theorem dL_law_1212 : decode cL_law 1212 = .ok (.iload_n 3, 1) := by decide +kernel
theorem dL_law_1213 : decode cL_law 1213 = .ok (.iconst 1, 1) := by decide +kernel
theorem dL_law_1214 : decode cL_law 1214 = .ok (.iadd, 1) := by decide +kernel
theorem dL_law_1215 : decode cL_law 1215 = .ok (.iaload, 1) := by decide +kernel
theorem dL_law_1216 : decode cL_law 1216 = .ok (.aload_n 0, 1) := by decide +kernel
theorem dL_law_1217 : decode cL_law 1217 = .ok (.iload_n 3, 1) := by decide +kernel
theorem dL_law_1218 : decode cL_law 1218 = .ok (.iconst 2, 1) := by decide +kernel
theorem dL_law_1219 : decode cL_law 1219 = .ok (.iadd, 1) := by decide +kernel
theorem dL_law_1220 : decode cL_law 1220 = .ok (.iaload, 1) := by decide +kernel
theorem dL_law_1221 : decode cL_law 1221 = .ok (.aload_n 0, 1) := by decide +kernel
theorem dL_law_1222 : decode cL_law 1222 = .ok (.iload_n 3, 1) := by decide +kernel
theorem dL_law_1223 : decode cL_law 1223 = .ok (.iconst 3, 1) := by decide +kernel
theorem dL_law_1224 : decode cL_law 1224 = .ok (.iadd, 1) := by decide +kernel
theorem dL_law_1225 : decode cL_law 1225 = .ok (.iaload, 1) := by decide +kernel
theorem dL_law_1226 : decode cL_law 1226 = .ok (.aload_n 0, 1) := by decide +kernel
theorem dL_law_1227 : decode cL_law 1227 = .ok (.iload_n 3, 1) := by decide +kernel
theorem dL_law_1228 : decode cL_law 1228 = .ok (.iconst 4, 1) := by decide +kernel
theorem dL_law_1229 : decode cL_law 1229 = .ok (.iadd, 1) := by decide +kernel
theorem dL_law_1230 : decode cL_law 1230 = .ok (.iaload, 1) := by decide +kernel
theorem dL_law_1231 : decode cL_law 1231 = .ok (.aload_n 0, 1) := by decide +kernel
theorem dL_law_1232 : decode cL_law 1232 = .ok (.iload_n 3, 1) := by decide +kernel
theorem dL_law_1233 : decode cL_law 1233 = .ok (.iconst 5, 1) := by decide +kernel
theorem dL_law_1234 : decode cL_law 1234 = .ok (.iadd, 1) := by decide +kernel
theorem dL_law_1235 : decode cL_law 1235 = .ok (.iaload, 1) := by decide +kernel
theorem dL_law_1236 : decode cL_law 1236 = .ok (.invokevirtual 150, 3) := by decide +kernel
theorem dL_law_1239 : decode cL_law 1239 = .ok (.if_icmp .eq 203, 3) := by decide +kernel
theorem dL_law_1242 : decode cL_law 1242 = .ok (.iconst 0, 1) := by decide +kernel
theorem dL_law_1243 : decode cL_law 1243 = .ok (.ireturn, 1) := by decide +kernel
theorem dL_law_1244 : decode cL_law 1244 = .ok (.aload_n 1, 1) := by decide +kernel
theorem dL_law_1245 : decode cL_law 1245 = .ok (.invokevirtual 151, 3) := by decide +kernel
theorem dL_law_1248 : decode cL_law 1248 = .ok (.aload_n 2, 1) := by decide +kernel
theorem dL_law_1249 : decode cL_law 1249 = .ok (.invokevirtual 154, 3) := by decide +kernel
theorem dL_law_1252 : decode cL_law 1252 = .ok (.if_icmp .eq 190, 3) := by decide +kernel
theorem dL_law_1255 : decode cL_law 1255 = .ok (.iconst 0, 1) := by decide +kernel
theorem dL_law_1256 : decode cL_law 1256 = .ok (.ireturn, 1) := by decide +kernel
theorem dL_law_1257 : decode cL_law 1257 = .ok (.aload_n 1, 1) := by decide +kernel
theorem dL_law_1258 : decode cL_law 1258 = .ok (.aload_n 0, 1) := by decide +kernel
theorem dL_law_1259 : decode cL_law 1259 = .ok (.iload_n 3, 1) := by decide +kernel
theorem dL_law_1260 : decode cL_law 1260 = .ok (.iconst 1, 1) := by decide +kernel
theorem dL_law_1261 : decode cL_law 1261 = .ok (.iadd, 1) := by decide +kernel
theorem dL_law_1262 : decode cL_law 1262 = .ok (.iaload, 1) := by decide +kernel
theorem dL_law_1263 : decode cL_law 1263 = .ok (.aload_n 0, 1) := by decide +kernel
theorem dL_law_1264 : decode cL_law 1264 = .ok (.iload_n 3, 1) := by decide +kernel
theorem dL_law_1265 : decode cL_law 1265 = .ok (.iconst 2, 1) := by decide +kernel
theorem dL_law_1266 : decode cL_law 1266 = .ok (.iadd, 1) := by decide +kernel
theorem dL_law_1267 : decode cL_law 1267 = .ok (.iaload, 1) := by decide +kernel
theorem dL_law_1268 : decode cL_law 1268 = .ok (.aload_n 0, 1) := by decide +kernel
theorem dL_law_1269 : decode cL_law 1269 = .ok (.iload_n 3, 1) := by decide +kernel
theorem dL_law_1270 : decode cL_law 1270 = .ok (.iconst 3, 1) := by decide +kernel
theorem dL_law_1271 : decode cL_law 1271 = .ok (.iadd, 1) := by decide +kernel
theorem dL_law_1272 : decode cL_law 1272 = .ok (.iaload, 1) := by decide +kernel
theorem dL_law_1273 : decode cL_law 1273 = .ok (.invokevirtual 155, 3) := by decide +kernel
theorem dL_law_1276 : decode cL_law 1276 = .ok (.aload_n 2, 1) := by decide +kernel
theorem dL_law_1277 : decode cL_law 1277 = .ok (.aload_n 0, 1) := by decide +kernel
theorem dL_law_1278 : decode cL_law 1278 = .ok (.iload_n 3, 1) := by decide +kernel
theorem dL_law_1279 : decode cL_law 1279 = .ok (.iconst 1, 1) := by decide +kernel
theorem dL_law_1280 : decode cL_law 1280 = .ok (.iadd, 1) := by decide +kernel
theorem dL_law_1281 : decode cL_law 1281 = .ok (.iaload, 1) := by decide +kernel
theorem dL_law_1282 : decode cL_law 1282 = .ok (.aload_n 0, 1) := by decide +kernel
theorem dL_law_1283 : decode cL_law 1283 = .ok (.iload_n 3, 1) := by decide +kernel
theorem dL_law_1284 : decode cL_law 1284 = .ok (.iconst 2, 1) := by decide +kernel
theorem dL_law_1285 : decode cL_law 1285 = .ok (.iadd, 1) := by decide +kernel
theorem dL_law_1286 : decode cL_law 1286 = .ok (.iaload, 1) := by decide +kernel
theorem dL_law_1287 : decode cL_law 1287 = .ok (.aload_n 0, 1) := by decide +kernel
theorem dL_law_1288 : decode cL_law 1288 = .ok (.iload_n 3, 1) := by decide +kernel
theorem dL_law_1289 : decode cL_law 1289 = .ok (.iconst 3, 1) := by decide +kernel
theorem dL_law_1290 : decode cL_law 1290 = .ok (.iadd, 1) := by decide +kernel
theorem dL_law_1291 : decode cL_law 1291 = .ok (.iaload, 1) := by decide +kernel
theorem dL_law_1292 : decode cL_law 1292 = .ok (.invokevirtual 159, 3) := by decide +kernel
theorem dL_law_1295 : decode cL_law 1295 = .ok (.lcmp, 1) := by decide +kernel
theorem dL_law_1296 : decode cL_law 1296 = .ok (.ifCond .eq 146, 3) := by decide +kernel
theorem dL_law_1299 : decode cL_law 1299 = .ok (.iconst 0, 1) := by decide +kernel
theorem dL_law_1300 : decode cL_law 1300 = .ok (.ireturn, 1) := by decide +kernel
theorem dL_law_1301 : decode cL_law 1301 = .ok (.aload_n 1, 1) := by decide +kernel
theorem dL_law_1302 : decode cL_law 1302 = .ok (.aload_n 0, 1) := by decide +kernel
theorem dL_law_1303 : decode cL_law 1303 = .ok (.iload_n 3, 1) := by decide +kernel
theorem dL_law_1304 : decode cL_law 1304 = .ok (.iconst 1, 1) := by decide +kernel
theorem dL_law_1305 : decode cL_law 1305 = .ok (.iadd, 1) := by decide +kernel
theorem dL_law_1306 : decode cL_law 1306 = .ok (.iaload, 1) := by decide +kernel
theorem dL_law_1307 : decode cL_law 1307 = .ok (.invokevirtual 160, 3) := by decide +kernel
theorem dL_law_1310 : decode cL_law 1310 = .ok (.aload_n 2, 1) := by decide +kernel
theorem dL_law_1311 : decode cL_law 1311 = .ok (.aload_n 0, 1) := by decide +kernel
theorem dL_law_1312 : decode cL_law 1312 = .ok (.iload_n 3, 1) := by decide +kernel
theorem dL_law_1313 : decode cL_law 1313 = .ok (.iconst 1, 1) := by decide +kernel
theorem dL_law_1314 : decode cL_law 1314 = .ok (.iadd, 1) := by decide +kernel
theorem dL_law_1315 : decode cL_law 1315 = .ok (.iaload, 1) := by decide +kernel
theorem dL_law_1316 : decode cL_law 1316 = .ok (.invokevirtual 163, 3) := by decide +kernel
theorem dL_law_1319 : decode cL_law 1319 = .ok (.if_icmp .eq 123, 3) := by decide +kernel
theorem dL_law_1322 : decode cL_law 1322 = .ok (.iconst 0, 1) := by decide +kernel
theorem dL_law_1323 : decode cL_law 1323 = .ok (.ireturn, 1) := by decide +kernel
theorem dL_law_1324 : decode cL_law 1324 = .ok (.aload_n 1, 1) := by decide +kernel
theorem dL_law_1325 : decode cL_law 1325 = .ok (.aload_n 0, 1) := by decide +kernel
theorem dL_law_1326 : decode cL_law 1326 = .ok (.iload_n 3, 1) := by decide +kernel
theorem dL_law_1327 : decode cL_law 1327 = .ok (.iconst 1, 1) := by decide +kernel
theorem dL_law_1328 : decode cL_law 1328 = .ok (.iadd, 1) := by decide +kernel
theorem dL_law_1329 : decode cL_law 1329 = .ok (.iaload, 1) := by decide +kernel
theorem dL_law_1330 : decode cL_law 1330 = .ok (.invokevirtual 164, 3) := by decide +kernel
theorem dL_law_1333 : decode cL_law 1333 = .ok (.aload_n 2, 1) := by decide +kernel
theorem dL_law_1334 : decode cL_law 1334 = .ok (.aload_n 0, 1) := by decide +kernel
theorem dL_law_1335 : decode cL_law 1335 = .ok (.iload_n 3, 1) := by decide +kernel
theorem dL_law_1336 : decode cL_law 1336 = .ok (.iconst 1, 1) := by decide +kernel
theorem dL_law_1337 : decode cL_law 1337 = .ok (.iadd, 1) := by decide +kernel
theorem dL_law_1338 : decode cL_law 1338 = .ok (.iaload, 1) := by decide +kernel
theorem dL_law_1339 : decode cL_law 1339 = .ok (.invokevirtual 167, 3) := by decide +kernel
theorem dL_law_1342 : decode cL_law 1342 = .ok (.if_icmp .eq 100, 3) := by decide +kernel
theorem dL_law_1345 : decode cL_law 1345 = .ok (.iconst 0, 1) := by decide +kernel
theorem dL_law_1346 : decode cL_law 1346 = .ok (.ireturn, 1) := by decide +kernel
theorem dL_law_1347 : decode cL_law 1347 = .ok (.aload_n 1, 1) := by decide +kernel
theorem dL_law_1348 : decode cL_law 1348 = .ok (.aload_n 0, 1) := by decide +kernel
theorem dL_law_1349 : decode cL_law 1349 = .ok (.iload_n 3, 1) := by decide +kernel
theorem dL_law_1350 : decode cL_law 1350 = .ok (.iconst 1, 1) := by decide +kernel
theorem dL_law_1351 : decode cL_law 1351 = .ok (.iadd, 1) := by decide +kernel
theorem dL_law_1352 : decode cL_law 1352 = .ok (.iaload, 1) := by decide +kernel
theorem dL_law_1353 : decode cL_law 1353 = .ok (.invokevirtual 168, 3) := by decide +kernel
theorem dL_law_1356 : decode cL_law 1356 = .ok (.aload_n 2, 1) := by decide +kernel
theorem dL_law_1357 : decode cL_law 1357 = .ok (.aload_n 0, 1) := by decide +kernel
theorem dL_law_1358 : decode cL_law 1358 = .ok (.iload_n 3, 1) := by decide +kernel
theorem dL_law_1359 : decode cL_law 1359 = .ok (.iconst 1, 1) := by decide +kernel
theorem dL_law_1360 : decode cL_law 1360 = .ok (.iadd, 1) := by decide +kernel
theorem dL_law_1361 : decode cL_law 1361 = .ok (.iaload, 1) := by decide +kernel
theorem dL_law_1362 : decode cL_law 1362 = .ok (.invokevirtual 171, 3) := by decide +kernel
theorem dL_law_1365 : decode cL_law 1365 = .ok (.if_icmp .eq 77, 3) := by decide +kernel
theorem dL_law_1368 : decode cL_law 1368 = .ok (.iconst 0, 1) := by decide +kernel
theorem dL_law_1369 : decode cL_law 1369 = .ok (.ireturn, 1) := by decide +kernel
theorem dL_law_1370 : decode cL_law 1370 = .ok (.aload_n 1, 1) := by decide +kernel
theorem dL_law_1371 : decode cL_law 1371 = .ok (.invokevirtual 172, 3) := by decide +kernel
theorem dL_law_1374 : decode cL_law 1374 = .ok (.aload_n 2, 1) := by decide +kernel
theorem dL_law_1375 : decode cL_law 1375 = .ok (.invokevirtual 175, 3) := by decide +kernel
theorem dL_law_1378 : decode cL_law 1378 = .ok (.if_icmp .eq 64, 3) := by decide +kernel
theorem dL_law_1381 : decode cL_law 1381 = .ok (.iconst 0, 1) := by decide +kernel
theorem dL_law_1382 : decode cL_law 1382 = .ok (.ireturn, 1) := by decide +kernel
theorem dL_law_1383 : decode cL_law 1383 = .ok (.aload_n 1, 1) := by decide +kernel
theorem dL_law_1384 : decode cL_law 1384 = .ok (.invokevirtual 176, 3) := by decide +kernel
theorem dL_law_1387 : decode cL_law 1387 = .ok (.aload_n 2, 1) := by decide +kernel
theorem dL_law_1388 : decode cL_law 1388 = .ok (.invokevirtual 179, 3) := by decide +kernel
theorem dL_law_1391 : decode cL_law 1391 = .ok (.if_icmp .eq 51, 3) := by decide +kernel
theorem dL_law_1394 : decode cL_law 1394 = .ok (.iconst 0, 1) := by decide +kernel
theorem dL_law_1395 : decode cL_law 1395 = .ok (.ireturn, 1) := by decide +kernel
theorem dL_law_1396 : decode cL_law 1396 = .ok (.aload_n 1, 1) := by decide +kernel
theorem dL_law_1397 : decode cL_law 1397 = .ok (.aload_n 0, 1) := by decide +kernel
theorem dL_law_1398 : decode cL_law 1398 = .ok (.iload_n 3, 1) := by decide +kernel
theorem dL_law_1399 : decode cL_law 1399 = .ok (.iconst 1, 1) := by decide +kernel
theorem dL_law_1400 : decode cL_law 1400 = .ok (.iadd, 1) := by decide +kernel
theorem dL_law_1401 : decode cL_law 1401 = .ok (.iaload, 1) := by decide +kernel
theorem dL_law_1402 : decode cL_law 1402 = .ok (.invokevirtual 180, 3) := by decide +kernel
theorem dL_law_1405 : decode cL_law 1405 = .ok (.aload_n 2, 1) := by decide +kernel
theorem dL_law_1406 : decode cL_law 1406 = .ok (.aload_n 0, 1) := by decide +kernel
theorem dL_law_1407 : decode cL_law 1407 = .ok (.iload_n 3, 1) := by decide +kernel
theorem dL_law_1408 : decode cL_law 1408 = .ok (.iconst 1, 1) := by decide +kernel
theorem dL_law_1409 : decode cL_law 1409 = .ok (.iadd, 1) := by decide +kernel
theorem dL_law_1410 : decode cL_law 1410 = .ok (.iaload, 1) := by decide +kernel
theorem dL_law_1411 : decode cL_law 1411 = .ok (.invokevirtual 183, 3) := by decide +kernel
theorem dL_law_1414 : decode cL_law 1414 = .ok (.if_icmp .eq 28, 3) := by decide +kernel
theorem dL_law_1417 : decode cL_law 1417 = .ok (.iconst 0, 1) := by decide +kernel
theorem dL_law_1418 : decode cL_law 1418 = .ok (.ireturn, 1) := by decide +kernel
theorem dL_law_1419 : decode cL_law 1419 = .ok (.aload_n 1, 1) := by decide +kernel
theorem dL_law_1420 : decode cL_law 1420 = .ok (.aload_n 0, 1) := by decide +kernel
theorem dL_law_1421 : decode cL_law 1421 = .ok (.iload_n 3, 1) := by decide +kernel
theorem dL_law_1422 : decode cL_law 1422 = .ok (.iconst 1, 1) := by decide +kernel
theorem dL_law_1423 : decode cL_law 1423 = .ok (.iadd, 1) := by decide +kernel
theorem dL_law_1424 : decode cL_law 1424 = .ok (.iaload, 1) := by decide +kernel
theorem dL_law_1425 : decode cL_law 1425 = .ok (.invokevirtual 184, 3) := by decide +kernel
theorem dL_law_1428 : decode cL_law 1428 = .ok (.aload_n 2, 1) := by decide +kernel
theorem dL_law_1429 : decode cL_law 1429 = .ok (.aload_n 0, 1) := by decide +kernel
theorem dL_law_1430 : decode cL_law 1430 = .ok (.iload_n 3, 1) := by decide +kernel
theorem dL_law_1431 : decode cL_law 1431 = .ok (.iconst 1, 1) := by decide +kernel
theorem dL_law_1432 : decode cL_law 1432 = .ok (.iadd, 1) := by decide +kernel
theorem dL_law_1433 : decode cL_law 1433 = .ok (.iaload, 1) := by decide +kernel
theorem dL_law_1434 : decode cL_law 1434 = .ok (.invokevirtual 187, 3) := by decide +kernel
theorem dL_law_1437 : decode cL_law 1437 = .ok (.if_icmp .eq 5, 3) := by decide +kernel
theorem dL_law_1440 : decode cL_law 1440 = .ok (.iconst 0, 1) := by decide +kernel
theorem dL_law_1441 : decode cL_law 1441 = .ok (.ireturn, 1) := by decide +kernel
theorem dL_law_1442 : decode cL_law 1442 = .ok (.iinc 3 6, 3) := by decide +kernel
theorem dL_law_1445 : decode cL_law 1445 = .ok (.goto (-1427), 3) := by decide +kernel
theorem dL_law_1448 : decode cL_law 1448 = .ok (.iconst 1, 1) := by decide +kernel
theorem dL_law_1449 : decode cL_law 1449 = .ok (.ireturn, 1) := by decide +kernel
end
section
/-! ===== the state of all cells: int slots, long slots, reference slots, by cell and place ===== -/
abbrev kS : Type := (Nat → Nat → Int32) × (Nat → Nat → Int64) × (Nat → Nat → Option Nat)
def k_i (σ : kS) : Nat → Nat → Int32 := σ.1
def k_l (σ : kS) : Nat → Nat → Int64 := σ.2.1
def k_r (σ : kS) : Nat → Nat → Option Nat := σ.2.2
def k_wi (σ : kS) (x : Nat) (f : Nat → Int32) : kS := (va_up σ.1 x f, σ.2.1, σ.2.2)
def k_wl (σ : kS) (x : Nat) (f : Nat → Int64) : kS := (σ.1, va_up σ.2.1 x f, σ.2.2)
def k_wr (σ : kS) (x : Nat) (f : Nat → Option Nat) : kS := (σ.1, σ.2.1, va_up σ.2.2 x f)
theorem k_ii (σ : kS) (x : Nat) (f : Nat → Int32) : k_i (k_wi σ x f) x = f := by simp [k_i, k_wi, va_up]
theorem k_in (σ : kS) {x y : Nat} (f : Nat → Int32) (h : y ≠ x) : k_i (k_wi σ x f) y = k_i σ y := by simp [k_i, k_wi, va_up, h]
theorem k_il (σ : kS) (x y : Nat) (f : Nat → Int64) : k_i (k_wl σ x f) y = k_i σ y := rfl
theorem k_ir (σ : kS) (x y : Nat) (f : Nat → Option Nat) : k_i (k_wr σ x f) y = k_i σ y := rfl
theorem k_ll (σ : kS) (x : Nat) (f : Nat → Int64) : k_l (k_wl σ x f) x = f := by simp [k_l, k_wl, va_up]
theorem k_ln (σ : kS) {x y : Nat} (f : Nat → Int64) (h : y ≠ x) : k_l (k_wl σ x f) y = k_l σ y := by simp [k_l, k_wl, va_up, h]
theorem k_li (σ : kS) (x y : Nat) (f : Nat → Int32) : k_l (k_wi σ x f) y = k_l σ y := rfl
theorem k_lr (σ : kS) (x y : Nat) (f : Nat → Option Nat) : k_l (k_wr σ x f) y = k_l σ y := rfl
theorem k_rr (σ : kS) (x : Nat) (f : Nat → Option Nat) : k_r (k_wr σ x f) x = f := by simp [k_r, k_wr, va_up]
theorem k_rn (σ : kS) {x y : Nat} (f : Nat → Option Nat) (h : y ≠ x) : k_r (k_wr σ x f) y = k_r σ y := by simp [k_r, k_wr, va_up, h]
theorem k_ri (σ : kS) (x y : Nat) (f : Nat → Int32) : k_r (k_wi σ x f) y = k_r σ y := rfl
theorem k_rl (σ : kS) (x y : Nat) (f : Nat → Int64) : k_r (k_wl σ x f) y = k_r σ y := rfl
/-- the cells' shapes: (0, class, kinds of its fields: 0 a number, 2 a reference), (1, n): n ints, (2, n): n longs, (3, n): n references -/
def k_shl : List (Nat × Nat × List Nat) := [(0, 9, [2, 2, 0, 0, 0, 0, 2, 2, 2, 2, 2]), (0, 6, [2, 2, 2, 2, 0, 0, 0]), (0, 4, [2, 2, 2, 2, 2, 0, 0, 2]), (1, 100, []), (1, 100, []), (1, 1800, []), (1, 100, []), (1, 100, []), (1, 18, []), (0, 5, [2, 2, 2, 2, 2, 0]), (1, 100, []), (1, 1800, []), (1, 100, []), (2, 100, []), (2, 100, []), (0, 0, [2, 2, 2, 0]), (1, 12, []), (1, 12, []), (1, 240, []), (1, 40, []), (0, 6, [2, 2, 2, 2, 0, 0, 0]), (0, 4, [2, 2, 2, 2, 2, 0, 0, 2]), (1, 100, []), (1, 100, []), (1, 1800, []), (1, 100, []), (1, 100, []), (1, 18, []), (0, 5, [2, 2, 2, 2, 2, 0]), (1, 100, []), (1, 1800, []), (1, 100, []), (2, 100, []), (2, 100, []), (0, 0, [2, 2, 2, 0]), (1, 12, []), (1, 12, []), (1, 240, []), (1, 40, []), (0, 8, [2, 0]), (0, 7, [2, 0]), (1, 40, []), (0, 8, [2, 0]), (0, 7, [2, 0]), (1, 40, []), (0, 3, [0, 0, 0, 0, 0, 2, 0, 0, 2, 2, 0, 0, 2, 2, 2, 2]), (1, 6, []), (1, 6, []), (1, 6, []), (1, 6, []), (1, 30, []), (1, 30, []), (3, 6, []), (1, 30, []), (1, 30, []), (1, 30, []), (1, 30, []), (1, 30, []), (1, 30, []), (0, 2, [2, 2, 2]), (1, 18, []), (2, 10, []), (2, 10, []), (0, 1, [2, 2, 0, 0, 0, 0]), (1, 14, []), (1, 15, []), (0, 10, [2, 2, 0, 0, 0, 0, 0, 0, 2, 0, 0, 2, 2, 2, 0, 2, 2, 2, 2, 2, 0, 2, 2]), (1, 8530, []), (1, 8530, []), (1, 40, []), (1, 30, []), (1, 30, []), (1, 6, []), (1, 36, []), (1, 30, []), (1, 18, []), (2, 10, []), (2, 10, []), (1, 14, []), (1, 16384, [])]
def k_sh (x : Nat) : Nat × Nat × List Nat := k_shl.getD x (9, 0, [])
def k_fv (ad : Nat → Nat) (σ : kS) (x k kd : Nat) : Value := if kd = 2 then va_rf ((k_r σ x k).map ad) else .int (k_i σ x k)
def k_ce0 (ad : Nat → Nat) (cA : Nat → ClassId) (σ : kS) (x : Nat) (sh : Nat × Nat × List Nat) : va_E :=
  if sh.1 = 0 then .inr (sh.2.1, (List.range sh.2.2.length).map (fun k => k_fv ad σ x k (sh.2.2.getD k 0)))
  else if sh.1 = 1 then .inl (cA 0, sh.2.1, .inl (k_i σ x))
  else if sh.1 = 2 then .inl (cA 1, sh.2.1, .inr (.inl (k_l σ x)))
  else .inl (cA 2, sh.2.1, .inr (.inr (.inr (.inr (fun j => (k_r σ x j).map ad)))))
def k_ce (ad : Nat → Nat) (cA : Nat → ClassId) (σ : kS) (x : Nat) : va_E := k_ce0 ad cA σ x (k_sh x)
def k_W (ad : Nat → Nat) (cA : Nat → ClassId) (n : Nat) (σ : kS) : va_W := (List.range n).map (fun i => (ad i, k_ce ad cA σ i))
theorem k_W_at {ad : Nat → Nat} {cA : Nat → ClassId} {n : Nat} {σ : kS} {x : Nat} (h : x < n) : (k_W ad cA n σ)[x]? = some (ad x, k_ce ad cA σ x) := by
  simp [k_W, List.getElem?_map, List.getElem?_range h]
theorem k_W_set {ad : Nat → Nat} {cA : Nat → ClassId} {n : Nat} {σ σ' : kS} {x : Nat} (h : x < n) (ho : ∀ j, j ≠ x → k_ce ad cA σ' j = k_ce ad cA σ j) {e : va_E} (he : k_ce ad cA σ' x = e) : (k_W ad cA n σ).set x (ad x, e) = k_W ad cA n σ' := by
  subst he
  apply List.ext_getElem?
  intro j
  by_cases hj : j = x
  · subst hj
    rw [List.getElem?_set_self (by simp [k_W]; exact h), k_W_at h]
  · rw [List.getElem?_set_ne (Ne.symm hj)]
    by_cases hl : j < n
    · rw [k_W_at hl, k_W_at hl, ho j hj]
    · rw [List.getElem?_eq_none (by simp [k_W]; omega), List.getElem?_eq_none (by simp [k_W]; omega)]
theorem k_W_push {ad : Nat → Nat} {cA : Nat → ClassId} {n : Nat} {σ : kS} {e : va_E} (he : k_ce ad cA σ n = e) : k_W ad cA n σ ++ [(ad n, e)] = k_W ad cA (n + 1) σ := by
  subst he
  simp [k_W, List.range_succ]
theorem k_obj {ad : Nat → Nat} {cA : Nat → ClassId} {σ : kS} {x ci : Nat} {ks : List Nat} (h : k_sh x = (0, ci, ks)) : k_ce ad cA σ x = .inr (ci, (List.range ks.length).map (fun k => k_fv ad σ x k (ks.getD k 0))) := by
  simp [k_ce, k_ce0, h]
theorem k_arI {ad : Nat → Nat} {cA : Nat → ClassId} {σ : kS} {x n : Nat} (h : k_sh x = (1, n, [])) : k_ce ad cA σ x = .inl (cA 0, n, .inl (k_i σ x)) := by
  simp [k_ce, k_ce0, h]
theorem k_arL {ad : Nat → Nat} {cA : Nat → ClassId} {σ : kS} {x n : Nat} (h : k_sh x = (2, n, [])) : k_ce ad cA σ x = .inl (cA 1, n, .inr (.inl (k_l σ x))) := by
  simp [k_ce, k_ce0, h]
theorem k_arR {ad : Nat → Nat} {cA : Nat → ClassId} {σ : kS} {x n : Nat} (h : k_sh x = (3, n, [])) : k_ce ad cA σ x = .inl (cA 2, n, .inr (.inr (.inr (.inr (fun j => (k_r σ x j).map ad))))) := by
  simp [k_ce, k_ce0, h]
/-- another cell's slots don't show in a cell -/
theorem k_ce_same {ad : Nat → Nat} {cA : Nat → ClassId} {σ σ' : kS} {x : Nat} (h1 : k_i σ' x = k_i σ x) (h2 : k_l σ' x = k_l σ x) (h3 : k_r σ' x = k_r σ x) : k_ce ad cA σ' x = k_ce ad cA σ x := by
  unfold k_ce k_ce0 k_fv
  rw [h1, h2, h3]
theorem k_ce_wi {ad : Nat → Nat} {cA : Nat → ClassId} {σ : kS} {x : Nat} {f : Nat → Int32} : ∀ j, j ≠ x → k_ce ad cA (k_wi σ x f) j = k_ce ad cA σ j := fun j h => k_ce_same (k_in σ f h) rfl rfl
theorem k_ce_wl {ad : Nat → Nat} {cA : Nat → ClassId} {σ : kS} {x : Nat} {f : Nat → Int64} : ∀ j, j ≠ x → k_ce ad cA (k_wl σ x f) j = k_ce ad cA σ j := fun j h => k_ce_same rfl (k_ln σ f h) rfl
theorem k_ce_wr {ad : Nat → Nat} {cA : Nat → ClassId} {σ : kS} {x : Nat} {f : Nat → Option Nat} : ∀ j, j ≠ x → k_ce ad cA (k_wr σ x f) j = k_ce ad cA σ j := fun j h => k_ce_same rfl rfl (k_rn σ f h)
theorem k_rset {α : Type} (n k : Nat) (f : Nat → α) (v : α) : ((List.range n).map f).set k v = (List.range n).map (fun j => if j = k then v else f j) := by
  apply List.ext_getElem?
  intro j
  by_cases hj : j = k
  · subst hj
    by_cases hl : j < n
    · rw [List.getElem?_set_self (by simp; exact hl)]
      simp [List.getElem?_range hl]
    · rw [List.getElem?_eq_none (by simp; omega), List.getElem?_eq_none (by simp; omega)]
  · rw [List.getElem?_set_ne (Ne.symm hj)]
    by_cases hl : j < n
    · simp [List.getElem?_range hl, hj]
    · rw [List.getElem?_eq_none (by simp; omega), List.getElem?_eq_none (by simp; omega)]
/-! ===== values, locals, words ===== -/
def k_v (ad : Nat → Nat) : Value → Value
  | .ref i => .ref (ad i)
  | v => v
theorem k_v_cat (ad : Nat → Nat) (v : Value) : (k_v ad v).category = v.category := by cases v <;> rfl
def k_as (ad : Nat → Nat) (ls : List (Option Value)) : List (Nat × Value) := (List.range ls.length).filterMap (fun k => (ls.getD k none).map (fun v => (k, k_v ad v)))
theorem k_as_mem {ad : Nat → Nat} {ls : List (Option Value)} {q : Nat × Value} : q ∈ k_as ad ls ↔ ∃ v, ls[q.1]? = some (some v) ∧ q.2 = k_v ad v := by
  unfold k_as
  rw [List.mem_filterMap]
  constructor
  · rintro ⟨k, hk, h⟩
    have hk := List.mem_range.mp hk
    rw [List.getD_eq_getElem?_getD] at h
    cases h2 : ls[k]? with
    | none => rw [h2] at h; simp at h
    | some o =>
      rw [h2] at h
      cases o with
      | none => simp at h
      | some v =>
        simp at h
        subst h
        exact ⟨v, h2, rfl⟩
  · rintro ⟨v, h1, h2⟩
    refine ⟨q.1, List.mem_range.mpr (List.getElem?_eq_some_iff.mp h1).1, ?_⟩
    rw [List.getD_eq_getElem?_getD, h1]
    simp [← h2]
def k_L (L : Array Slot) (mx : Nat) (ad : Nat → Nat) (ls : List (Option Value)) : Prop := lv_has L mx (k_as ad ls)
theorem k_at {L : Array Slot} {mx : Nat} {ad : Nat → Nat} {ls : List (Option Value)} (h : k_L L mx ad ls) {i : Nat} {v : Value} (hl : ls[i]? = some (some v)) : L[i]? = some (.val (k_v ad v)) := h.2.2 (i, k_v ad v) (k_as_mem.mpr ⟨v, hl, rfl⟩)
/-- no long stands at the place ahead -/
def k_ok1 (ls : List (Option Value)) (i : Nat) : Bool := match i with
  | 0 => true
  | i + 1 => match ls.getD i none with
    | none => true
    | some v => v.category == 1
theorem k_st1 {L : Array Slot} {mx : Nat} {ad : Nat → Nat} {ls : List (Option Value)} {i : Nat} {v : Value} (h : lv_has L mx ((i, k_v ad v) :: (k_as ad ls).filter (fun q => !(q.1 == i) && !(q.1 + 1 == i && q.2.category == 2)))) (hok : k_ok1 ls i = true) : k_L L mx ad (ls.set i (some v)) := by
  refine ⟨h.1, h.2.1, fun q hq => ?_⟩
  obtain ⟨w, h1, h2⟩ := k_as_mem.mp hq
  apply h.2.2 q
  by_cases hi : q.1 = i
  · rw [hi] at h1
    have hlt : i < ls.length := by have := (List.getElem?_eq_some_iff.mp h1).1; simpa using this
    rw [List.getElem?_set_self hlt] at h1
    cases h1
    rw [List.mem_cons]
    left
    rw [← hi, ← h2]
  · rw [List.getElem?_set_ne (Ne.symm hi)] at h1
    rw [List.mem_cons]
    right
    rw [List.mem_filter]
    refine ⟨k_as_mem.mpr ⟨w, h1, h2⟩, ?_⟩
    simp only [Bool.and_eq_true, Bool.not_eq_true', beq_eq_false_iff_ne, ne_eq, hi, not_false_eq_true, true_and, Bool.and_eq_false_iff]
    by_cases hj : q.1 + 1 = i
    · right
      subst hj
      rw [h2, k_v_cat]
      simp only [k_ok1, List.getD_eq_getElem?_getD, h1, Option.getD_some] at hok
      have : w.category = 1 := by simpa using hok
      omega
    · left
      exact hj
theorem k_st2 {L : Array Slot} {mx : Nat} {ad : Nat → Nat} {ls : List (Option Value)} {i : Nat} {v : Value} (h : lv_has L mx ((i, k_v ad v) :: (k_as ad ls).filter (fun q => !(q.1 == i) && (!(q.1 == i + 1) && !(q.1 + 1 == i && q.2.category == 2))))) (hok : k_ok1 ls i = true) : k_L L mx ad ((ls.set i (some v)).set (i + 1) none) := by
  refine ⟨h.1, h.2.1, fun q hq => ?_⟩
  obtain ⟨w, h1, h2⟩ := k_as_mem.mp hq
  apply h.2.2 q
  by_cases hi2 : q.1 = i + 1
  · rw [hi2] at h1
    have hlt : i + 1 < (ls.set i (some v)).length := by have := (List.getElem?_eq_some_iff.mp h1).1; simpa using this
    rw [List.getElem?_set_self hlt] at h1
    cases h1
  rw [List.getElem?_set_ne (Ne.symm hi2)] at h1
  by_cases hi : q.1 = i
  · rw [hi] at h1
    have hlt : i < ls.length := by have := (List.getElem?_eq_some_iff.mp h1).1; simpa using this
    rw [List.getElem?_set_self hlt] at h1
    cases h1
    rw [List.mem_cons]
    left
    rw [← hi, ← h2]
  · rw [List.getElem?_set_ne (Ne.symm hi)] at h1
    rw [List.mem_cons]
    right
    rw [List.mem_filter]
    refine ⟨k_as_mem.mpr ⟨w, h1, h2⟩, ?_⟩
    simp only [Bool.and_eq_true, Bool.not_eq_true', beq_eq_false_iff_ne, ne_eq, hi, hi2, not_false_eq_true, true_and, Bool.and_eq_false_iff]
    by_cases hj : q.1 + 1 = i
    · right
      subst hj
      rw [h2, k_v_cat]
      simp only [k_ok1, List.getD_eq_getElem?_getD, h1, Option.getD_some] at hok
      have : w.category = 1 := by simpa using hok
      omega
    · left
      exact hj
def lw_g : List Cond := lw_tbl.filter goodWord
def k_isN : Cond → Bool
  | .methodLinkNest _ _ _ _ => true
  | _ => false
end
section
/-! ===== the judgement V: a method's code y from pc on, over the state of all cells, comes to 'post' ===== -/
/-- n cells are there, nf at the end, b slots more are wanted till then; al: the cells lie in a row (alr: they must at the end); the script: L - 1 ints xs -/
abbrev kE : Type := Nat × Nat × Nat × Prop × Prop × Nat × (Nat → Int32)
def kE0 : kE := (80, 80, 0, False, False, 0, fun _ => 0)
def k_NW (s : State) : Prop := ∀ w ∈ lw_tbl, k_isN w = true → va_Nw w s
def k_tys (cA : Nat → ClassId) : List (ClassId × FieldType) := [(cA 0, .int), (cA 1, .long), (cA 2, .array .int)]
def k_scr (E : kE) (ad : Nat → Nat) (z : Nat) (s : State) : Prop := E.2.2.2.2.2.1 = 0 ∨ (ad 1000 < z ∧ va_X (ad 1000) (E.2.2.2.2.2.1 - 1) E.2.2.2.2.2.2 s s.heap)
def k_A (z : Nat) : Nat → Prop := fun q => z ≤ q
def k_World (D : va_G) (z : Nat) (ad : Nat → Nat) (cA : Nat → ClassId) (n : Nat) (al : Prop) (σ : kS) (H : Heap) : Prop := va_P D vwCl (k_W ad cA n σ) H ∧ va_D (k_A z) (k_W ad cA n σ) ∧ (al → H.size = z + n)
def k_Ctx (y : MethodName) (cc : ByteArray) (mx d : Nat) (E : kE) (p : Program) (R : Room) (s : State) (m : MethodId) (args : Array Value) (meth : Method) (c : Code) (cells slots mc ms : Nat) (D : va_G) (z : Nat) (ad : Nat → Nat) (cA : Nat → ClassId) : Prop :=
  p.tables.exec = Jvm.exec ∧ c.code = cc ∧ c.maxLocals = mx ∧ s.vm.findClass y.cls = some m.cls ∧ meth.name = y.name ∧ (∀ w ∈ lw_g, w.before args s = true) ∧ k_NW s ∧ va_K D vwCl (k_tys cA) s ∧ z ≤ s.heap.size ∧ (E.2.2.2.1 → ∀ i, i < 200 → ad i = z + i) ∧ k_scr E ad z s ∧ d ≤ R.frames ∧ 40 * d ≤ R.locals ∧ cells + E.2.1 ≤ mc + E.1 ∧ slots + E.2.2.1 ≤ ms ∧ mc ≤ R.cells ∧ ms ≤ R.slots
def k_rd (ret : Option FieldType) (cc : ByteArray) (pc : Nat) (v : Option Value) : Prop := match ret, v with
  | none, none => decode cc pc = .ok (.return_, 1)
  | some .int, some (.int _) => decode cc pc = .ok (.ireturn, 1)
  | some .boolean, some (.int x) => decode cc pc = .ok (.ireturn, 1) ∧ narrow .boolean (.int x) = .int x
  | some .long, some (.long _) => decode cc pc = .ok (.lreturn, 1)
  | _, _ => False
def k_Ret (cc : ByteArray) (ret : Option FieldType) (nf : Nat) (al : Prop) (post : Option Value → kS → Prop) (p : Program) (l : Launch) (e : Env) (R : Room) (s : State) (m : MethodId) (args : Array Value) (below : List Frame) (meth : Method) (c : Code) (mc ms : Nat) (Q : State → Prop) (D : va_G) (z : Nat) (ad : Nat → Nat) (cA : Nat → ClassId) : Prop :=
  ∀ (v : Option Value) (σ' : kS) (H' : Heap) (locs' : List Loc) (pc' : Nat) (L' : Array Slot), post v σ' → k_World D z ad cA nf al σ' H' → va_S (k_A z) s.heap H' locs' → k_rd ret cc pc' v → W p l e R s m args below meth c H' locs' mc ms Q (F0 m pc' L' ((v.map (k_v ad)).toList))
def V (y : MethodName) (cc : ByteArray) (mx : Nat) (ret : Option FieldType) (d : Nat) (E : kE) (pc : Nat) (ls : List (Option Value)) (st : List Value) (σ : kS) (post : Option Value → kS → Prop) : Prop :=
  ∀ {p : Program} {l : Launch} {e : Env} {R : Room} {s : State} {m : MethodId} {args : Array Value} {below : List Frame} {meth : Method} {c : Code} {H : Heap} {locs : List Loc} {cells slots mc ms : Nat} {Q : State → Prop} {D : va_G} {z : Nat} {ad : Nat → Nat} {cA : Nat → ClassId},
    k_Ctx y cc mx d E p R s m args meth c cells slots mc ms D z ad cA → k_World D z ad cA E.1 E.2.2.2.1 σ H → va_S (k_A z) s.heap H locs → k_Ret cc ret E.2.1 E.2.2.2.2.1 post p l e R s m args below meth c mc ms Q D z ad cA → ∀ L : Array Slot, k_L L mx ad ls → W p l e R s m args below meth c H locs cells slots Q (F0 m pc L (st.map (k_v ad)))
section kV
variable {y : MethodName} {cc : ByteArray} {mx : Nat} {ret : Option FieldType} {d : Nat} {E : kE} {pc : Nat} {ls : List (Option Value)} {st : List Value} {σ : kS} {post : Option Value → kS → Prop}
theorem v_iconst {n : Int} {v : Int32} (hd : decode cc pc = .ok (.iconst n, 1)) (hv : Int32.ofInt n = v) (kk : V y cc mx ret d E (pc + 1) ls (.int v :: st) σ post) : V y cc mx ret d E pc ls st σ post := fun C w hS hR L hL => lv_iconst C.1 C.2.1 hd hv (kk C w hS hR L hL)
theorem v_bipush {n : Int} {v : Int32} (hd : decode cc pc = .ok (.bipush n, 2)) (hv : (Int8.ofInt n).toInt32 = v) (kk : V y cc mx ret d E (pc + 2) ls (.int v :: st) σ post) : V y cc mx ret d E pc ls st σ post := fun C w hS hR L hL => lv_bipush C.1 C.2.1 hd hv (kk C w hS hR L hL)
theorem v_sipush {n : Int} {v : Int32} (hd : decode cc pc = .ok (.sipush n, 3)) (hv : (Int16.ofInt n).toInt32 = v) (kk : V y cc mx ret d E (pc + 3) ls (.int v :: st) σ post) : V y cc mx ret d E pc ls st σ post := fun C w hS hR L hL => lv_sipush C.1 C.2.1 hd hv (kk C w hS hR L hL)
theorem v_lconst {n : Fin 2} {v : Int64} (hd : decode cc pc = .ok (.lconst n, 1)) (hv : Int64.ofNat (n : Nat) = v) (kk : V y cc mx ret d E (pc + 1) ls (.long v :: st) σ post) : V y cc mx ret d E pc ls st σ post := fun C w hS hR L hL => lv_lconst C.1 C.2.1 hd hv (kk C w hS hR L hL)
theorem v_ldcw {i : Nat} {v : Int32} (hw : Cond.constant y.cls i v ∈ lw_g) (hd : decode cc pc = .ok (.ldc_w i, 3)) (kk : V y cc mx ret d E (pc + 3) ls (.int v :: st) σ post) : V y cc mx ret d E pc ls st σ post := fun C w hS hR L hL => lv_ldcw C.1 C.2.1 C.2.2.2.1 (C.2.2.2.2.2.1 _ hw) hd (kk C w hS hR L hL)
theorem v_ldc {i : Nat} {v : Int32} (hw : Cond.constant y.cls i v ∈ lw_g) (hd : decode cc pc = .ok (.ldc i, 2)) (kk : V y cc mx ret d E (pc + 2) ls (.int v :: st) σ post) : V y cc mx ret d E pc ls st σ post := fun C w hS hR L hL => lv_ldc C.1 C.2.1 C.2.2.2.1 (C.2.2.2.2.2.1 _ hw) hd (kk C w hS hR L hL)
theorem v_ldc2 {i : Nat} {v : Int64} (hw : Cond.constantLong y.cls i v ∈ lw_g) (hd : decode cc pc = .ok (.ldc2_w i, 3)) (kk : V y cc mx ret d E (pc + 3) ls (.long v :: st) σ post) : V y cc mx ret d E pc ls st σ post := fun C w hS hR L hL => lv_ldc2 C.1 C.2.1 C.2.2.2.1 (C.2.2.2.2.2.1 _ hw) hd (kk C w hS hR L hL)
theorem v_iload_n {k : Fin 4} {i : Nat} {x : Int32} (hd : decode cc pc = .ok (.iload_n k, 1)) (hi : (k : Nat) = i) (hl : ls[i]? = some (some (.int x))) (kk : V y cc mx ret d E (pc + 1) ls (.int x :: st) σ post) : V y cc mx ret d E pc ls st σ post := fun C w hS hR L hL => lv_iload_n C.1 C.2.1 hd hi (k_at hL hl) (kk C w hS hR L hL)
theorem v_iload {i : Nat} {x : Int32} (hd : decode cc pc = .ok (.iload i, 2)) (hl : ls[i]? = some (some (.int x))) (kk : V y cc mx ret d E (pc + 2) ls (.int x :: st) σ post) : V y cc mx ret d E pc ls st σ post := fun C w hS hR L hL => lv_iload C.1 C.2.1 hd (k_at hL hl) (kk C w hS hR L hL)
theorem v_istore_n {k : Fin 4} {i : Nat} {x : Int32} (hd : decode cc pc = .ok (.istore_n k, 1)) (hi : (k : Nat) = i) (hn : i < mx) (ho : k_ok1 ls i = true) (kk : V y cc mx ret d E (pc + 1) (ls.set i (some (.int x))) st σ post) : V y cc mx ret d E pc ls (.int x :: st) σ post := fun C w hS hR L hL => lv_istore_n C.1 C.2.1 hd hi hL hn rfl (fun L2 h2 => kk C w hS hR L2 (k_st1 (v := .int x) h2 ho))
theorem v_istore {i : Nat} {x : Int32} (hd : decode cc pc = .ok (.istore i, 2)) (hn : i < mx) (ho : k_ok1 ls i = true) (kk : V y cc mx ret d E (pc + 2) (ls.set i (some (.int x))) st σ post) : V y cc mx ret d E pc ls (.int x :: st) σ post := fun C w hS hR L hL => lv_istore C.1 C.2.1 hd hL hn rfl (fun L2 h2 => kk C w hS hR L2 (k_st1 (v := .int x) h2 ho))
theorem v_lload_n {k : Fin 4} {i : Nat} {x : Int64} (hd : decode cc pc = .ok (.lload_n k, 1)) (hi : (k : Nat) = i) (hl : ls[i]? = some (some (.long x))) (kk : V y cc mx ret d E (pc + 1) ls (.long x :: st) σ post) : V y cc mx ret d E pc ls st σ post := fun C w hS hR L hL => lv_lload_n C.1 C.2.1 hd hi (k_at hL hl) (kk C w hS hR L hL)
theorem v_lload {i : Nat} {x : Int64} (hd : decode cc pc = .ok (.lload i, 2)) (hl : ls[i]? = some (some (.long x))) (kk : V y cc mx ret d E (pc + 2) ls (.long x :: st) σ post) : V y cc mx ret d E pc ls st σ post := fun C w hS hR L hL => lv_lload C.1 C.2.1 hd (k_at hL hl) (kk C w hS hR L hL)
theorem v_lstore_n {k : Fin 4} {i : Nat} {x : Int64} (hd : decode cc pc = .ok (.lstore_n k, 1)) (hi : (k : Nat) = i) (hn : i + 1 < mx) (ho : k_ok1 ls i = true) (kk : V y cc mx ret d E (pc + 1) ((ls.set i (some (.long x))).set (i + 1) none) st σ post) : V y cc mx ret d E pc ls (.long x :: st) σ post := fun C w hS hR L hL => lv_lstore_n C.1 C.2.1 hd hi hL hn rfl (fun L2 h2 => kk C w hS hR L2 (k_st2 (v := .long x) h2 ho))
theorem v_lstore {i : Nat} {x : Int64} (hd : decode cc pc = .ok (.lstore i, 2)) (hn : i + 1 < mx) (ho : k_ok1 ls i = true) (kk : V y cc mx ret d E (pc + 2) ((ls.set i (some (.long x))).set (i + 1) none) st σ post) : V y cc mx ret d E pc ls (.long x :: st) σ post := fun C w hS hR L hL => lv_lstore C.1 C.2.1 hd hL hn rfl (fun L2 h2 => kk C w hS hR L2 (k_st2 (v := .long x) h2 ho))
theorem v_aload_n {k : Fin 4} {i : Nat} {x : Nat} (hd : decode cc pc = .ok (.aload_n k, 1)) (hi : (k : Nat) = i) (hl : ls[i]? = some (some (.ref x))) (kk : V y cc mx ret d E (pc + 1) ls (.ref x :: st) σ post) : V y cc mx ret d E pc ls st σ post := fun C w hS hR L hL => lv_aload_n C.1 C.2.1 hd hi (k_at hL hl) (kk C w hS hR L hL)
theorem v_aload {i : Nat} {x : Nat} (hd : decode cc pc = .ok (.aload i, 2)) (hl : ls[i]? = some (some (.ref x))) (kk : V y cc mx ret d E (pc + 2) ls (.ref x :: st) σ post) : V y cc mx ret d E pc ls st σ post := fun C w hS hR L hL => lv_aload C.1 C.2.1 hd (k_at hL hl) (kk C w hS hR L hL)
theorem v_astore_n {k : Fin 4} {i : Nat} {x : Nat} (hd : decode cc pc = .ok (.astore_n k, 1)) (hi : (k : Nat) = i) (hn : i < mx) (ho : k_ok1 ls i = true) (kk : V y cc mx ret d E (pc + 1) (ls.set i (some (.ref x))) st σ post) : V y cc mx ret d E pc ls (.ref x :: st) σ post := fun C w hS hR L hL => lv_astore_n C.1 C.2.1 hd hi hL hn rfl (fun L2 h2 => kk C w hS hR L2 (k_st1 (v := .ref x) h2 ho))
theorem v_astore {i : Nat} {x : Nat} (hd : decode cc pc = .ok (.astore i, 2)) (hn : i < mx) (ho : k_ok1 ls i = true) (kk : V y cc mx ret d E (pc + 2) (ls.set i (some (.ref x))) st σ post) : V y cc mx ret d E pc ls (.ref x :: st) σ post := fun C w hS hR L hL => lv_astore C.1 C.2.1 hd hL hn rfl (fun L2 h2 => kk C w hS hR L2 (k_st1 (v := .ref x) h2 ho))
theorem k_mem {L : List (Nat × Value)} {q : Nat × Value} (h : q ∈ L) : ∃ k : Nat, L[k]? = some q := List.getElem?_of_mem h
theorem v_iinc {i : Nat} {n : Int} {x v : Int32} (hd : decode cc pc = .ok (.iinc i n, 3)) (hl : ls[i]? = some (some (.int x))) (hv : x + Int32.ofInt n = v) (hn : i < mx) (ho : k_ok1 ls i = true) (kk : V y cc mx ret d E (pc + 3) (ls.set i (some (.int v))) st σ post) : V y cc mx ret d E pc ls st σ post := fun C w hS hR L hL => by
  obtain ⟨k, hk⟩ := k_mem (q := (i, Value.int x)) (k_as_mem.mpr ⟨.int x, hl, rfl⟩)
  exact lv_iinc C.1 C.2.1 hd hL hk hv hn rfl (fun L2 h2 => kk C w hS hR L2 (k_st1 (v := .int v) h2 ho))
theorem v_iadd {x y1 : Int32} (hd : decode cc pc = .ok (.iadd, 1)) (kk : V y cc mx ret d E (pc + 1) ls (.int (x + y1) :: st) σ post) : V y cc mx ret d E pc ls (.int y1 :: .int x :: st) σ post := fun C w hS hR L hL => lv_iadd C.1 C.2.1 hd (kk C w hS hR L hL)
theorem v_isub {x y1 : Int32} (hd : decode cc pc = .ok (.isub, 1)) (kk : V y cc mx ret d E (pc + 1) ls (.int (x - y1) :: st) σ post) : V y cc mx ret d E pc ls (.int y1 :: .int x :: st) σ post := fun C w hS hR L hL => lv_isub C.1 C.2.1 hd (kk C w hS hR L hL)
theorem v_imul {x y1 : Int32} (hd : decode cc pc = .ok (.imul, 1)) (kk : V y cc mx ret d E (pc + 1) ls (.int (x * y1) :: st) σ post) : V y cc mx ret d E pc ls (.int y1 :: .int x :: st) σ post := fun C w hS hR L hL => lv_imul C.1 C.2.1 hd (kk C w hS hR L hL)
theorem v_iand {x y1 : Int32} (hd : decode cc pc = .ok (.iand, 1)) (kk : V y cc mx ret d E (pc + 1) ls (.int (x &&& y1) :: st) σ post) : V y cc mx ret d E pc ls (.int y1 :: .int x :: st) σ post := fun C w hS hR L hL => lv_iand C.1 C.2.1 hd (kk C w hS hR L hL)
theorem v_ior {x y1 : Int32} (hd : decode cc pc = .ok (.ior, 1)) (kk : V y cc mx ret d E (pc + 1) ls (.int (x ||| y1) :: st) σ post) : V y cc mx ret d E pc ls (.int y1 :: .int x :: st) σ post := fun C w hS hR L hL => lv_ior C.1 C.2.1 hd (kk C w hS hR L hL)
theorem v_ixor {x y1 : Int32} (hd : decode cc pc = .ok (.ixor, 1)) (kk : V y cc mx ret d E (pc + 1) ls (.int (x ^^^ y1) :: st) σ post) : V y cc mx ret d E pc ls (.int y1 :: .int x :: st) σ post := fun C w hS hR L hL => lv_ixor C.1 C.2.1 hd (kk C w hS hR L hL)
theorem v_ishl {x y1 : Int32} (hd : decode cc pc = .ok (.ishl, 1)) (kk : V y cc mx ret d E (pc + 1) ls (.int (x <<< (y1 &&& 31)) :: st) σ post) : V y cc mx ret d E pc ls (.int y1 :: .int x :: st) σ post := fun C w hS hR L hL => lv_ishl C.1 C.2.1 hd (kk C w hS hR L hL)
theorem v_ishr {x y1 : Int32} (hd : decode cc pc = .ok (.ishr, 1)) (kk : V y cc mx ret d E (pc + 1) ls (.int (x >>> (y1 &&& 31)) :: st) σ post) : V y cc mx ret d E pc ls (.int y1 :: .int x :: st) σ post := fun C w hS hR L hL => lv_ishr C.1 C.2.1 hd (kk C w hS hR L hL)
theorem v_idiv {x y1 : Int32} (hd : decode cc pc = .ok (.idiv, 1)) (hne : ¬ y1 = 0) (kk : V y cc mx ret d E (pc + 1) ls (.int (x / y1) :: st) σ post) : V y cc mx ret d E pc ls (.int y1 :: .int x :: st) σ post := fun C w hS hR L hL => lv_idiv C.1 C.2.1 hd hne (kk C w hS hR L hL)
theorem v_irem {x y1 : Int32} (hd : decode cc pc = .ok (.irem, 1)) (hne : ¬ y1 = 0) (kk : V y cc mx ret d E (pc + 1) ls (.int (x - x / y1 * y1) :: st) σ post) : V y cc mx ret d E pc ls (.int y1 :: .int x :: st) σ post := fun C w hS hR L hL => lv_irem C.1 C.2.1 hd hne (kk C w hS hR L hL)
theorem v_iushr {x y1 v : Int32} (hd : decode cc pc = .ok (.iushr, 1)) (hv : (x.toUInt32 >>> (y1.toUInt32 &&& Int32.toUInt32 31)).toInt32 = v) (kk : V y cc mx ret d E (pc + 1) ls (.int v :: st) σ post) : V y cc mx ret d E pc ls (.int y1 :: .int x :: st) σ post := fun C w hS hR L hL => lv_iushr C.1 C.2.1 hd hv (kk C w hS hR L hL)
theorem v_ineg {x : Int32} (hd : decode cc pc = .ok (.ineg, 1)) (kk : V y cc mx ret d E (pc + 1) ls (.int (-x) :: st) σ post) : V y cc mx ret d E pc ls (.int x :: st) σ post := fun C w hS hR L hL => lv_ineg C.1 C.2.1 hd (kk C w hS hR L hL)
theorem v_ladd {x y1 : Int64} (hd : decode cc pc = .ok (.ladd, 1)) (kk : V y cc mx ret d E (pc + 1) ls (.long (x + y1) :: st) σ post) : V y cc mx ret d E pc ls (.long y1 :: .long x :: st) σ post := fun C w hS hR L hL => lv_ladd C.1 C.2.1 hd (kk C w hS hR L hL)
theorem v_lsub {x y1 : Int64} (hd : decode cc pc = .ok (.lsub, 1)) (kk : V y cc mx ret d E (pc + 1) ls (.long (x - y1) :: st) σ post) : V y cc mx ret d E pc ls (.long y1 :: .long x :: st) σ post := fun C w hS hR L hL => lv_lsub C.1 C.2.1 hd (kk C w hS hR L hL)
theorem v_land {x y1 : Int64} (hd : decode cc pc = .ok (.land, 1)) (kk : V y cc mx ret d E (pc + 1) ls (.long (x &&& y1) :: st) σ post) : V y cc mx ret d E pc ls (.long y1 :: .long x :: st) σ post := fun C w hS hR L hL => lv_land C.1 C.2.1 hd (kk C w hS hR L hL)
theorem v_lor {x y1 : Int64} (hd : decode cc pc = .ok (.lor, 1)) (kk : V y cc mx ret d E (pc + 1) ls (.long (x ||| y1) :: st) σ post) : V y cc mx ret d E pc ls (.long y1 :: .long x :: st) σ post := fun C w hS hR L hL => lv_lor C.1 C.2.1 hd (kk C w hS hR L hL)
theorem v_lxor {x y1 : Int64} (hd : decode cc pc = .ok (.lxor, 1)) (kk : V y cc mx ret d E (pc + 1) ls (.long (x ^^^ y1) :: st) σ post) : V y cc mx ret d E pc ls (.long y1 :: .long x :: st) σ post := fun C w hS hR L hL => lv_lxor C.1 C.2.1 hd (kk C w hS hR L hL)
theorem v_ldiv {x y1 : Int64} (hd : decode cc pc = .ok (.ldiv, 1)) (hne : ¬ y1 = 0) (kk : V y cc mx ret d E (pc + 1) ls (.long (x / y1) :: st) σ post) : V y cc mx ret d E pc ls (.long y1 :: .long x :: st) σ post := fun C w hS hR L hL => lv_ldiv C.1 C.2.1 hd hne (kk C w hS hR L hL)
theorem v_lrem {x y1 : Int64} (hd : decode cc pc = .ok (.lrem, 1)) (hne : ¬ y1 = 0) (kk : V y cc mx ret d E (pc + 1) ls (.long (x - x / y1 * y1) :: st) σ post) : V y cc mx ret d E pc ls (.long y1 :: .long x :: st) σ post := fun C w hS hR L hL => lv_lrem C.1 C.2.1 hd hne (kk C w hS hR L hL)
theorem v_lshl {x v : Int64} {y1 : Int32} (hd : decode cc pc = .ok (.lshl, 1)) (hv : x <<< (y1.toInt64 &&& 63) = v) (kk : V y cc mx ret d E (pc + 1) ls (.long v :: st) σ post) : V y cc mx ret d E pc ls (.int y1 :: .long x :: st) σ post := fun C w hS hR L hL => lv_lshl C.1 C.2.1 hd hv (kk C w hS hR L hL)
theorem v_i2l {x : Int32} (hd : decode cc pc = .ok (.i2l, 1)) (kk : V y cc mx ret d E (pc + 1) ls (.long x.toInt64 :: st) σ post) : V y cc mx ret d E pc ls (.int x :: st) σ post := fun C w hS hR L hL => lv_i2l C.1 C.2.1 hd rfl (kk C w hS hR L hL)
theorem v_l2i {x : Int64} (hd : decode cc pc = .ok (.l2i, 1)) (kk : V y cc mx ret d E (pc + 1) ls (.int x.toInt32 :: st) σ post) : V y cc mx ret d E pc ls (.long x :: st) σ post := fun C w hS hR L hL => lv_l2i C.1 C.2.1 hd rfl (kk C w hS hR L hL)
theorem v_lcmp {x y1 : Int64} (hd : decode cc pc = .ok (.lcmp, 1)) (kk : V y cc mx ret d E (pc + 1) ls (.int (lg_cmp x y1) :: st) σ post) : V y cc mx ret d E pc ls (.long y1 :: .long x :: st) σ post := fun C w hS hR L hL => W.lcmp C.1 C.2.1 hd (kk C w hS hR L hL)
theorem v_dup {u : Value} (hd : decode cc pc = .ok (.dup, 1)) (hc : u.category = 1) (kk : V y cc mx ret d E (pc + 1) ls (u :: u :: st) σ post) : V y cc mx ret d E pc ls (u :: st) σ post := fun C w hS hR L hL => lv_dup C.1 C.2.1 hd ((k_v_cat _ u).trans hc) (kk C w hS hR L hL)
theorem v_dup2 {u t : Value} (hd : decode cc pc = .ok (.dup2, 1)) (hc : u.category = 1) (hc2 : t.category = 1) (kk : V y cc mx ret d E (pc + 1) ls (u :: t :: u :: t :: st) σ post) : V y cc mx ret d E pc ls (u :: t :: st) σ post := fun C w hS hR L hL => lv_dup2_11 C.1 C.2.1 hd ((k_v_cat _ u).trans hc) ((k_v_cat _ t).trans hc2) (kk C w hS hR L hL)
theorem v_pop {u : Value} (hd : decode cc pc = .ok (.pop, 1)) (hc : u.category = 1) (kk : V y cc mx ret d E (pc + 1) ls st σ post) : V y cc mx ret d E pc ls (u :: st) σ post := fun C w hS hR L hL => lv_pop C.1 C.2.1 hd ((k_v_cat _ u).trans hc) (kk C w hS hR L hL)
theorem v_goto {off : Int} {tgt : Nat} (hd : decode cc pc = .ok (.goto off, 3)) (ht : (pc : Int) + off = (tgt : Int)) (kk : V y cc mx ret d E tgt ls st σ post) : V y cc mx ret d E pc ls st σ post := fun C w hS hR L hL => lv_goto C.1 C.2.1 hd ht (kk C w hS hR L hL)
theorem v_if_eq {x : Int32} {off : Int} {tgt : Nat} (hd : decode cc pc = .ok (.ifCond .eq off, 3)) (ht : (pc : Int) + off = (tgt : Int)) (kt : x = 0 → V y cc mx ret d E tgt ls st σ post) (kf : ¬ x = 0 → V y cc mx ret d E (pc + 3) ls st σ post) : V y cc mx ret d E pc ls (.int x :: st) σ post := fun C w hS hR L hL => lv_if_eq C.1 C.2.1 hd ht (fun h => kt h C w hS hR L hL) (fun h => kf h C w hS hR L hL)
theorem v_icmp_eq {x y1 : Int32} {off : Int} {tgt : Nat} (hd : decode cc pc = .ok (.if_icmp .eq off, 3)) (ht : (pc : Int) + off = (tgt : Int)) (kt : x = y1 → V y cc mx ret d E tgt ls st σ post) (kf : ¬ x = y1 → V y cc mx ret d E (pc + 3) ls st σ post) : V y cc mx ret d E pc ls (.int y1 :: .int x :: st) σ post := fun C w hS hR L hL => lv_icmp_eq C.1 C.2.1 hd ht (fun h => kt h C w hS hR L hL) (fun h => kf h C w hS hR L hL)
theorem v_if_ne {x : Int32} {off : Int} {tgt : Nat} (hd : decode cc pc = .ok (.ifCond .ne off, 3)) (ht : (pc : Int) + off = (tgt : Int)) (kt : ¬ x = 0 → V y cc mx ret d E tgt ls st σ post) (kf : x = 0 → V y cc mx ret d E (pc + 3) ls st σ post) : V y cc mx ret d E pc ls (.int x :: st) σ post := fun C w hS hR L hL => lv_if_ne C.1 C.2.1 hd ht (fun h => kt h C w hS hR L hL) (fun h => kf h C w hS hR L hL)
theorem v_icmp_ne {x y1 : Int32} {off : Int} {tgt : Nat} (hd : decode cc pc = .ok (.if_icmp .ne off, 3)) (ht : (pc : Int) + off = (tgt : Int)) (kt : ¬ x = y1 → V y cc mx ret d E tgt ls st σ post) (kf : x = y1 → V y cc mx ret d E (pc + 3) ls st σ post) : V y cc mx ret d E pc ls (.int y1 :: .int x :: st) σ post := fun C w hS hR L hL => lv_icmp_ne C.1 C.2.1 hd ht (fun h => kt h C w hS hR L hL) (fun h => kf h C w hS hR L hL)
theorem v_if_lt {x : Int32} {off : Int} {tgt : Nat} (hd : decode cc pc = .ok (.ifCond .lt off, 3)) (ht : (pc : Int) + off = (tgt : Int)) (kt : x < 0 → V y cc mx ret d E tgt ls st σ post) (kf : ¬ x < 0 → V y cc mx ret d E (pc + 3) ls st σ post) : V y cc mx ret d E pc ls (.int x :: st) σ post := fun C w hS hR L hL => lv_if_lt C.1 C.2.1 hd ht (fun h => kt h C w hS hR L hL) (fun h => kf h C w hS hR L hL)
theorem v_icmp_lt {x y1 : Int32} {off : Int} {tgt : Nat} (hd : decode cc pc = .ok (.if_icmp .lt off, 3)) (ht : (pc : Int) + off = (tgt : Int)) (kt : x < y1 → V y cc mx ret d E tgt ls st σ post) (kf : ¬ x < y1 → V y cc mx ret d E (pc + 3) ls st σ post) : V y cc mx ret d E pc ls (.int y1 :: .int x :: st) σ post := fun C w hS hR L hL => lv_icmp_lt C.1 C.2.1 hd ht (fun h => kt h C w hS hR L hL) (fun h => kf h C w hS hR L hL)
theorem v_if_ge {x : Int32} {off : Int} {tgt : Nat} (hd : decode cc pc = .ok (.ifCond .ge off, 3)) (ht : (pc : Int) + off = (tgt : Int)) (kt : 0 ≤ x → V y cc mx ret d E tgt ls st σ post) (kf : ¬ 0 ≤ x → V y cc mx ret d E (pc + 3) ls st σ post) : V y cc mx ret d E pc ls (.int x :: st) σ post := fun C w hS hR L hL => lv_if_ge C.1 C.2.1 hd ht (fun h => kt h C w hS hR L hL) (fun h => kf h C w hS hR L hL)
theorem v_icmp_ge {x y1 : Int32} {off : Int} {tgt : Nat} (hd : decode cc pc = .ok (.if_icmp .ge off, 3)) (ht : (pc : Int) + off = (tgt : Int)) (kt : y1 ≤ x → V y cc mx ret d E tgt ls st σ post) (kf : ¬ y1 ≤ x → V y cc mx ret d E (pc + 3) ls st σ post) : V y cc mx ret d E pc ls (.int y1 :: .int x :: st) σ post := fun C w hS hR L hL => lv_icmp_ge C.1 C.2.1 hd ht (fun h => kt h C w hS hR L hL) (fun h => kf h C w hS hR L hL)
theorem v_if_gt {x : Int32} {off : Int} {tgt : Nat} (hd : decode cc pc = .ok (.ifCond .gt off, 3)) (ht : (pc : Int) + off = (tgt : Int)) (kt : 0 < x → V y cc mx ret d E tgt ls st σ post) (kf : ¬ 0 < x → V y cc mx ret d E (pc + 3) ls st σ post) : V y cc mx ret d E pc ls (.int x :: st) σ post := fun C w hS hR L hL => lv_if_gt C.1 C.2.1 hd ht (fun h => kt h C w hS hR L hL) (fun h => kf h C w hS hR L hL)
theorem v_icmp_gt {x y1 : Int32} {off : Int} {tgt : Nat} (hd : decode cc pc = .ok (.if_icmp .gt off, 3)) (ht : (pc : Int) + off = (tgt : Int)) (kt : y1 < x → V y cc mx ret d E tgt ls st σ post) (kf : ¬ y1 < x → V y cc mx ret d E (pc + 3) ls st σ post) : V y cc mx ret d E pc ls (.int y1 :: .int x :: st) σ post := fun C w hS hR L hL => lv_icmp_gt C.1 C.2.1 hd ht (fun h => kt h C w hS hR L hL) (fun h => kf h C w hS hR L hL)
theorem v_if_le {x : Int32} {off : Int} {tgt : Nat} (hd : decode cc pc = .ok (.ifCond .le off, 3)) (ht : (pc : Int) + off = (tgt : Int)) (kt : x ≤ 0 → V y cc mx ret d E tgt ls st σ post) (kf : ¬ x ≤ 0 → V y cc mx ret d E (pc + 3) ls st σ post) : V y cc mx ret d E pc ls (.int x :: st) σ post := fun C w hS hR L hL => lv_if_le C.1 C.2.1 hd ht (fun h => kt h C w hS hR L hL) (fun h => kf h C w hS hR L hL)
theorem v_icmp_le {x y1 : Int32} {off : Int} {tgt : Nat} (hd : decode cc pc = .ok (.if_icmp .le off, 3)) (ht : (pc : Int) + off = (tgt : Int)) (kt : x ≤ y1 → V y cc mx ret d E tgt ls st σ post) (kf : ¬ x ≤ y1 → V y cc mx ret d E (pc + 3) ls st σ post) : V y cc mx ret d E pc ls (.int y1 :: .int x :: st) σ post := fun C w hS hR L hL => lv_icmp_le C.1 C.2.1 hd ht (fun h => kt h C w hS hR L hL) (fun h => kf h C w hS hR L hL)
theorem v_tabIn {dflt lo hi : Int} {offs : Array Int} {len : Nat} {x : Int32} {off : Int} {tgt : Nat} (hd : decode cc pc = .ok (.tableswitch dflt lo hi offs, len)) (h1 : ¬ x.toInt < lo) (h2 : ¬ hi < x.toInt) (ho : offs[(x.toInt - lo).toNat]? = some off) (ht : (pc : Int) + off = (tgt : Int)) (kk : V y cc mx ret d E tgt ls st σ post) : V y cc mx ret d E pc ls (.int x :: st) σ post := fun C w hS hR L hL => lv_tableIn C.1 C.2.1 hd h1 h2 ho ht (kk C w hS hR L hL)
theorem v_tabOut {dflt lo hi : Int} {offs : Array Int} {len : Nat} {x : Int32} {tgt : Nat} (hd : decode cc pc = .ok (.tableswitch dflt lo hi offs, len)) (h : x.toInt < lo ∨ hi < x.toInt) (ht : (pc : Int) + dflt = (tgt : Int)) (kk : V y cc mx ret d E tgt ls st σ post) : V y cc mx ret d E pc ls (.int x :: st) σ post := fun C w hS hR L hL => lv_tableOut C.1 C.2.1 hd h ht (kk C w hS hR L hL)
/-- the end of a method -/
theorem k_out {v : Option Value} (h : k_rd ret cc pc v) (hn : E.1 = E.2.1 ∧ (E.2.2.2.2.1 → E.2.2.2.1)) (hp : post v σ) : V y cc mx ret d E pc ls v.toList σ post := fun C w hS hR L hL => by
  obtain ⟨-, -, -, -, -, -, -, -, -, -, -, -, -, c1, c2, -, -⟩ := C
  have h9 := hR v σ _ _ pc L hp ⟨hn.1 ▸ w.1, hn.1 ▸ w.2.1, fun q => hn.1 ▸ w.2.2 (hn.2 q)⟩ hS h
  rw [show (v.map (k_v _)).toList = v.toList.map (k_v _) by cases v <;> rfl] at h9
  refine W.widen ?_ ?_ h9
  all_goals (have := hn.1; omega)
theorem v_iret {x : Int32} (hd : decode cc pc = .ok (.ireturn, 1)) (hn : E.1 = E.2.1 ∧ (E.2.2.2.2.1 → E.2.2.2.1)) (hp : post (some (.int x)) σ) : V y cc mx (some .int) d E pc ls [.int x] σ post := k_out (v := some (.int x)) (ret := some .int) (show k_rd (some .int) cc pc (some (.int x)) from hd) hn hp
theorem v_zret {x : Int32} (hd : decode cc pc = .ok (.ireturn, 1)) (hx : narrow .boolean (.int x) = .int x) (hn : E.1 = E.2.1 ∧ (E.2.2.2.2.1 → E.2.2.2.1)) (hp : post (some (.int x)) σ) : V y cc mx (some .boolean) d E pc ls [.int x] σ post := k_out (v := some (.int x)) (ret := some .boolean) (show k_rd (some .boolean) cc pc (some (.int x)) from ⟨hd, hx⟩) hn hp
theorem v_lret {x : Int64} (hd : decode cc pc = .ok (.lreturn, 1)) (hn : E.1 = E.2.1 ∧ (E.2.2.2.2.1 → E.2.2.2.1)) (hp : post (some (.long x)) σ) : V y cc mx (some .long) d E pc ls [.long x] σ post := k_out (v := some (.long x)) (ret := some .long) (show k_rd (some .long) cc pc (some (.long x)) from hd) hn hp
theorem v_vret (hd : decode cc pc = .ok (.return_, 1)) (hn : E.1 = E.2.1 ∧ (E.2.2.2.2.1 → E.2.2.2.1)) (hp : post none σ) : V y cc mx none d E pc ls [] σ post := k_out (v := none) (ret := none) (show k_rd none cc pc none from hd) hn hp
/-- a number gets a name -/
theorem v_topi {x : Int32} (kk : ∀ x2 : Int32, x2 = x → V y cc mx ret d E pc ls (.int x2 :: st) σ post) : V y cc mx ret d E pc ls (.int x :: st) σ post := kk x rfl
theorem v_topl {x : Int64} (kk : ∀ x2 : Int64, x2 = x → V y cc mx ret d E pc ls (.long x2 :: st) σ post) : V y cc mx ret d E pc ls (.long x :: st) σ post := kk x rfl
end kV
end
section
/-! ===== rows over the cells ===== -/
def k_F (own : String) (idx ci k : Nat) : Prop := ∃ (C : String) (T : u_T) (N : Nat), vwCl[ci]? = some (C, T, N) ∧ k < N ∧ (∀ w ∈ u_ws C T N, w ∈ lw_g) ∧ Cond.fieldLink own idx (T k).1 (T k).2.1 (T k).2.2.1 ∈ lw_g
def k_P (own : String) (idx ci k : Nat) (fin : Bool) (ok : Value → Prop) : Prop := ∃ (C : String) (T : u_T) (N : Nat) (ty0 : Nat → FieldType) (ty : FieldType), vwCl[ci]? = some (C, T, N) ∧ k < N ∧ (∀ w ∈ u_ws C T N, w ∈ lw_g) ∧ (∀ k, k < N → parseFieldDescriptor (T k).2.2.1 = some (ty0 k)) ∧ (∀ a, a < N → ∀ b, b < N → a ≠ b → (T a).2.1 ≠ (T b).2.1) ∧ Cond.fieldLink own idx (T k).1 (T k).2.1 (T k).2.2.1 ∈ lw_g ∧ (T k).2.2.2 = fin ∧ (fin = true → (T k).1 = own) ∧ parseFieldDescriptor (T k).2.2.1 = some ty ∧ ∀ v, ok v → narrow ty v = v ∧ fits ty v = true
def k_okI (v : Value) : Prop := ∃ n : Int32, v = .int n
def k_okZ (v : Value) : Prop := v = .int 0 ∨ v = .int 1
def k_okR (v : Value) : Prop := ∃ a : Nat, v = .ref a
section kH0
variable {p : Program} {l : Launch} {e : Env} {R : Room} {s : State} {m : MethodId} {args : Array Value} {below : List Frame} {meth : Method} {c : Code} {H : Heap} {locs : List Loc} {cells slots : Nat} {Q : State → Prop}
variable {cc : ByteArray} {pc : Nat} {ls : Array Slot} {rest : List Value} {D : va_G} {cl : List vw_C} {A : Nat → Prop} {a : Nat} {tys : List (ClassId × FieldType)} {ws : va_W} {H0 : Heap}
theorem k_put {own : String} {ci idx k : Nat} {fin : Bool} {ok : Value → Prop} {v : Value} (hF : k_P own idx ci k fin ok) (hv : ok v) (hexec : p.tables.exec = Jvm.exec) (hb : c.code = cc) (hts : ∀ w ∈ lw_g, w.before args s = true) (hown : s.vm.findClass own = some m.cls) (hmn : fin = true → meth.name = "<init>") (hK : va_K D vwCl tys s) (hP : va_P D vwCl ws H) (hD : va_D A ws) (hS0 : va_S A H0 H locs) (q0 : Nat) {fs : List Value} (he : ws[q0]? = some (a, .inr (ci, fs))) (hl : k < fs.length)
    (hdg : decode cc pc = .ok (.putfield idx, 3)) (kk : ∀ (H1 : Heap) (locs1 : List Loc), va_P D vwCl (ws.set q0 (a, .inr (ci, fs.set k v))) H1 → va_D A (ws.set q0 (a, .inr (ci, fs.set k v))) → va_S A H0 H1 locs1 → H1.size = H.size → W p l e R s m args below meth c H1 locs1 cells slots Q (F0 m (pc + 3) ls rest)) : W p l e R s m args below meth c H locs cells slots Q (F0 m pc ls (v :: .ref a :: rest)) := by
  obtain ⟨C, T, N, ty0, ty, hc, hk, hin, hty, hnm, hlink, hfin, hdecl, hd, hnf⟩ := hF
  have hlink := hts _ hlink
  obtain ⟨hn, hfit⟩ := hnf v hv
  have hap := va_apart (own := own) hts hin ty0 hty hnm hK hc
  obtain ⟨r, h1, cell, q1, q2, q3, q4⟩ := hP q0 _ he
  have hr : r = (C, T, N) := Option.some.inj (h1.symm.trans hc)
  subst hr
  obtain ⟨hS, hfc, kC, hkC, hkind⟩ := hK.1 ci _ hc
  obtain ⟨cf, kf, fi, f, hi, hsl⟩ := hS k hk
  have hlay := hts _ (hin _ (u_in_lay hk))
  unfold u_lay at hlay
  have hst := (u_facts hfc hkC (u_lays hts hin hk) hi).1
  cases fin with
  | false =>
    rw [if_neg (by rw [hfin]; decide)] at hlay
    have h6 := u_store hfc hkC hkind hlay hi hd hn hfit
    refine W.putK hexec hb (f := f) ⟨hown, hlink, ⟨_, _, _, hi⟩, hst⟩ (by rw [q2]; exact h6) q1 q3 (by rw [hsl]; exact k2_hasslot (q4 k hk)) rfl rfl hdg fun H' e1 e2 e3 => ?_
    rw [hsl] at e1 ⊢
    exact kk H' _ (hP.set hD he ⟨_, hc, t_OB.to (V := updV (vp_V fs) k v) ⟨_, e1, q2, q3, t_set q4 hap hk v⟩ (fun j _ => vp_updV_set hl v j)⟩ e3) (hD.set he) (hS0.put e2 e3 (hD.2 q0 _ he)) e2
  | true =>
    rw [if_pos hfin] at hlay
    have hcf : m.cls = cf := by
      obtain ⟨_, _, c', _, _, _, -, -, hf', -, -, -, hown2, -⟩ := Cond.laysFinal_spec hlay
      have e1 : c' = cf := by have := hi.symm.trans hf'; simp at this; exact this.1.symm
      rw [hdecl rfl] at hown2
      rw [← e1]; exact Option.some.inj (hown.symm.trans hown2)
    have h6 := u_fits hfc hkC hkind (Or.inr hlay) hi hd hn hfit
    refine W.putFinK hexec hb hown hlink hi hst hcf (hmn rfl) (by rw [q2]; exact h6) q1 q3 (by rw [hsl]; exact k2_hasslot (q4 k hk)) rfl rfl hdg fun H' e1 e2 e3 => ?_
    rw [hsl] at e1 ⊢
    exact kk H' _ (hP.set hD he ⟨_, hc, t_OB.to (V := updV (vp_V fs) k v) ⟨_, e1, q2, q3, t_set q4 hap hk v⟩ (fun j _ => vp_updV_set hl v j)⟩ e3) (hD.set he) (hS0.put e2 e3 (hD.2 q0 _ he)) e2
theorem k_iast (hexec : p.tables.exec = Jvm.exec) (hb : c.code = cc) (hK : va_K D cl tys s) (hP : va_P D cl ws H) (hD : va_D A ws) (hS : va_S A H0 H locs) (q0 t0 : Nat) {cA : ClassId} {n : Nat} {f : Nat → Int32} (ha : ws[q0]? = some (a, .inl (cA, n, .inl f))) (ht : tys[t0]? = some (cA, .int)) {i : Int32} {x : Int32} (hin : vp_in i n) (hdg : decode cc pc = .ok (.iastore, 1))
    (kk : ∀ (H1 : Heap) (locs1 : List Loc), va_P D cl (ws.set q0 (a, .inl (cA, n, .inl (upd f i.toNatClampNeg x)))) H1 → va_D A (ws.set q0 (a, .inl (cA, n, .inl (upd f i.toNatClampNeg x)))) → va_S A H0 H1 locs1 → H1.size = H.size → W p l e R s m args below meth c H1 locs1 cells slots Q (F0 m (pc + 1) ls rest)) : W p l e R s m args below meth c H locs cells slots Q (F0 m pc ls (.int x :: .int i :: .ref a :: rest)) := by
  refine W.iast hexec hb (hP q0 _ ha) ((hK.2 t0 _ ht).1 n (fun j => .int (f j))) (fun q => by cases q) (by show ¬ (i < 0 ∨ (arrV _ _ _).slots.size ≤ _); rw [arrV_size]; exact hin) rfl rfl hdg fun H1 e z oq => ?_
  refine kk H1 _ (hP.set hD ha ?_ oq) (hD.set ha) (hS.put z oq (hD.2 q0 _ ha)) z
  show H1[a]? = some (vp_cell _ _)
  rw [e]
  rw [vp_cell_i, vp_cell_i, arrV_store]
  congr 2
  funext q
  by_cases hq : q = i.toNatClampNeg
  · subst hq
    simp [updV, upd]
  · simp [updV, upd, hq]
end kH0
section kH
variable {y : MethodName} {cc : ByteArray} {mx : Nat} {ret : Option FieldType} {d : Nat} {E : kE} {pc : Nat} {ls : List (Option Value)} {st : List Value} {σ : kS} {post : Option Value → kS → Prop}
theorem k_fld {ad : Nat → Nat} {x k kd : Nat} {ks : List Nat} (hk : ks[k]? = some kd) : ((List.range ks.length).map (fun k => k_fv ad σ x k (ks.getD k 0)))[k]? = some (k_fv ad σ x k kd) := by
  have hl := (List.getElem?_eq_some_iff.mp hk).1
  simp only [List.getElem?_map, List.getElem?_range hl, Option.map_some, List.getD_eq_getElem?_getD, hk, Option.getD_some]
theorem v_geti {idx ci k x : Nat} {ks : List Nat} (hF : k_F y.cls idx ci k) (hd : decode cc pc = .ok (.getfield idx, 3)) (hsh : k_sh x = (0, ci, ks)) (hk : ks[k]? = some 0) (hx : x < E.1) (kk : V y cc mx ret d E (pc + 3) ls (.int (k_i σ x k) :: st) σ post) : V y cc mx ret d E pc ls (.ref x :: st) σ post := fun C w hS hR L hL => by
  obtain ⟨C0, T, N, hc, hkN, hin, hl⟩ := hF
  exact va_get (v := .int (k_i σ x k)) C.1 C.2.1 C.2.2.2.2.2.1 hin C.2.2.2.1 C.2.2.2.2.2.2.2.1 w.1 x (by rw [k_W_at hx, k_obj hsh]) hc k hkN (C.2.2.2.2.2.1 _ hl) (fun _ h => h) (k_fld hk) hd (kk C w hS hR L hL)
theorem v_getr {idx ci k x j : Nat} {ks : List Nat} (hF : k_F y.cls idx ci k) (hd : decode cc pc = .ok (.getfield idx, 3)) (hsh : k_sh x = (0, ci, ks)) (hk : ks[k]? = some 2) (hx : x < E.1) (hr : k_r σ x k = some j) (kk : V y cc mx ret d E (pc + 3) ls (.ref j :: st) σ post) : V y cc mx ret d E pc ls (.ref x :: st) σ post := @fun p l e R s m args below meth c H locs cells slots mc ms Q D z ad cA C w hS hR L hL => by
  obtain ⟨C0, T, N, hc, hkN, hin, hl⟩ := hF
  have h1 := k_fld (ad := ad) (σ := σ) (x := x) hk
  have h2 : k_fv ad σ x k 2 = .ref (ad j) := by simp [k_fv, hr, va_rf]
  rw [h2] at h1
  exact va_get (v := .ref (ad j)) C.1 C.2.1 C.2.2.2.2.2.1 hin C.2.2.2.1 C.2.2.2.2.2.2.2.1 w.1 x (by rw [k_W_at hx, k_obj hsh]) hc k hkN (C.2.2.2.2.2.1 _ hl) (fun _ h => h) h1 hd (kk C w hS hR L hL)
theorem k_seti {ad : Nat → Nat} {cA : Nat → ClassId} {x ci k : Nat} {ks : List Nat} {v : Int32} (hsh : k_sh x = (0, ci, ks)) (hk : ks[k]? = some 0) : k_ce ad cA (k_wi σ x (upd (k_i σ x) k v)) x = .inr (ci, ((List.range ks.length).map (fun j => k_fv ad σ x j (ks.getD j 0))).set k (.int v)) := by
  rw [k_obj hsh, k_rset]
  refine congrArg (fun f => (Sum.inr (ci, (List.range ks.length).map f) : va_E)) (funext fun j => ?_)
  by_cases hj : j = k
  · subst hj
    simp [k_fv, k_ii, upd, List.getD_eq_getElem?_getD, hk]
  · simp [k_fv, k_ii, k_ri, upd, hj]
theorem k_setr {ad : Nat → Nat} {cA : Nat → ClassId} {x ci k j0 : Nat} {ks : List Nat} (hsh : k_sh x = (0, ci, ks)) (hk : ks[k]? = some 2) : k_ce ad cA (k_wr σ x (va_up (k_r σ x) k (some j0))) x = .inr (ci, ((List.range ks.length).map (fun j => k_fv ad σ x j (ks.getD j 0))).set k (.ref (ad j0))) := by
  rw [k_obj hsh, k_rset]
  refine congrArg (fun f => (Sum.inr (ci, (List.range ks.length).map f) : va_E)) (funext fun j => ?_)
  by_cases hj : j = k
  · subst hj
    simp [k_fv, k_rr, va_up, List.getD_eq_getElem?_getD, hk, va_rf]
  · simp [k_fv, k_rr, k_ir, va_up, hj]
theorem v_puti {idx ci k x : Nat} {ks : List Nat} {v : Int32} {fin : Bool} {ok : Value → Prop} (hF : k_P y.cls idx ci k fin ok) (hv : ok (.int v)) (hm : fin = true → y.name = "<init>") (hd : decode cc pc = .ok (.putfield idx, 3)) (hsh : k_sh x = (0, ci, ks)) (hk : ks[k]? = some 0) (hx : x < E.1) (kk : V y cc mx ret d E (pc + 3) ls st (k_wi σ x (upd (k_i σ x) k v)) post) : V y cc mx ret d E pc ls (.int v :: .ref x :: st) σ post := fun C w hS hR L hL => by
  refine k_put (v := .int v) hF hv C.1 C.2.1 C.2.2.2.2.2.1 C.2.2.2.1 (fun h => C.2.2.2.2.1.trans (hm h)) C.2.2.2.2.2.2.2.1 w.1 w.2.1 hS x (by rw [k_W_at hx, k_obj hsh]) (by simp; exact (List.getElem?_eq_some_iff.mp hk).1) hd (fun H1 locs1 hP hD hS1 hz => ?_)
  rw [k_W_set hx k_ce_wi (k_seti hsh hk)] at hP hD
  exact kk C ⟨hP, hD, fun h => hz.trans (w.2.2 h)⟩ hS1 hR L hL
theorem v_putr {idx ci k x j : Nat} {ks : List Nat} {fin : Bool} {ok : Value → Prop} (hF : k_P y.cls idx ci k fin ok) (hv : ∀ a : Nat, ok (.ref a)) (hm : fin = true → y.name = "<init>") (hd : decode cc pc = .ok (.putfield idx, 3)) (hsh : k_sh x = (0, ci, ks)) (hk : ks[k]? = some 2) (hx : x < E.1) (kk : V y cc mx ret d E (pc + 3) ls st (k_wr σ x (va_up (k_r σ x) k (some j))) post) : V y cc mx ret d E pc ls (.ref j :: .ref x :: st) σ post := fun C w hS hR L hL => by
  refine k_put (v := .ref _) hF (hv _) C.1 C.2.1 C.2.2.2.2.2.1 C.2.2.2.1 (fun h => C.2.2.2.2.1.trans (hm h)) C.2.2.2.2.2.2.2.1 w.1 w.2.1 hS x (by rw [k_W_at hx, k_obj hsh]) (by simp; exact (List.getElem?_eq_some_iff.mp hk).1) hd (fun H1 locs1 hP hD hS1 hz => ?_)
  rw [k_W_set hx k_ce_wr (k_setr hsh hk)] at hP hD
  exact kk C ⟨hP, hD, fun h => hz.trans (w.2.2 h)⟩ hS1 hR L hL
/-! arrays; the place as a number j -/
theorem v_iald {x n j : Nat} {i : Int32} (hd : decode cc pc = .ok (.iaload, 1)) (hsh : k_sh x = (1, n, [])) (hx : x < E.1) (hn : n < 2 ^ 31) (hi : i = nI j) (hj : j < n) (kk : V y cc mx ret d E (pc + 1) ls (.int (k_i σ x j) :: st) σ post) : V y cc mx ret d E pc ls (.int i :: .ref x :: st) σ post := fun C w hS hR L hL => by
  subst hi
  refine va_iald C.1 C.2.1 C.2.2.2.2.2.2.2.1 w.1 x 0 (by rw [k_W_at hx, k_arI hsh]) rfl (vp_in_nI hj hn) hd ?_
  rw [nI_clamp (by omega)]
  exact kk C w hS hR L hL
theorem v_iast {x n j : Nat} {i v : Int32} (hd : decode cc pc = .ok (.iastore, 1)) (hsh : k_sh x = (1, n, [])) (hx : x < E.1) (hn : n < 2 ^ 31) (hi : i = nI j) (hj : j < n) (kk : V y cc mx ret d E (pc + 1) ls st (k_wi σ x (upd (k_i σ x) j v)) post) : V y cc mx ret d E pc ls (.int v :: .int i :: .ref x :: st) σ post := fun C w hS hR L hL => by
  subst hi
  refine k_iast C.1 C.2.1 C.2.2.2.2.2.2.2.1 w.1 w.2.1 hS x 0 (by rw [k_W_at hx, k_arI hsh]) rfl (vp_in_nI hj hn) hd (fun H1 locs1 hP hD hS1 hz => ?_)
  rw [nI_clamp (by omega)] at hP hD
  rw [k_W_set hx k_ce_wi (by rw [k_arI hsh, k_ii])] at hP hD
  exact kk C ⟨hP, hD, fun h => hz.trans (w.2.2 h)⟩ hS1 hR L hL
theorem v_lald {x n j : Nat} {i : Int32} (hd : decode cc pc = .ok (.laload, 1)) (hsh : k_sh x = (2, n, [])) (hx : x < E.1) (hn : n < 2 ^ 31) (hi : i = nI j) (hj : j < n) (kk : V y cc mx ret d E (pc + 1) ls (.long (k_l σ x j) :: st) σ post) : V y cc mx ret d E pc ls (.int i :: .ref x :: st) σ post := fun C w hS hR L hL => by
  subst hi
  refine va_lald C.1 C.2.1 C.2.2.2.2.2.2.2.1 w.1 x 1 (by rw [k_W_at hx, k_arL hsh]) rfl (vp_in_nI hj hn) hd ?_
  rw [nI_clamp (by omega)]
  exact kk C w hS hR L hL
theorem v_last {x n j : Nat} {i : Int32} {v : Int64} (hal : ¬ E.2.2.2.1) (hd : decode cc pc = .ok (.lastore, 1)) (hsh : k_sh x = (2, n, [])) (hx : x < E.1) (hn : n < 2 ^ 31) (hi : i = nI j) (hj : j < n) (kk : V y cc mx ret d E (pc + 1) ls st (k_wl σ x (vp_updL (k_l σ x) j v)) post) : V y cc mx ret d E pc ls (.long v :: .int i :: .ref x :: st) σ post := fun C w hS hR L hL => by
  subst hi
  refine va_last C.1 C.2.1 C.2.2.2.2.2.2.2.1 w.1 w.2.1 hS x 1 (by rw [k_W_at hx, k_arL hsh]) rfl (vp_in_nI hj hn) hd (fun H1 locs1 hP hD hS1 => ?_)
  rw [nI_clamp (by omega)] at hP hD
  rw [k_W_set hx k_ce_wl (by rw [k_arL hsh, k_ll])] at hP hD
  exact kk C ⟨hP, hD, fun h => absurd h hal⟩ hS1 hR L hL
theorem v_aald {x n j q : Nat} {i : Int32} (hd : decode cc pc = .ok (.aaload, 1)) (hsh : k_sh x = (3, n, [])) (hx : x < E.1) (hn : n < 2 ^ 31) (hi : i = nI j) (hj : j < n) (hr : k_r σ x j = some q) (kk : V y cc mx ret d E (pc + 1) ls (.ref q :: st) σ post) : V y cc mx ret d E pc ls (.int i :: .ref x :: st) σ post := @fun p l e R s m args below meth c H locs cells slots mc ms Q D z ad cA C w hS hR L hL => by
  subst hi
  have ha : (k_W ad cA E.1 σ)[x]? = some (ad x, .inl (cA 2, n, .inr (.inr (.inr (.inr (fun j => (k_r σ x j).map ad)))))) := by rw [k_W_at hx, k_arR hsh]
  refine W.aald (v := .ref (ad q)) (ty := .array .int) C.1 C.2.1 (w.1 x _ ha) ((C.2.2.2.2.2.2.2.1.2 2 (cA 2, .array .int) rfl).1 n (fun j => va_rf ((k_r σ x j).map ad))) rfl (fun q => by cases q) (by show ¬ (nI j < 0 ∨ (arrV _ _ _).slots.size ≤ _); rw [arrV_size]; exact vp_in_nI hj hn) (by show (arrV _ _ _).slots[_]? = _; rw [nI_clamp (by omega), arrV_read _ _ hj]; show some (va_rf ((k_r σ x j).map ad)) = _; rw [hr]; rfl) rfl rfl hd (kk C w hS hR L hL)
/-! arraycopy -/
def k_AC (own : String) (idx : Nat) : Prop := Cond.methodLink own idx arraycopyName ∈ lw_g ∧ Cond.native arraycopyName ∈ lw_g ∧ Cond.static arraycopyName ∈ lw_g ∧ Cond.initialized "java/lang/System" ∈ lw_g
theorem k_sum (ad : Nat → Nat) (st : List Value) : ((st.map (k_v ad)).map fun v => v.category).sum = (st.map fun v => v.category).sum := by
  rw [List.map_map]
  congr 2
  funext v
  exact k_v_cat ad v
theorem v_copyi {idx x0 x1 n0 n1 a b c2 : Nat} {sp dp n : Int32} (hal : ¬ E.2.2.2.1) (hC : k_AC y.cls idx) (hd : decode cc pc = .ok (.invokestatic idx, 3)) (hs0 : k_sh x0 = (1, n0, [])) (hs1 : k_sh x1 = (1, n1, [])) (hx0 : x0 < E.1) (hx1 : x1 < E.1) (hsp : sp = nI a) (hdp : dp = nI b) (hn : n = nI c2) (h0 : a + c2 ≤ n0) (h1 : b + c2 ≤ n1) (hb0 : n0 < 2 ^ 31) (hb1 : n1 < 2 ^ 31) (h8 : (st.map fun v => v.category).sum ≤ 8)
    (kk : V y cc mx ret (d + 1) E (pc + 3) ls st (k_wi σ x1 (va_cpy (k_i σ x0) (k_i σ x1) a b c2)) post) : V y cc mx ret (d + 1) E pc ls (.int n :: .int dp :: .ref x1 :: .int sp :: .ref x0 :: st) σ post := fun C w hS hR L hL => by
  subst hsp; subst hdp; subst hn
  have ht := C.2.2.2.2.2.1
  have ca : (nI a).toNatClampNeg = a := nI_clamp (by omega)
  have cb : (nI b).toNatClampNeg = b := nI_clamp (by omega)
  have c3 : (nI c2).toNatClampNeg = c2 := nI_clamp (by omega)
  have e9 : nativeFrameWords "java/lang/System" "arraycopy" 5 + 11 ≤ 32 := by decide +kernel
  have f1 := C.2.2.2.2.2.2.2.2.2.2.2.1
  have f2 := C.2.2.2.2.2.2.2.2.2.2.2.2.1
  refine va_copyi (sp := nI a) (dp := nI b) (n := nI c2) C.1 C.2.1 (C.2.2.1.trans hL.1.symm) C.2.2.2.1 (ht _ hC.1) (ht _ hC.2.1) (ht _ hC.2.2.1) (ht _ hC.2.2.2) C.2.2.2.2.2.2.2.1 w.1 w.2.1 hS x0 x1 0 0 (by rw [k_W_at hx0, k_arI hs0]) (by rw [k_W_at hx1, k_arI hs1]) rfl rfl rfl (nI_pos (by omega)) (nI_pos (by omega)) (nI_pos (by omega)) (by rw [ca, c3]; exact h0) (by rw [cb, c3]; exact h1) (fun i _ => rfl) (by omega) (by rw [k_sum]; omega) hd (fun H1 locs1 hP hD hS1 => ?_)
  rw [ca, cb, c3] at hP hD
  rw [k_W_set hx1 k_ce_wi (by rw [k_arI hs1, k_ii])] at hP hD
  exact kk C ⟨hP, hD, fun h => absurd h hal⟩ hS1 hR L hL
theorem v_copyl {idx x0 x1 n0 n1 a b c2 : Nat} {sp dp n : Int32} (hal : ¬ E.2.2.2.1) (hC : k_AC y.cls idx) (hd : decode cc pc = .ok (.invokestatic idx, 3)) (hs0 : k_sh x0 = (2, n0, [])) (hs1 : k_sh x1 = (2, n1, [])) (hx0 : x0 < E.1) (hx1 : x1 < E.1) (hsp : sp = nI a) (hdp : dp = nI b) (hn : n = nI c2) (h0 : a + c2 ≤ n0) (h1 : b + c2 ≤ n1) (hb0 : n0 < 2 ^ 31) (hb1 : n1 < 2 ^ 31) (h8 : (st.map fun v => v.category).sum ≤ 8)
    (kk : V y cc mx ret (d + 1) E (pc + 3) ls st (k_wl σ x1 (va_cpy (k_l σ x0) (k_l σ x1) a b c2)) post) : V y cc mx ret (d + 1) E pc ls (.int n :: .int dp :: .ref x1 :: .int sp :: .ref x0 :: st) σ post := fun C w hS hR L hL => by
  subst hsp; subst hdp; subst hn
  have ht := C.2.2.2.2.2.1
  have ca : (nI a).toNatClampNeg = a := nI_clamp (by omega)
  have cb : (nI b).toNatClampNeg = b := nI_clamp (by omega)
  have c3 : (nI c2).toNatClampNeg = c2 := nI_clamp (by omega)
  have e9 : nativeFrameWords "java/lang/System" "arraycopy" 5 + 11 ≤ 32 := by decide +kernel
  have f1 := C.2.2.2.2.2.2.2.2.2.2.2.1
  have f2 := C.2.2.2.2.2.2.2.2.2.2.2.2.1
  refine va_copyl (sp := nI a) (dp := nI b) (n := nI c2) C.1 C.2.1 (C.2.2.1.trans hL.1.symm) C.2.2.2.1 (ht _ hC.1) (ht _ hC.2.1) (ht _ hC.2.2.1) (ht _ hC.2.2.2) C.2.2.2.2.2.2.2.1 w.1 w.2.1 hS x0 x1 1 1 (by rw [k_W_at hx0, k_arL hs0]) (by rw [k_W_at hx1, k_arL hs1]) rfl rfl rfl (nI_pos (by omega)) (nI_pos (by omega)) (nI_pos (by omega)) (by rw [ca, c3]; exact h0) (by rw [cb, c3]; exact h1) (fun i _ => rfl) (by omega) (by rw [k_sum]; omega) hd (fun H1 locs1 hP hD hS1 => ?_)
  rw [ca, cb, c3] at hP hD
  rw [k_W_set hx1 k_ce_wl (by rw [k_arL hs1, k_ll])] at hP hD
  exact kk C ⟨hP, hD, fun h => absurd h hal⟩ hS1 hR L hL
/-! the script -/
theorem v_slen (hL0 : E.2.2.2.2.2.1 ≠ 0) (hd : decode cc pc = .ok (.arraylength, 1)) (kk : V y cc mx ret d E (pc + 1) ls (.int (nI (E.2.2.2.2.2.1 - 1)) :: st) σ post) : V y cc mx ret d E pc ls (.ref 1000 :: st) σ post := fun C w hS hR L hL => by
  rcases C.2.2.2.2.2.2.2.2.2.2.1 with h | ⟨h1, hX⟩
  · exact absurd h hL0
  · have hbl := h1
    have hz := C.2.2.2.2.2.2.2.2.1
    exact va_slen C.1 C.2.1 hX (by omega) (Nat.not_le.mpr h1) hS hd (kk C w hS hR L hL)
theorem v_sld {i : Int32} {j : Nat} (hd : decode cc pc = .ok (.iaload, 1)) (hi : i = nI j) (hj : j < E.2.2.2.2.2.1 - 1) (hb : E.2.2.2.2.2.1 < 2 ^ 31) (kk : V y cc mx ret d E (pc + 1) ls (.int (E.2.2.2.2.2.2 j) :: st) σ post) : V y cc mx ret d E pc ls (.int i :: .ref 1000 :: st) σ post := fun C w hS hR L hL => by
  subst hi
  rcases C.2.2.2.2.2.2.2.2.2.2.1 with h | ⟨h1, hX⟩
  · omega
  · have hz := C.2.2.2.2.2.2.2.2.1
    refine va_sld C.1 C.2.1 hX (by omega) (Nat.not_le.mpr h1) hS (vp_in_nI hj (by omega)) hd ?_
    rw [nI_clamp (by omega)]
    exact kk C w hS hR L hL
end kH
end
section
/-! ===== calls ===== -/
def k_en : List Value → List (Option Value)
  | [] => []
  | .long v :: vs => some (.long v) :: none :: k_en vs
  | .double v :: vs => some (.double v) :: none :: k_en vs
  | v :: vs => some v :: k_en vs
def k_en0 (As : List Value) (mx : Nat) : List (Option Value) := k_en As ++ List.replicate (mx - (k_en As).length) none
theorem k_en_1 {v : Value} (vs : List Value) (h : v.category = 1) : k_en (v :: vs) = some v :: k_en vs := by
  cases v <;> first | rfl | cases h
theorem k_en_2 {v : Value} (vs : List Value) (h : v.category = 2) : k_en (v :: vs) = some v :: none :: k_en vs := by
  cases v <;> first | rfl | cases h
theorem k_en_args : ∀ (As : List Value) (i k : Nat) (w : Value), (k_en As)[k]? = some (some w) → (i + k, w) ∈ lv_args i As
  | [], i, k, w, h => by simp [k_en] at h
  | v :: vs, i, k, w, h => by
    rcases lv_cat v with hc | hc
    · rw [k_en_1 vs hc] at h
      unfold lv_args
      rw [if_neg (by omega)]
      cases k with
      | zero => simp at h; subst h; exact List.mem_cons_self
      | succ k =>
        have := k_en_args vs (i + 1) k w (by simpa using h)
        rw [show i + 1 + k = i + (k + 1) by omega] at this
        exact List.mem_cons_of_mem _ this
    · rw [k_en_2 vs hc] at h
      unfold lv_args
      rw [if_pos hc]
      cases k with
      | zero => simp at h; subst h; exact List.mem_cons_self
      | succ k =>
        cases k with
        | zero => simp at h
        | succ k =>
          have := k_en_args vs (i + 2) k w (by simpa using h)
          rw [show i + 2 + k = i + (k + 1 + 1) by omega] at this
          exact List.mem_cons_of_mem _ this
theorem k_args_map (ad : Nat → Nat) : ∀ (As : List Value) (i : Nat), lv_args i (As.map (k_v ad)) = (lv_args i As).map (fun q => (q.1, k_v ad q.2))
  | [], i => rfl
  | v :: vs, i => by
    simp only [List.map_cons, lv_args, k_v_cat]
    rw [k_args_map ad vs]
theorem k_sl_len (ad : Nat → Nat) (As : List Value) : (lg_sl (As.map (k_v ad))).length = (lg_sl As).length := by
  induction As with
  | nil => rfl
  | cons v vs ih =>
    have e : ∀ (u : Value) (us : List Value), lg_sl (u :: us) = (if u.category = 2 then [.val u, .second] else [.val u]) ++ lg_sl us := fun u us => rfl
    rw [List.map_cons, e, e, List.length_append, List.length_append, ih, k_v_cat]
    by_cases h : v.category = 2 <;> simp [h]
theorem k_isN_on {w : Cond} (h : k_isN w = true) : w.onTables = true := by
  cases w <;> first | rfl | cases h
theorem k_NW.warm {s U : State} (hW : s.WarmedH U.vm) (h : k_NW s) : k_NW U := by
  intro w hw hn
  have h1 := h w hw hn
  cases w <;> first | exact va_Nw.warmM hW h1 | cases hn
theorem k_NW.same {s U : State} (hv : s.vm = U.vm) (h : k_NW s) : k_NW U := fun w hw hn => va_Nw.same (k_isN_on hn) hv (h w hw hn)
def k_Pc (D : va_G) (z : Nat) (ad : Nat → Nat) (cA : Nat → ClassId) (n : Nat) (al : Prop) (σ : kS) (As : List Value) : Array Value → State → Prop := va_Pc (As.map (k_v ad)) (fun U => k_World D z ad cA n al σ U.heap ∧ va_K D vwCl (k_tys cA) U ∧ k_NW U ∧ z ≤ U.heap.size)
def k_Qc (D : va_G) (z : Nat) (ad : Nat → Nat) (cA : Nat → ClassId) (nf : Nat) (al : Prop) (post : Option Value → kS → Prop) : Array Value → State → Outcome → State → Prop := fun _ st oc t => (∃ (v : Option Value) (σ' : kS), oc = .returned (v.map (k_v ad)) ∧ post v σ' ∧ k_World D z ad cA nf al σ' t.heap) ∧ va_F (k_A z) st t
theorem k_blind {D : va_G} {z : Nat} {ad : Nat → Nat} {cA : Nat → ClassId} {n : Nat} {al : Prop} {σ : kS} {As : List Value} : FrameBlind (k_Pc D z ad cA n al σ As) := by
  intro a U g mk h
  obtain ⟨q0, hw, hK, hN, hz⟩ := h
  exact ⟨q0, hw, va_K.moved (u := U) (U := U.calling g mk a) (Vm.Alike.refl U.vm) hK, k_NW.same (s := U) (U := U.calling g mk a) rfl hN, hz⟩
theorem k_rd_cases {ret : Option FieldType} {cc : ByteArray} {pc : Nat} {v : Option Value} (h : k_rd ret cc pc v) : (ret = none ∧ v = none ∧ decode cc pc = .ok (.return_, 1)) ∨ (ret = some .int ∧ ∃ x, v = some (.int x) ∧ decode cc pc = .ok (.ireturn, 1)) ∨ (ret = some .boolean ∧ ∃ x, v = some (.int x) ∧ decode cc pc = .ok (.ireturn, 1) ∧ narrow .boolean (.int x) = .int x) ∨ (ret = some .long ∧ ∃ x, v = some (.long x) ∧ decode cc pc = .ok (.lreturn, 1)) := by
  unfold k_rd at h
  split at h
  · exact Or.inl ⟨rfl, rfl, h⟩
  · exact Or.inr (Or.inl ⟨rfl, _, rfl, h⟩)
  · exact Or.inr (Or.inr (Or.inl ⟨rfl, _, rfl, h.1, h.2⟩))
  · exact Or.inr (Or.inr (Or.inr ⟨rfl, _, rfl, h⟩))
  · exact h.elim
section kC
variable {y : MethodName} {cc : ByteArray} {mx : Nat} {ret : Option FieldType} {d : Nat} {E : kE} {pc : Nat} {ls : List (Option Value)} {st : List Value} {σ : kS} {post : Option Value → kS → Prop}
theorem k_met (l : Launch) (hpl : plainName y.cls = true) {As : List Value} (hlen : (lg_sl As).length ≤ mx) (D : va_G) (z : Nat) (ad : Nat → Nat) (cA : Nat → ClassId) (had : E.2.2.2.1 → ∀ i, i < 200 → ad i = z + i) (hE : E.2.2.2.2.2.1 = 0) (hle : E.1 ≤ E.2.1) (hV : V y cc mx ret d E 0 (k_en0 As mx) [] σ post) :
    Met l y (.code y cc mx ret :: lw_g) { frames := d, cells := E.2.1 - E.1, slots := E.2.2.1, locals := 40 * d } (k_Pc D z ad cA E.1 E.2.2.2.1 σ As) (k_Qc D z ad cA E.2.1 E.2.2.2.2.1 post) (E.2.1 - E.1) E.2.2.1 (k_A z) := by
  refine Met.ofW (cc := cc) (maxL := mx) (ret := ret) hpl rfl ?_
  intro p e s m args below meth c s₁ B hml hv
  obtain ⟨rfl, hw, hK, hN, hz⟩ := hv
  have hx := B.exec
  have hb := B.bytes
  have hr := B.returns
  have hts := atoms_spec (ws := .code y cc mx ret :: lw_g) B.pre
  have hown : s.vm.findClass y.cls = some m.cls := findClass_of_methodNamed B.named
  have hnm : meth.name = y.name := (name_of_methodNamed B.named B.method).1
  have hlocks := B.notSynchronized
  have hl := lv_entry (As.map (k_v ad)) (n := mx) (by rw [k_sl_len]; exact hlen)
  rw [lg_entry_eq]
  generalize (lg_sl (As.map (k_v ad)) ++ List.replicate (mx - (lg_sl (As.map (k_v ad))).length) Slot.unset).toArray = L at hl ⊢
  have hL : k_L L mx ad (k_en0 As mx) := by
    refine ⟨hl.1, hl.2.1, fun q hq => hl.2.2 q ?_⟩
    obtain ⟨w, h1, h2⟩ := k_as_mem.mp hq
    unfold k_en0 at h1
    by_cases hk : q.1 < (k_en As).length
    · rw [List.getElem?_append_left hk] at h1
      have h3 := k_en_args As 0 q.1 w h1
      rw [k_args_map]
      refine List.mem_map.mpr ⟨_, h3, ?_⟩
      rw [Nat.zero_add, ← h2]
    · rw [List.getElem?_append_right (by omega)] at h1
      have := List.eq_of_mem_replicate (List.mem_of_getElem? h1)
      cases this
  refine @hV p l e _ s m _ below meth c s.heap [] 0 0 (E.2.1 - E.1) E.2.2.1 _ D z ad cA ⟨hx, hb, hml, hown, hnm, fun w h => hts w (List.mem_cons_of_mem _ h), hN, hK, hz, had, Or.inl hE, Nat.le_refl _, Nat.le_refl _, ?_, ?_, Nat.le_refl _, Nat.le_refl _⟩ hw va_S.rf ?_ L hL
  · omega
  · omega
  · intro v σ' H' locs' pc' L' hp hw' hS' hrd
    rcases k_rd_cases hrd with ⟨e1, rfl, h3⟩ | ⟨e1, x, rfl, h3⟩ | ⟨e1, x, rfl, h3, h4⟩ | ⟨e1, x, rfl, h3⟩
    · exact W.vret hx hb (hr.trans e1) (fun t ht hW => ⟨⟨none, σ', rfl, hp, by rw [ht]; exact hw'⟩, hS'.F ht⟩) hS'.2.2 h3
    · exact W.iret (v := x) hx hb (hr.trans e1) (fun t ht hW => ⟨⟨some (.int x), σ', rfl, hp, by rw [ht]; exact hw'⟩, hS'.F ht⟩) hS'.2.2 h3
    · exact W.zret (v := x) hx hb (hr.trans e1) h4 (fun t ht hW => ⟨⟨some (.int x), σ', rfl, hp, by rw [ht]; exact hw'⟩, hS'.F ht⟩) hS'.2.2 h3
    · exact W.lret (v := x) hx hb (hr.trans e1) (fun t ht hW => ⟨⟨some (.long x), σ', rfl, hp, by rw [ht]; exact hw'⟩, hS'.F ht⟩) hS'.2.2 h3
theorem k_cont {p : Program} {l : Launch} {e : Env} {R : Room} {s : State} {m : MethodId} {args : Array Value} {below : List Frame} {meth : Method} {c : Code} {H : Heap} {locs : List Loc} {cells slots mc2 ms2 : Nat} {Q : State → Prop} {D : va_G} {z : Nat} {ad : Nat → Nat} {cA : Nat → ClassId} {L : Array Slot} {st0 rest : List Value} {nf2 : Nat} {al2 : Prop} {post2 : Option Value → kS → Prop} {a : Array Value}
    (hr : va_Run p l e R s m args below meth c H locs cells slots mc2 ms2 (F0 m pc L st0) rest (k_Qc D z ad cA nf2 al2 post2 a) (k_A z)) (hS : va_S (k_A z) s.heap H locs)
    (kk : ∀ (v : Option Value) (σ' : kS) (H1 : Heap) (locs1 : List Loc), post2 v σ' → k_World D z ad cA nf2 al2 σ' H1 → va_S (k_A z) s.heap H1 locs1 → W p l e R s m args below meth c H1 locs1 (cells + mc2) (slots + ms2) Q (F0 m (pc + 3) L ((v.map (k_v ad)).toList ++ rest))) : W p l e R s m args below meth c H locs cells slots Q (F0 m pc L st0) := by
  intro T hT X
  obtain ⟨v, st₀, t, T', Lc, h0, X', hLc, e1, e2, ⟨⟨v2, σ', hv, hp, hw⟩, hz, hk⟩, st⟩ := hr T hT X
  have hv2 : v = v2.map (k_v ad) := by cases hv; rfl
  subst hv2
  rw [h0] at hz hk
  obtain ⟨t2, a1, b1⟩ := kk v2 σ' T'.heap (locs ++ Lc) hp (by rw [e1]; exact hw) ⟨by rw [e1]; exact Nat.le_trans hS.1 hz, fun q h1 h2 => by rw [e1, hk q (Nat.lt_of_lt_of_le h1 hS.1) h2]; exact hS.2.1 q h1 h2, fun q hq => (List.mem_append.mp hq).elim (hS.2.2 q) (hLc q)⟩ T' rfl X'
  exact ⟨t2, st t2 a1, b1⟩
def k_M (y2 : MethodName) (cc2 : ByteArray) (mx2 : Nat) (ret2 : Option FieldType) (n : Nat) : Prop := Cond.code y2 cc2 mx2 ret2 ∈ lw_g ∧ Cond.initialized y2.cls ∈ lw_g ∧ (y2.cls ≠ "java/lang/invoke/MethodHandle" ∧ y2.cls ≠ "java/lang/invoke/VarHandle" ∧ (parseMethodDescriptor y2.desc).map (fun d => d.parameters.length) = some n) ∧ plainName y2.cls = true ∧ mx2 ≤ 21
def k_MV (y2 : MethodName) : Prop := Cond.instanceMethod y2 ∈ lw_g ∧ Cond.selects y2.cls y2 y2 ∈ lw_g
theorem k_good {y2 : MethodName} {cc2 : ByteArray} {mx2 : Nat} {ret2 : Option FieldType} (h : Cond.code y2 cc2 mx2 ret2 ∈ lw_g) : GoodIn lw_g (Cond.code y2 cc2 mx2 ret2 :: lw_g) := by
  intro w hw
  have hm : w ∈ lw_g := (List.mem_cons.mp hw).elim (fun e => e ▸ h) id
  exact ⟨hm, good_of_word (List.mem_filter.mp hm).2⟩
theorem k_tl (ad : Nat → Nat) (v : Option Value) (st : List Value) : (v.map (k_v ad)).toList ++ st.map (k_v ad) = (v.toList ++ st).map (k_v ad) := by
  cases v <;> simp
theorem v_callV {y2 : MethodName} {cc2 : ByteArray} {mx2 n2 idx x ci : Nat} {ret2 : Option FieldType} {ks : List Nat} {q : vw_C} {As : List Value} (hM : k_M y2 cc2 mx2 ret2 n2) (hI : k_MV y2) (hlk : Cond.methodLink y.cls idx y2 ∈ lw_g) (hd : decode cc pc = .ok (.invokevirtual idx, 3)) (hsh : k_sh x = (0, ci, ks)) (hcl : vwCl[ci]? = some q) (hq : q.1 = y2.cls) (hx : x < 80) (hE : E.1 = 80 ∧ E.2.1 = 80 ∧ ¬ E.2.2.2.1) (hn : As.length = n2) (h8 : (st.map fun v => v.category).sum ≤ 8) (hln : (lg_sl (.ref x :: As)).length ≤ mx2)
    (hV : V y2 cc2 mx2 ret2 d kE0 0 (k_en0 (.ref x :: As) mx2) [] σ (fun v σ' => V y cc mx ret (d + 1) E (pc + 3) ls (v.toList ++ st) σ' post)) : V y cc mx ret (d + 1) E pc ls (As.reverse ++ .ref x :: st) σ post := @fun p l e R s m args below meth c H locs cells slots mc ms Q D z ad cA C w hS hR L hL => by
  obtain ⟨c1, c2, c3, c4, c5, hts, hN, hK, hz, hal, hsc, hfr, hlo, hce, hsl, hmc, hms⟩ := id C
  obtain ⟨hcode, hini, hdesc, hpl, hmx⟩ := hM
  rw [hE.1] at w
  have hw0 : k_World D z ad cA 80 False σ H := ⟨w.1, w.2.1, fun h => h.elim⟩
  have hrecv := va_recv hK w.1 (a := ad x) (q0 := x) hcl (by rw [k_W_at hx, k_obj hsh])
  rw [hq] at hrecv
  have hcB : CallB R s args y.cls idx y2 cc2 mx2 ret2 (.code y2 cc2 mx2 ret2 :: lw_g) { frames := d, cells := 0, slots := 0, locals := 40 * d } 0 0 n2 := callB_of n2 hts (k_good hcode) rfl rfl rfl (hts _ hini) (hts _ hlk) hdesc ⟨hfr, by show 8 + (mx2 + 11) + 40 * d ≤ R.locals; omega⟩
  have hrun := va_runV (As := As.map (k_v ad)) (rest := st.map (k_v ad)) (b := ad x) (g := F0 m pc L ((As.reverse ++ .ref x :: st).map (k_v ad))) (C := y2.cls) (cells := cells) (slots := slots) (locs := locs) (H := H) (l := l) (e := e) (below := below) (meth := meth) ⟨c1, c2, c3, c4, hts⟩ (k_met (E := kE0) l hpl hln D z ad cA (fun h => h.elim) rfl (Nat.le_refl _) hV) ⟨hcB, hts _ hI.1, hts _ hI.2⟩ ⟨k_blind, hrecv, fun U hU hW => ⟨rfl, by rw [hU]; exact hw0, va_K.moved hW.alike hK, hN.warm hW, by rw [hU]; exact Nat.le_trans hz hS.1⟩⟩ rfl (by simp [hn]) (hL.1) (by simp [k_v]) (lv_room (by rw [k_sum]; exact h8)) hd ⟨by show cells + 0 ≤ R.cells; have := hE.1; have := hE.2.1; omega, by show slots + 0 ≤ R.slots; omega⟩
  refine k_cont hrun hS (fun v σ' H1 locs1 hp hw1 hS1 => ?_)
  rw [k_tl]
  exact hp C (by rw [hE.1]; exact ⟨hw1.1, hw1.2.1, fun h => absurd h hE.2.2⟩) hS1 hR L hL
theorem v_callS {y2 : MethodName} {cc2 : ByteArray} {mx2 n2 idx : Nat} {ret2 : Option FieldType} {As : List Value} (hM : k_M y2 cc2 mx2 ret2 n2) (hI : Cond.static y2 ∈ lw_g) (hlk : Cond.methodLink y.cls idx y2 ∈ lw_g) (hd : decode cc pc = .ok (.invokestatic idx, 3)) (hE : E.1 = 80 ∧ E.2.1 = 80 ∧ ¬ E.2.2.2.1) (hn : As.length = n2) (h8 : (st.map fun v => v.category).sum ≤ 8) (hln : (lg_sl As).length ≤ mx2)
    (hV : V y2 cc2 mx2 ret2 d kE0 0 (k_en0 As mx2) [] σ (fun v σ' => V y cc mx ret (d + 1) E (pc + 3) ls (v.toList ++ st) σ' post)) : V y cc mx ret (d + 1) E pc ls (As.reverse ++ st) σ post := @fun p l e R s m args below meth c H locs cells slots mc ms Q D z ad cA C w hS hR L hL => by
  obtain ⟨c1, c2, c3, c4, c5, hts, hN, hK, hz, hal, hsc, hfr, hlo, hce, hsl, hmc, hms⟩ := id C
  obtain ⟨hcode, hini, hdesc, hpl, hmx⟩ := hM
  rw [hE.1] at w
  have hw0 : k_World D z ad cA 80 False σ H := ⟨w.1, w.2.1, fun h => h.elim⟩
  have hcB : CallB R s args y.cls idx y2 cc2 mx2 ret2 (.code y2 cc2 mx2 ret2 :: lw_g) { frames := d, cells := 0, slots := 0, locals := 40 * d } 0 0 n2 := callB_of n2 hts (k_good hcode) rfl rfl rfl (hts _ hini) (hts _ hlk) hdesc ⟨hfr, by show 8 + (mx2 + 11) + 40 * d ≤ R.locals; omega⟩
  have hrun := va_runS (As := As.map (k_v ad)) (rest := st.map (k_v ad)) (g := F0 m pc L ((As.reverse ++ st).map (k_v ad))) (cells := cells) (slots := slots) (locs := locs) (H := H) (l := l) (e := e) (below := below) (meth := meth) ⟨c1, c2, c3, c4, hts⟩ (k_met (E := kE0) l hpl hln D z ad cA (fun h => h.elim) rfl (Nat.le_refl _) hV) ⟨hcB, hts _ hI⟩ ⟨k_blind, fun U hU hW => ⟨rfl, by rw [hU]; exact hw0, va_K.moved hW.alike hK, hN.warm hW, by rw [hU]; exact Nat.le_trans hz hS.1⟩⟩ rfl (by simp [hn]) (hL.1) (by simp) (lv_room (by rw [k_sum]; exact h8)) hd ⟨by show cells + 0 ≤ R.cells; have := hE.1; have := hE.2.1; omega, by show slots + 0 ≤ R.slots; omega⟩
  refine k_cont hrun hS (fun v σ' H1 locs1 hp hw1 hS1 => ?_)
  rw [k_tl]
  exact hp C (by rw [hE.1]; exact ⟨hw1.1, hw1.2.1, fun h => absurd h hE.2.2⟩) hS1 hR L hL
end kC
end
