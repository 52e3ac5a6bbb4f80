section
-- ===== PART A: goes FIRST, ahead of the names: the tables' words, and 'selects' of the private methods out of them =====
/-- a private method of a class that the tables say can be made, by its rows of tables_1 -/
def lw_okq (q : MethodName × Nat) : Prop := (q.1.cls ≠ "java/lang/invoke/MethodHandle" ∧ q.1.cls ≠ "java/lang/invoke/VarHandle") ∧ Cond.instantiable q.1.cls q.2 ∈ tables_1 ∧ Cond.privateMethod q.1 ∈ tables_1 ∧ Cond.instanceMethod q.1 ∈ tables_1
theorem lw_p0 : lw_okq (⟨"BucketChain$Plan", "takeLetter", "(I)Z"⟩, 9) := ⟨⟨by decide +kernel, by decide +kernel⟩, List.mem_of_getElem? (i := 40) (by decide +kernel), List.mem_of_getElem? (i := 299) (by decide +kernel), List.mem_of_getElem? (i := 300) (by decide +kernel)⟩
theorem lw_p1 : lw_okq (⟨"BucketChain$Plan", "openPart", "(I)Z"⟩, 9) := ⟨⟨by decide +kernel, by decide +kernel⟩, List.mem_of_getElem? (i := 40) (by decide +kernel), List.mem_of_getElem? (i := 303) (by decide +kernel), List.mem_of_getElem? (i := 304) (by decide +kernel)⟩
theorem lw_p2 : lw_okq (⟨"BucketChain$Plan", "leastFigure", "()I"⟩, 9) := ⟨⟨by decide +kernel, by decide +kernel⟩, List.mem_of_getElem? (i := 40) (by decide +kernel), List.mem_of_getElem? (i := 307) (by decide +kernel), List.mem_of_getElem? (i := 308) (by decide +kernel)⟩
theorem lw_p3 : lw_okq (⟨"BucketChain$Plan", "mostFigure", "()I"⟩, 9) := ⟨⟨by decide +kernel, by decide +kernel⟩, List.mem_of_getElem? (i := 40) (by decide +kernel), List.mem_of_getElem? (i := 311) (by decide +kernel), List.mem_of_getElem? (i := 312) (by decide +kernel)⟩
theorem lw_p4 : lw_okq (⟨"BucketChain$Plan", "takeFigure", "(I)Z"⟩, 9) := ⟨⟨by decide +kernel, by decide +kernel⟩, List.mem_of_getElem? (i := 40) (by decide +kernel), List.mem_of_getElem? (i := 315) (by decide +kernel), List.mem_of_getElem? (i := 316) (by decide +kernel)⟩
theorem lw_p5 : lw_okq (⟨"BucketChain$Plan", "addPerson", "(I)Z"⟩, 9) := ⟨⟨by decide +kernel, by decide +kernel⟩, List.mem_of_getElem? (i := 40) (by decide +kernel), List.mem_of_getElem? (i := 319) (by decide +kernel), List.mem_of_getElem? (i := 320) (by decide +kernel)⟩
theorem lw_p6 : lw_okq (⟨"BucketChain$Plan", "startBucket", "(I)Z"⟩, 9) := ⟨⟨by decide +kernel, by decide +kernel⟩, List.mem_of_getElem? (i := 40) (by decide +kernel), List.mem_of_getElem? (i := 323) (by decide +kernel), List.mem_of_getElem? (i := 324) (by decide +kernel)⟩
theorem lw_p7 : lw_okq (⟨"BucketChain$Plan", "endBucket", "(I)Z"⟩, 9) := ⟨⟨by decide +kernel, by decide +kernel⟩, List.mem_of_getElem? (i := 40) (by decide +kernel), List.mem_of_getElem? (i := 327) (by decide +kernel), List.mem_of_getElem? (i := 328) (by decide +kernel)⟩
theorem lw_p8 : lw_okq (⟨"BucketChain$Shelf", "hasRow", "(I)Z"⟩, 1) := ⟨⟨by decide +kernel, by decide +kernel⟩, List.mem_of_getElem? (i := 159) (by decide +kernel), List.mem_of_getElem? (i := 396) (by decide +kernel), List.mem_of_getElem? (i := 397) (by decide +kernel)⟩
theorem lw_p9 : lw_okq (⟨"BucketChain$Scene", "throwLast", "()I"⟩, 10) := ⟨⟨by decide +kernel, by decide +kernel⟩, List.mem_of_getElem? (i := 90) (by decide +kernel), List.mem_of_getElem? (i := 407) (by decide +kernel), List.mem_of_getElem? (i := 408) (by decide +kernel)⟩
theorem lw_p10 : lw_okq (⟨"BucketChain$Scene", "worksAt", "(I)Z"⟩, 10) := ⟨⟨by decide +kernel, by decide +kernel⟩, List.mem_of_getElem? (i := 90) (by decide +kernel), List.mem_of_getElem? (i := 412) (by decide +kernel), List.mem_of_getElem? (i := 413) (by decide +kernel)⟩
theorem lw_p11 : lw_okq (⟨"BucketChain$Scene", "kindAt", "(I)I"⟩, 10) := ⟨⟨by decide +kernel, by decide +kernel⟩, List.mem_of_getElem? (i := 90) (by decide +kernel), List.mem_of_getElem? (i := 416) (by decide +kernel), List.mem_of_getElem? (i := 417) (by decide +kernel)⟩
theorem lw_p12 : lw_okq (⟨"BucketChain$Scene", "sendBack", "(I)V"⟩, 10) := ⟨⟨by decide +kernel, by decide +kernel⟩, List.mem_of_getElem? (i := 90) (by decide +kernel), List.mem_of_getElem? (i := 423) (by decide +kernel), List.mem_of_getElem? (i := 424) (by decide +kernel)⟩
theorem lw_p13 : lw_okq (⟨"BucketChain$Scene", "handOn", "(I)V"⟩, 10) := ⟨⟨by decide +kernel, by decide +kernel⟩, List.mem_of_getElem? (i := 90) (by decide +kernel), List.mem_of_getElem? (i := 427) (by decide +kernel), List.mem_of_getElem? (i := 428) (by decide +kernel)⟩
theorem lw_p14 : lw_okq (⟨"BucketChain$Scene", "give", "(III)V"⟩, 10) := ⟨⟨by decide +kernel, by decide +kernel⟩, List.mem_of_getElem? (i := 90) (by decide +kernel), List.mem_of_getElem? (i := 431) (by decide +kernel), List.mem_of_getElem? (i := 432) (by decide +kernel)⟩
theorem lw_p15 : lw_okq (⟨"BucketChain$Scene", "fillAtWell", "()V"⟩, 10) := ⟨⟨by decide +kernel, by decide +kernel⟩, List.mem_of_getElem? (i := 90) (by decide +kernel), List.mem_of_getElem? (i := 438) (by decide +kernel), List.mem_of_getElem? (i := 439) (by decide +kernel)⟩
def lw_privs_1 : List (MethodName × Nat) := [(⟨"BucketChain$Plan", "takeLetter", "(I)Z"⟩, 9), (⟨"BucketChain$Plan", "openPart", "(I)Z"⟩, 9), (⟨"BucketChain$Plan", "leastFigure", "()I"⟩, 9), (⟨"BucketChain$Plan", "mostFigure", "()I"⟩, 9), (⟨"BucketChain$Plan", "takeFigure", "(I)Z"⟩, 9), (⟨"BucketChain$Plan", "addPerson", "(I)Z"⟩, 9), (⟨"BucketChain$Plan", "startBucket", "(I)Z"⟩, 9), (⟨"BucketChain$Plan", "endBucket", "(I)Z"⟩, 9), (⟨"BucketChain$Shelf", "hasRow", "(I)Z"⟩, 1), (⟨"BucketChain$Scene", "throwLast", "()I"⟩, 10), (⟨"BucketChain$Scene", "worksAt", "(I)Z"⟩, 10), (⟨"BucketChain$Scene", "kindAt", "(I)I"⟩, 10), (⟨"BucketChain$Scene", "sendBack", "(I)V"⟩, 10), (⟨"BucketChain$Scene", "handOn", "(I)V"⟩, 10), (⟨"BucketChain$Scene", "give", "(III)V"⟩, 10), (⟨"BucketChain$Scene", "fillAtWell", "()V"⟩, 10)]
theorem lw_r1 : ∀ q ∈ lw_privs_1, lw_okq q := List.forall_mem_cons.mpr ⟨lw_p0, List.forall_mem_cons.mpr ⟨lw_p1, List.forall_mem_cons.mpr ⟨lw_p2, List.forall_mem_cons.mpr ⟨lw_p3, List.forall_mem_cons.mpr ⟨lw_p4, List.forall_mem_cons.mpr ⟨lw_p5, List.forall_mem_cons.mpr ⟨lw_p6, List.forall_mem_cons.mpr ⟨lw_p7, List.forall_mem_cons.mpr ⟨lw_p8, List.forall_mem_cons.mpr ⟨lw_p9, List.forall_mem_cons.mpr ⟨lw_p10, List.forall_mem_cons.mpr ⟨lw_p11, List.forall_mem_cons.mpr ⟨lw_p12, List.forall_mem_cons.mpr ⟨lw_p13, List.forall_mem_cons.mpr ⟨lw_p14, List.forall_mem_cons.mpr ⟨lw_p15, fun _ h => absurd h List.not_mem_nil⟩⟩⟩⟩⟩⟩⟩⟩⟩⟩⟩⟩⟩⟩⟩⟩
theorem lw_p16 : lw_okq (⟨"BucketChain$Scene", "leak", "()V"⟩, 10) := ⟨⟨by decide +kernel, by decide +kernel⟩, List.mem_of_getElem? (i := 90) (by decide +kernel), List.mem_of_getElem? (i := 442) (by decide +kernel), List.mem_of_getElem? (i := 443) (by decide +kernel)⟩
theorem lw_p17 : lw_okq (⟨"BucketChain$Scene", "runBack", "(I)V"⟩, 10) := ⟨⟨by decide +kernel, by decide +kernel⟩, List.mem_of_getElem? (i := 90) (by decide +kernel), List.mem_of_getElem? (i := 451) (by decide +kernel), List.mem_of_getElem? (i := 452) (by decide +kernel)⟩
theorem lw_p18 : lw_okq (⟨"BucketChain$Search", "prefer", "(I)V"⟩, 6) := ⟨⟨by decide +kernel, by decide +kernel⟩, List.mem_of_getElem? (i := 202) (by decide +kernel), List.mem_of_getElem? (i := 548) (by decide +kernel), List.mem_of_getElem? (i := 549) (by decide +kernel)⟩
theorem lw_p19 : lw_okq (⟨"BucketChain$Search", "orderFigures", "()I"⟩, 6) := ⟨⟨by decide +kernel, by decide +kernel⟩, List.mem_of_getElem? (i := 202) (by decide +kernel), List.mem_of_getElem? (i := 564) (by decide +kernel), List.mem_of_getElem? (i := 565) (by decide +kernel)⟩
theorem lw_p20 : lw_okq (⟨"BucketChain$Search", "toNextOrder", "()Z"⟩, 6) := ⟨⟨by decide +kernel, by decide +kernel⟩, List.mem_of_getElem? (i := 202) (by decide +kernel), List.mem_of_getElem? (i := 568) (by decide +kernel), List.mem_of_getElem? (i := 569) (by decide +kernel)⟩
theorem lw_p21 : lw_okq (⟨"BucketChain$Search", "exchangeInOrder", "(II)V"⟩, 6) := ⟨⟨by decide +kernel, by decide +kernel⟩, List.mem_of_getElem? (i := 202) (by decide +kernel), List.mem_of_getElem? (i := 573) (by decide +kernel), List.mem_of_getElem? (i := 574) (by decide +kernel)⟩
theorem lw_p22 : lw_okq (⟨"BucketChain$Scene", "followChange", "(II)Z"⟩, 10) := ⟨⟨by decide +kernel, by decide +kernel⟩, List.mem_of_getElem? (i := 90) (by decide +kernel), List.mem_of_getElem? (i := 591) (by decide +kernel), List.mem_of_getElem? (i := 592) (by decide +kernel)⟩
theorem lw_p23 : lw_okq (⟨"BucketChain$Scene", "followMend", "(I)Z"⟩, 10) := ⟨⟨by decide +kernel, by decide +kernel⟩, List.mem_of_getElem? (i := 90) (by decide +kernel), List.mem_of_getElem? (i := 597) (by decide +kernel), List.mem_of_getElem? (i := 598) (by decide +kernel)⟩
theorem lw_p24 : lw_okq (⟨"BucketChain$Scene", "followDrop", "(I)Z"⟩, 10) := ⟨⟨by decide +kernel, by decide +kernel⟩, List.mem_of_getElem? (i := 90) (by decide +kernel), List.mem_of_getElem? (i := 602) (by decide +kernel), List.mem_of_getElem? (i := 603) (by decide +kernel)⟩
theorem lw_p25 : lw_okq (⟨"BucketChain$Forecast", "thrownWith", "(I)I"⟩, 3) := ⟨⟨by decide +kernel, by decide +kernel⟩, List.mem_of_getElem? (i := 229) (by decide +kernel), List.mem_of_getElem? (i := 617) (by decide +kernel), List.mem_of_getElem? (i := 618) (by decide +kernel)⟩
theorem lw_p26 : lw_okq (⟨"BucketChain$Sightings", "fits", "(II)Z"⟩, 4) := ⟨⟨by decide +kernel, by decide +kernel⟩, List.mem_of_getElem? (i := 182) (by decide +kernel), List.mem_of_getElem? (i := 651) (by decide +kernel), List.mem_of_getElem? (i := 652) (by decide +kernel)⟩
theorem lw_p27 : lw_okq (⟨"BucketChain$Forecast", "thrownWhen", "(III)I"⟩, 3) := ⟨⟨by decide +kernel, by decide +kernel⟩, List.mem_of_getElem? (i := 229) (by decide +kernel), List.mem_of_getElem? (i := 668) (by decide +kernel), List.mem_of_getElem? (i := 669) (by decide +kernel)⟩
theorem lw_p28 : lw_okq (⟨"BucketChain$Forecast", "weightOfFalling", "(II)I"⟩, 3) := ⟨⟨by decide +kernel, by decide +kernel⟩, List.mem_of_getElem? (i := 229) (by decide +kernel), List.mem_of_getElem? (i := 683) (by decide +kernel), List.mem_of_getElem? (i := 684) (by decide +kernel)⟩
theorem lw_p29 : lw_okq (⟨"BucketChain$Forecast", "thrownWithout", "(I)I"⟩, 3) := ⟨⟨by decide +kernel, by decide +kernel⟩, List.mem_of_getElem? (i := 229) (by decide +kernel), List.mem_of_getElem? (i := 688) (by decide +kernel), List.mem_of_getElem? (i := 689) (by decide +kernel)⟩
theorem lw_p30 : lw_okq (⟨"BucketChainModel", "readNight", "()I"⟩, 38) := ⟨⟨by decide +kernel, by decide +kernel⟩, List.mem_of_getElem? (i := 719) (by decide +kernel), List.mem_of_getElem? (i := 857) (by decide +kernel), List.mem_of_getElem? (i := 858) (by decide +kernel)⟩
theorem lw_p31 : lw_okq (⟨"BucketChainModel", "readHead", "()Z"⟩, 38) := ⟨⟨by decide +kernel, by decide +kernel⟩, List.mem_of_getElem? (i := 719) (by decide +kernel), List.mem_of_getElem? (i := 861) (by decide +kernel), List.mem_of_getElem? (i := 862) (by decide +kernel)⟩
def lw_privs_2 : List (MethodName × Nat) := [(⟨"BucketChain$Scene", "leak", "()V"⟩, 10), (⟨"BucketChain$Scene", "runBack", "(I)V"⟩, 10), (⟨"BucketChain$Search", "prefer", "(I)V"⟩, 6), (⟨"BucketChain$Search", "orderFigures", "()I"⟩, 6), (⟨"BucketChain$Search", "toNextOrder", "()Z"⟩, 6), (⟨"BucketChain$Search", "exchangeInOrder", "(II)V"⟩, 6), (⟨"BucketChain$Scene", "followChange", "(II)Z"⟩, 10), (⟨"BucketChain$Scene", "followMend", "(I)Z"⟩, 10), (⟨"BucketChain$Scene", "followDrop", "(I)Z"⟩, 10), (⟨"BucketChain$Forecast", "thrownWith", "(I)I"⟩, 3), (⟨"BucketChain$Sightings", "fits", "(II)Z"⟩, 4), (⟨"BucketChain$Forecast", "thrownWhen", "(III)I"⟩, 3), (⟨"BucketChain$Forecast", "weightOfFalling", "(II)I"⟩, 3), (⟨"BucketChain$Forecast", "thrownWithout", "(I)I"⟩, 3), (⟨"BucketChainModel", "readNight", "()I"⟩, 38), (⟨"BucketChainModel", "readHead", "()Z"⟩, 38)]
theorem lw_r2 : ∀ q ∈ lw_privs_2, lw_okq q := List.forall_mem_cons.mpr ⟨lw_p16, List.forall_mem_cons.mpr ⟨lw_p17, List.forall_mem_cons.mpr ⟨lw_p18, List.forall_mem_cons.mpr ⟨lw_p19, List.forall_mem_cons.mpr ⟨lw_p20, List.forall_mem_cons.mpr ⟨lw_p21, List.forall_mem_cons.mpr ⟨lw_p22, List.forall_mem_cons.mpr ⟨lw_p23, List.forall_mem_cons.mpr ⟨lw_p24, List.forall_mem_cons.mpr ⟨lw_p25, List.forall_mem_cons.mpr ⟨lw_p26, List.forall_mem_cons.mpr ⟨lw_p27, List.forall_mem_cons.mpr ⟨lw_p28, List.forall_mem_cons.mpr ⟨lw_p29, List.forall_mem_cons.mpr ⟨lw_p30, List.forall_mem_cons.mpr ⟨lw_p31, fun _ h => absurd h List.not_mem_nil⟩⟩⟩⟩⟩⟩⟩⟩⟩⟩⟩⟩⟩⟩⟩⟩
theorem lw_p32 : lw_okq (⟨"BucketChainModel", "figure", "(II)I"⟩, 38) := ⟨⟨by decide +kernel, by decide +kernel⟩, List.mem_of_getElem? (i := 719) (by decide +kernel), List.mem_of_getElem? (i := 865) (by decide +kernel), List.mem_of_getElem? (i := 866) (by decide +kernel)⟩
theorem lw_p33 : lw_okq (⟨"BucketChainModel", "readPart", "()Z"⟩, 38) := ⟨⟨by decide +kernel, by decide +kernel⟩, List.mem_of_getElem? (i := 719) (by decide +kernel), List.mem_of_getElem? (i := 869) (by decide +kernel), List.mem_of_getElem? (i := 870) (by decide +kernel)⟩
theorem lw_p34 : lw_okq (⟨"BucketChainModel", "readPerson", "()Z"⟩, 38) := ⟨⟨by decide +kernel, by decide +kernel⟩, List.mem_of_getElem? (i := 719) (by decide +kernel), List.mem_of_getElem? (i := 873) (by decide +kernel), List.mem_of_getElem? (i := 874) (by decide +kernel)⟩
theorem lw_p35 : lw_okq (⟨"BucketChainModel", "readBucket", "()Z"⟩, 38) := ⟨⟨by decide +kernel, by decide +kernel⟩, List.mem_of_getElem? (i := 719) (by decide +kernel), List.mem_of_getElem? (i := 877) (by decide +kernel), List.mem_of_getElem? (i := 878) (by decide +kernel)⟩
theorem lw_p36 : lw_okq (⟨"BucketChainModel", "standsWith", "([I)I"⟩, 38) := ⟨⟨by decide +kernel, by decide +kernel⟩, List.mem_of_getElem? (i := 719) (by decide +kernel), List.mem_of_getElem? (i := 889) (by decide +kernel), List.mem_of_getElem? (i := 890) (by decide +kernel)⟩
theorem lw_p37 : lw_okq (⟨"BucketChainModel", "bucketsAt", "([III)I"⟩, 38) := ⟨⟨by decide +kernel, by decide +kernel⟩, List.mem_of_getElem? (i := 719) (by decide +kernel), List.mem_of_getElem? (i := 893) (by decide +kernel), List.mem_of_getElem? (i := 894) (by decide +kernel)⟩
theorem lw_p38 : lw_okq (⟨"BucketChainModel", "noOne", "(I)Z"⟩, 38) := ⟨⟨by decide +kernel, by decide +kernel⟩, List.mem_of_getElem? (i := 719) (by decide +kernel), List.mem_of_getElem? (i := 901) (by decide +kernel), List.mem_of_getElem? (i := 902) (by decide +kernel)⟩
theorem lw_p39 : lw_okq (⟨"BucketChainModel", "heldAt", "([II)I"⟩, 38) := ⟨⟨by decide +kernel, by decide +kernel⟩, List.mem_of_getElem? (i := 719) (by decide +kernel), List.mem_of_getElem? (i := 912) (by decide +kernel), List.mem_of_getElem? (i := 913) (by decide +kernel)⟩
theorem lw_p40 : lw_okq (⟨"BucketChainModel", "noBucket", "(I)Z"⟩, 38) := ⟨⟨by decide +kernel, by decide +kernel⟩, List.mem_of_getElem? (i := 719) (by decide +kernel), List.mem_of_getElem? (i := 920) (by decide +kernel), List.mem_of_getElem? (i := 921) (by decide +kernel)⟩
theorem lw_p41 : lw_okq (⟨"BucketChainModel", "note", "()V"⟩, 38) := ⟨⟨by decide +kernel, by decide +kernel⟩, List.mem_of_getElem? (i := 719) (by decide +kernel), List.mem_of_getElem? (i := 928) (by decide +kernel), List.mem_of_getElem? (i := 929) (by decide +kernel)⟩
theorem lw_p42 : lw_okq (⟨"BucketChainModel", "goBeat", "([II)I"⟩, 38) := ⟨⟨by decide +kernel, by decide +kernel⟩, List.mem_of_getElem? (i := 719) (by decide +kernel), List.mem_of_getElem? (i := 932) (by decide +kernel), List.mem_of_getElem? (i := 933) (by decide +kernel)⟩
theorem lw_p43 : lw_okq (⟨"BucketChainModel", "throwsIt", "([II)I"⟩, 38) := ⟨⟨by decide +kernel, by decide +kernel⟩, List.mem_of_getElem? (i := 719) (by decide +kernel), List.mem_of_getElem? (i := 936) (by decide +kernel), List.mem_of_getElem? (i := 937) (by decide +kernel)⟩
theorem lw_p44 : lw_okq (⟨"BucketChainModel", "works", "([III)Z"⟩, 38) := ⟨⟨by decide +kernel, by decide +kernel⟩, List.mem_of_getElem? (i := 719) (by decide +kernel), List.mem_of_getElem? (i := 940) (by decide +kernel), List.mem_of_getElem? (i := 941) (by decide +kernel)⟩
theorem lw_p45 : lw_okq (⟨"BucketChainModel", "handOn", "([III)V"⟩, 38) := ⟨⟨by decide +kernel, by decide +kernel⟩, List.mem_of_getElem? (i := 719) (by decide +kernel), List.mem_of_getElem? (i := 947) (by decide +kernel), List.mem_of_getElem? (i := 948) (by decide +kernel)⟩
theorem lw_p46 : lw_okq (⟨"BucketChainModel", "isChild", "([II)Z"⟩, 38) := ⟨⟨by decide +kernel, by decide +kernel⟩, List.mem_of_getElem? (i := 719) (by decide +kernel), List.mem_of_getElem? (i := 951) (by decide +kernel), List.mem_of_getElem? (i := 952) (by decide +kernel)⟩
theorem lw_p47 : lw_okq (⟨"BucketChainModel", "fill", "([I)V"⟩, 38) := ⟨⟨by decide +kernel, by decide +kernel⟩, List.mem_of_getElem? (i := 719) (by decide +kernel), List.mem_of_getElem? (i := 955) (by decide +kernel), List.mem_of_getElem? (i := 956) (by decide +kernel)⟩
def lw_privs_3 : List (MethodName × Nat) := [(⟨"BucketChainModel", "figure", "(II)I"⟩, 38), (⟨"BucketChainModel", "readPart", "()Z"⟩, 38), (⟨"BucketChainModel", "readPerson", "()Z"⟩, 38), (⟨"BucketChainModel", "readBucket", "()Z"⟩, 38), (⟨"BucketChainModel", "standsWith", "([I)I"⟩, 38), (⟨"BucketChainModel", "bucketsAt", "([III)I"⟩, 38), (⟨"BucketChainModel", "noOne", "(I)Z"⟩, 38), (⟨"BucketChainModel", "heldAt", "([II)I"⟩, 38), (⟨"BucketChainModel", "noBucket", "(I)Z"⟩, 38), (⟨"BucketChainModel", "note", "()V"⟩, 38), (⟨"BucketChainModel", "goBeat", "([II)I"⟩, 38), (⟨"BucketChainModel", "throwsIt", "([II)I"⟩, 38), (⟨"BucketChainModel", "works", "([III)Z"⟩, 38), (⟨"BucketChainModel", "handOn", "([III)V"⟩, 38), (⟨"BucketChainModel", "isChild", "([II)Z"⟩, 38), (⟨"BucketChainModel", "fill", "([I)V"⟩, 38)]
theorem lw_r3 : ∀ q ∈ lw_privs_3, lw_okq q := List.forall_mem_cons.mpr ⟨lw_p32, List.forall_mem_cons.mpr ⟨lw_p33, List.forall_mem_cons.mpr ⟨lw_p34, List.forall_mem_cons.mpr ⟨lw_p35, List.forall_mem_cons.mpr ⟨lw_p36, List.forall_mem_cons.mpr ⟨lw_p37, List.forall_mem_cons.mpr ⟨lw_p38, List.forall_mem_cons.mpr ⟨lw_p39, List.forall_mem_cons.mpr ⟨lw_p40, List.forall_mem_cons.mpr ⟨lw_p41, List.forall_mem_cons.mpr ⟨lw_p42, List.forall_mem_cons.mpr ⟨lw_p43, List.forall_mem_cons.mpr ⟨lw_p44, List.forall_mem_cons.mpr ⟨lw_p45, List.forall_mem_cons.mpr ⟨lw_p46, List.forall_mem_cons.mpr ⟨lw_p47, fun _ h => absurd h List.not_mem_nil⟩⟩⟩⟩⟩⟩⟩⟩⟩⟩⟩⟩⟩⟩⟩⟩
theorem lw_p48 : lw_okq (⟨"BucketChainModel", "leak", "([I)V"⟩, 38) := ⟨⟨by decide +kernel, by decide +kernel⟩, List.mem_of_getElem? (i := 719) (by decide +kernel), List.mem_of_getElem? (i := 959) (by decide +kernel), List.mem_of_getElem? (i := 960) (by decide +kernel)⟩
theorem lw_p49 : lw_okq (⟨"BucketChainModel", "comeBack", "([I)V"⟩, 38) := ⟨⟨by decide +kernel, by decide +kernel⟩, List.mem_of_getElem? (i := 719) (by decide +kernel), List.mem_of_getElem? (i := 963) (by decide +kernel), List.mem_of_getElem? (i := 964) (by decide +kernel)⟩
theorem lw_p50 : lw_okq (⟨"BucketChainModel", "sendBack", "([II)V"⟩, 38) := ⟨⟨by decide +kernel, by decide +kernel⟩, List.mem_of_getElem? (i := 719) (by decide +kernel), List.mem_of_getElem? (i := 967) (by decide +kernel), List.mem_of_getElem? (i := 968) (by decide +kernel)⟩
theorem lw_p51 : lw_okq (⟨"BucketChainModel", "goChange", "([III)V"⟩, 38) := ⟨⟨by decide +kernel, by decide +kernel⟩, List.mem_of_getElem? (i := 719) (by decide +kernel), List.mem_of_getElem? (i := 975) (by decide +kernel), List.mem_of_getElem? (i := 976) (by decide +kernel)⟩
theorem lw_p52 : lw_okq (⟨"BucketChainModel", "begin", "()V"⟩, 38) := ⟨⟨by decide +kernel, by decide +kernel⟩, List.mem_of_getElem? (i := 719) (by decide +kernel), List.mem_of_getElem? (i := 999) (by decide +kernel), List.mem_of_getElem? (i := 1000) (by decide +kernel)⟩
theorem lw_p53 : lw_okq (⟨"BucketChainModel", "goBeats", "(II)V"⟩, 38) := ⟨⟨by decide +kernel, by decide +kernel⟩, List.mem_of_getElem? (i := 719) (by decide +kernel), List.mem_of_getElem? (i := 1003) (by decide +kernel), List.mem_of_getElem? (i := 1004) (by decide +kernel)⟩
theorem lw_p54 : lw_okq (⟨"BucketChainModel", "lineFigures", "()I"⟩, 38) := ⟨⟨by decide +kernel, by decide +kernel⟩, List.mem_of_getElem? (i := 719) (by decide +kernel), List.mem_of_getElem? (i := 1020) (by decide +kernel), List.mem_of_getElem? (i := 1021) (by decide +kernel)⟩
theorem lw_p55 : lw_okq (⟨"BucketChainModel", "nextLine", "()Z"⟩, 38) := ⟨⟨by decide +kernel, by decide +kernel⟩, List.mem_of_getElem? (i := 719) (by decide +kernel), List.mem_of_getElem? (i := 1024) (by decide +kernel), List.mem_of_getElem? (i := 1025) (by decide +kernel)⟩
theorem lw_p56 : lw_okq (⟨"BucketChainModel", "turnLine", "(II)V"⟩, 38) := ⟨⟨by decide +kernel, by decide +kernel⟩, List.mem_of_getElem? (i := 719) (by decide +kernel), List.mem_of_getElem? (i := 1028) (by decide +kernel), List.mem_of_getElem? (i := 1029) (by decide +kernel)⟩
theorem lw_p57 : lw_okq (⟨"BucketChainModel", "does", "(I)Z"⟩, 38) := ⟨⟨by decide +kernel, by decide +kernel⟩, List.mem_of_getElem? (i := 719) (by decide +kernel), List.mem_of_getElem? (i := 1041) (by decide +kernel), List.mem_of_getElem? (i := 1042) (by decide +kernel)⟩
theorem lw_p58 : lw_okq (⟨"BucketChainModel", "changes", "(II)Z"⟩, 38) := ⟨⟨by decide +kernel, by decide +kernel⟩, List.mem_of_getElem? (i := 719) (by decide +kernel), List.mem_of_getElem? (i := 1045) (by decide +kernel), List.mem_of_getElem? (i := 1046) (by decide +kernel)⟩
theorem lw_p59 : lw_okq (⟨"BucketChainModel", "mends", "(I)Z"⟩, 38) := ⟨⟨by decide +kernel, by decide +kernel⟩, List.mem_of_getElem? (i := 719) (by decide +kernel), List.mem_of_getElem? (i := 1049) (by decide +kernel), List.mem_of_getElem? (i := 1050) (by decide +kernel)⟩
theorem lw_p60 : lw_okq (⟨"BucketChainModel", "drops", "(I)Z"⟩, 38) := ⟨⟨by decide +kernel, by decide +kernel⟩, List.mem_of_getElem? (i := 719) (by decide +kernel), List.mem_of_getElem? (i := 1053) (by decide +kernel), List.mem_of_getElem? (i := 1054) (by decide +kernel)⟩
def lw_privs_4 : List (MethodName × Nat) := [(⟨"BucketChainModel", "leak", "([I)V"⟩, 38), (⟨"BucketChainModel", "comeBack", "([I)V"⟩, 38), (⟨"BucketChainModel", "sendBack", "([II)V"⟩, 38), (⟨"BucketChainModel", "goChange", "([III)V"⟩, 38), (⟨"BucketChainModel", "begin", "()V"⟩, 38), (⟨"BucketChainModel", "goBeats", "(II)V"⟩, 38), (⟨"BucketChainModel", "lineFigures", "()I"⟩, 38), (⟨"BucketChainModel", "nextLine", "()Z"⟩, 38), (⟨"BucketChainModel", "turnLine", "(II)V"⟩, 38), (⟨"BucketChainModel", "does", "(I)Z"⟩, 38), (⟨"BucketChainModel", "changes", "(II)Z"⟩, 38), (⟨"BucketChainModel", "mends", "(I)Z"⟩, 38), (⟨"BucketChainModel", "drops", "(I)Z"⟩, 38)]
theorem lw_r4 : ∀ q ∈ lw_privs_4, lw_okq q := List.forall_mem_cons.mpr ⟨lw_p48, List.forall_mem_cons.mpr ⟨lw_p49, List.forall_mem_cons.mpr ⟨lw_p50, List.forall_mem_cons.mpr ⟨lw_p51, List.forall_mem_cons.mpr ⟨lw_p52, List.forall_mem_cons.mpr ⟨lw_p53, List.forall_mem_cons.mpr ⟨lw_p54, List.forall_mem_cons.mpr ⟨lw_p55, List.forall_mem_cons.mpr ⟨lw_p56, List.forall_mem_cons.mpr ⟨lw_p57, List.forall_mem_cons.mpr ⟨lw_p58, List.forall_mem_cons.mpr ⟨lw_p59, List.forall_mem_cons.mpr ⟨lw_p60, fun _ h => absurd h List.not_mem_nil⟩⟩⟩⟩⟩⟩⟩⟩⟩⟩⟩⟩⟩
def lw_privs : List (MethodName × Nat) := lw_privs_1 ++ (lw_privs_2 ++ (lw_privs_3 ++ (lw_privs_4)))
def lw_tbl : List Cond := k2_sels lw_privs ++ tables_1
theorem lw_privs_ok : ∀ q ∈ lw_privs, lw_okq q := by
  show ∀ q ∈ lw_privs_1 ++ (lw_privs_2 ++ (lw_privs_3 ++ (lw_privs_4))), lw_okq q
  exact List.forall_mem_append.mpr ⟨lw_r1, List.forall_mem_append.mpr ⟨lw_r2, List.forall_mem_append.mpr ⟨lw_r3, lw_r4⟩⟩⟩
end
section
/-! ===== BEGIN words of one list among another's, by their places ===== -/
theorem goodIn_r {big : List Cond} (ws : List Cond) (ps : List Nat) (hp : ws = ps.filterMap (fun i => big[i]?)) (h : ws.all goodWord = true) : GoodIn big ws := by
  intro w hw
  have h1 := List.all_eq_true.mp h w hw
  rw [hp] at hw
  obtain ⟨i, -, hi⟩ := List.mem_filterMap.mp hw
  have hm : w ∈ big := by first | exact List.mem_of_getElem? hi | exact List.getElem?_mem hi
  exact ⟨hm, good_of_word h1⟩
theorem goodIn_app {big a b : List Cond} (ha : GoodIn big a) (hb : GoodIn big b) : GoodIn big (a ++ b) := fun w h => (List.mem_append.mp h).elim (ha w) (hb w)
theorem goodIn_ca {big a b : List Cond} {c : Cond} (ha : GoodIn big (c :: a)) (hb : GoodIn big b) : GoodIn big (c :: (a ++ b)) := fun w h => (List.mem_cons.mp h).elim (fun e => ha w (List.mem_cons.mpr (Or.inl e))) (fun h => (List.mem_append.mp h).elim (fun h => ha w (List.mem_cons.mpr (Or.inr h))) (hb w))
theorem goodIn_sub {big ws : List Cond} (hm : ∀ w ∈ ws, w ∈ big) (h : ws.all goodWord = true) : GoodIn big ws := fun w hw => ⟨hm w hw, good_of_word (List.all_eq_true.mp h w hw)⟩
/-! ===== END ===== -/

/-! ===== BEGIN printed: names, fields, word lists, decode rows ===== -/
def RX0 : String := "BucketChain$Acts"
def TX0 : u_T := fun k => match k with
  | 0 => ("BucketChain$Acts", "shelf", "LBucketChain$Shelf;", true)
  | 1 => ("BucketChain$Acts", "oldest", "I", false)
  | _ => ("BucketChain$Acts", "count", "I", false)
def tyX0 : Nat → FieldType := fun k => match k with
  | 0 => .object "BucketChain$Shelf"
  | 1 => .int
  | _ => .int
abbrev wsX00 : List Cond := u_ws RX0 TX0 3
theorem nmX0 : ∀ a, a < 3 → ∀ b, b < 3 → a ≠ b → (TX0 a).2.1 ≠ (TX0 b).2.1 := by decide +kernel
theorem tyX0_ok : ∀ k, k < 3 → parseFieldDescriptor (TX0 k).2.2.1 = some (tyX0 k) := by decide +kernel
abbrev cX0_init : ByteArray := prog_2_method_1_code
def yX0_init : MethodName := ⟨RX0, "<init>", "()V"⟩
abbrev cX0_clear : ByteArray := prog_2_method_2_code
def yX0_clear : MethodName := ⟨RX0, "clear", "()V"⟩
abbrev cX0_remember : ByteArray := prog_2_method_3_code
def yX0_remember : MethodName := ⟨RX0, "remember", "(LBucketChain$Scene;)V"⟩
abbrev cX0_takeBack : ByteArray := prog_2_method_4_code
def yX0_takeBack : MethodName := ⟨RX0, "takeBack", "(LBucketChain$Scene;)V"⟩
def RX1 : String := "BucketChain$Forecast"
def TX1 : u_T := fun k => match k with
  | 0 => ("BucketChain$Forecast", "plan", "LBucketChain$Plan;", true)
  | 1 => ("BucketChain$Forecast", "now", "LBucketChain$Scene;", true)
  | _ => ("BucketChain$Forecast", "trial", "LBucketChain$Scene;", true)
def tyX1 : Nat → FieldType := fun k => match k with
  | 0 => .object "BucketChain$Plan"
  | 1 => .object "BucketChain$Scene"
  | _ => .object "BucketChain$Scene"
abbrev wsX10 : List Cond := u_ws RX1 TX1 3
theorem nmX1 : ∀ a, a < 3 → ∀ b, b < 3 → a ≠ b → (TX1 a).2.1 ≠ (TX1 b).2.1 := by decide +kernel
theorem tyX1_ok : ∀ k, k < 3 → parseFieldDescriptor (TX1 k).2.2.1 = some (tyX1 k) := by decide +kernel
abbrev cX1_init : ByteArray := prog_3_method_1_code
def yX1_init : MethodName := ⟨RX1, "<init>", "(LBucketChain$Plan;LBucketChain$Scene;LBucketChain$Scene;)V"⟩
abbrev cX1_begin : ByteArray := prog_3_method_2_code
def yX1_begin : MethodName := ⟨RX1, "begin", "()V"⟩
abbrev cX1_fireIn : ByteArray := prog_3_method_3_code
def yX1_fireIn : MethodName := ⟨RX1, "fireIn", "(I)I"⟩
abbrev cX1_thrownIn : ByteArray := prog_3_method_4_code
def yX1_thrownIn : MethodName := ⟨RX1, "thrownIn", "(I)I"⟩
abbrev cX1_beatsUntilOut : ByteArray := prog_3_method_5_code
def yX1_beatsUntilOut : MethodName := ⟨RX1, "beatsUntilOut", "()I"⟩
abbrev cX1_firstWrongDoing : ByteArray := prog_3_method_6_code
def yX1_firstWrongDoing : MethodName := ⟨RX1, "firstWrongDoing", "(IJ)I"⟩
abbrev cX1_gainOverOrders : ByteArray := prog_3_method_7_code
def yX1_gainOverOrders : MethodName := ⟨RX1, "gainOverOrders", "(I)I"⟩
abbrev cX1_thrownWith : ByteArray := prog_3_method_8_code
def yX1_thrownWith : MethodName := ⟨RX1, "thrownWith", "(I)I"⟩
abbrev cX1_settledPairs : ByteArray := prog_3_method_9_code
def yX1_settledPairs : MethodName := ⟨RX1, "settledPairs", "(II)I"⟩
abbrev cX1_thrownWhen : ByteArray := prog_3_method_10_code
def yX1_thrownWhen : MethodName := ⟨RX1, "thrownWhen", "(III)I"⟩
abbrev cX1_chanceOfThrowing : ByteArray := prog_3_method_11_code
def yX1_chanceOfThrowing : MethodName := ⟨RX1, "chanceOfThrowing", "(II)I"⟩
abbrev cX1_weightOfFalling : ByteArray := prog_3_method_12_code
def yX1_weightOfFalling : MethodName := ⟨RX1, "weightOfFalling", "(II)I"⟩
abbrev cX1_thrownWithout : ByteArray := prog_3_method_13_code
def yX1_thrownWithout : MethodName := ⟨RX1, "thrownWithout", "(I)I"⟩
abbrev cX1_fireBehindChance : ByteArray := prog_3_method_14_code
def yX1_fireBehindChance : MethodName := ⟨RX1, "fireBehindChance", "(I)I"⟩
def RX2 : String := "BucketChain$Plan"
def TX2 : u_T := fun k => match k with
  | 0 => ("BucketChain$Plan", "kinds", "[I", true)
  | 1 => ("BucketChain$Plan", "sizes", "[I", true)
  | 2 => ("BucketChain$Plan", "people", "I", false)
  | 3 => ("BucketChain$Plan", "buckets", "I", false)
  | 4 => ("BucketChain$Plan", "holes", "I", false)
  | 5 => ("BucketChain$Plan", "fire", "I", false)
  | 6 => ("BucketChain$Plan", "growth", "I", false)
  | 7 => ("BucketChain$Plan", "wayBack", "I", false)
  | _ => ("BucketChain$Plan", "wanted", "I", false)
def tyX2 : Nat → FieldType := fun k => match k with
  | 0 => .array .int
  | 1 => .array .int
  | 2 => .int
  | 3 => .int
  | 4 => .int
  | 5 => .int
  | 6 => .int
  | 7 => .int
  | _ => .int
abbrev wsX20 : List Cond := u_ws RX2 TX2 9
theorem nmX2 : ∀ a, a < 9 → ∀ b, b < 9 → a ≠ b → (TX2 a).2.1 ≠ (TX2 b).2.1 := by decide +kernel
theorem tyX2_ok : ∀ k, k < 9 → parseFieldDescriptor (TX2 k).2.2.1 = some (tyX2 k) := by decide +kernel
abbrev cX2_init : ByteArray := prog_4_method_1_code
def yX2_init : MethodName := ⟨RX2, "<init>", "()V"⟩
abbrev cX2_hasPerson : ByteArray := prog_4_method_2_code
def yX2_hasPerson : MethodName := ⟨RX2, "hasPerson", "(I)Z"⟩
abbrev cX2_hasBucket : ByteArray := prog_4_method_3_code
def yX2_hasBucket : MethodName := ⟨RX2, "hasBucket", "(I)Z"⟩
abbrev cX2_readFrom : ByteArray := prog_4_method_4_code
def yX2_readFrom : MethodName := ⟨RX2, "readFrom", "(LBucketChain$Text;)I"⟩
abbrev cX2_takeLetter : ByteArray := prog_4_method_5_code
def yX2_takeLetter : MethodName := ⟨RX2, "takeLetter", "(I)Z"⟩
abbrev cX2_openPart : ByteArray := prog_4_method_6_code
def yX2_openPart : MethodName := ⟨RX2, "openPart", "(I)Z"⟩
abbrev cX2_leastFigure : ByteArray := prog_4_method_7_code
def yX2_leastFigure : MethodName := ⟨RX2, "leastFigure", "()I"⟩
abbrev cX2_mostFigure : ByteArray := prog_4_method_8_code
def yX2_mostFigure : MethodName := ⟨RX2, "mostFigure", "()I"⟩
abbrev cX2_takeFigure : ByteArray := prog_4_method_9_code
def yX2_takeFigure : MethodName := ⟨RX2, "takeFigure", "(I)Z"⟩
abbrev cX2_addPerson : ByteArray := prog_4_method_10_code
def yX2_addPerson : MethodName := ⟨RX2, "addPerson", "(I)Z"⟩
abbrev cX2_startBucket : ByteArray := prog_4_method_11_code
def yX2_startBucket : MethodName := ⟨RX2, "startBucket", "(I)Z"⟩
abbrev cX2_endBucket : ByteArray := prog_4_method_12_code
def yX2_endBucket : MethodName := ⟨RX2, "endBucket", "(I)Z"⟩
def RX3 : String := "BucketChain$Scene"
def TX3 : u_T := fun k => match k with
  | 0 => ("BucketChain$Scene", "plan", "LBucketChain$Plan;", true)
  | 1 => ("BucketChain$Scene", "who", "[I", true)
  | 2 => ("BucketChain$Scene", "place", "[I", true)
  | 3 => ("BucketChain$Scene", "pints", "[I", true)
  | 4 => ("BucketChain$Scene", "toGo", "[I", true)
  | 5 => ("BucketChain$Scene", "holes", "I", false)
  | 6 => ("BucketChain$Scene", "fire", "I", false)
  | 7 => ("BucketChain$Scene", "thrown", "I", false)
  | 8 => ("BucketChain$Scene", "beats", "I", false)
  | _ => ("BucketChain$Scene", "resting", "I", false)
def tyX3 : Nat → FieldType := fun k => match k with
  | 0 => .object "BucketChain$Plan"
  | 1 => .array .int
  | 2 => .array .int
  | 3 => .array .int
  | 4 => .array .int
  | 5 => .int
  | 6 => .int
  | 7 => .int
  | 8 => .int
  | _ => .int
abbrev wsX30 : List Cond := u_ws RX3 TX3 10
theorem nmX3 : ∀ a, a < 10 → ∀ b, b < 10 → a ≠ b → (TX3 a).2.1 ≠ (TX3 b).2.1 := by decide +kernel
theorem tyX3_ok : ∀ k, k < 10 → parseFieldDescriptor (TX3 k).2.2.1 = some (tyX3 k) := by decide +kernel
abbrev cX3_init : ByteArray := prog_5_method_1_code
def yX3_init : MethodName := ⟨RX3, "<init>", "(LBucketChain$Plan;)V"⟩
abbrev cX3_setUp : ByteArray := prog_5_method_2_code
def yX3_setUp : MethodName := ⟨RX3, "setUp", "()V"⟩
abbrev cX3_copyFrom : ByteArray := prog_5_method_3_code
def yX3_copyFrom : MethodName := ⟨RX3, "copyFrom", "(LBucketChain$Scene;)V"⟩
abbrev cX3_standOf : ByteArray := prog_5_method_4_code
def yX3_standOf : MethodName := ⟨RX3, "standOf", "(I)I"⟩
abbrev cX3_leastBucketAt : ByteArray := prog_5_method_5_code
def yX3_leastBucketAt : MethodName := ⟨RX3, "leastBucketAt", "(I)I"⟩
abbrev cX3_bucketsAt : ByteArray := prog_5_method_6_code
def yX3_bucketsAt : MethodName := ⟨RX3, "bucketsAt", "(I)I"⟩
abbrev cX3_holdingStands : ByteArray := prog_5_method_7_code
def yX3_holdingStands : MethodName := ⟨RX3, "holdingStands", "()I"⟩
abbrev cX3_isHeld : ByteArray := prog_5_method_8_code
def yX3_isHeld : MethodName := ⟨RX3, "isHeld", "(I)Z"⟩
abbrev cX3_hasHole : ByteArray := prog_5_method_9_code
def yX3_hasHole : MethodName := ⟨RX3, "hasHole", "(I)Z"⟩
abbrev cX3_kindAt : ByteArray := prog_5_method_10_code
def yX3_kindAt : MethodName := ⟨RX3, "kindAt", "(I)I"⟩
abbrev cX3_worksAt : ByteArray := prog_5_method_11_code
def yX3_worksAt : MethodName := ⟨RX3, "worksAt", "(I)Z"⟩
abbrev cX3_exchange : ByteArray := prog_5_method_12_code
def yX3_exchange : MethodName := ⟨RX3, "exchange", "(II)V"⟩
abbrev cX3_closeHole : ByteArray := prog_5_method_13_code
def yX3_closeHole : MethodName := ⟨RX3, "closeHole", "(I)V"⟩
abbrev cX3_letFall : ByteArray := prog_5_method_14_code
def yX3_letFall : MethodName := ⟨RX3, "letFall", "(I)V"⟩
abbrev cX3_passBeats : ByteArray := prog_5_method_15_code
def yX3_passBeats : MethodName := ⟨RX3, "passBeats", "(I)I"⟩
abbrev cX3_passBeat : ByteArray := prog_5_method_16_code
def yX3_passBeat : MethodName := ⟨RX3, "passBeat", "()I"⟩
abbrev cX3_throwLast : ByteArray := prog_5_method_17_code
def yX3_throwLast : MethodName := ⟨RX3, "throwLast", "()I"⟩
abbrev cX3_sendBack : ByteArray := prog_5_method_18_code
def yX3_sendBack : MethodName := ⟨RX3, "sendBack", "(I)V"⟩
abbrev cX3_handOn : ByteArray := prog_5_method_19_code
def yX3_handOn : MethodName := ⟨RX3, "handOn", "(I)V"⟩
abbrev cX3_fillAtWell : ByteArray := prog_5_method_20_code
def yX3_fillAtWell : MethodName := ⟨RX3, "fillAtWell", "()V"⟩
abbrev cX3_give : ByteArray := prog_5_method_21_code
def yX3_give : MethodName := ⟨RX3, "give", "(III)V"⟩
abbrev cX3_leak : ByteArray := prog_5_method_22_code
def yX3_leak : MethodName := ⟨RX3, "leak", "()V"⟩
abbrev cX3_runBack : ByteArray := prog_5_method_23_code
def yX3_runBack : MethodName := ⟨RX3, "runBack", "(I)V"⟩
abbrev cX3_follow : ByteArray := prog_5_method_24_code
def yX3_follow : MethodName := ⟨RX3, "follow", "(III)Z"⟩
abbrev cX3_followChange : ByteArray := prog_5_method_25_code
def yX3_followChange : MethodName := ⟨RX3, "followChange", "(II)Z"⟩
abbrev cX3_followMend : ByteArray := prog_5_method_26_code
def yX3_followMend : MethodName := ⟨RX3, "followMend", "(I)Z"⟩
abbrev cX3_followDrop : ByteArray := prog_5_method_27_code
def yX3_followDrop : MethodName := ⟨RX3, "followDrop", "(I)Z"⟩
def RX4 : String := "BucketChain$Search"
def TX4 : u_T := fun k => match k with
  | 0 => ("BucketChain$Search", "plan", "LBucketChain$Plan;", true)
  | 1 => ("BucketChain$Search", "now", "LBucketChain$Scene;", true)
  | 2 => ("BucketChain$Search", "trial", "LBucketChain$Scene;", true)
  | 3 => ("BucketChain$Search", "order", "[I", true)
  | 4 => ("BucketChain$Search", "bestThrown", "I", false)
  | _ => ("BucketChain$Search", "bestChoice", "I", false)
def tyX4 : Nat → FieldType := fun k => match k with
  | 0 => .object "BucketChain$Plan"
  | 1 => .object "BucketChain$Scene"
  | 2 => .object "BucketChain$Scene"
  | 3 => .array .int
  | 4 => .int
  | _ => .int
abbrev wsX40 : List Cond := u_ws RX4 TX4 6
theorem nmX4 : ∀ a, a < 6 → ∀ b, b < 6 → a ≠ b → (TX4 a).2.1 ≠ (TX4 b).2.1 := by decide +kernel
theorem tyX4_ok : ∀ k, k < 6 → parseFieldDescriptor (TX4 k).2.2.1 = some (tyX4 k) := by decide +kernel
abbrev cX4_init : ByteArray := prog_6_method_1_code
def yX4_init : MethodName := ⟨RX4, "<init>", "(LBucketChain$Plan;LBucketChain$Scene;LBucketChain$Scene;)V"⟩
abbrev cX4_tryExchanges : ByteArray := prog_6_method_2_code
def yX4_tryExchanges : MethodName := ⟨RX4, "tryExchanges", "(I)V"⟩
abbrev cX4_tryOrders : ByteArray := prog_6_method_3_code
def yX4_tryOrders : MethodName := ⟨RX4, "tryOrders", "(I)V"⟩
abbrev cX4_prefer : ByteArray := prog_6_method_4_code
def yX4_prefer : MethodName := ⟨RX4, "prefer", "(I)V"⟩
abbrev cX4_orderFigures : ByteArray := prog_6_method_5_code
def yX4_orderFigures : MethodName := ⟨RX4, "orderFigures", "()I"⟩
abbrev cX4_toNextOrder : ByteArray := prog_6_method_6_code
def yX4_toNextOrder : MethodName := ⟨RX4, "toNextOrder", "()Z"⟩
abbrev cX4_exchangeInOrder : ByteArray := prog_6_method_7_code
def yX4_exchangeInOrder : MethodName := ⟨RX4, "exchangeInOrder", "(II)V"⟩
def RX5 : String := "BucketChain$Shelf"
def TX5 : u_T := fun k => match k with
  | _ => ("BucketChain$Shelf", "cells", "[I", true)
def tyX5 : Nat → FieldType := fun k => match k with
  | _ => .array .int
abbrev wsX50 : List Cond := u_ws RX5 TX5 1
theorem nmX5 : ∀ a, a < 1 → ∀ b, b < 1 → a ≠ b → (TX5 a).2.1 ≠ (TX5 b).2.1 := by decide +kernel
theorem tyX5_ok : ∀ k, k < 1 → parseFieldDescriptor (TX5 k).2.2.1 = some (tyX5 k) := by decide +kernel
abbrev cX5_init : ByteArray := prog_7_method_1_code
def yX5_init : MethodName := ⟨RX5, "<init>", "(I)V"⟩
abbrev cX5_hasRow : ByteArray := prog_7_method_2_code
def yX5_hasRow : MethodName := ⟨RX5, "hasRow", "(I)Z"⟩
abbrev cX5_store : ByteArray := prog_7_method_3_code
def yX5_store : MethodName := ⟨RX5, "store", "(ILBucketChain$Scene;)V"⟩
abbrev cX5_fetch : ByteArray := prog_7_method_4_code
def yX5_fetch : MethodName := ⟨RX5, "fetch", "(ILBucketChain$Scene;)V"⟩
def RX6 : String := "BucketChain$Sightings"
def TX6 : u_T := fun k => match k with
  | 0 => ("BucketChain$Sightings", "times", "[I", true)
  | 1 => ("BucketChain$Sightings", "bounds", "[I", true)
  | 2 => ("BucketChain$Sightings", "mores", "[I", true)
  | _ => ("BucketChain$Sightings", "count", "I", false)
def tyX6 : Nat → FieldType := fun k => match k with
  | 0 => .array .int
  | 1 => .array .int
  | 2 => .array .int
  | _ => .int
abbrev wsX60 : List Cond := u_ws RX6 TX6 4
theorem nmX6 : ∀ a, a < 4 → ∀ b, b < 4 → a ≠ b → (TX6 a).2.1 ≠ (TX6 b).2.1 := by decide +kernel
theorem tyX6_ok : ∀ k, k < 4 → parseFieldDescriptor (TX6 k).2.2.1 = some (tyX6 k) := by decide +kernel
abbrev cX6_init : ByteArray := prog_8_method_1_code
def yX6_init : MethodName := ⟨RX6, "<init>", "()V"⟩
abbrev cX6_add : ByteArray := prog_8_method_2_code
def yX6_add : MethodName := ⟨RX6, "add", "(III)Z"⟩
abbrev cX6_countFires : ByteArray := prog_8_method_3_code
def yX6_countFires : MethodName := ⟨RX6, "countFires", "()I"⟩
abbrev cX6_firstFire : ByteArray := prog_8_method_4_code
def yX6_firstFire : MethodName := ⟨RX6, "firstFire", "()I"⟩
abbrev cX6_fits : ByteArray := prog_8_method_5_code
def yX6_fits : MethodName := ⟨RX6, "fits", "(II)Z"⟩
def RX7 : String := "BucketChain$Text"
def TX7 : u_T := fun k => match k with
  | 0 => ("BucketChain$Text", "letters", "[I", true)
  | _ => ("BucketChain$Text", "length", "I", false)
def tyX7 : Nat → FieldType := fun k => match k with
  | 0 => .array .int
  | _ => .int
abbrev wsX70 : List Cond := u_ws RX7 TX7 2
theorem nmX7 : ∀ a, a < 2 → ∀ b, b < 2 → a ≠ b → (TX7 a).2.1 ≠ (TX7 b).2.1 := by decide +kernel
theorem tyX7_ok : ∀ k, k < 2 → parseFieldDescriptor (TX7 k).2.2.1 = some (tyX7 k) := by decide +kernel
abbrev cX7_init : ByteArray := prog_9_method_1_code
def yX7_init : MethodName := ⟨RX7, "<init>", "()V"⟩
abbrev cX7_append : ByteArray := prog_9_method_2_code
def yX7_append : MethodName := ⟨RX7, "append", "(I)Z"⟩
def RX8 : String := "BucketChain"
def TX8 : u_T := fun k => match k with
  | 0 => ("BucketChain", "text", "LBucketChain$Text;", true)
  | 1 => ("BucketChain", "draft", "LBucketChain$Plan;", true)
  | 2 => ("BucketChain", "plan", "LBucketChain$Plan;", true)
  | 3 => ("BucketChain", "now", "LBucketChain$Scene;", true)
  | 4 => ("BucketChain", "acts", "LBucketChain$Acts;", true)
  | 5 => ("BucketChain", "slots", "LBucketChain$Shelf;", true)
  | 6 => ("BucketChain", "keptSlots", "I", false)
  | 7 => ("BucketChain", "sightings", "LBucketChain$Sightings;", true)
  | 8 => ("BucketChain", "search", "LBucketChain$Search;", true)
  | 9 => ("BucketChain", "forecast", "LBucketChain$Forecast;", true)
  | _ => ("BucketChain", "dice", "J", false)
def tyX8 : Nat → FieldType := fun k => match k with
  | 0 => .object "BucketChain$Text"
  | 1 => .object "BucketChain$Plan"
  | 2 => .object "BucketChain$Plan"
  | 3 => .object "BucketChain$Scene"
  | 4 => .object "BucketChain$Acts"
  | 5 => .object "BucketChain$Shelf"
  | 6 => .int
  | 7 => .object "BucketChain$Sightings"
  | 8 => .object "BucketChain$Search"
  | 9 => .object "BucketChain$Forecast"
  | _ => .long
abbrev wsX80 : List Cond := u_ws RX8 TX8 11
theorem nmX8 : ∀ a, a < 11 → ∀ b, b < 11 → a ≠ b → (TX8 a).2.1 ≠ (TX8 b).2.1 := by decide +kernel
theorem tyX8_ok : ∀ k, k < 11 → parseFieldDescriptor (TX8 k).2.2.1 = some (tyX8 k) := by decide +kernel
abbrev cX8_init : ByteArray := prog_1_method_1_code
def yX8_init : MethodName := ⟨RX8, "<init>", "()V"⟩
abbrev cX8_write : ByteArray := prog_1_method_2_code
def yX8_write : MethodName := ⟨RX8, "write", "(I)I"⟩
abbrev cX8_wipe : ByteArray := prog_1_method_3_code
def yX8_wipe : MethodName := ⟨RX8, "wipe", "()I"⟩
abbrev cX8_fault : ByteArray := prog_1_method_4_code
def yX8_fault : MethodName := ⟨RX8, "fault", "()I"⟩
abbrev cX8_night : ByteArray := prog_1_method_5_code
def yX8_night : MethodName := ⟨RX8, "night", "()I"⟩
abbrev cX8_about : ByteArray := prog_1_method_6_code
def yX8_about : MethodName := ⟨RX8, "about", "(I)I"⟩
abbrev cX8_person : ByteArray := prog_1_method_7_code
def yX8_person : MethodName := ⟨RX8, "person", "(II)I"⟩
abbrev cX8_stand : ByteArray := prog_1_method_8_code
def yX8_stand : MethodName := ⟨RX8, "stand", "(II)I"⟩
abbrev cX8_bucket : ByteArray := prog_1_method_9_code
def yX8_bucket : MethodName := ⟨RX8, "bucket", "(II)I"⟩
abbrev cX8_beat : ByteArray := prog_1_method_10_code
def yX8_beat : MethodName := ⟨RX8, "beat", "()I"⟩
abbrev cX8_change : ByteArray := prog_1_method_11_code
def yX8_change : MethodName := ⟨RX8, "change", "(II)I"⟩
abbrev cX8_mend : ByteArray := prog_1_method_12_code
def yX8_mend : MethodName := ⟨RX8, "mend", "(I)I"⟩
abbrev cX8_drop : ByteArray := prog_1_method_13_code
def yX8_drop : MethodName := ⟨RX8, "drop", "(I)I"⟩
abbrev cX8_undo : ByteArray := prog_1_method_14_code
def yX8_undo : MethodName := ⟨RX8, "undo", "()I"⟩
abbrev cX8_later : ByteArray := prog_1_method_15_code
def yX8_later : MethodName := ⟨RX8, "later", "(II)I"⟩
abbrev cX8_out : ByteArray := prog_1_method_16_code
def yX8_out : MethodName := ⟨RX8, "out", "()I"⟩
abbrev cX8_swap : ByteArray := prog_1_method_17_code
def yX8_swap : MethodName := ⟨RX8, "swap", "(II)I"⟩
abbrev cX8_line : ByteArray := prog_1_method_18_code
def yX8_line : MethodName := ⟨RX8, "line", "(II)I"⟩
abbrev cX8_judge : ByteArray := prog_1_method_19_code
def yX8_judge : MethodName := ⟨RX8, "judge", "(IJ)I"⟩
abbrev cX8_share : ByteArray := prog_1_method_20_code
def yX8_share : MethodName := ⟨RX8, "share", "(IZ)I"⟩
abbrev cX8_see : ByteArray := prog_1_method_21_code
def yX8_see : MethodName := ⟨RX8, "see", "(III)I"⟩
abbrev cX8_unsee : ByteArray := prog_1_method_22_code
def yX8_unsee : MethodName := ⟨RX8, "unsee", "()I"⟩
abbrev cX8_fires : ByteArray := prog_1_method_23_code
def yX8_fires : MethodName := ⟨RX8, "fires", "(I)I"⟩
abbrev cX8_rests : ByteArray := prog_1_method_24_code
def yX8_rests : MethodName := ⟨RX8, "rests", "(III)I"⟩
abbrev cX8_falls : ByteArray := prog_1_method_25_code
def yX8_falls : MethodName := ⟨RX8, "falls", "(IIZ)I"⟩
abbrev cX8_seed : ByteArray := prog_1_method_26_code
def yX8_seed : MethodName := ⟨RX8, "seed", "(J)J"⟩
abbrev cX8_nights : ByteArray := prog_1_method_27_code
def yX8_nights : MethodName := ⟨RX8, "nights", "(I)I"⟩
abbrev cX8_keep : ByteArray := prog_1_method_28_code
def yX8_keep : MethodName := ⟨RX8, "keep", "(I)I"⟩
abbrev cX8_again : ByteArray := prog_1_method_29_code
def yX8_again : MethodName := ⟨RX8, "again", "(I)I"⟩
abbrev cX8_isZeroOrOne : ByteArray := prog_1_method_30_code
def yX8_isZeroOrOne : MethodName := ⟨RX8, "isZeroOrOne", "(I)Z"⟩
abbrev cX8_factorial : ByteArray := prog_1_method_31_code
def yX8_factorial : MethodName := ⟨RX8, "factorial", "(I)I"⟩
abbrev cX8_leastTerm : ByteArray := prog_1_method_32_code
def yX8_leastTerm : MethodName := ⟨RX8, "leastTerm", "(IIZ)I"⟩
abbrev cX8_commonDivisor : ByteArray := prog_1_method_33_code
def yX8_commonDivisor : MethodName := ⟨RX8, "commonDivisor", "(II)I"⟩
abbrev cX8_firstPair : ByteArray := prog_1_method_34_code
def yX8_firstPair : MethodName := ⟨RX8, "firstPair", "(I)I"⟩
def RX9 : String := "BucketChainModel"
def TX9 : u_T := fun k => match k with
  | 0 => ("BucketChainModel", "thrown", "I", false)
  | 1 => ("BucketChainModel", "text", "[I", true)
  | 2 => ("BucketChainModel", "textSize", "I", false)
  | 3 => ("BucketChainModel", "place", "I", false)
  | 4 => ("BucketChainModel", "grows", "I", false)
  | 5 => ("BucketChainModel", "wayBack", "I", false)
  | 6 => ("BucketChainModel", "people", "I", false)
  | 7 => ("BucketChainModel", "kind", "[I", true)
  | 8 => ("BucketChainModel", "buckets", "I", false)
  | 9 => ("BucketChainModel", "size", "[I", true)
  | 10 => ("BucketChainModel", "readFire", "I", false)
  | 11 => ("BucketChainModel", "readGrows", "I", false)
  | 12 => ("BucketChainModel", "readBack", "I", false)
  | 13 => ("BucketChainModel", "readPeople", "I", false)
  | 14 => ("BucketChainModel", "readKind", "[I", true)
  | 15 => ("BucketChainModel", "readBuckets", "I", false)
  | 16 => ("BucketChainModel", "readSize", "[I", true)
  | 17 => ("BucketChainModel", "readHoles", "I", false)
  | 18 => ("BucketChainModel", "page", "[I", true)
  | 19 => ("BucketChainModel", "trial", "[I", true)
  | 20 => ("BucketChainModel", "book", "[I", true)
  | 21 => ("BucketChainModel", "acts", "I", false)
  | 22 => ("BucketChainModel", "kept", "[I", true)
  | 23 => ("BucketChainModel", "isKept", "[Z", true)
  | 24 => ("BucketChainModel", "seen", "I", false)
  | 25 => ("BucketChainModel", "seenBeat", "[I", true)
  | 26 => ("BucketChainModel", "seenFire", "[I", true)
  | 27 => ("BucketChainModel", "seenIs", "[I", true)
  | 28 => ("BucketChainModel", "seed", "J", false)
  | 29 => ("BucketChainModel", "bestMuch", "I", false)
  | 30 => ("BucketChainModel", "bestWay", "I", false)
  | 31 => ("BucketChainModel", "fireMany", "I", false)
  | 32 => ("BucketChainModel", "fireFirst", "I", false)
  | 33 => ("BucketChainModel", "restMany", "I", false)
  | 34 => ("BucketChainModel", "restFirst", "I", false)
  | 35 => ("BucketChainModel", "gains", "[I", true)
  | 36 => ("BucketChainModel", "value", "[I", true)
  | _ => ("BucketChainModel", "line", "[I", true)
def tyX9 : Nat → FieldType := fun k => match k with
  | 0 => .int
  | 1 => .array .int
  | 2 => .int
  | 3 => .int
  | 4 => .int
  | 5 => .int
  | 6 => .int
  | 7 => .array .int
  | 8 => .int
  | 9 => .array .int
  | 10 => .int
  | 11 => .int
  | 12 => .int
  | 13 => .int
  | 14 => .array .int
  | 15 => .int
  | 16 => .array .int
  | 17 => .int
  | 18 => .array .int
  | 19 => .array .int
  | 20 => .array .int
  | 21 => .int
  | 22 => .array .int
  | 23 => .array .boolean
  | 24 => .int
  | 25 => .array .int
  | 26 => .array .int
  | 27 => .array .int
  | 28 => .long
  | 29 => .int
  | 30 => .int
  | 31 => .int
  | 32 => .int
  | 33 => .int
  | 34 => .int
  | 35 => .array .int
  | 36 => .array .int
  | _ => .array .int
abbrev wsX90 : List Cond := u_ws RX9 TX9 38
theorem nmX9 : ∀ a, a < 38 → ∀ b, b < 38 → a ≠ b → (TX9 a).2.1 ≠ (TX9 b).2.1 := by decide +kernel
theorem tyX9_ok : ∀ k, k < 38 → parseFieldDescriptor (TX9 k).2.2.1 = some (tyX9 k) := by decide +kernel
abbrev cX9_init : ByteArray := prog_11_method_1_code
def yX9_init : MethodName := ⟨RX9, "<init>", "()V"⟩
abbrev cX9_in : ByteArray := prog_11_method_3_code
def yX9_in : MethodName := ⟨RX9, "in", "(JJJ)Z"⟩
abbrev cX9_has : ByteArray := prog_11_method_4_code
def yX9_has : MethodName := ⟨RX9, "has", "(II)Z"⟩
abbrev cX9_many : ByteArray := prog_11_method_5_code
def yX9_many : MethodName := ⟨RX9, "many", "(I)I"⟩
abbrev cX9_power : ByteArray := prog_11_method_6_code
def yX9_power : MethodName := ⟨RX9, "power", "(II)I"⟩
abbrev cX9_noOne : ByteArray := prog_11_method_7_code
def yX9_noOne : MethodName := ⟨RX9, "noOne", "(I)Z"⟩
abbrev cX9_noBucket : ByteArray := prog_11_method_8_code
def yX9_noBucket : MethodName := ⟨RX9, "noBucket", "(I)Z"⟩
abbrev cX9_write : ByteArray := prog_11_method_9_code
def yX9_write : MethodName := ⟨RX9, "write", "(I)I"⟩
abbrev cX9_wipe : ByteArray := prog_11_method_10_code
def yX9_wipe : MethodName := ⟨RX9, "wipe", "()I"⟩
abbrev cX9_figure : ByteArray := prog_11_method_11_code
def yX9_figure : MethodName := ⟨RX9, "figure", "(II)I"⟩
abbrev cX9_readPerson : ByteArray := prog_11_method_12_code
def yX9_readPerson : MethodName := ⟨RX9, "readPerson", "()Z"⟩
abbrev cX9_readBucket : ByteArray := prog_11_method_13_code
def yX9_readBucket : MethodName := ⟨RX9, "readBucket", "()Z"⟩
abbrev cX9_readPart : ByteArray := prog_11_method_14_code
def yX9_readPart : MethodName := ⟨RX9, "readPart", "()Z"⟩
abbrev cX9_readHead : ByteArray := prog_11_method_15_code
def yX9_readHead : MethodName := ⟨RX9, "readHead", "()Z"⟩
abbrev cX9_readNight : ByteArray := prog_11_method_16_code
def yX9_readNight : MethodName := ⟨RX9, "readNight", "()I"⟩
abbrev cX9_fault : ByteArray := prog_11_method_17_code
def yX9_fault : MethodName := ⟨RX9, "fault", "()I"⟩
abbrev cX9_night : ByteArray := prog_11_method_18_code
def yX9_night : MethodName := ⟨RX9, "night", "()I"⟩
abbrev cX9_heldAt : ByteArray := prog_11_method_19_code
def yX9_heldAt : MethodName := ⟨RX9, "heldAt", "([II)I"⟩
abbrev cX9_works : ByteArray := prog_11_method_20_code
def yX9_works : MethodName := ⟨RX9, "works", "([III)Z"⟩
abbrev cX9_isChild : ByteArray := prog_11_method_21_code
def yX9_isChild : MethodName := ⟨RX9, "isChild", "([II)Z"⟩
abbrev cX9_sendBack : ByteArray := prog_11_method_22_code
def yX9_sendBack : MethodName := ⟨RX9, "sendBack", "([II)V"⟩
abbrev cX9_throwsIt : ByteArray := prog_11_method_23_code
def yX9_throwsIt : MethodName := ⟨RX9, "throwsIt", "([II)I"⟩
abbrev cX9_handOn : ByteArray := prog_11_method_24_code
def yX9_handOn : MethodName := ⟨RX9, "handOn", "([III)V"⟩
abbrev cX9_fill : ByteArray := prog_11_method_25_code
def yX9_fill : MethodName := ⟨RX9, "fill", "([I)V"⟩
abbrev cX9_leak : ByteArray := prog_11_method_26_code
def yX9_leak : MethodName := ⟨RX9, "leak", "([I)V"⟩
abbrev cX9_comeBack : ByteArray := prog_11_method_27_code
def yX9_comeBack : MethodName := ⟨RX9, "comeBack", "([I)V"⟩
abbrev cX9_goBeat : ByteArray := prog_11_method_28_code
def yX9_goBeat : MethodName := ⟨RX9, "goBeat", "([II)I"⟩
abbrev cX9_bucketsAt : ByteArray := prog_11_method_29_code
def yX9_bucketsAt : MethodName := ⟨RX9, "bucketsAt", "([III)I"⟩
abbrev cX9_standsWith : ByteArray := prog_11_method_30_code
def yX9_standsWith : MethodName := ⟨RX9, "standsWith", "([I)I"⟩
abbrev cX9_about : ByteArray := prog_11_method_31_code
def yX9_about : MethodName := ⟨RX9, "about", "(I)I"⟩
abbrev cX9_standOf : ByteArray := prog_11_method_32_code
def yX9_standOf : MethodName := ⟨RX9, "standOf", "([III)I"⟩
abbrev cX9_person : ByteArray := prog_11_method_33_code
def yX9_person : MethodName := ⟨RX9, "person", "(II)I"⟩
abbrev cX9_stand : ByteArray := prog_11_method_34_code
def yX9_stand : MethodName := ⟨RX9, "stand", "(II)I"⟩
abbrev cX9_bucket : ByteArray := prog_11_method_35_code
def yX9_bucket : MethodName := ⟨RX9, "bucket", "(II)I"⟩
abbrev cX9_note : ByteArray := prog_11_method_36_code
def yX9_note : MethodName := ⟨RX9, "note", "()V"⟩
abbrev cX9_beat : ByteArray := prog_11_method_37_code
def yX9_beat : MethodName := ⟨RX9, "beat", "()I"⟩
abbrev cX9_goChange : ByteArray := prog_11_method_38_code
def yX9_goChange : MethodName := ⟨RX9, "goChange", "([III)V"⟩
abbrev cX9_change : ByteArray := prog_11_method_39_code
def yX9_change : MethodName := ⟨RX9, "change", "(II)I"⟩
abbrev cX9_mend : ByteArray := prog_11_method_40_code
def yX9_mend : MethodName := ⟨RX9, "mend", "(I)I"⟩
abbrev cX9_drop : ByteArray := prog_11_method_41_code
def yX9_drop : MethodName := ⟨RX9, "drop", "(I)I"⟩
abbrev cX9_undo : ByteArray := prog_11_method_42_code
def yX9_undo : MethodName := ⟨RX9, "undo", "()I"⟩
abbrev cX9_begin : ByteArray := prog_11_method_43_code
def yX9_begin : MethodName := ⟨RX9, "begin", "()V"⟩
abbrev cX9_goBeats : ByteArray := prog_11_method_44_code
def yX9_goBeats : MethodName := ⟨RX9, "goBeats", "(II)V"⟩
abbrev cX9_later : ByteArray := prog_11_method_45_code
def yX9_later : MethodName := ⟨RX9, "later", "(II)I"⟩
abbrev cX9_out : ByteArray := prog_11_method_46_code
def yX9_out : MethodName := ⟨RX9, "out", "()I"⟩
abbrev cX9_swap : ByteArray := prog_11_method_47_code
def yX9_swap : MethodName := ⟨RX9, "swap", "(II)I"⟩
abbrev cX9_nextLine : ByteArray := prog_11_method_48_code
def yX9_nextLine : MethodName := ⟨RX9, "nextLine", "()Z"⟩
abbrev cX9_turnLine : ByteArray := prog_11_method_49_code
def yX9_turnLine : MethodName := ⟨RX9, "turnLine", "(II)V"⟩
abbrev cX9_lineFigures : ByteArray := prog_11_method_50_code
def yX9_lineFigures : MethodName := ⟨RX9, "lineFigures", "()I"⟩
abbrev cX9_line : ByteArray := prog_11_method_51_code
def yX9_line : MethodName := ⟨RX9, "line", "(II)I"⟩
abbrev cX9_longPower : ByteArray := prog_11_method_52_code
def yX9_longPower : MethodName := ⟨RX9, "longPower", "(JI)J"⟩
abbrev cX9_changes : ByteArray := prog_11_method_53_code
def yX9_changes : MethodName := ⟨RX9, "changes", "(II)Z"⟩
abbrev cX9_mends : ByteArray := prog_11_method_54_code
def yX9_mends : MethodName := ⟨RX9, "mends", "(I)Z"⟩
abbrev cX9_drops : ByteArray := prog_11_method_55_code
def yX9_drops : MethodName := ⟨RX9, "drops", "(I)Z"⟩
abbrev cX9_does : ByteArray := prog_11_method_56_code
def yX9_does : MethodName := ⟨RX9, "does", "(I)Z"⟩
abbrev cX9_judge : ByteArray := prog_11_method_57_code
def yX9_judge : MethodName := ⟨RX9, "judge", "(IJ)I"⟩
abbrev cX9_ways : ByteArray := prog_11_method_58_code
def yX9_ways : MethodName := ⟨RX9, "ways", "(I)I"⟩
abbrev cX9_divisor : ByteArray := prog_11_method_59_code
def yX9_divisor : MethodName := ⟨RX9, "divisor", "(II)I"⟩
abbrev cX9_fraction : ByteArray := prog_11_method_60_code
def yX9_fraction : MethodName := ⟨RX9, "fraction", "(IIZ)I"⟩
abbrev cX9_share : ByteArray := prog_11_method_61_code
def yX9_share : MethodName := ⟨RX9, "share", "(IZ)I"⟩
abbrev cX9_see : ByteArray := prog_11_method_62_code
def yX9_see : MethodName := ⟨RX9, "see", "(III)I"⟩
abbrev cX9_unsee : ByteArray := prog_11_method_63_code
def yX9_unsee : MethodName := ⟨RX9, "unsee", "()I"⟩
abbrev cX9_fireBy : ByteArray := prog_11_method_64_code
def yX9_fireBy : MethodName := ⟨RX9, "fireBy", "(III)I"⟩
abbrev cX9_fires : ByteArray := prog_11_method_65_code
def yX9_fires : MethodName := ⟨RX9, "fires", "(I)I"⟩
abbrev cX9_rests : ByteArray := prog_11_method_66_code
def yX9_rests : MethodName := ⟨RX9, "rests", "(III)I"⟩
abbrev cX9_falls : ByteArray := prog_11_method_67_code
def yX9_falls : MethodName := ⟨RX9, "falls", "(IIZ)I"⟩
abbrev cX9_seed : ByteArray := prog_11_method_68_code
def yX9_seed : MethodName := ⟨RX9, "seed", "(J)J"⟩
abbrev cX9_nights : ByteArray := prog_11_method_69_code
def yX9_nights : MethodName := ⟨RX9, "nights", "(I)I"⟩
abbrev cX9_keep : ByteArray := prog_11_method_70_code
def yX9_keep : MethodName := ⟨RX9, "keep", "(I)I"⟩
abbrev cX9_again : ByteArray := prog_11_method_71_code
def yX9_again : MethodName := ⟨RX9, "again", "(I)I"⟩
def RJ6 : String := "java/lang/Integer"
def TJ6 : u_T := fun k => match k with
  | _ => ("", "", "", false)
def tyJ6 : Nat → FieldType := fun k => match k with
  | _ => .int
abbrev wsJ60 : List Cond := u_ws RJ6 TJ6 0
theorem nmJ6 : ∀ a, a < 0 → ∀ b, b < 0 → a ≠ b → (TJ6 a).2.1 ≠ (TJ6 b).2.1 := by decide +kernel
theorem tyJ6_ok : ∀ k, k < 0 → parseFieldDescriptor (TJ6 k).2.2.1 = some (tyJ6 k) := by decide +kernel
abbrev cJ6_bitCount_0f7a4 : ByteArray := prog_12_method_49_code
def yJ6_bitCount_0f7a4 : MethodName := ⟨RJ6, "bitCount", "(I)I"⟩
def RJ9 : String := "java/lang/Math"
def TJ9 : u_T := fun k => match k with
  | _ => ("", "", "", false)
def tyJ9 : Nat → FieldType := fun k => match k with
  | _ => .int
abbrev wsJ90 : List Cond := u_ws RJ9 TJ9 0
theorem nmJ9 : ∀ a, a < 0 → ∀ b, b < 0 → a ≠ b → (TJ9 a).2.1 ≠ (TJ9 b).2.1 := by decide +kernel
theorem tyJ9_ok : ∀ k, k < 0 → parseFieldDescriptor (TJ9 k).2.2.1 = some (tyJ9 k) := by decide +kernel
abbrev cJ9_abs_0f7a4 : ByteArray := prog_13_method_59_code
def yJ9_abs_0f7a4 : MethodName := ⟨RJ9, "abs", "(I)I"⟩
abbrev cJ9_max_7cf53 : ByteArray := prog_13_method_65_code
def yJ9_max_7cf53 : MethodName := ⟨RJ9, "max", "(II)I"⟩
abbrev cJ9_min_7cf53 : ByteArray := prog_13_method_69_code
def yJ9_min_7cf53 : MethodName := ⟨RJ9, "min", "(II)I"⟩
def RJ10 : String := "java/lang/System"
def TJ10 : u_T := fun k => match k with
  | _ => ("", "", "", false)
def tyJ10 : Nat → FieldType := fun k => match k with
  | _ => .int
abbrev wsJ100 : List Cond := u_ws RJ10 TJ10 0
theorem nmJ10 : ∀ a, a < 0 → ∀ b, b < 0 → a ≠ b → (TJ10 a).2.1 ≠ (TJ10 b).2.1 := by decide +kernel
theorem tyJ10_ok : ∀ k, k < 0 → parseFieldDescriptor (TJ10 k).2.2.1 = some (tyJ10 k) := by decide +kernel
def RL : String := "BucketChainLaw"
abbrev cL_law : ByteArray := code
def yL_law : MethodName := ⟨RL, "law", "([I)Z"⟩
abbrev vwCl : List vw_C := [(RX0, TX0, 3), (RX1, TX1, 3), (RX2, TX2, 9), (RX3, TX3, 10), (RX4, TX4, 6), (RX5, TX5, 1), (RX6, TX6, 4), (RX7, TX7, 2), (RX8, TX8, 11), (RX9, TX9, 38)]
end
section
theorem dX0_init_0 : decode cX0_init 0 = .ok (.aload_n 0, 1) := by decide +kernel
theorem dX0_init_1 : decode cX0_init 1 = .ok (.invokespecial 3, 3) := by decide +kernel
theorem dX0_init_4 : decode cX0_init 4 = .ok (.aload_n 0, 1) := by decide +kernel
theorem dX0_init_5 : decode cX0_init 5 = .ok (.new 9, 3) := by decide +kernel
theorem dX0_init_8 : decode cX0_init 8 = .ok (.dup, 1) := by decide +kernel
theorem dX0_init_9 : decode cX0_init 9 = .ok (.bipush 14, 2) := by decide +kernel
theorem dX0_init_11 : decode cX0_init 11 = .ok (.invokespecial 11, 3) := by decide +kernel
theorem dX0_init_14 : decode cX0_init 14 = .ok (.putfield 14, 3) := by decide +kernel
theorem dX0_init_17 : decode cX0_init 17 = .ok (.aload_n 0, 1) := by decide +kernel
theorem dX0_init_18 : decode cX0_init 18 = .ok (.iconst 0, 1) := by decide +kernel
theorem dX0_init_19 : decode cX0_init 19 = .ok (.putfield 20, 3) := by decide +kernel
theorem dX0_init_22 : decode cX0_init 22 = .ok (.aload_n 0, 1) := by decide +kernel
theorem dX0_init_23 : decode cX0_init 23 = .ok (.iconst 0, 1) := by decide +kernel
theorem dX0_init_24 : decode cX0_init 24 = .ok (.putfield 24, 3) := by decide +kernel
theorem dX0_init_27 : decode cX0_init 27 = .ok (.return_, 1) := by decide +kernel
theorem dX0_clear_0 : decode cX0_clear 0 = .ok (.aload_n 0, 1) := by decide +kernel
theorem dX0_clear_1 : decode cX0_clear 1 = .ok (.iconst 0, 1) := by decide +kernel
theorem dX0_clear_2 : decode cX0_clear 2 = .ok (.putfield 20, 3) := by decide +kernel
theorem dX0_clear_5 : decode cX0_clear 5 = .ok (.aload_n 0, 1) := by decide +kernel
theorem dX0_clear_6 : decode cX0_clear 6 = .ok (.iconst 0, 1) := by decide +kernel
theorem dX0_clear_7 : decode cX0_clear 7 = .ok (.putfield 24, 3) := by decide +kernel
theorem dX0_clear_10 : decode cX0_clear 10 = .ok (.return_, 1) := by decide +kernel
theorem dX0_remember_0 : decode cX0_remember 0 = .ok (.aload_n 0, 1) := by decide +kernel
theorem dX0_remember_1 : decode cX0_remember 1 = .ok (.getfield 14, 3) := by decide +kernel
theorem dX0_remember_4 : decode cX0_remember 4 = .ok (.aload_n 0, 1) := by decide +kernel
theorem dX0_remember_5 : decode cX0_remember 5 = .ok (.getfield 20, 3) := by decide +kernel
theorem dX0_remember_8 : decode cX0_remember 8 = .ok (.aload_n 0, 1) := by decide +kernel
theorem dX0_remember_9 : decode cX0_remember 9 = .ok (.getfield 24, 3) := by decide +kernel
theorem dX0_remember_12 : decode cX0_remember 12 = .ok (.iadd, 1) := by decide +kernel
theorem dX0_remember_13 : decode cX0_remember 13 = .ok (.bipush 14, 2) := by decide +kernel
theorem dX0_remember_15 : decode cX0_remember 15 = .ok (.irem, 1) := by decide +kernel
theorem dX0_remember_16 : decode cX0_remember 16 = .ok (.aload_n 1, 1) := by decide +kernel
theorem dX0_remember_17 : decode cX0_remember 17 = .ok (.invokevirtual 27, 3) := by decide +kernel
theorem dX0_remember_20 : decode cX0_remember 20 = .ok (.aload_n 0, 1) := by decide +kernel
theorem dX0_remember_21 : decode cX0_remember 21 = .ok (.getfield 24, 3) := by decide +kernel
theorem dX0_remember_24 : decode cX0_remember 24 = .ok (.bipush 14, 2) := by decide +kernel
theorem dX0_remember_26 : decode cX0_remember 26 = .ok (.if_icmp .ge 16, 3) := by decide +kernel
theorem dX0_remember_29 : decode cX0_remember 29 = .ok (.aload_n 0, 1) := by decide +kernel
theorem dX0_remember_30 : decode cX0_remember 30 = .ok (.dup, 1) := by decide +kernel
theorem dX0_remember_31 : decode cX0_remember 31 = .ok (.getfield 24, 3) := by decide +kernel
theorem dX0_remember_34 : decode cX0_remember 34 = .ok (.iconst 1, 1) := by decide +kernel
theorem dX0_remember_35 : decode cX0_remember 35 = .ok (.iadd, 1) := by decide +kernel
theorem dX0_remember_36 : decode cX0_remember 36 = .ok (.putfield 24, 3) := by decide +kernel
theorem dX0_remember_39 : decode cX0_remember 39 = .ok (.goto 16, 3) := by decide +kernel
theorem dX0_remember_42 : decode cX0_remember 42 = .ok (.aload_n 0, 1) := by decide +kernel
theorem dX0_remember_43 : decode cX0_remember 43 = .ok (.aload_n 0, 1) := by decide +kernel
theorem dX0_remember_44 : decode cX0_remember 44 = .ok (.getfield 20, 3) := by decide +kernel
theorem dX0_remember_47 : decode cX0_remember 47 = .ok (.iconst 1, 1) := by decide +kernel
theorem dX0_remember_48 : decode cX0_remember 48 = .ok (.iadd, 1) := by decide +kernel
theorem dX0_remember_49 : decode cX0_remember 49 = .ok (.bipush 14, 2) := by decide +kernel
theorem dX0_remember_51 : decode cX0_remember 51 = .ok (.irem, 1) := by decide +kernel
theorem dX0_remember_52 : decode cX0_remember 52 = .ok (.putfield 20, 3) := by decide +kernel
theorem dX0_remember_55 : decode cX0_remember 55 = .ok (.return_, 1) := by decide +kernel
theorem dX0_takeBack_0 : decode cX0_takeBack 0 = .ok (.aload_n 0, 1) := by decide +kernel
theorem dX0_takeBack_1 : decode cX0_takeBack 1 = .ok (.getfield 24, 3) := by decide +kernel
theorem dX0_takeBack_4 : decode cX0_takeBack 4 = .ok (.ifCond .gt 4, 3) := by decide +kernel
theorem dX0_takeBack_7 : decode cX0_takeBack 7 = .ok (.return_, 1) := by decide +kernel
theorem dX0_takeBack_8 : decode cX0_takeBack 8 = .ok (.aload_n 0, 1) := by decide +kernel
theorem dX0_takeBack_9 : decode cX0_takeBack 9 = .ok (.dup, 1) := by decide +kernel
theorem dX0_takeBack_10 : decode cX0_takeBack 10 = .ok (.getfield 24, 3) := by decide +kernel
theorem dX0_takeBack_13 : decode cX0_takeBack 13 = .ok (.iconst 1, 1) := by decide +kernel
theorem dX0_takeBack_14 : decode cX0_takeBack 14 = .ok (.isub, 1) := by decide +kernel
theorem dX0_takeBack_15 : decode cX0_takeBack 15 = .ok (.putfield 24, 3) := by decide +kernel
theorem dX0_takeBack_18 : decode cX0_takeBack 18 = .ok (.aload_n 0, 1) := by decide +kernel
theorem dX0_takeBack_19 : decode cX0_takeBack 19 = .ok (.getfield 14, 3) := by decide +kernel
theorem dX0_takeBack_22 : decode cX0_takeBack 22 = .ok (.aload_n 0, 1) := by decide +kernel
theorem dX0_takeBack_23 : decode cX0_takeBack 23 = .ok (.getfield 20, 3) := by decide +kernel
theorem dX0_takeBack_26 : decode cX0_takeBack 26 = .ok (.aload_n 0, 1) := by decide +kernel
theorem dX0_takeBack_27 : decode cX0_takeBack 27 = .ok (.getfield 24, 3) := by decide +kernel
theorem dX0_takeBack_30 : decode cX0_takeBack 30 = .ok (.iadd, 1) := by decide +kernel
theorem dX0_takeBack_31 : decode cX0_takeBack 31 = .ok (.bipush 14, 2) := by decide +kernel
theorem dX0_takeBack_33 : decode cX0_takeBack 33 = .ok (.irem, 1) := by decide +kernel
theorem dX0_takeBack_34 : decode cX0_takeBack 34 = .ok (.aload_n 1, 1) := by decide +kernel
theorem dX0_takeBack_35 : decode cX0_takeBack 35 = .ok (.invokevirtual 31, 3) := by decide +kernel
theorem dX0_takeBack_38 : decode cX0_takeBack 38 = .ok (.return_, 1) := by decide +kernel
theorem dX1_init_0 : decode cX1_init 0 = .ok (.aload_n 0, 1) := by decide +kernel
theorem dX1_init_1 : decode cX1_init 1 = .ok (.invokespecial 3, 3) := by decide +kernel
theorem dX1_init_4 : decode cX1_init 4 = .ok (.aload_n 0, 1) := by decide +kernel
theorem dX1_init_5 : decode cX1_init 5 = .ok (.aload_n 1, 1) := by decide +kernel
theorem dX1_init_6 : decode cX1_init 6 = .ok (.putfield 9, 3) := by decide +kernel
theorem dX1_init_9 : decode cX1_init 9 = .ok (.aload_n 0, 1) := by decide +kernel
theorem dX1_init_10 : decode cX1_init 10 = .ok (.aload_n 2, 1) := by decide +kernel
theorem dX1_init_11 : decode cX1_init 11 = .ok (.putfield 15, 3) := by decide +kernel
theorem dX1_init_14 : decode cX1_init 14 = .ok (.aload_n 0, 1) := by decide +kernel
theorem dX1_init_15 : decode cX1_init 15 = .ok (.aload_n 3, 1) := by decide +kernel
theorem dX1_init_16 : decode cX1_init 16 = .ok (.putfield 19, 3) := by decide +kernel
theorem dX1_init_19 : decode cX1_init 19 = .ok (.return_, 1) := by decide +kernel
theorem dX1_begin_0 : decode cX1_begin 0 = .ok (.aload_n 0, 1) := by decide +kernel
theorem dX1_begin_1 : decode cX1_begin 1 = .ok (.getfield 19, 3) := by decide +kernel
theorem dX1_begin_4 : decode cX1_begin 4 = .ok (.aload_n 0, 1) := by decide +kernel
theorem dX1_begin_5 : decode cX1_begin 5 = .ok (.getfield 15, 3) := by decide +kernel
theorem dX1_begin_8 : decode cX1_begin 8 = .ok (.invokevirtual 22, 3) := by decide +kernel
theorem dX1_begin_11 : decode cX1_begin 11 = .ok (.return_, 1) := by decide +kernel
theorem dX1_fireIn_0 : decode cX1_fireIn 0 = .ok (.aload_n 0, 1) := by decide +kernel
theorem dX1_fireIn_1 : decode cX1_fireIn 1 = .ok (.invokevirtual 28, 3) := by decide +kernel
theorem dX1_fireIn_4 : decode cX1_fireIn 4 = .ok (.aload_n 0, 1) := by decide +kernel
theorem dX1_fireIn_5 : decode cX1_fireIn 5 = .ok (.getfield 19, 3) := by decide +kernel
theorem dX1_fireIn_8 : decode cX1_fireIn 8 = .ok (.iload_n 1, 1) := by decide +kernel
theorem dX1_fireIn_9 : decode cX1_fireIn 9 = .ok (.invokevirtual 31, 3) := by decide +kernel
theorem dX1_fireIn_12 : decode cX1_fireIn 12 = .ok (.pop, 1) := by decide +kernel
theorem dX1_fireIn_13 : decode cX1_fireIn 13 = .ok (.aload_n 0, 1) := by decide +kernel
theorem dX1_fireIn_14 : decode cX1_fireIn 14 = .ok (.getfield 19, 3) := by decide +kernel
theorem dX1_fireIn_17 : decode cX1_fireIn 17 = .ok (.getfield 35, 3) := by decide +kernel
theorem dX1_fireIn_20 : decode cX1_fireIn 20 = .ok (.ireturn, 1) := by decide +kernel
theorem dX1_thrownIn_0 : decode cX1_thrownIn 0 = .ok (.aload_n 0, 1) := by decide +kernel
theorem dX1_thrownIn_1 : decode cX1_thrownIn 1 = .ok (.invokevirtual 28, 3) := by decide +kernel
theorem dX1_thrownIn_4 : decode cX1_thrownIn 4 = .ok (.aload_n 0, 1) := by decide +kernel
theorem dX1_thrownIn_5 : decode cX1_thrownIn 5 = .ok (.getfield 19, 3) := by decide +kernel
theorem dX1_thrownIn_8 : decode cX1_thrownIn 8 = .ok (.iload_n 1, 1) := by decide +kernel
theorem dX1_thrownIn_9 : decode cX1_thrownIn 9 = .ok (.invokevirtual 31, 3) := by decide +kernel
theorem dX1_thrownIn_12 : decode cX1_thrownIn 12 = .ok (.pop, 1) := by decide +kernel
theorem dX1_thrownIn_13 : decode cX1_thrownIn 13 = .ok (.aload_n 0, 1) := by decide +kernel
theorem dX1_thrownIn_14 : decode cX1_thrownIn 14 = .ok (.getfield 19, 3) := by decide +kernel
theorem dX1_thrownIn_17 : decode cX1_thrownIn 17 = .ok (.getfield 39, 3) := by decide +kernel
theorem dX1_thrownIn_20 : decode cX1_thrownIn 20 = .ok (.ireturn, 1) := by decide +kernel
theorem dX1_beatsUntilOut_0 : decode cX1_beatsUntilOut 0 = .ok (.aload_n 0, 1) := by decide +kernel
theorem dX1_beatsUntilOut_1 : decode cX1_beatsUntilOut 1 = .ok (.invokevirtual 28, 3) := by decide +kernel
theorem dX1_beatsUntilOut_4 : decode cX1_beatsUntilOut 4 = .ok (.iconst 0, 1) := by decide +kernel
theorem dX1_beatsUntilOut_5 : decode cX1_beatsUntilOut 5 = .ok (.istore_n 1, 1) := by decide +kernel
theorem dX1_beatsUntilOut_6 : decode cX1_beatsUntilOut 6 = .ok (.iload_n 1, 1) := by decide +kernel
theorem dX1_beatsUntilOut_7 : decode cX1_beatsUntilOut 7 = .ok (.bipush 60, 2) := by decide +kernel
theorem dX1_beatsUntilOut_9 : decode cX1_beatsUntilOut 9 = .ok (.if_icmp .gt 29, 3) := by decide +kernel
theorem dX1_beatsUntilOut_12 : decode cX1_beatsUntilOut 12 = .ok (.aload_n 0, 1) := by decide +kernel
theorem dX1_beatsUntilOut_13 : decode cX1_beatsUntilOut 13 = .ok (.getfield 19, 3) := by decide +kernel
theorem dX1_beatsUntilOut_16 : decode cX1_beatsUntilOut 16 = .ok (.getfield 35, 3) := by decide +kernel
theorem dX1_beatsUntilOut_19 : decode cX1_beatsUntilOut 19 = .ok (.ifCond .ne 5, 3) := by decide +kernel
theorem dX1_beatsUntilOut_22 : decode cX1_beatsUntilOut 22 = .ok (.iload_n 1, 1) := by decide +kernel
theorem dX1_beatsUntilOut_23 : decode cX1_beatsUntilOut 23 = .ok (.ireturn, 1) := by decide +kernel
theorem dX1_beatsUntilOut_24 : decode cX1_beatsUntilOut 24 = .ok (.aload_n 0, 1) := by decide +kernel
theorem dX1_beatsUntilOut_25 : decode cX1_beatsUntilOut 25 = .ok (.getfield 19, 3) := by decide +kernel
theorem dX1_beatsUntilOut_28 : decode cX1_beatsUntilOut 28 = .ok (.invokevirtual 42, 3) := by decide +kernel
theorem dX1_beatsUntilOut_31 : decode cX1_beatsUntilOut 31 = .ok (.pop, 1) := by decide +kernel
theorem dX1_beatsUntilOut_32 : decode cX1_beatsUntilOut 32 = .ok (.iinc 1 1, 3) := by decide +kernel
theorem dX1_beatsUntilOut_35 : decode cX1_beatsUntilOut 35 = .ok (.goto (-29), 3) := by decide +kernel
theorem dX1_beatsUntilOut_38 : decode cX1_beatsUntilOut 38 = .ok (.bipush (-9), 2) := by decide +kernel
theorem dX1_beatsUntilOut_40 : decode cX1_beatsUntilOut 40 = .ok (.ireturn, 1) := by decide +kernel
theorem dX1_firstWrongDoing_0 : decode cX1_firstWrongDoing 0 = .ok (.aload_n 0, 1) := by decide +kernel
theorem dX1_firstWrongDoing_1 : decode cX1_firstWrongDoing 1 = .ok (.invokevirtual 28, 3) := by decide +kernel
theorem dX1_firstWrongDoing_4 : decode cX1_firstWrongDoing 4 = .ok (.iconst 0, 1) := by decide +kernel
theorem dX1_firstWrongDoing_5 : decode cX1_firstWrongDoing 5 = .ok (.istore 4, 2) := by decide +kernel
theorem dX1_firstWrongDoing_7 : decode cX1_firstWrongDoing 7 = .ok (.iload 4, 2) := by decide +kernel
theorem dX1_firstWrongDoing_9 : decode cX1_firstWrongDoing 9 = .ok (.iload_n 1, 1) := by decide +kernel
theorem dX1_firstWrongDoing_10 : decode cX1_firstWrongDoing 10 = .ok (.if_icmp .ge 78, 3) := by decide +kernel
theorem dX1_firstWrongDoing_13 : decode cX1_firstWrongDoing 13 = .ok (.lload_n 2, 1) := by decide +kernel
theorem dX1_firstWrongDoing_14 : decode cX1_firstWrongDoing 14 = .ok (.lstore 5, 2) := by decide +kernel
theorem dX1_firstWrongDoing_16 : decode cX1_firstWrongDoing 16 = .ok (.iload 4, 2) := by decide +kernel
theorem dX1_firstWrongDoing_18 : decode cX1_firstWrongDoing 18 = .ok (.iconst 1, 1) := by decide +kernel
theorem dX1_firstWrongDoing_19 : decode cX1_firstWrongDoing 19 = .ok (.iadd, 1) := by decide +kernel
theorem dX1_firstWrongDoing_20 : decode cX1_firstWrongDoing 20 = .ok (.istore 7, 2) := by decide +kernel
theorem dX1_firstWrongDoing_22 : decode cX1_firstWrongDoing 22 = .ok (.iload 7, 2) := by decide +kernel
theorem dX1_firstWrongDoing_24 : decode cX1_firstWrongDoing 24 = .ok (.iload_n 1, 1) := by decide +kernel
theorem dX1_firstWrongDoing_25 : decode cX1_firstWrongDoing 25 = .ok (.if_icmp .ge 17, 3) := by decide +kernel
theorem dX1_firstWrongDoing_28 : decode cX1_firstWrongDoing 28 = .ok (.lload 5, 2) := by decide +kernel
theorem dX1_firstWrongDoing_30 : decode cX1_firstWrongDoing 30 = .ok (.ldc2_w 46, 3) := by decide +kernel
theorem dX1_firstWrongDoing_33 : decode cX1_firstWrongDoing 33 = .ok (.ldiv, 1) := by decide +kernel
theorem dX1_firstWrongDoing_34 : decode cX1_firstWrongDoing 34 = .ok (.lstore 5, 2) := by decide +kernel
theorem dX1_firstWrongDoing_36 : decode cX1_firstWrongDoing 36 = .ok (.iinc 7 1, 3) := by decide +kernel
theorem dX1_firstWrongDoing_39 : decode cX1_firstWrongDoing 39 = .ok (.goto (-17), 3) := by decide +kernel
theorem dX1_firstWrongDoing_42 : decode cX1_firstWrongDoing 42 = .ok (.lload 5, 2) := by decide +kernel
theorem dX1_firstWrongDoing_44 : decode cX1_firstWrongDoing 44 = .ok (.ldc2_w 46, 3) := by decide +kernel
theorem dX1_firstWrongDoing_47 : decode cX1_firstWrongDoing 47 = .ok (.lrem, 1) := by decide +kernel
theorem dX1_firstWrongDoing_48 : decode cX1_firstWrongDoing 48 = .ok (.l2i, 1) := by decide +kernel
theorem dX1_firstWrongDoing_49 : decode cX1_firstWrongDoing 49 = .ok (.istore 7, 2) := by decide +kernel
theorem dX1_firstWrongDoing_51 : decode cX1_firstWrongDoing 51 = .ok (.aload_n 0, 1) := by decide +kernel
theorem dX1_firstWrongDoing_52 : decode cX1_firstWrongDoing 52 = .ok (.getfield 19, 3) := by decide +kernel
theorem dX1_firstWrongDoing_55 : decode cX1_firstWrongDoing 55 = .ok (.iload 7, 2) := by decide +kernel
theorem dX1_firstWrongDoing_57 : decode cX1_firstWrongDoing 57 = .ok (.bipush 100, 2) := by decide +kernel
theorem dX1_firstWrongDoing_59 : decode cX1_firstWrongDoing 59 = .ok (.idiv, 1) := by decide +kernel
theorem dX1_firstWrongDoing_60 : decode cX1_firstWrongDoing 60 = .ok (.iload 7, 2) := by decide +kernel
theorem dX1_firstWrongDoing_62 : decode cX1_firstWrongDoing 62 = .ok (.bipush 10, 2) := by decide +kernel
theorem dX1_firstWrongDoing_64 : decode cX1_firstWrongDoing 64 = .ok (.idiv, 1) := by decide +kernel
theorem dX1_firstWrongDoing_65 : decode cX1_firstWrongDoing 65 = .ok (.bipush 10, 2) := by decide +kernel
theorem dX1_firstWrongDoing_67 : decode cX1_firstWrongDoing 67 = .ok (.irem, 1) := by decide +kernel
theorem dX1_firstWrongDoing_68 : decode cX1_firstWrongDoing 68 = .ok (.iload 7, 2) := by decide +kernel
theorem dX1_firstWrongDoing_70 : decode cX1_firstWrongDoing 70 = .ok (.bipush 10, 2) := by decide +kernel
theorem dX1_firstWrongDoing_72 : decode cX1_firstWrongDoing 72 = .ok (.irem, 1) := by decide +kernel
theorem dX1_firstWrongDoing_73 : decode cX1_firstWrongDoing 73 = .ok (.invokevirtual 48, 3) := by decide +kernel
theorem dX1_firstWrongDoing_76 : decode cX1_firstWrongDoing 76 = .ok (.ifCond .ne 6, 3) := by decide +kernel
theorem dX1_firstWrongDoing_79 : decode cX1_firstWrongDoing 79 = .ok (.iload 4, 2) := by decide +kernel
theorem dX1_firstWrongDoing_81 : decode cX1_firstWrongDoing 81 = .ok (.ireturn, 1) := by decide +kernel
theorem dX1_firstWrongDoing_82 : decode cX1_firstWrongDoing 82 = .ok (.iinc 4 1, 3) := by decide +kernel
theorem dX1_firstWrongDoing_85 : decode cX1_firstWrongDoing 85 = .ok (.goto (-78), 3) := by decide +kernel
theorem dX1_firstWrongDoing_88 : decode cX1_firstWrongDoing 88 = .ok (.bipush (-9), 2) := by decide +kernel
theorem dX1_firstWrongDoing_90 : decode cX1_firstWrongDoing 90 = .ok (.ireturn, 1) := by decide +kernel
theorem dX1_gainOverOrders_0 : decode cX1_gainOverOrders 0 = .ok (.iconst 0, 1) := by decide +kernel
theorem dX1_gainOverOrders_1 : decode cX1_gainOverOrders 1 = .ok (.istore_n 2, 1) := by decide +kernel
theorem dX1_gainOverOrders_2 : decode cX1_gainOverOrders 2 = .ok (.iconst 0, 1) := by decide +kernel
theorem dX1_gainOverOrders_3 : decode cX1_gainOverOrders 3 = .ok (.istore_n 3, 1) := by decide +kernel
theorem dX1_gainOverOrders_4 : decode cX1_gainOverOrders 4 = .ok (.iload_n 3, 1) := by decide +kernel
theorem dX1_gainOverOrders_5 : decode cX1_gainOverOrders 5 = .ok (.iconst 1, 1) := by decide +kernel
theorem dX1_gainOverOrders_6 : decode cX1_gainOverOrders 6 = .ok (.aload_n 0, 1) := by decide +kernel
theorem dX1_gainOverOrders_7 : decode cX1_gainOverOrders 7 = .ok (.getfield 9, 3) := by decide +kernel
theorem dX1_gainOverOrders_10 : decode cX1_gainOverOrders 10 = .ok (.getfield 52, 3) := by decide +kernel
theorem dX1_gainOverOrders_13 : decode cX1_gainOverOrders 13 = .ok (.ishl, 1) := by decide +kernel
theorem dX1_gainOverOrders_14 : decode cX1_gainOverOrders 14 = .ok (.if_icmp .ge 73, 3) := by decide +kernel
theorem dX1_gainOverOrders_17 : decode cX1_gainOverOrders 17 = .ok (.iload_n 3, 1) := by decide +kernel
theorem dX1_gainOverOrders_18 : decode cX1_gainOverOrders 18 = .ok (.bipush 16, 2) := by decide +kernel
theorem dX1_gainOverOrders_20 : decode cX1_gainOverOrders 20 = .ok (.if_icmp .ge 67, 3) := by decide +kernel
theorem dX1_gainOverOrders_23 : decode cX1_gainOverOrders 23 = .ok (.iload_n 3, 1) := by decide +kernel
theorem dX1_gainOverOrders_24 : decode cX1_gainOverOrders 24 = .ok (.iload_n 1, 1) := by decide +kernel
theorem dX1_gainOverOrders_25 : decode cX1_gainOverOrders 25 = .ok (.ishr, 1) := by decide +kernel
theorem dX1_gainOverOrders_26 : decode cX1_gainOverOrders 26 = .ok (.iconst 1, 1) := by decide +kernel
theorem dX1_gainOverOrders_27 : decode cX1_gainOverOrders 27 = .ok (.iand, 1) := by decide +kernel
theorem dX1_gainOverOrders_28 : decode cX1_gainOverOrders 28 = .ok (.ifCond .ne 53, 3) := by decide +kernel
theorem dX1_gainOverOrders_31 : decode cX1_gainOverOrders 31 = .ok (.iload_n 3, 1) := by decide +kernel
theorem dX1_gainOverOrders_32 : decode cX1_gainOverOrders 32 = .ok (.invokestatic 57, 3) := by decide +kernel
theorem dX1_gainOverOrders_35 : decode cX1_gainOverOrders 35 = .ok (.istore 4, 2) := by decide +kernel
theorem dX1_gainOverOrders_37 : decode cX1_gainOverOrders 37 = .ok (.iload 4, 2) := by decide +kernel
theorem dX1_gainOverOrders_39 : decode cX1_gainOverOrders 39 = .ok (.invokestatic 62, 3) := by decide +kernel
theorem dX1_gainOverOrders_42 : decode cX1_gainOverOrders 42 = .ok (.aload_n 0, 1) := by decide +kernel
theorem dX1_gainOverOrders_43 : decode cX1_gainOverOrders 43 = .ok (.getfield 9, 3) := by decide +kernel
theorem dX1_gainOverOrders_46 : decode cX1_gainOverOrders 46 = .ok (.getfield 52, 3) := by decide +kernel
theorem dX1_gainOverOrders_49 : decode cX1_gainOverOrders 49 = .ok (.iconst 1, 1) := by decide +kernel
theorem dX1_gainOverOrders_50 : decode cX1_gainOverOrders 50 = .ok (.isub, 1) := by decide +kernel
theorem dX1_gainOverOrders_51 : decode cX1_gainOverOrders 51 = .ok (.iload 4, 2) := by decide +kernel
theorem dX1_gainOverOrders_53 : decode cX1_gainOverOrders 53 = .ok (.isub, 1) := by decide +kernel
theorem dX1_gainOverOrders_54 : decode cX1_gainOverOrders 54 = .ok (.invokestatic 62, 3) := by decide +kernel
theorem dX1_gainOverOrders_57 : decode cX1_gainOverOrders 57 = .ok (.imul, 1) := by decide +kernel
theorem dX1_gainOverOrders_58 : decode cX1_gainOverOrders 58 = .ok (.istore 5, 2) := by decide +kernel
theorem dX1_gainOverOrders_60 : decode cX1_gainOverOrders 60 = .ok (.iload_n 2, 1) := by decide +kernel
theorem dX1_gainOverOrders_61 : decode cX1_gainOverOrders 61 = .ok (.iload 5, 2) := by decide +kernel
theorem dX1_gainOverOrders_63 : decode cX1_gainOverOrders 63 = .ok (.aload_n 0, 1) := by decide +kernel
theorem dX1_gainOverOrders_64 : decode cX1_gainOverOrders 64 = .ok (.iload_n 3, 1) := by decide +kernel
theorem dX1_gainOverOrders_65 : decode cX1_gainOverOrders 65 = .ok (.iconst 1, 1) := by decide +kernel
theorem dX1_gainOverOrders_66 : decode cX1_gainOverOrders 66 = .ok (.iload_n 1, 1) := by decide +kernel
theorem dX1_gainOverOrders_67 : decode cX1_gainOverOrders 67 = .ok (.ishl, 1) := by decide +kernel
theorem dX1_gainOverOrders_68 : decode cX1_gainOverOrders 68 = .ok (.ior, 1) := by decide +kernel
theorem dX1_gainOverOrders_69 : decode cX1_gainOverOrders 69 = .ok (.invokevirtual 65, 3) := by decide +kernel
theorem dX1_gainOverOrders_72 : decode cX1_gainOverOrders 72 = .ok (.aload_n 0, 1) := by decide +kernel
theorem dX1_gainOverOrders_73 : decode cX1_gainOverOrders 73 = .ok (.iload_n 3, 1) := by decide +kernel
theorem dX1_gainOverOrders_74 : decode cX1_gainOverOrders 74 = .ok (.invokevirtual 65, 3) := by decide +kernel
theorem dX1_gainOverOrders_77 : decode cX1_gainOverOrders 77 = .ok (.isub, 1) := by decide +kernel
theorem dX1_gainOverOrders_78 : decode cX1_gainOverOrders 78 = .ok (.imul, 1) := by decide +kernel
theorem dX1_gainOverOrders_79 : decode cX1_gainOverOrders 79 = .ok (.iadd, 1) := by decide +kernel
theorem dX1_gainOverOrders_80 : decode cX1_gainOverOrders 80 = .ok (.istore_n 2, 1) := by decide +kernel
theorem dX1_gainOverOrders_81 : decode cX1_gainOverOrders 81 = .ok (.iinc 3 1, 3) := by decide +kernel
theorem dX1_gainOverOrders_84 : decode cX1_gainOverOrders 84 = .ok (.goto (-80), 3) := by decide +kernel
theorem dX1_gainOverOrders_87 : decode cX1_gainOverOrders 87 = .ok (.iload_n 2, 1) := by decide +kernel
theorem dX1_gainOverOrders_88 : decode cX1_gainOverOrders 88 = .ok (.ireturn, 1) := by decide +kernel
theorem dX1_thrownWith_0 : decode cX1_thrownWith 0 = .ok (.aload_n 0, 1) := by decide +kernel
theorem dX1_thrownWith_1 : decode cX1_thrownWith 1 = .ok (.invokevirtual 28, 3) := by decide +kernel
theorem dX1_thrownWith_4 : decode cX1_thrownWith 4 = .ok (.iconst 0, 1) := by decide +kernel
theorem dX1_thrownWith_5 : decode cX1_thrownWith 5 = .ok (.istore_n 2, 1) := by decide +kernel
theorem dX1_thrownWith_6 : decode cX1_thrownWith 6 = .ok (.iload_n 2, 1) := by decide +kernel
theorem dX1_thrownWith_7 : decode cX1_thrownWith 7 = .ok (.aload_n 0, 1) := by decide +kernel
theorem dX1_thrownWith_8 : decode cX1_thrownWith 8 = .ok (.getfield 19, 3) := by decide +kernel
theorem dX1_thrownWith_11 : decode cX1_thrownWith 11 = .ok (.getfield 68, 3) := by decide +kernel
theorem dX1_thrownWith_14 : decode cX1_thrownWith 14 = .ok (.arraylength, 1) := by decide +kernel
theorem dX1_thrownWith_15 : decode cX1_thrownWith 15 = .ok (.if_icmp .ge 28, 3) := by decide +kernel
theorem dX1_thrownWith_18 : decode cX1_thrownWith 18 = .ok (.iload_n 1, 1) := by decide +kernel
theorem dX1_thrownWith_19 : decode cX1_thrownWith 19 = .ok (.iload_n 2, 1) := by decide +kernel
theorem dX1_thrownWith_20 : decode cX1_thrownWith 20 = .ok (.ishr, 1) := by decide +kernel
theorem dX1_thrownWith_21 : decode cX1_thrownWith 21 = .ok (.iconst 1, 1) := by decide +kernel
theorem dX1_thrownWith_22 : decode cX1_thrownWith 22 = .ok (.iand, 1) := by decide +kernel
theorem dX1_thrownWith_23 : decode cX1_thrownWith 23 = .ok (.ifCond .ne 14, 3) := by decide +kernel
theorem dX1_thrownWith_26 : decode cX1_thrownWith 26 = .ok (.aload_n 0, 1) := by decide +kernel
theorem dX1_thrownWith_27 : decode cX1_thrownWith 27 = .ok (.getfield 19, 3) := by decide +kernel
theorem dX1_thrownWith_30 : decode cX1_thrownWith 30 = .ok (.getfield 68, 3) := by decide +kernel
theorem dX1_thrownWith_33 : decode cX1_thrownWith 33 = .ok (.iload_n 2, 1) := by decide +kernel
theorem dX1_thrownWith_34 : decode cX1_thrownWith 34 = .ok (.bipush 10, 2) := by decide +kernel
theorem dX1_thrownWith_36 : decode cX1_thrownWith 36 = .ok (.iastore, 1) := by decide +kernel
theorem dX1_thrownWith_37 : decode cX1_thrownWith 37 = .ok (.iinc 2 1, 3) := by decide +kernel
theorem dX1_thrownWith_40 : decode cX1_thrownWith 40 = .ok (.goto (-34), 3) := by decide +kernel
theorem dX1_thrownWith_43 : decode cX1_thrownWith 43 = .ok (.aload_n 0, 1) := by decide +kernel
theorem dX1_thrownWith_44 : decode cX1_thrownWith 44 = .ok (.getfield 19, 3) := by decide +kernel
theorem dX1_thrownWith_47 : decode cX1_thrownWith 47 = .ok (.bipush 12, 2) := by decide +kernel
theorem dX1_thrownWith_49 : decode cX1_thrownWith 49 = .ok (.invokevirtual 31, 3) := by decide +kernel
theorem dX1_thrownWith_52 : decode cX1_thrownWith 52 = .ok (.ireturn, 1) := by decide +kernel
theorem dX1_settledPairs_0 : decode cX1_settledPairs 0 = .ok (.aload_n 0, 1) := by decide +kernel
theorem dX1_settledPairs_1 : decode cX1_settledPairs 1 = .ok (.iload_n 1, 1) := by decide +kernel
theorem dX1_settledPairs_2 : decode cX1_settledPairs 2 = .ok (.iload_n 2, 1) := by decide +kernel
theorem dX1_settledPairs_3 : decode cX1_settledPairs 3 = .ok (.iconst 0, 1) := by decide +kernel
theorem dX1_settledPairs_4 : decode cX1_settledPairs 4 = .ok (.invokevirtual 72, 3) := by decide +kernel
theorem dX1_settledPairs_7 : decode cX1_settledPairs 7 = .ok (.istore_n 3, 1) := by decide +kernel
theorem dX1_settledPairs_8 : decode cX1_settledPairs 8 = .ok (.aload_n 0, 1) := by decide +kernel
theorem dX1_settledPairs_9 : decode cX1_settledPairs 9 = .ok (.iload_n 1, 1) := by decide +kernel
theorem dX1_settledPairs_10 : decode cX1_settledPairs 10 = .ok (.iload_n 2, 1) := by decide +kernel
theorem dX1_settledPairs_11 : decode cX1_settledPairs 11 = .ok (.iconst 1, 1) := by decide +kernel
theorem dX1_settledPairs_12 : decode cX1_settledPairs 12 = .ok (.invokevirtual 72, 3) := by decide +kernel
theorem dX1_settledPairs_15 : decode cX1_settledPairs 15 = .ok (.istore 4, 2) := by decide +kernel
theorem dX1_settledPairs_17 : decode cX1_settledPairs 17 = .ok (.aload_n 0, 1) := by decide +kernel
theorem dX1_settledPairs_18 : decode cX1_settledPairs 18 = .ok (.iload_n 1, 1) := by decide +kernel
theorem dX1_settledPairs_19 : decode cX1_settledPairs 19 = .ok (.iload_n 2, 1) := by decide +kernel
theorem dX1_settledPairs_20 : decode cX1_settledPairs 20 = .ok (.iconst 2, 1) := by decide +kernel
theorem dX1_settledPairs_21 : decode cX1_settledPairs 21 = .ok (.invokevirtual 72, 3) := by decide +kernel
theorem dX1_settledPairs_24 : decode cX1_settledPairs 24 = .ok (.istore 5, 2) := by decide +kernel
theorem dX1_settledPairs_26 : decode cX1_settledPairs 26 = .ok (.aload_n 0, 1) := by decide +kernel
theorem dX1_settledPairs_27 : decode cX1_settledPairs 27 = .ok (.iload_n 1, 1) := by decide +kernel
theorem dX1_settledPairs_28 : decode cX1_settledPairs 28 = .ok (.iload_n 2, 1) := by decide +kernel
theorem dX1_settledPairs_29 : decode cX1_settledPairs 29 = .ok (.iconst 3, 1) := by decide +kernel
theorem dX1_settledPairs_30 : decode cX1_settledPairs 30 = .ok (.invokevirtual 72, 3) := by decide +kernel
theorem dX1_settledPairs_33 : decode cX1_settledPairs 33 = .ok (.istore 6, 2) := by decide +kernel
theorem dX1_settledPairs_35 : decode cX1_settledPairs 35 = .ok (.iconst 0, 1) := by decide +kernel
theorem dX1_settledPairs_36 : decode cX1_settledPairs 36 = .ok (.istore 7, 2) := by decide +kernel
theorem dX1_settledPairs_38 : decode cX1_settledPairs 38 = .ok (.iload 7, 2) := by decide +kernel
theorem dX1_settledPairs_40 : decode cX1_settledPairs 40 = .ok (.iload_n 3, 1) := by decide +kernel
theorem dX1_settledPairs_41 : decode cX1_settledPairs 41 = .ok (.iload 5, 2) := by decide +kernel
theorem dX1_settledPairs_43 : decode cX1_settledPairs 43 = .ok (.bipush 6, 2) := by decide +kernel
theorem dX1_settledPairs_45 : decode cX1_settledPairs 45 = .ok (.isub, 1) := by decide +kernel
theorem dX1_settledPairs_46 : decode cX1_settledPairs 46 = .ok (.if_icmp .lt 16, 3) := by decide +kernel
theorem dX1_settledPairs_49 : decode cX1_settledPairs 49 = .ok (.iload_n 3, 1) := by decide +kernel
theorem dX1_settledPairs_50 : decode cX1_settledPairs 50 = .ok (.iload 4, 2) := by decide +kernel
theorem dX1_settledPairs_52 : decode cX1_settledPairs 52 = .ok (.bipush 6, 2) := by decide +kernel
theorem dX1_settledPairs_54 : decode cX1_settledPairs 54 = .ok (.isub, 1) := by decide +kernel
theorem dX1_settledPairs_55 : decode cX1_settledPairs 55 = .ok (.if_icmp .lt 7, 3) := by decide +kernel
theorem dX1_settledPairs_58 : decode cX1_settledPairs 58 = .ok (.iconst 1, 1) := by decide +kernel
theorem dX1_settledPairs_59 : decode cX1_settledPairs 59 = .ok (.goto 4, 3) := by decide +kernel
theorem dX1_settledPairs_62 : decode cX1_settledPairs 62 = .ok (.iconst 0, 1) := by decide +kernel
theorem dX1_settledPairs_63 : decode cX1_settledPairs 63 = .ok (.ior, 1) := by decide +kernel
theorem dX1_settledPairs_64 : decode cX1_settledPairs 64 = .ok (.istore 7, 2) := by decide +kernel
theorem dX1_settledPairs_66 : decode cX1_settledPairs 66 = .ok (.iload 7, 2) := by decide +kernel
theorem dX1_settledPairs_68 : decode cX1_settledPairs 68 = .ok (.iload 4, 2) := by decide +kernel
theorem dX1_settledPairs_70 : decode cX1_settledPairs 70 = .ok (.iload 6, 2) := by decide +kernel
theorem dX1_settledPairs_72 : decode cX1_settledPairs 72 = .ok (.bipush 6, 2) := by decide +kernel
theorem dX1_settledPairs_74 : decode cX1_settledPairs 74 = .ok (.isub, 1) := by decide +kernel
theorem dX1_settledPairs_75 : decode cX1_settledPairs 75 = .ok (.if_icmp .lt 16, 3) := by decide +kernel
theorem dX1_settledPairs_78 : decode cX1_settledPairs 78 = .ok (.iload 4, 2) := by decide +kernel
theorem dX1_settledPairs_80 : decode cX1_settledPairs 80 = .ok (.bipush 6, 2) := by decide +kernel
theorem dX1_settledPairs_82 : decode cX1_settledPairs 82 = .ok (.isub, 1) := by decide +kernel
theorem dX1_settledPairs_83 : decode cX1_settledPairs 83 = .ok (.iload_n 3, 1) := by decide +kernel
theorem dX1_settledPairs_84 : decode cX1_settledPairs 84 = .ok (.if_icmp .lt 7, 3) := by decide +kernel
theorem dX1_settledPairs_87 : decode cX1_settledPairs 87 = .ok (.iconst 2, 1) := by decide +kernel
theorem dX1_settledPairs_88 : decode cX1_settledPairs 88 = .ok (.goto 4, 3) := by decide +kernel
theorem dX1_settledPairs_91 : decode cX1_settledPairs 91 = .ok (.iconst 0, 1) := by decide +kernel
theorem dX1_settledPairs_92 : decode cX1_settledPairs 92 = .ok (.ior, 1) := by decide +kernel
theorem dX1_settledPairs_93 : decode cX1_settledPairs 93 = .ok (.istore 7, 2) := by decide +kernel
theorem dX1_settledPairs_95 : decode cX1_settledPairs 95 = .ok (.iload 7, 2) := by decide +kernel
theorem dX1_settledPairs_97 : decode cX1_settledPairs 97 = .ok (.iload 5, 2) := by decide +kernel
theorem dX1_settledPairs_99 : decode cX1_settledPairs 99 = .ok (.bipush 6, 2) := by decide +kernel
theorem dX1_settledPairs_101 : decode cX1_settledPairs 101 = .ok (.isub, 1) := by decide +kernel
theorem dX1_settledPairs_102 : decode cX1_settledPairs 102 = .ok (.iload_n 3, 1) := by decide +kernel
theorem dX1_settledPairs_103 : decode cX1_settledPairs 103 = .ok (.if_icmp .lt 17, 3) := by decide +kernel
theorem dX1_settledPairs_106 : decode cX1_settledPairs 106 = .ok (.iload 5, 2) := by decide +kernel
theorem dX1_settledPairs_108 : decode cX1_settledPairs 108 = .ok (.iload 6, 2) := by decide +kernel
theorem dX1_settledPairs_110 : decode cX1_settledPairs 110 = .ok (.bipush 6, 2) := by decide +kernel
theorem dX1_settledPairs_112 : decode cX1_settledPairs 112 = .ok (.isub, 1) := by decide +kernel
theorem dX1_settledPairs_113 : decode cX1_settledPairs 113 = .ok (.if_icmp .lt 7, 3) := by decide +kernel
theorem dX1_settledPairs_116 : decode cX1_settledPairs 116 = .ok (.iconst 4, 1) := by decide +kernel
theorem dX1_settledPairs_117 : decode cX1_settledPairs 117 = .ok (.goto 4, 3) := by decide +kernel
theorem dX1_settledPairs_120 : decode cX1_settledPairs 120 = .ok (.iconst 0, 1) := by decide +kernel
theorem dX1_settledPairs_121 : decode cX1_settledPairs 121 = .ok (.ior, 1) := by decide +kernel
theorem dX1_settledPairs_122 : decode cX1_settledPairs 122 = .ok (.istore 7, 2) := by decide +kernel
theorem dX1_settledPairs_124 : decode cX1_settledPairs 124 = .ok (.iload 7, 2) := by decide +kernel
theorem dX1_settledPairs_126 : decode cX1_settledPairs 126 = .ok (.iload 6, 2) := by decide +kernel
theorem dX1_settledPairs_128 : decode cX1_settledPairs 128 = .ok (.bipush 6, 2) := by decide +kernel
theorem dX1_settledPairs_130 : decode cX1_settledPairs 130 = .ok (.isub, 1) := by decide +kernel
theorem dX1_settledPairs_131 : decode cX1_settledPairs 131 = .ok (.iload 4, 2) := by decide +kernel
theorem dX1_settledPairs_133 : decode cX1_settledPairs 133 = .ok (.if_icmp .lt 18, 3) := by decide +kernel
theorem dX1_settledPairs_136 : decode cX1_settledPairs 136 = .ok (.iload 6, 2) := by decide +kernel
theorem dX1_settledPairs_138 : decode cX1_settledPairs 138 = .ok (.bipush 6, 2) := by decide +kernel
theorem dX1_settledPairs_140 : decode cX1_settledPairs 140 = .ok (.isub, 1) := by decide +kernel
theorem dX1_settledPairs_141 : decode cX1_settledPairs 141 = .ok (.iload 5, 2) := by decide +kernel
theorem dX1_settledPairs_143 : decode cX1_settledPairs 143 = .ok (.if_icmp .lt 8, 3) := by decide +kernel
theorem dX1_settledPairs_146 : decode cX1_settledPairs 146 = .ok (.bipush 8, 2) := by decide +kernel
theorem dX1_settledPairs_148 : decode cX1_settledPairs 148 = .ok (.goto 4, 3) := by decide +kernel
theorem dX1_settledPairs_151 : decode cX1_settledPairs 151 = .ok (.iconst 0, 1) := by decide +kernel
theorem dX1_settledPairs_152 : decode cX1_settledPairs 152 = .ok (.ior, 1) := by decide +kernel
theorem dX1_settledPairs_153 : decode cX1_settledPairs 153 = .ok (.istore 7, 2) := by decide +kernel
theorem dX1_settledPairs_155 : decode cX1_settledPairs 155 = .ok (.iload 7, 2) := by decide +kernel
theorem dX1_settledPairs_157 : decode cX1_settledPairs 157 = .ok (.ireturn, 1) := by decide +kernel
theorem dX1_thrownWhen_0 : decode cX1_thrownWhen 0 = .ok (.aload_n 0, 1) := by decide +kernel
theorem dX1_thrownWhen_1 : decode cX1_thrownWhen 1 = .ok (.invokevirtual 28, 3) := by decide +kernel
theorem dX1_thrownWhen_4 : decode cX1_thrownWhen 4 = .ok (.aload_n 0, 1) := by decide +kernel
theorem dX1_thrownWhen_5 : decode cX1_thrownWhen 5 = .ok (.getfield 19, 3) := by decide +kernel
theorem dX1_thrownWhen_8 : decode cX1_thrownWhen 8 = .ok (.iload_n 3, 1) := by decide +kernel
theorem dX1_thrownWhen_9 : decode cX1_thrownWhen 9 = .ok (.iconst 1, 1) := by decide +kernel
theorem dX1_thrownWhen_10 : decode cX1_thrownWhen 10 = .ok (.ishr, 1) := by decide +kernel
theorem dX1_thrownWhen_11 : decode cX1_thrownWhen 11 = .ok (.iconst 1, 1) := by decide +kernel
theorem dX1_thrownWhen_12 : decode cX1_thrownWhen 12 = .ok (.iand, 1) := by decide +kernel
theorem dX1_thrownWhen_13 : decode cX1_thrownWhen 13 = .ok (.ifCond .ne 9, 3) := by decide +kernel
theorem dX1_thrownWhen_16 : decode cX1_thrownWhen 16 = .ok (.iconst 1, 1) := by decide +kernel
theorem dX1_thrownWhen_17 : decode cX1_thrownWhen 17 = .ok (.iload_n 1, 1) := by decide +kernel
theorem dX1_thrownWhen_18 : decode cX1_thrownWhen 18 = .ok (.ishl, 1) := by decide +kernel
theorem dX1_thrownWhen_19 : decode cX1_thrownWhen 19 = .ok (.goto 4, 3) := by decide +kernel
theorem dX1_thrownWhen_22 : decode cX1_thrownWhen 22 = .ok (.iconst 0, 1) := by decide +kernel
theorem dX1_thrownWhen_23 : decode cX1_thrownWhen 23 = .ok (.iload_n 3, 1) := by decide +kernel
theorem dX1_thrownWhen_24 : decode cX1_thrownWhen 24 = .ok (.iconst 1, 1) := by decide +kernel
theorem dX1_thrownWhen_25 : decode cX1_thrownWhen 25 = .ok (.iand, 1) := by decide +kernel
theorem dX1_thrownWhen_26 : decode cX1_thrownWhen 26 = .ok (.ifCond .ne 9, 3) := by decide +kernel
theorem dX1_thrownWhen_29 : decode cX1_thrownWhen 29 = .ok (.iconst 1, 1) := by decide +kernel
theorem dX1_thrownWhen_30 : decode cX1_thrownWhen 30 = .ok (.iload_n 2, 1) := by decide +kernel
theorem dX1_thrownWhen_31 : decode cX1_thrownWhen 31 = .ok (.ishl, 1) := by decide +kernel
theorem dX1_thrownWhen_32 : decode cX1_thrownWhen 32 = .ok (.goto 4, 3) := by decide +kernel
theorem dX1_thrownWhen_35 : decode cX1_thrownWhen 35 = .ok (.iconst 0, 1) := by decide +kernel
theorem dX1_thrownWhen_36 : decode cX1_thrownWhen 36 = .ok (.ior, 1) := by decide +kernel
theorem dX1_thrownWhen_37 : decode cX1_thrownWhen 37 = .ok (.putfield 76, 3) := by decide +kernel
theorem dX1_thrownWhen_40 : decode cX1_thrownWhen 40 = .ok (.aload_n 0, 1) := by decide +kernel
theorem dX1_thrownWhen_41 : decode cX1_thrownWhen 41 = .ok (.getfield 19, 3) := by decide +kernel
theorem dX1_thrownWhen_44 : decode cX1_thrownWhen 44 = .ok (.bipush 8, 2) := by decide +kernel
theorem dX1_thrownWhen_46 : decode cX1_thrownWhen 46 = .ok (.invokevirtual 31, 3) := by decide +kernel
theorem dX1_thrownWhen_49 : decode cX1_thrownWhen 49 = .ok (.ireturn, 1) := by decide +kernel
theorem dX1_chanceOfThrowing_0 : decode cX1_chanceOfThrowing 0 = .ok (.iconst 0, 1) := by decide +kernel
theorem dX1_chanceOfThrowing_1 : decode cX1_chanceOfThrowing 1 = .ok (.istore_n 3, 1) := by decide +kernel
theorem dX1_chanceOfThrowing_2 : decode cX1_chanceOfThrowing 2 = .ok (.iconst 0, 1) := by decide +kernel
theorem dX1_chanceOfThrowing_3 : decode cX1_chanceOfThrowing 3 = .ok (.istore 4, 2) := by decide +kernel
theorem dX1_chanceOfThrowing_5 : decode cX1_chanceOfThrowing 5 = .ok (.iload 4, 2) := by decide +kernel
theorem dX1_chanceOfThrowing_7 : decode cX1_chanceOfThrowing 7 = .ok (.bipush 16, 2) := by decide +kernel
theorem dX1_chanceOfThrowing_9 : decode cX1_chanceOfThrowing 9 = .ok (.if_icmp .ge 38, 3) := by decide +kernel
theorem dX1_chanceOfThrowing_12 : decode cX1_chanceOfThrowing 12 = .ok (.aload_n 0, 1) := by decide +kernel
theorem dX1_chanceOfThrowing_13 : decode cX1_chanceOfThrowing 13 = .ok (.iload 4, 2) := by decide +kernel
theorem dX1_chanceOfThrowing_15 : decode cX1_chanceOfThrowing 15 = .ok (.iload_n 2, 1) := by decide +kernel
theorem dX1_chanceOfThrowing_16 : decode cX1_chanceOfThrowing 16 = .ok (.invokevirtual 79, 3) := by decide +kernel
theorem dX1_chanceOfThrowing_19 : decode cX1_chanceOfThrowing 19 = .ok (.istore 5, 2) := by decide +kernel
theorem dX1_chanceOfThrowing_21 : decode cX1_chanceOfThrowing 21 = .ok (.iload 5, 2) := by decide +kernel
theorem dX1_chanceOfThrowing_23 : decode cX1_chanceOfThrowing 23 = .ok (.ifCond .le 18, 3) := by decide +kernel
theorem dX1_chanceOfThrowing_26 : decode cX1_chanceOfThrowing 26 = .ok (.aload_n 0, 1) := by decide +kernel
theorem dX1_chanceOfThrowing_27 : decode cX1_chanceOfThrowing 27 = .ok (.iload 4, 2) := by decide +kernel
theorem dX1_chanceOfThrowing_29 : decode cX1_chanceOfThrowing 29 = .ok (.invokevirtual 83, 3) := by decide +kernel
theorem dX1_chanceOfThrowing_32 : decode cX1_chanceOfThrowing 32 = .ok (.iload_n 1, 1) := by decide +kernel
theorem dX1_chanceOfThrowing_33 : decode cX1_chanceOfThrowing 33 = .ok (.if_icmp .lt 8, 3) := by decide +kernel
theorem dX1_chanceOfThrowing_36 : decode cX1_chanceOfThrowing 36 = .ok (.iload_n 3, 1) := by decide +kernel
theorem dX1_chanceOfThrowing_37 : decode cX1_chanceOfThrowing 37 = .ok (.iload 5, 2) := by decide +kernel
theorem dX1_chanceOfThrowing_39 : decode cX1_chanceOfThrowing 39 = .ok (.iadd, 1) := by decide +kernel
theorem dX1_chanceOfThrowing_40 : decode cX1_chanceOfThrowing 40 = .ok (.istore_n 3, 1) := by decide +kernel
theorem dX1_chanceOfThrowing_41 : decode cX1_chanceOfThrowing 41 = .ok (.iinc 4 1, 3) := by decide +kernel
theorem dX1_chanceOfThrowing_44 : decode cX1_chanceOfThrowing 44 = .ok (.goto (-39), 3) := by decide +kernel
theorem dX1_chanceOfThrowing_47 : decode cX1_chanceOfThrowing 47 = .ok (.iload_n 3, 1) := by decide +kernel
theorem dX1_chanceOfThrowing_48 : decode cX1_chanceOfThrowing 48 = .ok (.ireturn, 1) := by decide +kernel
theorem dX1_weightOfFalling_0 : decode cX1_weightOfFalling 0 = .ok (.iconst 1, 1) := by decide +kernel
theorem dX1_weightOfFalling_1 : decode cX1_weightOfFalling 1 = .ok (.istore_n 3, 1) := by decide +kernel
theorem dX1_weightOfFalling_2 : decode cX1_weightOfFalling 2 = .ok (.iconst 0, 1) := by decide +kernel
theorem dX1_weightOfFalling_3 : decode cX1_weightOfFalling 3 = .ok (.istore 4, 2) := by decide +kernel
theorem dX1_weightOfFalling_5 : decode cX1_weightOfFalling 5 = .ok (.iload 4, 2) := by decide +kernel
theorem dX1_weightOfFalling_7 : decode cX1_weightOfFalling 7 = .ok (.iconst 4, 1) := by decide +kernel
theorem dX1_weightOfFalling_8 : decode cX1_weightOfFalling 8 = .ok (.if_icmp .ge 64, 3) := by decide +kernel
theorem dX1_weightOfFalling_11 : decode cX1_weightOfFalling 11 = .ok (.iload_n 1, 1) := by decide +kernel
theorem dX1_weightOfFalling_12 : decode cX1_weightOfFalling 12 = .ok (.iload 4, 2) := by decide +kernel
theorem dX1_weightOfFalling_14 : decode cX1_weightOfFalling 14 = .ok (.ishr, 1) := by decide +kernel
theorem dX1_weightOfFalling_15 : decode cX1_weightOfFalling 15 = .ok (.iconst 1, 1) := by decide +kernel
theorem dX1_weightOfFalling_16 : decode cX1_weightOfFalling 16 = .ok (.iand, 1) := by decide +kernel
theorem dX1_weightOfFalling_17 : decode cX1_weightOfFalling 17 = .ok (.iconst 1, 1) := by decide +kernel
theorem dX1_weightOfFalling_18 : decode cX1_weightOfFalling 18 = .ok (.if_icmp .ne 7, 3) := by decide +kernel
theorem dX1_weightOfFalling_21 : decode cX1_weightOfFalling 21 = .ok (.iconst 1, 1) := by decide +kernel
theorem dX1_weightOfFalling_22 : decode cX1_weightOfFalling 22 = .ok (.goto 4, 3) := by decide +kernel
theorem dX1_weightOfFalling_25 : decode cX1_weightOfFalling 25 = .ok (.iconst 0, 1) := by decide +kernel
theorem dX1_weightOfFalling_26 : decode cX1_weightOfFalling 26 = .ok (.istore 5, 2) := by decide +kernel
theorem dX1_weightOfFalling_28 : decode cX1_weightOfFalling 28 = .ok (.aload_n 0, 1) := by decide +kernel
theorem dX1_weightOfFalling_29 : decode cX1_weightOfFalling 29 = .ok (.getfield 15, 3) := by decide +kernel
theorem dX1_weightOfFalling_32 : decode cX1_weightOfFalling 32 = .ok (.iload 4, 2) := by decide +kernel
theorem dX1_weightOfFalling_34 : decode cX1_weightOfFalling 34 = .ok (.invokevirtual 86, 3) := by decide +kernel
theorem dX1_weightOfFalling_37 : decode cX1_weightOfFalling 37 = .ok (.ifCond .eq 22, 3) := by decide +kernel
theorem dX1_weightOfFalling_40 : decode cX1_weightOfFalling 40 = .ok (.iload_n 3, 1) := by decide +kernel
theorem dX1_weightOfFalling_41 : decode cX1_weightOfFalling 41 = .ok (.iload 5, 2) := by decide +kernel
theorem dX1_weightOfFalling_43 : decode cX1_weightOfFalling 43 = .ok (.ifCond .eq 7, 3) := by decide +kernel
theorem dX1_weightOfFalling_46 : decode cX1_weightOfFalling 46 = .ok (.iload_n 2, 1) := by decide +kernel
theorem dX1_weightOfFalling_47 : decode cX1_weightOfFalling 47 = .ok (.goto 7, 3) := by decide +kernel
theorem dX1_weightOfFalling_50 : decode cX1_weightOfFalling 50 = .ok (.bipush 10, 2) := by decide +kernel
theorem dX1_weightOfFalling_52 : decode cX1_weightOfFalling 52 = .ok (.iload_n 2, 1) := by decide +kernel
theorem dX1_weightOfFalling_53 : decode cX1_weightOfFalling 53 = .ok (.isub, 1) := by decide +kernel
theorem dX1_weightOfFalling_54 : decode cX1_weightOfFalling 54 = .ok (.imul, 1) := by decide +kernel
theorem dX1_weightOfFalling_55 : decode cX1_weightOfFalling 55 = .ok (.istore_n 3, 1) := by decide +kernel
theorem dX1_weightOfFalling_56 : decode cX1_weightOfFalling 56 = .ok (.goto 10, 3) := by decide +kernel
theorem dX1_weightOfFalling_59 : decode cX1_weightOfFalling 59 = .ok (.iload 5, 2) := by decide +kernel
theorem dX1_weightOfFalling_61 : decode cX1_weightOfFalling 61 = .ok (.ifCond .eq 5, 3) := by decide +kernel
theorem dX1_weightOfFalling_64 : decode cX1_weightOfFalling 64 = .ok (.iconst 0, 1) := by decide +kernel
theorem dX1_weightOfFalling_65 : decode cX1_weightOfFalling 65 = .ok (.istore_n 3, 1) := by decide +kernel
theorem dX1_weightOfFalling_66 : decode cX1_weightOfFalling 66 = .ok (.iinc 4 1, 3) := by decide +kernel
theorem dX1_weightOfFalling_69 : decode cX1_weightOfFalling 69 = .ok (.goto (-64), 3) := by decide +kernel
theorem dX1_weightOfFalling_72 : decode cX1_weightOfFalling 72 = .ok (.iload_n 3, 1) := by decide +kernel
theorem dX1_weightOfFalling_73 : decode cX1_weightOfFalling 73 = .ok (.ireturn, 1) := by decide +kernel
theorem dX1_thrownWithout_0 : decode cX1_thrownWithout 0 = .ok (.aload_n 0, 1) := by decide +kernel
theorem dX1_thrownWithout_1 : decode cX1_thrownWithout 1 = .ok (.invokevirtual 28, 3) := by decide +kernel
theorem dX1_thrownWithout_4 : decode cX1_thrownWithout 4 = .ok (.iconst 0, 1) := by decide +kernel
theorem dX1_thrownWithout_5 : decode cX1_thrownWithout 5 = .ok (.istore_n 2, 1) := by decide +kernel
theorem dX1_thrownWithout_6 : decode cX1_thrownWithout 6 = .ok (.iload_n 2, 1) := by decide +kernel
theorem dX1_thrownWithout_7 : decode cX1_thrownWithout 7 = .ok (.iconst 4, 1) := by decide +kernel
theorem dX1_thrownWithout_8 : decode cX1_thrownWithout 8 = .ok (.if_icmp .ge 26, 3) := by decide +kernel
theorem dX1_thrownWithout_11 : decode cX1_thrownWithout 11 = .ok (.iload_n 1, 1) := by decide +kernel
theorem dX1_thrownWithout_12 : decode cX1_thrownWithout 12 = .ok (.iload_n 2, 1) := by decide +kernel
theorem dX1_thrownWithout_13 : decode cX1_thrownWithout 13 = .ok (.ishr, 1) := by decide +kernel
theorem dX1_thrownWithout_14 : decode cX1_thrownWithout 14 = .ok (.iconst 1, 1) := by decide +kernel
theorem dX1_thrownWithout_15 : decode cX1_thrownWithout 15 = .ok (.iand, 1) := by decide +kernel
theorem dX1_thrownWithout_16 : decode cX1_thrownWithout 16 = .ok (.iconst 1, 1) := by decide +kernel
theorem dX1_thrownWithout_17 : decode cX1_thrownWithout 17 = .ok (.if_icmp .ne 11, 3) := by decide +kernel
theorem dX1_thrownWithout_20 : decode cX1_thrownWithout 20 = .ok (.aload_n 0, 1) := by decide +kernel
theorem dX1_thrownWithout_21 : decode cX1_thrownWithout 21 = .ok (.getfield 19, 3) := by decide +kernel
theorem dX1_thrownWithout_24 : decode cX1_thrownWithout 24 = .ok (.iload_n 2, 1) := by decide +kernel
theorem dX1_thrownWithout_25 : decode cX1_thrownWithout 25 = .ok (.invokevirtual 90, 3) := by decide +kernel
theorem dX1_thrownWithout_28 : decode cX1_thrownWithout 28 = .ok (.iinc 2 1, 3) := by decide +kernel
theorem dX1_thrownWithout_31 : decode cX1_thrownWithout 31 = .ok (.goto (-25), 3) := by decide +kernel
theorem dX1_thrownWithout_34 : decode cX1_thrownWithout 34 = .ok (.aload_n 0, 1) := by decide +kernel
theorem dX1_thrownWithout_35 : decode cX1_thrownWithout 35 = .ok (.getfield 19, 3) := by decide +kernel
theorem dX1_thrownWithout_38 : decode cX1_thrownWithout 38 = .ok (.bipush 10, 2) := by decide +kernel
theorem dX1_thrownWithout_40 : decode cX1_thrownWithout 40 = .ok (.invokevirtual 31, 3) := by decide +kernel
theorem dX1_thrownWithout_43 : decode cX1_thrownWithout 43 = .ok (.ireturn, 1) := by decide +kernel
theorem dX1_fireBehindChance_0 : decode cX1_fireBehindChance 0 = .ok (.iload_n 1, 1) := by decide +kernel
theorem dX1_fireBehindChance_1 : decode cX1_fireBehindChance 1 = .ok (.iconst 4, 1) := by decide +kernel
theorem dX1_fireBehindChance_2 : decode cX1_fireBehindChance 2 = .ok (.if_icmp .ge 19, 3) := by decide +kernel
theorem dX1_fireBehindChance_5 : decode cX1_fireBehindChance 5 = .ok (.aload_n 0, 1) := by decide +kernel
theorem dX1_fireBehindChance_6 : decode cX1_fireBehindChance 6 = .ok (.getfield 19, 3) := by decide +kernel
theorem dX1_fireBehindChance_9 : decode cX1_fireBehindChance 9 = .ok (.iconst 1, 1) := by decide +kernel
theorem dX1_fireBehindChance_10 : decode cX1_fireBehindChance 10 = .ok (.iload_n 1, 1) := by decide +kernel
theorem dX1_fireBehindChance_11 : decode cX1_fireBehindChance 11 = .ok (.iload_n 1, 1) := by decide +kernel
theorem dX1_fireBehindChance_12 : decode cX1_fireBehindChance 12 = .ok (.iconst 1, 1) := by decide +kernel
theorem dX1_fireBehindChance_13 : decode cX1_fireBehindChance 13 = .ok (.iadd, 1) := by decide +kernel
theorem dX1_fireBehindChance_14 : decode cX1_fireBehindChance 14 = .ok (.invokevirtual 48, 3) := by decide +kernel
theorem dX1_fireBehindChance_17 : decode cX1_fireBehindChance 17 = .ok (.pop, 1) := by decide +kernel
theorem dX1_fireBehindChance_18 : decode cX1_fireBehindChance 18 = .ok (.goto 59, 3) := by decide +kernel
theorem dX1_fireBehindChance_21 : decode cX1_fireBehindChance 21 = .ok (.iload_n 1, 1) := by decide +kernel
theorem dX1_fireBehindChance_22 : decode cX1_fireBehindChance 22 = .ok (.bipush 8, 2) := by decide +kernel
theorem dX1_fireBehindChance_24 : decode cX1_fireBehindChance 24 = .ok (.if_icmp .ge 19, 3) := by decide +kernel
theorem dX1_fireBehindChance_27 : decode cX1_fireBehindChance 27 = .ok (.aload_n 0, 1) := by decide +kernel
theorem dX1_fireBehindChance_28 : decode cX1_fireBehindChance 28 = .ok (.getfield 19, 3) := by decide +kernel
theorem dX1_fireBehindChance_31 : decode cX1_fireBehindChance 31 = .ok (.iconst 3, 1) := by decide +kernel
theorem dX1_fireBehindChance_32 : decode cX1_fireBehindChance 32 = .ok (.iconst 0, 1) := by decide +kernel
theorem dX1_fireBehindChance_33 : decode cX1_fireBehindChance 33 = .ok (.iload_n 1, 1) := by decide +kernel
theorem dX1_fireBehindChance_34 : decode cX1_fireBehindChance 34 = .ok (.iconst 4, 1) := by decide +kernel
theorem dX1_fireBehindChance_35 : decode cX1_fireBehindChance 35 = .ok (.isub, 1) := by decide +kernel
theorem dX1_fireBehindChance_36 : decode cX1_fireBehindChance 36 = .ok (.invokevirtual 48, 3) := by decide +kernel
theorem dX1_fireBehindChance_39 : decode cX1_fireBehindChance 39 = .ok (.pop, 1) := by decide +kernel
theorem dX1_fireBehindChance_40 : decode cX1_fireBehindChance 40 = .ok (.goto 37, 3) := by decide +kernel
theorem dX1_fireBehindChance_43 : decode cX1_fireBehindChance 43 = .ok (.iload_n 1, 1) := by decide +kernel
theorem dX1_fireBehindChance_44 : decode cX1_fireBehindChance 44 = .ok (.bipush 12, 2) := by decide +kernel
theorem dX1_fireBehindChance_46 : decode cX1_fireBehindChance 46 = .ok (.if_icmp .ge 20, 3) := by decide +kernel
theorem dX1_fireBehindChance_49 : decode cX1_fireBehindChance 49 = .ok (.aload_n 0, 1) := by decide +kernel
theorem dX1_fireBehindChance_50 : decode cX1_fireBehindChance 50 = .ok (.getfield 19, 3) := by decide +kernel
theorem dX1_fireBehindChance_53 : decode cX1_fireBehindChance 53 = .ok (.iconst 2, 1) := by decide +kernel
theorem dX1_fireBehindChance_54 : decode cX1_fireBehindChance 54 = .ok (.iconst 0, 1) := by decide +kernel
theorem dX1_fireBehindChance_55 : decode cX1_fireBehindChance 55 = .ok (.iload_n 1, 1) := by decide +kernel
theorem dX1_fireBehindChance_56 : decode cX1_fireBehindChance 56 = .ok (.bipush 8, 2) := by decide +kernel
theorem dX1_fireBehindChance_58 : decode cX1_fireBehindChance 58 = .ok (.isub, 1) := by decide +kernel
theorem dX1_fireBehindChance_59 : decode cX1_fireBehindChance 59 = .ok (.invokevirtual 48, 3) := by decide +kernel
theorem dX1_fireBehindChance_62 : decode cX1_fireBehindChance 62 = .ok (.pop, 1) := by decide +kernel
theorem dX1_fireBehindChance_63 : decode cX1_fireBehindChance 63 = .ok (.goto 14, 3) := by decide +kernel
theorem dX1_fireBehindChance_66 : decode cX1_fireBehindChance 66 = .ok (.aload_n 0, 1) := by decide +kernel
theorem dX1_fireBehindChance_67 : decode cX1_fireBehindChance 67 = .ok (.getfield 19, 3) := by decide +kernel
theorem dX1_fireBehindChance_70 : decode cX1_fireBehindChance 70 = .ok (.iconst 0, 1) := by decide +kernel
theorem dX1_fireBehindChance_71 : decode cX1_fireBehindChance 71 = .ok (.iconst 0, 1) := by decide +kernel
theorem dX1_fireBehindChance_72 : decode cX1_fireBehindChance 72 = .ok (.iconst 0, 1) := by decide +kernel
theorem dX1_fireBehindChance_73 : decode cX1_fireBehindChance 73 = .ok (.invokevirtual 48, 3) := by decide +kernel
theorem dX1_fireBehindChance_76 : decode cX1_fireBehindChance 76 = .ok (.pop, 1) := by decide +kernel
theorem dX1_fireBehindChance_77 : decode cX1_fireBehindChance 77 = .ok (.aload_n 0, 1) := by decide +kernel
theorem dX1_fireBehindChance_78 : decode cX1_fireBehindChance 78 = .ok (.getfield 19, 3) := by decide +kernel
theorem dX1_fireBehindChance_81 : decode cX1_fireBehindChance 81 = .ok (.getfield 35, 3) := by decide +kernel
theorem dX1_fireBehindChance_84 : decode cX1_fireBehindChance 84 = .ok (.ireturn, 1) := by decide +kernel
theorem dX2_init_0 : decode cX2_init 0 = .ok (.aload_n 0, 1) := by decide +kernel
theorem dX2_init_1 : decode cX2_init 1 = .ok (.invokespecial 3, 3) := by decide +kernel
theorem dX2_init_4 : decode cX2_init 4 = .ok (.aload_n 0, 1) := by decide +kernel
theorem dX2_init_5 : decode cX2_init 5 = .ok (.iconst 5, 1) := by decide +kernel
theorem dX2_init_6 : decode cX2_init 6 = .ok (.newarray .int, 2) := by decide +kernel
theorem dX2_init_8 : decode cX2_init 8 = .ok (.putfield 9, 3) := by decide +kernel
theorem dX2_init_11 : decode cX2_init 11 = .ok (.aload_n 0, 1) := by decide +kernel
theorem dX2_init_12 : decode cX2_init 12 = .ok (.iconst 4, 1) := by decide +kernel
theorem dX2_init_13 : decode cX2_init 13 = .ok (.newarray .int, 2) := by decide +kernel
theorem dX2_init_15 : decode cX2_init 15 = .ok (.putfield 15, 3) := by decide +kernel
theorem dX2_init_18 : decode cX2_init 18 = .ok (.aload_n 0, 1) := by decide +kernel
theorem dX2_init_19 : decode cX2_init 19 = .ok (.iconst 0, 1) := by decide +kernel
theorem dX2_init_20 : decode cX2_init 20 = .ok (.putfield 18, 3) := by decide +kernel
theorem dX2_init_23 : decode cX2_init 23 = .ok (.aload_n 0, 1) := by decide +kernel
theorem dX2_init_24 : decode cX2_init 24 = .ok (.iconst 0, 1) := by decide +kernel
theorem dX2_init_25 : decode cX2_init 25 = .ok (.putfield 22, 3) := by decide +kernel
theorem dX2_init_28 : decode cX2_init 28 = .ok (.aload_n 0, 1) := by decide +kernel
theorem dX2_init_29 : decode cX2_init 29 = .ok (.iconst 0, 1) := by decide +kernel
theorem dX2_init_30 : decode cX2_init 30 = .ok (.putfield 25, 3) := by decide +kernel
theorem dX2_init_33 : decode cX2_init 33 = .ok (.aload_n 0, 1) := by decide +kernel
theorem dX2_init_34 : decode cX2_init 34 = .ok (.iconst 0, 1) := by decide +kernel
theorem dX2_init_35 : decode cX2_init 35 = .ok (.putfield 28, 3) := by decide +kernel
theorem dX2_init_38 : decode cX2_init 38 = .ok (.aload_n 0, 1) := by decide +kernel
theorem dX2_init_39 : decode cX2_init 39 = .ok (.iconst 0, 1) := by decide +kernel
theorem dX2_init_40 : decode cX2_init 40 = .ok (.putfield 31, 3) := by decide +kernel
theorem dX2_init_43 : decode cX2_init 43 = .ok (.aload_n 0, 1) := by decide +kernel
theorem dX2_init_44 : decode cX2_init 44 = .ok (.iconst 0, 1) := by decide +kernel
theorem dX2_init_45 : decode cX2_init 45 = .ok (.putfield 34, 3) := by decide +kernel
theorem dX2_init_48 : decode cX2_init 48 = .ok (.aload_n 0, 1) := by decide +kernel
theorem dX2_init_49 : decode cX2_init 49 = .ok (.iconst 0, 1) := by decide +kernel
theorem dX2_init_50 : decode cX2_init 50 = .ok (.putfield 37, 3) := by decide +kernel
theorem dX2_init_53 : decode cX2_init 53 = .ok (.return_, 1) := by decide +kernel
theorem dX2_hasPerson_0 : decode cX2_hasPerson 0 = .ok (.iload_n 1, 1) := by decide +kernel
theorem dX2_hasPerson_1 : decode cX2_hasPerson 1 = .ok (.ifCond .lt 24, 3) := by decide +kernel
theorem dX2_hasPerson_4 : decode cX2_hasPerson 4 = .ok (.iload_n 1, 1) := by decide +kernel
theorem dX2_hasPerson_5 : decode cX2_hasPerson 5 = .ok (.aload_n 0, 1) := by decide +kernel
theorem dX2_hasPerson_6 : decode cX2_hasPerson 6 = .ok (.getfield 18, 3) := by decide +kernel
theorem dX2_hasPerson_9 : decode cX2_hasPerson 9 = .ok (.if_icmp .ge 16, 3) := by decide +kernel
theorem dX2_hasPerson_12 : decode cX2_hasPerson 12 = .ok (.iload_n 1, 1) := by decide +kernel
theorem dX2_hasPerson_13 : decode cX2_hasPerson 13 = .ok (.aload_n 0, 1) := by decide +kernel
theorem dX2_hasPerson_14 : decode cX2_hasPerson 14 = .ok (.getfield 9, 3) := by decide +kernel
theorem dX2_hasPerson_17 : decode cX2_hasPerson 17 = .ok (.arraylength, 1) := by decide +kernel
theorem dX2_hasPerson_18 : decode cX2_hasPerson 18 = .ok (.if_icmp .ge 7, 3) := by decide +kernel
theorem dX2_hasPerson_21 : decode cX2_hasPerson 21 = .ok (.iconst 1, 1) := by decide +kernel
theorem dX2_hasPerson_22 : decode cX2_hasPerson 22 = .ok (.goto 4, 3) := by decide +kernel
theorem dX2_hasPerson_25 : decode cX2_hasPerson 25 = .ok (.iconst 0, 1) := by decide +kernel
theorem dX2_hasPerson_26 : decode cX2_hasPerson 26 = .ok (.ireturn, 1) := by decide +kernel
theorem dX2_hasBucket_0 : decode cX2_hasBucket 0 = .ok (.iload_n 1, 1) := by decide +kernel
theorem dX2_hasBucket_1 : decode cX2_hasBucket 1 = .ok (.ifCond .lt 24, 3) := by decide +kernel
theorem dX2_hasBucket_4 : decode cX2_hasBucket 4 = .ok (.iload_n 1, 1) := by decide +kernel
theorem dX2_hasBucket_5 : decode cX2_hasBucket 5 = .ok (.aload_n 0, 1) := by decide +kernel
theorem dX2_hasBucket_6 : decode cX2_hasBucket 6 = .ok (.getfield 22, 3) := by decide +kernel
theorem dX2_hasBucket_9 : decode cX2_hasBucket 9 = .ok (.if_icmp .ge 16, 3) := by decide +kernel
theorem dX2_hasBucket_12 : decode cX2_hasBucket 12 = .ok (.iload_n 1, 1) := by decide +kernel
theorem dX2_hasBucket_13 : decode cX2_hasBucket 13 = .ok (.aload_n 0, 1) := by decide +kernel
theorem dX2_hasBucket_14 : decode cX2_hasBucket 14 = .ok (.getfield 15, 3) := by decide +kernel
theorem dX2_hasBucket_17 : decode cX2_hasBucket 17 = .ok (.arraylength, 1) := by decide +kernel
theorem dX2_hasBucket_18 : decode cX2_hasBucket 18 = .ok (.if_icmp .ge 7, 3) := by decide +kernel
theorem dX2_hasBucket_21 : decode cX2_hasBucket 21 = .ok (.iconst 1, 1) := by decide +kernel
theorem dX2_hasBucket_22 : decode cX2_hasBucket 22 = .ok (.goto 4, 3) := by decide +kernel
theorem dX2_hasBucket_25 : decode cX2_hasBucket 25 = .ok (.iconst 0, 1) := by decide +kernel
theorem dX2_hasBucket_26 : decode cX2_hasBucket 26 = .ok (.ireturn, 1) := by decide +kernel
theorem dX2_readFrom_0 : decode cX2_readFrom 0 = .ok (.aload_n 0, 1) := by decide +kernel
theorem dX2_readFrom_1 : decode cX2_readFrom 1 = .ok (.iconst 0, 1) := by decide +kernel
theorem dX2_readFrom_2 : decode cX2_readFrom 2 = .ok (.putfield 18, 3) := by decide +kernel
theorem dX2_readFrom_5 : decode cX2_readFrom 5 = .ok (.aload_n 0, 1) := by decide +kernel
theorem dX2_readFrom_6 : decode cX2_readFrom 6 = .ok (.iconst 0, 1) := by decide +kernel
theorem dX2_readFrom_7 : decode cX2_readFrom 7 = .ok (.putfield 22, 3) := by decide +kernel
theorem dX2_readFrom_10 : decode cX2_readFrom 10 = .ok (.aload_n 0, 1) := by decide +kernel
theorem dX2_readFrom_11 : decode cX2_readFrom 11 = .ok (.iconst 0, 1) := by decide +kernel
theorem dX2_readFrom_12 : decode cX2_readFrom 12 = .ok (.putfield 25, 3) := by decide +kernel
theorem dX2_readFrom_15 : decode cX2_readFrom 15 = .ok (.aload_n 0, 1) := by decide +kernel
theorem dX2_readFrom_16 : decode cX2_readFrom 16 = .ok (.iconst 0, 1) := by decide +kernel
theorem dX2_readFrom_17 : decode cX2_readFrom 17 = .ok (.putfield 37, 3) := by decide +kernel
theorem dX2_readFrom_20 : decode cX2_readFrom 20 = .ok (.iconst 0, 1) := by decide +kernel
theorem dX2_readFrom_21 : decode cX2_readFrom 21 = .ok (.istore_n 2, 1) := by decide +kernel
theorem dX2_readFrom_22 : decode cX2_readFrom 22 = .ok (.iload_n 2, 1) := by decide +kernel
theorem dX2_readFrom_23 : decode cX2_readFrom 23 = .ok (.aload_n 1, 1) := by decide +kernel
theorem dX2_readFrom_24 : decode cX2_readFrom 24 = .ok (.getfield 40, 3) := by decide +kernel
theorem dX2_readFrom_27 : decode cX2_readFrom 27 = .ok (.if_icmp .ge 33, 3) := by decide +kernel
theorem dX2_readFrom_30 : decode cX2_readFrom 30 = .ok (.iload_n 2, 1) := by decide +kernel
theorem dX2_readFrom_31 : decode cX2_readFrom 31 = .ok (.aload_n 1, 1) := by decide +kernel
theorem dX2_readFrom_32 : decode cX2_readFrom 32 = .ok (.getfield 45, 3) := by decide +kernel
theorem dX2_readFrom_35 : decode cX2_readFrom 35 = .ok (.arraylength, 1) := by decide +kernel
theorem dX2_readFrom_36 : decode cX2_readFrom 36 = .ok (.if_icmp .ge 24, 3) := by decide +kernel
theorem dX2_readFrom_39 : decode cX2_readFrom 39 = .ok (.aload_n 0, 1) := by decide +kernel
theorem dX2_readFrom_40 : decode cX2_readFrom 40 = .ok (.aload_n 1, 1) := by decide +kernel
theorem dX2_readFrom_41 : decode cX2_readFrom 41 = .ok (.getfield 45, 3) := by decide +kernel
theorem dX2_readFrom_44 : decode cX2_readFrom 44 = .ok (.iload_n 2, 1) := by decide +kernel
theorem dX2_readFrom_45 : decode cX2_readFrom 45 = .ok (.iaload, 1) := by decide +kernel
theorem dX2_readFrom_46 : decode cX2_readFrom 46 = .ok (.invokevirtual 48, 3) := by decide +kernel
theorem dX2_readFrom_49 : decode cX2_readFrom 49 = .ok (.ifCond .ne 5, 3) := by decide +kernel
theorem dX2_readFrom_52 : decode cX2_readFrom 52 = .ok (.iload_n 2, 1) := by decide +kernel
theorem dX2_readFrom_53 : decode cX2_readFrom 53 = .ok (.ireturn, 1) := by decide +kernel
theorem dX2_readFrom_54 : decode cX2_readFrom 54 = .ok (.iinc 2 1, 3) := by decide +kernel
theorem dX2_readFrom_57 : decode cX2_readFrom 57 = .ok (.goto (-35), 3) := by decide +kernel
theorem dX2_readFrom_60 : decode cX2_readFrom 60 = .ok (.aload_n 0, 1) := by decide +kernel
theorem dX2_readFrom_61 : decode cX2_readFrom 61 = .ok (.getfield 37, 3) := by decide +kernel
theorem dX2_readFrom_64 : decode cX2_readFrom 64 = .ok (.iconst 5, 1) := by decide +kernel
theorem dX2_readFrom_65 : decode cX2_readFrom 65 = .ok (.if_icmp .ne 8, 3) := by decide +kernel
theorem dX2_readFrom_68 : decode cX2_readFrom 68 = .ok (.bipush (-9), 2) := by decide +kernel
theorem dX2_readFrom_70 : decode cX2_readFrom 70 = .ok (.goto 7, 3) := by decide +kernel
theorem dX2_readFrom_73 : decode cX2_readFrom 73 = .ok (.aload_n 1, 1) := by decide +kernel
theorem dX2_readFrom_74 : decode cX2_readFrom 74 = .ok (.getfield 40, 3) := by decide +kernel
theorem dX2_readFrom_77 : decode cX2_readFrom 77 = .ok (.ireturn, 1) := by decide +kernel
theorem dX2_takeLetter_0 : decode cX2_takeLetter 0 = .ok (.aload_n 0, 1) := by decide +kernel
theorem dX2_takeLetter_1 : decode cX2_takeLetter 1 = .ok (.getfield 37, 3) := by decide +kernel
theorem dX2_takeLetter_4 : decode cX2_takeLetter 4 = .ok (.ifCond .ne 20, 3) := by decide +kernel
theorem dX2_takeLetter_7 : decode cX2_takeLetter 7 = .ok (.aload_n 0, 1) := by decide +kernel
theorem dX2_takeLetter_8 : decode cX2_takeLetter 8 = .ok (.iconst 1, 1) := by decide +kernel
theorem dX2_takeLetter_9 : decode cX2_takeLetter 9 = .ok (.putfield 37, 3) := by decide +kernel
theorem dX2_takeLetter_12 : decode cX2_takeLetter 12 = .ok (.iload_n 1, 1) := by decide +kernel
theorem dX2_takeLetter_13 : decode cX2_takeLetter 13 = .ok (.bipush 87, 2) := by decide +kernel
theorem dX2_takeLetter_15 : decode cX2_takeLetter 15 = .ok (.if_icmp .ne 7, 3) := by decide +kernel
theorem dX2_takeLetter_18 : decode cX2_takeLetter 18 = .ok (.iconst 1, 1) := by decide +kernel
theorem dX2_takeLetter_19 : decode cX2_takeLetter 19 = .ok (.goto 4, 3) := by decide +kernel
theorem dX2_takeLetter_22 : decode cX2_takeLetter 22 = .ok (.iconst 0, 1) := by decide +kernel
theorem dX2_takeLetter_23 : decode cX2_takeLetter 23 = .ok (.ireturn, 1) := by decide +kernel
theorem dX2_takeLetter_24 : decode cX2_takeLetter 24 = .ok (.aload_n 0, 1) := by decide +kernel
theorem dX2_takeLetter_25 : decode cX2_takeLetter 25 = .ok (.getfield 37, 3) := by decide +kernel
theorem dX2_takeLetter_28 : decode cX2_takeLetter 28 = .ok (.iconst 5, 1) := by decide +kernel
theorem dX2_takeLetter_29 : decode cX2_takeLetter 29 = .ok (.if_icmp .ne 9, 3) := by decide +kernel
theorem dX2_takeLetter_32 : decode cX2_takeLetter 32 = .ok (.aload_n 0, 1) := by decide +kernel
theorem dX2_takeLetter_33 : decode cX2_takeLetter 33 = .ok (.iload_n 1, 1) := by decide +kernel
theorem dX2_takeLetter_34 : decode cX2_takeLetter 34 = .ok (.invokevirtual 52, 3) := by decide +kernel
theorem dX2_takeLetter_37 : decode cX2_takeLetter 37 = .ok (.ireturn, 1) := by decide +kernel
theorem dX2_takeLetter_38 : decode cX2_takeLetter 38 = .ok (.iload_n 1, 1) := by decide +kernel
theorem dX2_takeLetter_39 : decode cX2_takeLetter 39 = .ok (.bipush 48, 2) := by decide +kernel
theorem dX2_takeLetter_41 : decode cX2_takeLetter 41 = .ok (.isub, 1) := by decide +kernel
theorem dX2_takeLetter_42 : decode cX2_takeLetter 42 = .ok (.istore_n 2, 1) := by decide +kernel
theorem dX2_takeLetter_43 : decode cX2_takeLetter 43 = .ok (.iload_n 2, 1) := by decide +kernel
theorem dX2_takeLetter_44 : decode cX2_takeLetter 44 = .ok (.aload_n 0, 1) := by decide +kernel
theorem dX2_takeLetter_45 : decode cX2_takeLetter 45 = .ok (.invokevirtual 55, 3) := by decide +kernel
theorem dX2_takeLetter_48 : decode cX2_takeLetter 48 = .ok (.if_icmp .lt 23, 3) := by decide +kernel
theorem dX2_takeLetter_51 : decode cX2_takeLetter 51 = .ok (.iload_n 2, 1) := by decide +kernel
theorem dX2_takeLetter_52 : decode cX2_takeLetter 52 = .ok (.aload_n 0, 1) := by decide +kernel
theorem dX2_takeLetter_53 : decode cX2_takeLetter 53 = .ok (.invokevirtual 59, 3) := by decide +kernel
theorem dX2_takeLetter_56 : decode cX2_takeLetter 56 = .ok (.if_icmp .gt 15, 3) := by decide +kernel
theorem dX2_takeLetter_59 : decode cX2_takeLetter 59 = .ok (.aload_n 0, 1) := by decide +kernel
theorem dX2_takeLetter_60 : decode cX2_takeLetter 60 = .ok (.iload_n 2, 1) := by decide +kernel
theorem dX2_takeLetter_61 : decode cX2_takeLetter 61 = .ok (.invokevirtual 62, 3) := by decide +kernel
theorem dX2_takeLetter_64 : decode cX2_takeLetter 64 = .ok (.ifCond .eq 7, 3) := by decide +kernel
theorem dX2_takeLetter_67 : decode cX2_takeLetter 67 = .ok (.iconst 1, 1) := by decide +kernel
theorem dX2_takeLetter_68 : decode cX2_takeLetter 68 = .ok (.goto 4, 3) := by decide +kernel
theorem dX2_takeLetter_71 : decode cX2_takeLetter 71 = .ok (.iconst 0, 1) := by decide +kernel
theorem dX2_takeLetter_72 : decode cX2_takeLetter 72 = .ok (.ireturn, 1) := by decide +kernel
theorem dX2_openPart_0 : decode cX2_openPart 0 = .ok (.iload_n 1, 1) := by decide +kernel
theorem dX2_openPart_1 : decode cX2_openPart 1 = .ok (.bipush 80, 2) := by decide +kernel
theorem dX2_openPart_3 : decode cX2_openPart 3 = .ok (.if_icmp .ne 23, 3) := by decide +kernel
theorem dX2_openPart_6 : decode cX2_openPart 6 = .ok (.aload_n 0, 1) := by decide +kernel
theorem dX2_openPart_7 : decode cX2_openPart 7 = .ok (.getfield 18, 3) := by decide +kernel
theorem dX2_openPart_10 : decode cX2_openPart 10 = .ok (.aload_n 0, 1) := by decide +kernel
theorem dX2_openPart_11 : decode cX2_openPart 11 = .ok (.getfield 9, 3) := by decide +kernel
theorem dX2_openPart_14 : decode cX2_openPart 14 = .ok (.arraylength, 1) := by decide +kernel
theorem dX2_openPart_15 : decode cX2_openPart 15 = .ok (.if_icmp .ge 11, 3) := by decide +kernel
theorem dX2_openPart_18 : decode cX2_openPart 18 = .ok (.aload_n 0, 1) := by decide +kernel
theorem dX2_openPart_19 : decode cX2_openPart 19 = .ok (.bipush 6, 2) := by decide +kernel
theorem dX2_openPart_21 : decode cX2_openPart 21 = .ok (.putfield 37, 3) := by decide +kernel
theorem dX2_openPart_24 : decode cX2_openPart 24 = .ok (.iconst 1, 1) := by decide +kernel
theorem dX2_openPart_25 : decode cX2_openPart 25 = .ok (.ireturn, 1) := by decide +kernel
theorem dX2_openPart_26 : decode cX2_openPart 26 = .ok (.iload_n 1, 1) := by decide +kernel
theorem dX2_openPart_27 : decode cX2_openPart 27 = .ok (.bipush 66, 2) := by decide +kernel
theorem dX2_openPart_29 : decode cX2_openPart 29 = .ok (.if_icmp .ne 23, 3) := by decide +kernel
theorem dX2_openPart_32 : decode cX2_openPart 32 = .ok (.aload_n 0, 1) := by decide +kernel
theorem dX2_openPart_33 : decode cX2_openPart 33 = .ok (.getfield 22, 3) := by decide +kernel
theorem dX2_openPart_36 : decode cX2_openPart 36 = .ok (.aload_n 0, 1) := by decide +kernel
theorem dX2_openPart_37 : decode cX2_openPart 37 = .ok (.getfield 15, 3) := by decide +kernel
theorem dX2_openPart_40 : decode cX2_openPart 40 = .ok (.arraylength, 1) := by decide +kernel
theorem dX2_openPart_41 : decode cX2_openPart 41 = .ok (.if_icmp .ge 11, 3) := by decide +kernel
theorem dX2_openPart_44 : decode cX2_openPart 44 = .ok (.aload_n 0, 1) := by decide +kernel
theorem dX2_openPart_45 : decode cX2_openPart 45 = .ok (.bipush 7, 2) := by decide +kernel
theorem dX2_openPart_47 : decode cX2_openPart 47 = .ok (.putfield 37, 3) := by decide +kernel
theorem dX2_openPart_50 : decode cX2_openPart 50 = .ok (.iconst 1, 1) := by decide +kernel
theorem dX2_openPart_51 : decode cX2_openPart 51 = .ok (.ireturn, 1) := by decide +kernel
theorem dX2_openPart_52 : decode cX2_openPart 52 = .ok (.iconst 0, 1) := by decide +kernel
theorem dX2_openPart_53 : decode cX2_openPart 53 = .ok (.ireturn, 1) := by decide +kernel
theorem dX2_leastFigure_0 : decode cX2_leastFigure 0 = .ok (.aload_n 0, 1) := by decide +kernel
theorem dX2_leastFigure_1 : decode cX2_leastFigure 1 = .ok (.getfield 37, 3) := by decide +kernel
theorem dX2_leastFigure_4 : decode cX2_leastFigure 4 = .ok (.bipush 7, 2) := by decide +kernel
theorem dX2_leastFigure_6 : decode cX2_leastFigure 6 = .ok (.if_icmp .ne 7, 3) := by decide +kernel
theorem dX2_leastFigure_9 : decode cX2_leastFigure 9 = .ok (.iconst 1, 1) := by decide +kernel
theorem dX2_leastFigure_10 : decode cX2_leastFigure 10 = .ok (.goto 4, 3) := by decide +kernel
theorem dX2_leastFigure_13 : decode cX2_leastFigure 13 = .ok (.iconst 0, 1) := by decide +kernel
theorem dX2_leastFigure_14 : decode cX2_leastFigure 14 = .ok (.ireturn, 1) := by decide +kernel
theorem dX2_mostFigure_0 : decode cX2_mostFigure 0 = .ok (.aload_n 0, 1) := by decide +kernel
theorem dX2_mostFigure_1 : decode cX2_mostFigure 1 = .ok (.getfield 37, 3) := by decide +kernel
theorem dX2_mostFigure_4 : decode cX2_mostFigure 4 = .ok (.lookupswitch 32 #[(6, 28), (8, 30)], 28) := by decide +kernel
theorem dX2_mostFigure_32 : decode cX2_mostFigure 32 = .ok (.iconst 3, 1) := by decide +kernel
theorem dX2_mostFigure_33 : decode cX2_mostFigure 33 = .ok (.ireturn, 1) := by decide +kernel
theorem dX2_mostFigure_34 : decode cX2_mostFigure 34 = .ok (.iconst 1, 1) := by decide +kernel
theorem dX2_mostFigure_35 : decode cX2_mostFigure 35 = .ok (.ireturn, 1) := by decide +kernel
theorem dX2_mostFigure_36 : decode cX2_mostFigure 36 = .ok (.bipush 9, 2) := by decide +kernel
theorem dX2_mostFigure_38 : decode cX2_mostFigure 38 = .ok (.ireturn, 1) := by decide +kernel
theorem dX2_takeFigure_0 : decode cX2_takeFigure 0 = .ok (.aload_n 0, 1) := by decide +kernel
theorem dX2_takeFigure_1 : decode cX2_takeFigure 1 = .ok (.getfield 37, 3) := by decide +kernel
theorem dX2_takeFigure_4 : decode cX2_takeFigure 4 = .ok (.tableswitch 122 1 8 #[48, 63, 80, 92, 122, 104, 110, 116], 48) := by decide +kernel
theorem dX2_takeFigure_52 : decode cX2_takeFigure 52 = .ok (.aload_n 0, 1) := by decide +kernel
theorem dX2_takeFigure_53 : decode cX2_takeFigure 53 = .ok (.bipush 10, 2) := by decide +kernel
theorem dX2_takeFigure_55 : decode cX2_takeFigure 55 = .ok (.iload_n 1, 1) := by decide +kernel
theorem dX2_takeFigure_56 : decode cX2_takeFigure 56 = .ok (.imul, 1) := by decide +kernel
theorem dX2_takeFigure_57 : decode cX2_takeFigure 57 = .ok (.putfield 28, 3) := by decide +kernel
theorem dX2_takeFigure_60 : decode cX2_takeFigure 60 = .ok (.aload_n 0, 1) := by decide +kernel
theorem dX2_takeFigure_61 : decode cX2_takeFigure 61 = .ok (.iconst 2, 1) := by decide +kernel
theorem dX2_takeFigure_62 : decode cX2_takeFigure 62 = .ok (.putfield 37, 3) := by decide +kernel
theorem dX2_takeFigure_65 : decode cX2_takeFigure 65 = .ok (.iconst 1, 1) := by decide +kernel
theorem dX2_takeFigure_66 : decode cX2_takeFigure 66 = .ok (.ireturn, 1) := by decide +kernel
theorem dX2_takeFigure_67 : decode cX2_takeFigure 67 = .ok (.aload_n 0, 1) := by decide +kernel
theorem dX2_takeFigure_68 : decode cX2_takeFigure 68 = .ok (.dup, 1) := by decide +kernel
theorem dX2_takeFigure_69 : decode cX2_takeFigure 69 = .ok (.getfield 28, 3) := by decide +kernel
theorem dX2_takeFigure_72 : decode cX2_takeFigure 72 = .ok (.iload_n 1, 1) := by decide +kernel
theorem dX2_takeFigure_73 : decode cX2_takeFigure 73 = .ok (.iadd, 1) := by decide +kernel
theorem dX2_takeFigure_74 : decode cX2_takeFigure 74 = .ok (.putfield 28, 3) := by decide +kernel
theorem dX2_takeFigure_77 : decode cX2_takeFigure 77 = .ok (.aload_n 0, 1) := by decide +kernel
theorem dX2_takeFigure_78 : decode cX2_takeFigure 78 = .ok (.iconst 3, 1) := by decide +kernel
theorem dX2_takeFigure_79 : decode cX2_takeFigure 79 = .ok (.putfield 37, 3) := by decide +kernel
theorem dX2_takeFigure_82 : decode cX2_takeFigure 82 = .ok (.iconst 1, 1) := by decide +kernel
theorem dX2_takeFigure_83 : decode cX2_takeFigure 83 = .ok (.ireturn, 1) := by decide +kernel
theorem dX2_takeFigure_84 : decode cX2_takeFigure 84 = .ok (.aload_n 0, 1) := by decide +kernel
theorem dX2_takeFigure_85 : decode cX2_takeFigure 85 = .ok (.iload_n 1, 1) := by decide +kernel
theorem dX2_takeFigure_86 : decode cX2_takeFigure 86 = .ok (.putfield 31, 3) := by decide +kernel
theorem dX2_takeFigure_89 : decode cX2_takeFigure 89 = .ok (.aload_n 0, 1) := by decide +kernel
theorem dX2_takeFigure_90 : decode cX2_takeFigure 90 = .ok (.iconst 4, 1) := by decide +kernel
theorem dX2_takeFigure_91 : decode cX2_takeFigure 91 = .ok (.putfield 37, 3) := by decide +kernel
theorem dX2_takeFigure_94 : decode cX2_takeFigure 94 = .ok (.iconst 1, 1) := by decide +kernel
theorem dX2_takeFigure_95 : decode cX2_takeFigure 95 = .ok (.ireturn, 1) := by decide +kernel
theorem dX2_takeFigure_96 : decode cX2_takeFigure 96 = .ok (.aload_n 0, 1) := by decide +kernel
theorem dX2_takeFigure_97 : decode cX2_takeFigure 97 = .ok (.iload_n 1, 1) := by decide +kernel
theorem dX2_takeFigure_98 : decode cX2_takeFigure 98 = .ok (.putfield 34, 3) := by decide +kernel
theorem dX2_takeFigure_101 : decode cX2_takeFigure 101 = .ok (.aload_n 0, 1) := by decide +kernel
theorem dX2_takeFigure_102 : decode cX2_takeFigure 102 = .ok (.iconst 5, 1) := by decide +kernel
theorem dX2_takeFigure_103 : decode cX2_takeFigure 103 = .ok (.putfield 37, 3) := by decide +kernel
theorem dX2_takeFigure_106 : decode cX2_takeFigure 106 = .ok (.iconst 1, 1) := by decide +kernel
theorem dX2_takeFigure_107 : decode cX2_takeFigure 107 = .ok (.ireturn, 1) := by decide +kernel
theorem dX2_takeFigure_108 : decode cX2_takeFigure 108 = .ok (.aload_n 0, 1) := by decide +kernel
theorem dX2_takeFigure_109 : decode cX2_takeFigure 109 = .ok (.iload_n 1, 1) := by decide +kernel
theorem dX2_takeFigure_110 : decode cX2_takeFigure 110 = .ok (.invokevirtual 65, 3) := by decide +kernel
theorem dX2_takeFigure_113 : decode cX2_takeFigure 113 = .ok (.ireturn, 1) := by decide +kernel
theorem dX2_takeFigure_114 : decode cX2_takeFigure 114 = .ok (.aload_n 0, 1) := by decide +kernel
theorem dX2_takeFigure_115 : decode cX2_takeFigure 115 = .ok (.iload_n 1, 1) := by decide +kernel
theorem dX2_takeFigure_116 : decode cX2_takeFigure 116 = .ok (.invokevirtual 68, 3) := by decide +kernel
theorem dX2_takeFigure_119 : decode cX2_takeFigure 119 = .ok (.ireturn, 1) := by decide +kernel
theorem dX2_takeFigure_120 : decode cX2_takeFigure 120 = .ok (.aload_n 0, 1) := by decide +kernel
theorem dX2_takeFigure_121 : decode cX2_takeFigure 121 = .ok (.iload_n 1, 1) := by decide +kernel
theorem dX2_takeFigure_122 : decode cX2_takeFigure 122 = .ok (.invokevirtual 71, 3) := by decide +kernel
theorem dX2_takeFigure_125 : decode cX2_takeFigure 125 = .ok (.ireturn, 1) := by decide +kernel
theorem dX2_takeFigure_126 : decode cX2_takeFigure 126 = .ok (.iconst 0, 1) := by decide +kernel
theorem dX2_takeFigure_127 : decode cX2_takeFigure 127 = .ok (.ireturn, 1) := by decide +kernel
theorem dX2_addPerson_0 : decode cX2_addPerson 0 = .ok (.aload_n 0, 1) := by decide +kernel
theorem dX2_addPerson_1 : decode cX2_addPerson 1 = .ok (.getfield 18, 3) := by decide +kernel
theorem dX2_addPerson_4 : decode cX2_addPerson 4 = .ok (.ifCond .lt 15, 3) := by decide +kernel
theorem dX2_addPerson_7 : decode cX2_addPerson 7 = .ok (.aload_n 0, 1) := by decide +kernel
theorem dX2_addPerson_8 : decode cX2_addPerson 8 = .ok (.getfield 18, 3) := by decide +kernel
theorem dX2_addPerson_11 : decode cX2_addPerson 11 = .ok (.aload_n 0, 1) := by decide +kernel
theorem dX2_addPerson_12 : decode cX2_addPerson 12 = .ok (.getfield 9, 3) := by decide +kernel
theorem dX2_addPerson_15 : decode cX2_addPerson 15 = .ok (.arraylength, 1) := by decide +kernel
theorem dX2_addPerson_16 : decode cX2_addPerson 16 = .ok (.if_icmp .lt 5, 3) := by decide +kernel
theorem dX2_addPerson_19 : decode cX2_addPerson 19 = .ok (.iconst 0, 1) := by decide +kernel
theorem dX2_addPerson_20 : decode cX2_addPerson 20 = .ok (.ireturn, 1) := by decide +kernel
theorem dX2_addPerson_21 : decode cX2_addPerson 21 = .ok (.aload_n 0, 1) := by decide +kernel
theorem dX2_addPerson_22 : decode cX2_addPerson 22 = .ok (.getfield 9, 3) := by decide +kernel
theorem dX2_addPerson_25 : decode cX2_addPerson 25 = .ok (.aload_n 0, 1) := by decide +kernel
theorem dX2_addPerson_26 : decode cX2_addPerson 26 = .ok (.getfield 18, 3) := by decide +kernel
theorem dX2_addPerson_29 : decode cX2_addPerson 29 = .ok (.iload_n 1, 1) := by decide +kernel
theorem dX2_addPerson_30 : decode cX2_addPerson 30 = .ok (.iastore, 1) := by decide +kernel
theorem dX2_addPerson_31 : decode cX2_addPerson 31 = .ok (.aload_n 0, 1) := by decide +kernel
theorem dX2_addPerson_32 : decode cX2_addPerson 32 = .ok (.dup, 1) := by decide +kernel
theorem dX2_addPerson_33 : decode cX2_addPerson 33 = .ok (.getfield 18, 3) := by decide +kernel
theorem dX2_addPerson_36 : decode cX2_addPerson 36 = .ok (.iconst 1, 1) := by decide +kernel
theorem dX2_addPerson_37 : decode cX2_addPerson 37 = .ok (.iadd, 1) := by decide +kernel
theorem dX2_addPerson_38 : decode cX2_addPerson 38 = .ok (.putfield 18, 3) := by decide +kernel
theorem dX2_addPerson_41 : decode cX2_addPerson 41 = .ok (.aload_n 0, 1) := by decide +kernel
theorem dX2_addPerson_42 : decode cX2_addPerson 42 = .ok (.iconst 5, 1) := by decide +kernel
theorem dX2_addPerson_43 : decode cX2_addPerson 43 = .ok (.putfield 37, 3) := by decide +kernel
theorem dX2_addPerson_46 : decode cX2_addPerson 46 = .ok (.iconst 1, 1) := by decide +kernel
theorem dX2_addPerson_47 : decode cX2_addPerson 47 = .ok (.ireturn, 1) := by decide +kernel
theorem dX2_startBucket_0 : decode cX2_startBucket 0 = .ok (.aload_n 0, 1) := by decide +kernel
theorem dX2_startBucket_1 : decode cX2_startBucket 1 = .ok (.getfield 22, 3) := by decide +kernel
theorem dX2_startBucket_4 : decode cX2_startBucket 4 = .ok (.ifCond .lt 15, 3) := by decide +kernel
theorem dX2_startBucket_7 : decode cX2_startBucket 7 = .ok (.aload_n 0, 1) := by decide +kernel
theorem dX2_startBucket_8 : decode cX2_startBucket 8 = .ok (.getfield 22, 3) := by decide +kernel
theorem dX2_startBucket_11 : decode cX2_startBucket 11 = .ok (.aload_n 0, 1) := by decide +kernel
theorem dX2_startBucket_12 : decode cX2_startBucket 12 = .ok (.getfield 15, 3) := by decide +kernel
theorem dX2_startBucket_15 : decode cX2_startBucket 15 = .ok (.arraylength, 1) := by decide +kernel
theorem dX2_startBucket_16 : decode cX2_startBucket 16 = .ok (.if_icmp .lt 5, 3) := by decide +kernel
theorem dX2_startBucket_19 : decode cX2_startBucket 19 = .ok (.iconst 0, 1) := by decide +kernel
theorem dX2_startBucket_20 : decode cX2_startBucket 20 = .ok (.ireturn, 1) := by decide +kernel
theorem dX2_startBucket_21 : decode cX2_startBucket 21 = .ok (.aload_n 0, 1) := by decide +kernel
theorem dX2_startBucket_22 : decode cX2_startBucket 22 = .ok (.getfield 15, 3) := by decide +kernel
theorem dX2_startBucket_25 : decode cX2_startBucket 25 = .ok (.aload_n 0, 1) := by decide +kernel
theorem dX2_startBucket_26 : decode cX2_startBucket 26 = .ok (.getfield 22, 3) := by decide +kernel
theorem dX2_startBucket_29 : decode cX2_startBucket 29 = .ok (.iload_n 1, 1) := by decide +kernel
theorem dX2_startBucket_30 : decode cX2_startBucket 30 = .ok (.iastore, 1) := by decide +kernel
theorem dX2_startBucket_31 : decode cX2_startBucket 31 = .ok (.aload_n 0, 1) := by decide +kernel
theorem dX2_startBucket_32 : decode cX2_startBucket 32 = .ok (.bipush 8, 2) := by decide +kernel
theorem dX2_startBucket_34 : decode cX2_startBucket 34 = .ok (.putfield 37, 3) := by decide +kernel
theorem dX2_startBucket_37 : decode cX2_startBucket 37 = .ok (.iconst 1, 1) := by decide +kernel
theorem dX2_startBucket_38 : decode cX2_startBucket 38 = .ok (.ireturn, 1) := by decide +kernel
theorem dX2_endBucket_0 : decode cX2_endBucket 0 = .ok (.aload_n 0, 1) := by decide +kernel
theorem dX2_endBucket_1 : decode cX2_endBucket 1 = .ok (.dup, 1) := by decide +kernel
theorem dX2_endBucket_2 : decode cX2_endBucket 2 = .ok (.getfield 25, 3) := by decide +kernel
theorem dX2_endBucket_5 : decode cX2_endBucket 5 = .ok (.iload_n 1, 1) := by decide +kernel
theorem dX2_endBucket_6 : decode cX2_endBucket 6 = .ok (.aload_n 0, 1) := by decide +kernel
theorem dX2_endBucket_7 : decode cX2_endBucket 7 = .ok (.getfield 22, 3) := by decide +kernel
theorem dX2_endBucket_10 : decode cX2_endBucket 10 = .ok (.ishl, 1) := by decide +kernel
theorem dX2_endBucket_11 : decode cX2_endBucket 11 = .ok (.ior, 1) := by decide +kernel
theorem dX2_endBucket_12 : decode cX2_endBucket 12 = .ok (.putfield 25, 3) := by decide +kernel
theorem dX2_endBucket_15 : decode cX2_endBucket 15 = .ok (.aload_n 0, 1) := by decide +kernel
theorem dX2_endBucket_16 : decode cX2_endBucket 16 = .ok (.dup, 1) := by decide +kernel
theorem dX2_endBucket_17 : decode cX2_endBucket 17 = .ok (.getfield 22, 3) := by decide +kernel
theorem dX2_endBucket_20 : decode cX2_endBucket 20 = .ok (.iconst 1, 1) := by decide +kernel
theorem dX2_endBucket_21 : decode cX2_endBucket 21 = .ok (.iadd, 1) := by decide +kernel
theorem dX2_endBucket_22 : decode cX2_endBucket 22 = .ok (.putfield 22, 3) := by decide +kernel
theorem dX2_endBucket_25 : decode cX2_endBucket 25 = .ok (.aload_n 0, 1) := by decide +kernel
theorem dX2_endBucket_26 : decode cX2_endBucket 26 = .ok (.iconst 5, 1) := by decide +kernel
theorem dX2_endBucket_27 : decode cX2_endBucket 27 = .ok (.putfield 37, 3) := by decide +kernel
theorem dX2_endBucket_30 : decode cX2_endBucket 30 = .ok (.iconst 1, 1) := by decide +kernel
theorem dX2_endBucket_31 : decode cX2_endBucket 31 = .ok (.ireturn, 1) := by decide +kernel
end
section
theorem dX3_init_0 : decode cX3_init 0 = .ok (.aload_n 0, 1) := by decide +kernel
theorem dX3_init_1 : decode cX3_init 1 = .ok (.invokespecial 3, 3) := by decide +kernel
theorem dX3_init_4 : decode cX3_init 4 = .ok (.aload_n 0, 1) := by decide +kernel
theorem dX3_init_5 : decode cX3_init 5 = .ok (.iconst 5, 1) := by decide +kernel
theorem dX3_init_6 : decode cX3_init 6 = .ok (.newarray .int, 2) := by decide +kernel
theorem dX3_init_8 : decode cX3_init 8 = .ok (.putfield 9, 3) := by decide +kernel
theorem dX3_init_11 : decode cX3_init 11 = .ok (.aload_n 0, 1) := by decide +kernel
theorem dX3_init_12 : decode cX3_init 12 = .ok (.iconst 4, 1) := by decide +kernel
theorem dX3_init_13 : decode cX3_init 13 = .ok (.newarray .int, 2) := by decide +kernel
theorem dX3_init_15 : decode cX3_init 15 = .ok (.putfield 15, 3) := by decide +kernel
theorem dX3_init_18 : decode cX3_init 18 = .ok (.aload_n 0, 1) := by decide +kernel
theorem dX3_init_19 : decode cX3_init 19 = .ok (.iconst 4, 1) := by decide +kernel
theorem dX3_init_20 : decode cX3_init 20 = .ok (.newarray .int, 2) := by decide +kernel
theorem dX3_init_22 : decode cX3_init 22 = .ok (.putfield 18, 3) := by decide +kernel
theorem dX3_init_25 : decode cX3_init 25 = .ok (.aload_n 0, 1) := by decide +kernel
theorem dX3_init_26 : decode cX3_init 26 = .ok (.iconst 4, 1) := by decide +kernel
theorem dX3_init_27 : decode cX3_init 27 = .ok (.newarray .int, 2) := by decide +kernel
theorem dX3_init_29 : decode cX3_init 29 = .ok (.putfield 21, 3) := by decide +kernel
theorem dX3_init_32 : decode cX3_init 32 = .ok (.aload_n 0, 1) := by decide +kernel
theorem dX3_init_33 : decode cX3_init 33 = .ok (.aload_n 1, 1) := by decide +kernel
theorem dX3_init_34 : decode cX3_init 34 = .ok (.putfield 24, 3) := by decide +kernel
theorem dX3_init_37 : decode cX3_init 37 = .ok (.aload_n 0, 1) := by decide +kernel
theorem dX3_init_38 : decode cX3_init 38 = .ok (.invokevirtual 28, 3) := by decide +kernel
theorem dX3_init_41 : decode cX3_init 41 = .ok (.return_, 1) := by decide +kernel
theorem dX3_setUp_0 : decode cX3_setUp 0 = .ok (.iconst 0, 1) := by decide +kernel
theorem dX3_setUp_1 : decode cX3_setUp 1 = .ok (.istore_n 1, 1) := by decide +kernel
theorem dX3_setUp_2 : decode cX3_setUp 2 = .ok (.iload_n 1, 1) := by decide +kernel
theorem dX3_setUp_3 : decode cX3_setUp 3 = .ok (.aload_n 0, 1) := by decide +kernel
theorem dX3_setUp_4 : decode cX3_setUp 4 = .ok (.getfield 9, 3) := by decide +kernel
theorem dX3_setUp_7 : decode cX3_setUp 7 = .ok (.arraylength, 1) := by decide +kernel
theorem dX3_setUp_8 : decode cX3_setUp 8 = .ok (.if_icmp .ge 16, 3) := by decide +kernel
theorem dX3_setUp_11 : decode cX3_setUp 11 = .ok (.aload_n 0, 1) := by decide +kernel
theorem dX3_setUp_12 : decode cX3_setUp 12 = .ok (.getfield 9, 3) := by decide +kernel
theorem dX3_setUp_15 : decode cX3_setUp 15 = .ok (.iload_n 1, 1) := by decide +kernel
theorem dX3_setUp_16 : decode cX3_setUp 16 = .ok (.iload_n 1, 1) := by decide +kernel
theorem dX3_setUp_17 : decode cX3_setUp 17 = .ok (.iastore, 1) := by decide +kernel
theorem dX3_setUp_18 : decode cX3_setUp 18 = .ok (.iinc 1 1, 3) := by decide +kernel
theorem dX3_setUp_21 : decode cX3_setUp 21 = .ok (.goto (-19), 3) := by decide +kernel
theorem dX3_setUp_24 : decode cX3_setUp 24 = .ok (.iconst 0, 1) := by decide +kernel
theorem dX3_setUp_25 : decode cX3_setUp 25 = .ok (.istore_n 1, 1) := by decide +kernel
theorem dX3_setUp_26 : decode cX3_setUp 26 = .ok (.iload_n 1, 1) := by decide +kernel
theorem dX3_setUp_27 : decode cX3_setUp 27 = .ok (.aload_n 0, 1) := by decide +kernel
theorem dX3_setUp_28 : decode cX3_setUp 28 = .ok (.getfield 15, 3) := by decide +kernel
theorem dX3_setUp_31 : decode cX3_setUp 31 = .ok (.arraylength, 1) := by decide +kernel
theorem dX3_setUp_32 : decode cX3_setUp 32 = .ok (.if_icmp .ge 33, 3) := by decide +kernel
theorem dX3_setUp_35 : decode cX3_setUp 35 = .ok (.aload_n 0, 1) := by decide +kernel
theorem dX3_setUp_36 : decode cX3_setUp 36 = .ok (.getfield 15, 3) := by decide +kernel
theorem dX3_setUp_39 : decode cX3_setUp 39 = .ok (.iload_n 1, 1) := by decide +kernel
theorem dX3_setUp_40 : decode cX3_setUp 40 = .ok (.iload_n 1, 1) := by decide +kernel
theorem dX3_setUp_41 : decode cX3_setUp 41 = .ok (.aload_n 0, 1) := by decide +kernel
theorem dX3_setUp_42 : decode cX3_setUp 42 = .ok (.getfield 24, 3) := by decide +kernel
theorem dX3_setUp_45 : decode cX3_setUp 45 = .ok (.getfield 31, 3) := by decide +kernel
theorem dX3_setUp_48 : decode cX3_setUp 48 = .ok (.if_icmp .ge 8, 3) := by decide +kernel
theorem dX3_setUp_51 : decode cX3_setUp 51 = .ok (.bipush 8, 2) := by decide +kernel
theorem dX3_setUp_53 : decode cX3_setUp 53 = .ok (.goto 5, 3) := by decide +kernel
theorem dX3_setUp_56 : decode cX3_setUp 56 = .ok (.bipush 10, 2) := by decide +kernel
theorem dX3_setUp_58 : decode cX3_setUp 58 = .ok (.iastore, 1) := by decide +kernel
theorem dX3_setUp_59 : decode cX3_setUp 59 = .ok (.iinc 1 1, 3) := by decide +kernel
theorem dX3_setUp_62 : decode cX3_setUp 62 = .ok (.goto (-36), 3) := by decide +kernel
theorem dX3_setUp_65 : decode cX3_setUp 65 = .ok (.iconst 0, 1) := by decide +kernel
theorem dX3_setUp_66 : decode cX3_setUp 66 = .ok (.istore_n 1, 1) := by decide +kernel
theorem dX3_setUp_67 : decode cX3_setUp 67 = .ok (.iload_n 1, 1) := by decide +kernel
theorem dX3_setUp_68 : decode cX3_setUp 68 = .ok (.aload_n 0, 1) := by decide +kernel
theorem dX3_setUp_69 : decode cX3_setUp 69 = .ok (.getfield 18, 3) := by decide +kernel
theorem dX3_setUp_72 : decode cX3_setUp 72 = .ok (.arraylength, 1) := by decide +kernel
theorem dX3_setUp_73 : decode cX3_setUp 73 = .ok (.if_icmp .ge 16, 3) := by decide +kernel
theorem dX3_setUp_76 : decode cX3_setUp 76 = .ok (.aload_n 0, 1) := by decide +kernel
theorem dX3_setUp_77 : decode cX3_setUp 77 = .ok (.getfield 18, 3) := by decide +kernel
theorem dX3_setUp_80 : decode cX3_setUp 80 = .ok (.iload_n 1, 1) := by decide +kernel
theorem dX3_setUp_81 : decode cX3_setUp 81 = .ok (.iconst 0, 1) := by decide +kernel
theorem dX3_setUp_82 : decode cX3_setUp 82 = .ok (.iastore, 1) := by decide +kernel
theorem dX3_setUp_83 : decode cX3_setUp 83 = .ok (.iinc 1 1, 3) := by decide +kernel
theorem dX3_setUp_86 : decode cX3_setUp 86 = .ok (.goto (-19), 3) := by decide +kernel
theorem dX3_setUp_89 : decode cX3_setUp 89 = .ok (.iconst 0, 1) := by decide +kernel
theorem dX3_setUp_90 : decode cX3_setUp 90 = .ok (.istore_n 1, 1) := by decide +kernel
theorem dX3_setUp_91 : decode cX3_setUp 91 = .ok (.iload_n 1, 1) := by decide +kernel
theorem dX3_setUp_92 : decode cX3_setUp 92 = .ok (.aload_n 0, 1) := by decide +kernel
theorem dX3_setUp_93 : decode cX3_setUp 93 = .ok (.getfield 21, 3) := by decide +kernel
theorem dX3_setUp_96 : decode cX3_setUp 96 = .ok (.arraylength, 1) := by decide +kernel
theorem dX3_setUp_97 : decode cX3_setUp 97 = .ok (.if_icmp .ge 16, 3) := by decide +kernel
theorem dX3_setUp_100 : decode cX3_setUp 100 = .ok (.aload_n 0, 1) := by decide +kernel
theorem dX3_setUp_101 : decode cX3_setUp 101 = .ok (.getfield 21, 3) := by decide +kernel
theorem dX3_setUp_104 : decode cX3_setUp 104 = .ok (.iload_n 1, 1) := by decide +kernel
theorem dX3_setUp_105 : decode cX3_setUp 105 = .ok (.iconst 0, 1) := by decide +kernel
theorem dX3_setUp_106 : decode cX3_setUp 106 = .ok (.iastore, 1) := by decide +kernel
theorem dX3_setUp_107 : decode cX3_setUp 107 = .ok (.iinc 1 1, 3) := by decide +kernel
theorem dX3_setUp_110 : decode cX3_setUp 110 = .ok (.goto (-19), 3) := by decide +kernel
theorem dX3_setUp_113 : decode cX3_setUp 113 = .ok (.aload_n 0, 1) := by decide +kernel
theorem dX3_setUp_114 : decode cX3_setUp 114 = .ok (.aload_n 0, 1) := by decide +kernel
theorem dX3_setUp_115 : decode cX3_setUp 115 = .ok (.getfield 24, 3) := by decide +kernel
theorem dX3_setUp_118 : decode cX3_setUp 118 = .ok (.getfield 37, 3) := by decide +kernel
theorem dX3_setUp_121 : decode cX3_setUp 121 = .ok (.putfield 40, 3) := by decide +kernel
theorem dX3_setUp_124 : decode cX3_setUp 124 = .ok (.aload_n 0, 1) := by decide +kernel
theorem dX3_setUp_125 : decode cX3_setUp 125 = .ok (.aload_n 0, 1) := by decide +kernel
theorem dX3_setUp_126 : decode cX3_setUp 126 = .ok (.getfield 24, 3) := by decide +kernel
theorem dX3_setUp_129 : decode cX3_setUp 129 = .ok (.getfield 41, 3) := by decide +kernel
theorem dX3_setUp_132 : decode cX3_setUp 132 = .ok (.putfield 44, 3) := by decide +kernel
theorem dX3_setUp_135 : decode cX3_setUp 135 = .ok (.aload_n 0, 1) := by decide +kernel
theorem dX3_setUp_136 : decode cX3_setUp 136 = .ok (.iconst 0, 1) := by decide +kernel
theorem dX3_setUp_137 : decode cX3_setUp 137 = .ok (.putfield 45, 3) := by decide +kernel
theorem dX3_setUp_140 : decode cX3_setUp 140 = .ok (.aload_n 0, 1) := by decide +kernel
theorem dX3_setUp_141 : decode cX3_setUp 141 = .ok (.iconst 0, 1) := by decide +kernel
theorem dX3_setUp_142 : decode cX3_setUp 142 = .ok (.putfield 48, 3) := by decide +kernel
theorem dX3_setUp_145 : decode cX3_setUp 145 = .ok (.aload_n 0, 1) := by decide +kernel
theorem dX3_setUp_146 : decode cX3_setUp 146 = .ok (.iconst 0, 1) := by decide +kernel
theorem dX3_setUp_147 : decode cX3_setUp 147 = .ok (.putfield 51, 3) := by decide +kernel
theorem dX3_setUp_150 : decode cX3_setUp 150 = .ok (.return_, 1) := by decide +kernel
theorem dX3_copyFrom_0 : decode cX3_copyFrom 0 = .ok (.aload_n 1, 1) := by decide +kernel
theorem dX3_copyFrom_1 : decode cX3_copyFrom 1 = .ok (.getfield 9, 3) := by decide +kernel
theorem dX3_copyFrom_4 : decode cX3_copyFrom 4 = .ok (.iconst 0, 1) := by decide +kernel
theorem dX3_copyFrom_5 : decode cX3_copyFrom 5 = .ok (.aload_n 0, 1) := by decide +kernel
theorem dX3_copyFrom_6 : decode cX3_copyFrom 6 = .ok (.getfield 9, 3) := by decide +kernel
theorem dX3_copyFrom_9 : decode cX3_copyFrom 9 = .ok (.iconst 0, 1) := by decide +kernel
theorem dX3_copyFrom_10 : decode cX3_copyFrom 10 = .ok (.iconst 5, 1) := by decide +kernel
theorem dX3_copyFrom_11 : decode cX3_copyFrom 11 = .ok (.invokestatic 54, 3) := by decide +kernel
theorem dX3_copyFrom_14 : decode cX3_copyFrom 14 = .ok (.aload_n 1, 1) := by decide +kernel
theorem dX3_copyFrom_15 : decode cX3_copyFrom 15 = .ok (.getfield 15, 3) := by decide +kernel
theorem dX3_copyFrom_18 : decode cX3_copyFrom 18 = .ok (.iconst 0, 1) := by decide +kernel
theorem dX3_copyFrom_19 : decode cX3_copyFrom 19 = .ok (.aload_n 0, 1) := by decide +kernel
theorem dX3_copyFrom_20 : decode cX3_copyFrom 20 = .ok (.getfield 15, 3) := by decide +kernel
theorem dX3_copyFrom_23 : decode cX3_copyFrom 23 = .ok (.iconst 0, 1) := by decide +kernel
theorem dX3_copyFrom_24 : decode cX3_copyFrom 24 = .ok (.iconst 4, 1) := by decide +kernel
theorem dX3_copyFrom_25 : decode cX3_copyFrom 25 = .ok (.invokestatic 54, 3) := by decide +kernel
theorem dX3_copyFrom_28 : decode cX3_copyFrom 28 = .ok (.aload_n 1, 1) := by decide +kernel
theorem dX3_copyFrom_29 : decode cX3_copyFrom 29 = .ok (.getfield 18, 3) := by decide +kernel
theorem dX3_copyFrom_32 : decode cX3_copyFrom 32 = .ok (.iconst 0, 1) := by decide +kernel
theorem dX3_copyFrom_33 : decode cX3_copyFrom 33 = .ok (.aload_n 0, 1) := by decide +kernel
theorem dX3_copyFrom_34 : decode cX3_copyFrom 34 = .ok (.getfield 18, 3) := by decide +kernel
theorem dX3_copyFrom_37 : decode cX3_copyFrom 37 = .ok (.iconst 0, 1) := by decide +kernel
theorem dX3_copyFrom_38 : decode cX3_copyFrom 38 = .ok (.iconst 4, 1) := by decide +kernel
theorem dX3_copyFrom_39 : decode cX3_copyFrom 39 = .ok (.invokestatic 54, 3) := by decide +kernel
theorem dX3_copyFrom_42 : decode cX3_copyFrom 42 = .ok (.aload_n 1, 1) := by decide +kernel
theorem dX3_copyFrom_43 : decode cX3_copyFrom 43 = .ok (.getfield 21, 3) := by decide +kernel
theorem dX3_copyFrom_46 : decode cX3_copyFrom 46 = .ok (.iconst 0, 1) := by decide +kernel
theorem dX3_copyFrom_47 : decode cX3_copyFrom 47 = .ok (.aload_n 0, 1) := by decide +kernel
theorem dX3_copyFrom_48 : decode cX3_copyFrom 48 = .ok (.getfield 21, 3) := by decide +kernel
theorem dX3_copyFrom_51 : decode cX3_copyFrom 51 = .ok (.iconst 0, 1) := by decide +kernel
theorem dX3_copyFrom_52 : decode cX3_copyFrom 52 = .ok (.iconst 4, 1) := by decide +kernel
theorem dX3_copyFrom_53 : decode cX3_copyFrom 53 = .ok (.invokestatic 54, 3) := by decide +kernel
theorem dX3_copyFrom_56 : decode cX3_copyFrom 56 = .ok (.aload_n 0, 1) := by decide +kernel
theorem dX3_copyFrom_57 : decode cX3_copyFrom 57 = .ok (.aload_n 1, 1) := by decide +kernel
theorem dX3_copyFrom_58 : decode cX3_copyFrom 58 = .ok (.getfield 40, 3) := by decide +kernel
theorem dX3_copyFrom_61 : decode cX3_copyFrom 61 = .ok (.putfield 40, 3) := by decide +kernel
theorem dX3_copyFrom_64 : decode cX3_copyFrom 64 = .ok (.aload_n 0, 1) := by decide +kernel
theorem dX3_copyFrom_65 : decode cX3_copyFrom 65 = .ok (.aload_n 1, 1) := by decide +kernel
theorem dX3_copyFrom_66 : decode cX3_copyFrom 66 = .ok (.getfield 44, 3) := by decide +kernel
theorem dX3_copyFrom_69 : decode cX3_copyFrom 69 = .ok (.putfield 44, 3) := by decide +kernel
theorem dX3_copyFrom_72 : decode cX3_copyFrom 72 = .ok (.aload_n 0, 1) := by decide +kernel
theorem dX3_copyFrom_73 : decode cX3_copyFrom 73 = .ok (.aload_n 1, 1) := by decide +kernel
theorem dX3_copyFrom_74 : decode cX3_copyFrom 74 = .ok (.getfield 45, 3) := by decide +kernel
theorem dX3_copyFrom_77 : decode cX3_copyFrom 77 = .ok (.putfield 45, 3) := by decide +kernel
theorem dX3_copyFrom_80 : decode cX3_copyFrom 80 = .ok (.aload_n 0, 1) := by decide +kernel
theorem dX3_copyFrom_81 : decode cX3_copyFrom 81 = .ok (.aload_n 1, 1) := by decide +kernel
theorem dX3_copyFrom_82 : decode cX3_copyFrom 82 = .ok (.getfield 48, 3) := by decide +kernel
theorem dX3_copyFrom_85 : decode cX3_copyFrom 85 = .ok (.putfield 48, 3) := by decide +kernel
theorem dX3_copyFrom_88 : decode cX3_copyFrom 88 = .ok (.aload_n 0, 1) := by decide +kernel
theorem dX3_copyFrom_89 : decode cX3_copyFrom 89 = .ok (.aload_n 1, 1) := by decide +kernel
theorem dX3_copyFrom_90 : decode cX3_copyFrom 90 = .ok (.getfield 51, 3) := by decide +kernel
theorem dX3_copyFrom_93 : decode cX3_copyFrom 93 = .ok (.putfield 51, 3) := by decide +kernel
theorem dX3_copyFrom_96 : decode cX3_copyFrom 96 = .ok (.return_, 1) := by decide +kernel
theorem dX3_standOf_0 : decode cX3_standOf 0 = .ok (.iconst 0, 1) := by decide +kernel
theorem dX3_standOf_1 : decode cX3_standOf 1 = .ok (.istore_n 2, 1) := by decide +kernel
theorem dX3_standOf_2 : decode cX3_standOf 2 = .ok (.iload_n 2, 1) := by decide +kernel
theorem dX3_standOf_3 : decode cX3_standOf 3 = .ok (.aload_n 0, 1) := by decide +kernel
theorem dX3_standOf_4 : decode cX3_standOf 4 = .ok (.getfield 9, 3) := by decide +kernel
theorem dX3_standOf_7 : decode cX3_standOf 7 = .ok (.arraylength, 1) := by decide +kernel
theorem dX3_standOf_8 : decode cX3_standOf 8 = .ok (.if_icmp .ge 21, 3) := by decide +kernel
theorem dX3_standOf_11 : decode cX3_standOf 11 = .ok (.aload_n 0, 1) := by decide +kernel
theorem dX3_standOf_12 : decode cX3_standOf 12 = .ok (.getfield 9, 3) := by decide +kernel
theorem dX3_standOf_15 : decode cX3_standOf 15 = .ok (.iload_n 2, 1) := by decide +kernel
theorem dX3_standOf_16 : decode cX3_standOf 16 = .ok (.iaload, 1) := by decide +kernel
theorem dX3_standOf_17 : decode cX3_standOf 17 = .ok (.iload_n 1, 1) := by decide +kernel
theorem dX3_standOf_18 : decode cX3_standOf 18 = .ok (.if_icmp .ne 5, 3) := by decide +kernel
theorem dX3_standOf_21 : decode cX3_standOf 21 = .ok (.iload_n 2, 1) := by decide +kernel
theorem dX3_standOf_22 : decode cX3_standOf 22 = .ok (.ireturn, 1) := by decide +kernel
theorem dX3_standOf_23 : decode cX3_standOf 23 = .ok (.iinc 2 1, 3) := by decide +kernel
theorem dX3_standOf_26 : decode cX3_standOf 26 = .ok (.goto (-24), 3) := by decide +kernel
theorem dX3_standOf_29 : decode cX3_standOf 29 = .ok (.bipush (-9), 2) := by decide +kernel
theorem dX3_standOf_31 : decode cX3_standOf 31 = .ok (.ireturn, 1) := by decide +kernel
theorem dX3_leastBucketAt_0 : decode cX3_leastBucketAt 0 = .ok (.iconst 0, 1) := by decide +kernel
theorem dX3_leastBucketAt_1 : decode cX3_leastBucketAt 1 = .ok (.istore_n 2, 1) := by decide +kernel
theorem dX3_leastBucketAt_2 : decode cX3_leastBucketAt 2 = .ok (.iload_n 2, 1) := by decide +kernel
theorem dX3_leastBucketAt_3 : decode cX3_leastBucketAt 3 = .ok (.aload_n 0, 1) := by decide +kernel
theorem dX3_leastBucketAt_4 : decode cX3_leastBucketAt 4 = .ok (.getfield 15, 3) := by decide +kernel
theorem dX3_leastBucketAt_7 : decode cX3_leastBucketAt 7 = .ok (.arraylength, 1) := by decide +kernel
theorem dX3_leastBucketAt_8 : decode cX3_leastBucketAt 8 = .ok (.if_icmp .ge 21, 3) := by decide +kernel
theorem dX3_leastBucketAt_11 : decode cX3_leastBucketAt 11 = .ok (.aload_n 0, 1) := by decide +kernel
theorem dX3_leastBucketAt_12 : decode cX3_leastBucketAt 12 = .ok (.getfield 15, 3) := by decide +kernel
theorem dX3_leastBucketAt_15 : decode cX3_leastBucketAt 15 = .ok (.iload_n 2, 1) := by decide +kernel
theorem dX3_leastBucketAt_16 : decode cX3_leastBucketAt 16 = .ok (.iaload, 1) := by decide +kernel
theorem dX3_leastBucketAt_17 : decode cX3_leastBucketAt 17 = .ok (.iload_n 1, 1) := by decide +kernel
theorem dX3_leastBucketAt_18 : decode cX3_leastBucketAt 18 = .ok (.if_icmp .ne 5, 3) := by decide +kernel
theorem dX3_leastBucketAt_21 : decode cX3_leastBucketAt 21 = .ok (.iload_n 2, 1) := by decide +kernel
theorem dX3_leastBucketAt_22 : decode cX3_leastBucketAt 22 = .ok (.ireturn, 1) := by decide +kernel
theorem dX3_leastBucketAt_23 : decode cX3_leastBucketAt 23 = .ok (.iinc 2 1, 3) := by decide +kernel
theorem dX3_leastBucketAt_26 : decode cX3_leastBucketAt 26 = .ok (.goto (-24), 3) := by decide +kernel
theorem dX3_leastBucketAt_29 : decode cX3_leastBucketAt 29 = .ok (.bipush (-9), 2) := by decide +kernel
theorem dX3_leastBucketAt_31 : decode cX3_leastBucketAt 31 = .ok (.ireturn, 1) := by decide +kernel
theorem dX3_bucketsAt_0 : decode cX3_bucketsAt 0 = .ok (.iconst 0, 1) := by decide +kernel
theorem dX3_bucketsAt_1 : decode cX3_bucketsAt 1 = .ok (.istore_n 2, 1) := by decide +kernel
theorem dX3_bucketsAt_2 : decode cX3_bucketsAt 2 = .ok (.iconst 0, 1) := by decide +kernel
theorem dX3_bucketsAt_3 : decode cX3_bucketsAt 3 = .ok (.istore_n 3, 1) := by decide +kernel
theorem dX3_bucketsAt_4 : decode cX3_bucketsAt 4 = .ok (.iload_n 3, 1) := by decide +kernel
theorem dX3_bucketsAt_5 : decode cX3_bucketsAt 5 = .ok (.aload_n 0, 1) := by decide +kernel
theorem dX3_bucketsAt_6 : decode cX3_bucketsAt 6 = .ok (.getfield 15, 3) := by decide +kernel
theorem dX3_bucketsAt_9 : decode cX3_bucketsAt 9 = .ok (.arraylength, 1) := by decide +kernel
theorem dX3_bucketsAt_10 : decode cX3_bucketsAt 10 = .ok (.if_icmp .ge 25, 3) := by decide +kernel
theorem dX3_bucketsAt_13 : decode cX3_bucketsAt 13 = .ok (.aload_n 0, 1) := by decide +kernel
theorem dX3_bucketsAt_14 : decode cX3_bucketsAt 14 = .ok (.getfield 15, 3) := by decide +kernel
theorem dX3_bucketsAt_17 : decode cX3_bucketsAt 17 = .ok (.iload_n 3, 1) := by decide +kernel
theorem dX3_bucketsAt_18 : decode cX3_bucketsAt 18 = .ok (.iaload, 1) := by decide +kernel
theorem dX3_bucketsAt_19 : decode cX3_bucketsAt 19 = .ok (.iload_n 1, 1) := by decide +kernel
theorem dX3_bucketsAt_20 : decode cX3_bucketsAt 20 = .ok (.if_icmp .ne 9, 3) := by decide +kernel
theorem dX3_bucketsAt_23 : decode cX3_bucketsAt 23 = .ok (.iload_n 2, 1) := by decide +kernel
theorem dX3_bucketsAt_24 : decode cX3_bucketsAt 24 = .ok (.iconst 1, 1) := by decide +kernel
theorem dX3_bucketsAt_25 : decode cX3_bucketsAt 25 = .ok (.iload_n 3, 1) := by decide +kernel
theorem dX3_bucketsAt_26 : decode cX3_bucketsAt 26 = .ok (.ishl, 1) := by decide +kernel
theorem dX3_bucketsAt_27 : decode cX3_bucketsAt 27 = .ok (.ior, 1) := by decide +kernel
theorem dX3_bucketsAt_28 : decode cX3_bucketsAt 28 = .ok (.istore_n 2, 1) := by decide +kernel
theorem dX3_bucketsAt_29 : decode cX3_bucketsAt 29 = .ok (.iinc 3 1, 3) := by decide +kernel
theorem dX3_bucketsAt_32 : decode cX3_bucketsAt 32 = .ok (.goto (-28), 3) := by decide +kernel
theorem dX3_bucketsAt_35 : decode cX3_bucketsAt 35 = .ok (.iload_n 2, 1) := by decide +kernel
theorem dX3_bucketsAt_36 : decode cX3_bucketsAt 36 = .ok (.ireturn, 1) := by decide +kernel
theorem dX3_holdingStands_0 : decode cX3_holdingStands 0 = .ok (.iconst 0, 1) := by decide +kernel
theorem dX3_holdingStands_1 : decode cX3_holdingStands 1 = .ok (.istore_n 1, 1) := by decide +kernel
theorem dX3_holdingStands_2 : decode cX3_holdingStands 2 = .ok (.iconst 0, 1) := by decide +kernel
theorem dX3_holdingStands_3 : decode cX3_holdingStands 3 = .ok (.istore_n 2, 1) := by decide +kernel
theorem dX3_holdingStands_4 : decode cX3_holdingStands 4 = .ok (.iload_n 2, 1) := by decide +kernel
theorem dX3_holdingStands_5 : decode cX3_holdingStands 5 = .ok (.aload_n 0, 1) := by decide +kernel
theorem dX3_holdingStands_6 : decode cX3_holdingStands 6 = .ok (.getfield 15, 3) := by decide +kernel
theorem dX3_holdingStands_9 : decode cX3_holdingStands 9 = .ok (.arraylength, 1) := by decide +kernel
theorem dX3_holdingStands_10 : decode cX3_holdingStands 10 = .ok (.if_icmp .ge 30, 3) := by decide +kernel
theorem dX3_holdingStands_13 : decode cX3_holdingStands 13 = .ok (.aload_n 0, 1) := by decide +kernel
theorem dX3_holdingStands_14 : decode cX3_holdingStands 14 = .ok (.getfield 15, 3) := by decide +kernel
theorem dX3_holdingStands_17 : decode cX3_holdingStands 17 = .ok (.iload_n 2, 1) := by decide +kernel
theorem dX3_holdingStands_18 : decode cX3_holdingStands 18 = .ok (.iaload, 1) := by decide +kernel
theorem dX3_holdingStands_19 : decode cX3_holdingStands 19 = .ok (.iconst 5, 1) := by decide +kernel
theorem dX3_holdingStands_20 : decode cX3_holdingStands 20 = .ok (.if_icmp .ge 14, 3) := by decide +kernel
theorem dX3_holdingStands_23 : decode cX3_holdingStands 23 = .ok (.iload_n 1, 1) := by decide +kernel
theorem dX3_holdingStands_24 : decode cX3_holdingStands 24 = .ok (.iconst 1, 1) := by decide +kernel
theorem dX3_holdingStands_25 : decode cX3_holdingStands 25 = .ok (.aload_n 0, 1) := by decide +kernel
theorem dX3_holdingStands_26 : decode cX3_holdingStands 26 = .ok (.getfield 15, 3) := by decide +kernel
theorem dX3_holdingStands_29 : decode cX3_holdingStands 29 = .ok (.iload_n 2, 1) := by decide +kernel
theorem dX3_holdingStands_30 : decode cX3_holdingStands 30 = .ok (.iaload, 1) := by decide +kernel
theorem dX3_holdingStands_31 : decode cX3_holdingStands 31 = .ok (.ishl, 1) := by decide +kernel
theorem dX3_holdingStands_32 : decode cX3_holdingStands 32 = .ok (.ior, 1) := by decide +kernel
theorem dX3_holdingStands_33 : decode cX3_holdingStands 33 = .ok (.istore_n 1, 1) := by decide +kernel
theorem dX3_holdingStands_34 : decode cX3_holdingStands 34 = .ok (.iinc 2 1, 3) := by decide +kernel
theorem dX3_holdingStands_37 : decode cX3_holdingStands 37 = .ok (.goto (-33), 3) := by decide +kernel
theorem dX3_holdingStands_40 : decode cX3_holdingStands 40 = .ok (.iload_n 1, 1) := by decide +kernel
theorem dX3_holdingStands_41 : decode cX3_holdingStands 41 = .ok (.ireturn, 1) := by decide +kernel
theorem dX3_isHeld_0 : decode cX3_isHeld 0 = .ok (.iload_n 1, 1) := by decide +kernel
theorem dX3_isHeld_1 : decode cX3_isHeld 1 = .ok (.ifCond .lt 26, 3) := by decide +kernel
theorem dX3_isHeld_4 : decode cX3_isHeld 4 = .ok (.iload_n 1, 1) := by decide +kernel
theorem dX3_isHeld_5 : decode cX3_isHeld 5 = .ok (.aload_n 0, 1) := by decide +kernel
theorem dX3_isHeld_6 : decode cX3_isHeld 6 = .ok (.getfield 15, 3) := by decide +kernel
theorem dX3_isHeld_9 : decode cX3_isHeld 9 = .ok (.arraylength, 1) := by decide +kernel
theorem dX3_isHeld_10 : decode cX3_isHeld 10 = .ok (.if_icmp .ge 17, 3) := by decide +kernel
theorem dX3_isHeld_13 : decode cX3_isHeld 13 = .ok (.aload_n 0, 1) := by decide +kernel
theorem dX3_isHeld_14 : decode cX3_isHeld 14 = .ok (.getfield 15, 3) := by decide +kernel
theorem dX3_isHeld_17 : decode cX3_isHeld 17 = .ok (.iload_n 1, 1) := by decide +kernel
theorem dX3_isHeld_18 : decode cX3_isHeld 18 = .ok (.iaload, 1) := by decide +kernel
theorem dX3_isHeld_19 : decode cX3_isHeld 19 = .ok (.iconst 5, 1) := by decide +kernel
theorem dX3_isHeld_20 : decode cX3_isHeld 20 = .ok (.if_icmp .ge 7, 3) := by decide +kernel
theorem dX3_isHeld_23 : decode cX3_isHeld 23 = .ok (.iconst 1, 1) := by decide +kernel
theorem dX3_isHeld_24 : decode cX3_isHeld 24 = .ok (.goto 4, 3) := by decide +kernel
theorem dX3_isHeld_27 : decode cX3_isHeld 27 = .ok (.iconst 0, 1) := by decide +kernel
theorem dX3_isHeld_28 : decode cX3_isHeld 28 = .ok (.ireturn, 1) := by decide +kernel
theorem dX3_hasHole_0 : decode cX3_hasHole 0 = .ok (.iload_n 1, 1) := by decide +kernel
theorem dX3_hasHole_1 : decode cX3_hasHole 1 = .ok (.ifCond .lt 24, 3) := by decide +kernel
theorem dX3_hasHole_4 : decode cX3_hasHole 4 = .ok (.iload_n 1, 1) := by decide +kernel
theorem dX3_hasHole_5 : decode cX3_hasHole 5 = .ok (.iconst 4, 1) := by decide +kernel
theorem dX3_hasHole_6 : decode cX3_hasHole 6 = .ok (.if_icmp .ge 19, 3) := by decide +kernel
theorem dX3_hasHole_9 : decode cX3_hasHole 9 = .ok (.aload_n 0, 1) := by decide +kernel
theorem dX3_hasHole_10 : decode cX3_hasHole 10 = .ok (.getfield 40, 3) := by decide +kernel
theorem dX3_hasHole_13 : decode cX3_hasHole 13 = .ok (.iload_n 1, 1) := by decide +kernel
theorem dX3_hasHole_14 : decode cX3_hasHole 14 = .ok (.ishr, 1) := by decide +kernel
theorem dX3_hasHole_15 : decode cX3_hasHole 15 = .ok (.iconst 1, 1) := by decide +kernel
theorem dX3_hasHole_16 : decode cX3_hasHole 16 = .ok (.iand, 1) := by decide +kernel
theorem dX3_hasHole_17 : decode cX3_hasHole 17 = .ok (.iconst 1, 1) := by decide +kernel
theorem dX3_hasHole_18 : decode cX3_hasHole 18 = .ok (.if_icmp .ne 7, 3) := by decide +kernel
theorem dX3_hasHole_21 : decode cX3_hasHole 21 = .ok (.iconst 1, 1) := by decide +kernel
theorem dX3_hasHole_22 : decode cX3_hasHole 22 = .ok (.goto 4, 3) := by decide +kernel
theorem dX3_hasHole_25 : decode cX3_hasHole 25 = .ok (.iconst 0, 1) := by decide +kernel
theorem dX3_hasHole_26 : decode cX3_hasHole 26 = .ok (.ireturn, 1) := by decide +kernel
theorem dX3_kindAt_0 : decode cX3_kindAt 0 = .ok (.iload_n 1, 1) := by decide +kernel
theorem dX3_kindAt_1 : decode cX3_kindAt 1 = .ok (.ifCond .lt 12, 3) := by decide +kernel
theorem dX3_kindAt_4 : decode cX3_kindAt 4 = .ok (.iload_n 1, 1) := by decide +kernel
theorem dX3_kindAt_5 : decode cX3_kindAt 5 = .ok (.aload_n 0, 1) := by decide +kernel
theorem dX3_kindAt_6 : decode cX3_kindAt 6 = .ok (.getfield 9, 3) := by decide +kernel
theorem dX3_kindAt_9 : decode cX3_kindAt 9 = .ok (.arraylength, 1) := by decide +kernel
theorem dX3_kindAt_10 : decode cX3_kindAt 10 = .ok (.if_icmp .lt 5, 3) := by decide +kernel
theorem dX3_kindAt_13 : decode cX3_kindAt 13 = .ok (.iconst 0, 1) := by decide +kernel
theorem dX3_kindAt_14 : decode cX3_kindAt 14 = .ok (.ireturn, 1) := by decide +kernel
theorem dX3_kindAt_15 : decode cX3_kindAt 15 = .ok (.aload_n 0, 1) := by decide +kernel
theorem dX3_kindAt_16 : decode cX3_kindAt 16 = .ok (.getfield 9, 3) := by decide +kernel
theorem dX3_kindAt_19 : decode cX3_kindAt 19 = .ok (.iload_n 1, 1) := by decide +kernel
theorem dX3_kindAt_20 : decode cX3_kindAt 20 = .ok (.iaload, 1) := by decide +kernel
theorem dX3_kindAt_21 : decode cX3_kindAt 21 = .ok (.istore_n 2, 1) := by decide +kernel
theorem dX3_kindAt_22 : decode cX3_kindAt 22 = .ok (.iload_n 2, 1) := by decide +kernel
theorem dX3_kindAt_23 : decode cX3_kindAt 23 = .ok (.ifCond .lt 27, 3) := by decide +kernel
theorem dX3_kindAt_26 : decode cX3_kindAt 26 = .ok (.iload_n 2, 1) := by decide +kernel
theorem dX3_kindAt_27 : decode cX3_kindAt 27 = .ok (.aload_n 0, 1) := by decide +kernel
theorem dX3_kindAt_28 : decode cX3_kindAt 28 = .ok (.getfield 24, 3) := by decide +kernel
theorem dX3_kindAt_31 : decode cX3_kindAt 31 = .ok (.getfield 60, 3) := by decide +kernel
theorem dX3_kindAt_34 : decode cX3_kindAt 34 = .ok (.arraylength, 1) := by decide +kernel
theorem dX3_kindAt_35 : decode cX3_kindAt 35 = .ok (.if_icmp .ge 15, 3) := by decide +kernel
theorem dX3_kindAt_38 : decode cX3_kindAt 38 = .ok (.aload_n 0, 1) := by decide +kernel
theorem dX3_kindAt_39 : decode cX3_kindAt 39 = .ok (.getfield 24, 3) := by decide +kernel
theorem dX3_kindAt_42 : decode cX3_kindAt 42 = .ok (.getfield 60, 3) := by decide +kernel
theorem dX3_kindAt_45 : decode cX3_kindAt 45 = .ok (.iload_n 2, 1) := by decide +kernel
theorem dX3_kindAt_46 : decode cX3_kindAt 46 = .ok (.iaload, 1) := by decide +kernel
theorem dX3_kindAt_47 : decode cX3_kindAt 47 = .ok (.goto 4, 3) := by decide +kernel
theorem dX3_kindAt_50 : decode cX3_kindAt 50 = .ok (.iconst 0, 1) := by decide +kernel
theorem dX3_kindAt_51 : decode cX3_kindAt 51 = .ok (.ireturn, 1) := by decide +kernel
theorem dX3_worksAt_0 : decode cX3_worksAt 0 = .ok (.iload_n 1, 1) := by decide +kernel
theorem dX3_worksAt_1 : decode cX3_worksAt 1 = .ok (.ifCond .lt 29, 3) := by decide +kernel
theorem dX3_worksAt_4 : decode cX3_worksAt 4 = .ok (.iload_n 1, 1) := by decide +kernel
theorem dX3_worksAt_5 : decode cX3_worksAt 5 = .ok (.aload_n 0, 1) := by decide +kernel
theorem dX3_worksAt_6 : decode cX3_worksAt 6 = .ok (.getfield 9, 3) := by decide +kernel
theorem dX3_worksAt_9 : decode cX3_worksAt 9 = .ok (.arraylength, 1) := by decide +kernel
theorem dX3_worksAt_10 : decode cX3_worksAt 10 = .ok (.if_icmp .ge 20, 3) := by decide +kernel
theorem dX3_worksAt_13 : decode cX3_worksAt 13 = .ok (.aload_n 0, 1) := by decide +kernel
theorem dX3_worksAt_14 : decode cX3_worksAt 14 = .ok (.getfield 51, 3) := by decide +kernel
theorem dX3_worksAt_17 : decode cX3_worksAt 17 = .ok (.aload_n 0, 1) := by decide +kernel
theorem dX3_worksAt_18 : decode cX3_worksAt 18 = .ok (.getfield 9, 3) := by decide +kernel
theorem dX3_worksAt_21 : decode cX3_worksAt 21 = .ok (.iload_n 1, 1) := by decide +kernel
theorem dX3_worksAt_22 : decode cX3_worksAt 22 = .ok (.iaload, 1) := by decide +kernel
theorem dX3_worksAt_23 : decode cX3_worksAt 23 = .ok (.ishr, 1) := by decide +kernel
theorem dX3_worksAt_24 : decode cX3_worksAt 24 = .ok (.iconst 1, 1) := by decide +kernel
theorem dX3_worksAt_25 : decode cX3_worksAt 25 = .ok (.iand, 1) := by decide +kernel
theorem dX3_worksAt_26 : decode cX3_worksAt 26 = .ok (.iconst 1, 1) := by decide +kernel
theorem dX3_worksAt_27 : decode cX3_worksAt 27 = .ok (.if_icmp .ne 5, 3) := by decide +kernel
theorem dX3_worksAt_30 : decode cX3_worksAt 30 = .ok (.iconst 0, 1) := by decide +kernel
theorem dX3_worksAt_31 : decode cX3_worksAt 31 = .ok (.ireturn, 1) := by decide +kernel
theorem dX3_worksAt_32 : decode cX3_worksAt 32 = .ok (.aload_n 0, 1) := by decide +kernel
theorem dX3_worksAt_33 : decode cX3_worksAt 33 = .ok (.iload_n 1, 1) := by decide +kernel
theorem dX3_worksAt_34 : decode cX3_worksAt 34 = .ok (.invokevirtual 63, 3) := by decide +kernel
theorem dX3_worksAt_37 : decode cX3_worksAt 37 = .ok (.iconst 2, 1) := by decide +kernel
theorem dX3_worksAt_38 : decode cX3_worksAt 38 = .ok (.if_icmp .ne 12, 3) := by decide +kernel
theorem dX3_worksAt_41 : decode cX3_worksAt 41 = .ok (.aload_n 0, 1) := by decide +kernel
theorem dX3_worksAt_42 : decode cX3_worksAt 42 = .ok (.getfield 48, 3) := by decide +kernel
theorem dX3_worksAt_45 : decode cX3_worksAt 45 = .ok (.iconst 1, 1) := by decide +kernel
theorem dX3_worksAt_46 : decode cX3_worksAt 46 = .ok (.iand, 1) := by decide +kernel
theorem dX3_worksAt_47 : decode cX3_worksAt 47 = .ok (.ifCond .ne 7, 3) := by decide +kernel
theorem dX3_worksAt_50 : decode cX3_worksAt 50 = .ok (.iconst 1, 1) := by decide +kernel
theorem dX3_worksAt_51 : decode cX3_worksAt 51 = .ok (.goto 4, 3) := by decide +kernel
theorem dX3_worksAt_54 : decode cX3_worksAt 54 = .ok (.iconst 0, 1) := by decide +kernel
theorem dX3_worksAt_55 : decode cX3_worksAt 55 = .ok (.ireturn, 1) := by decide +kernel
theorem dX3_exchange_0 : decode cX3_exchange 0 = .ok (.aload_n 0, 1) := by decide +kernel
theorem dX3_exchange_1 : decode cX3_exchange 1 = .ok (.iload_n 1, 1) := by decide +kernel
theorem dX3_exchange_2 : decode cX3_exchange 2 = .ok (.invokevirtual 67, 3) := by decide +kernel
theorem dX3_exchange_5 : decode cX3_exchange 5 = .ok (.istore_n 3, 1) := by decide +kernel
theorem dX3_exchange_6 : decode cX3_exchange 6 = .ok (.aload_n 0, 1) := by decide +kernel
theorem dX3_exchange_7 : decode cX3_exchange 7 = .ok (.iload_n 2, 1) := by decide +kernel
theorem dX3_exchange_8 : decode cX3_exchange 8 = .ok (.invokevirtual 67, 3) := by decide +kernel
theorem dX3_exchange_11 : decode cX3_exchange 11 = .ok (.istore 4, 2) := by decide +kernel
theorem dX3_exchange_13 : decode cX3_exchange 13 = .ok (.iload_n 3, 1) := by decide +kernel
theorem dX3_exchange_14 : decode cX3_exchange 14 = .ok (.ifCond .lt 8, 3) := by decide +kernel
theorem dX3_exchange_17 : decode cX3_exchange 17 = .ok (.iload 4, 2) := by decide +kernel
theorem dX3_exchange_19 : decode cX3_exchange 19 = .ok (.ifCond .ge 4, 3) := by decide +kernel
theorem dX3_exchange_22 : decode cX3_exchange 22 = .ok (.return_, 1) := by decide +kernel
theorem dX3_exchange_23 : decode cX3_exchange 23 = .ok (.aload_n 0, 1) := by decide +kernel
theorem dX3_exchange_24 : decode cX3_exchange 24 = .ok (.getfield 9, 3) := by decide +kernel
theorem dX3_exchange_27 : decode cX3_exchange 27 = .ok (.iload_n 3, 1) := by decide +kernel
theorem dX3_exchange_28 : decode cX3_exchange 28 = .ok (.iload_n 2, 1) := by decide +kernel
theorem dX3_exchange_29 : decode cX3_exchange 29 = .ok (.iastore, 1) := by decide +kernel
theorem dX3_exchange_30 : decode cX3_exchange 30 = .ok (.aload_n 0, 1) := by decide +kernel
theorem dX3_exchange_31 : decode cX3_exchange 31 = .ok (.getfield 9, 3) := by decide +kernel
theorem dX3_exchange_34 : decode cX3_exchange 34 = .ok (.iload 4, 2) := by decide +kernel
theorem dX3_exchange_36 : decode cX3_exchange 36 = .ok (.iload_n 1, 1) := by decide +kernel
theorem dX3_exchange_37 : decode cX3_exchange 37 = .ok (.iastore, 1) := by decide +kernel
theorem dX3_exchange_38 : decode cX3_exchange 38 = .ok (.return_, 1) := by decide +kernel
theorem dX3_closeHole_0 : decode cX3_closeHole 0 = .ok (.aload_n 0, 1) := by decide +kernel
theorem dX3_closeHole_1 : decode cX3_closeHole 1 = .ok (.dup, 1) := by decide +kernel
theorem dX3_closeHole_2 : decode cX3_closeHole 2 = .ok (.getfield 40, 3) := by decide +kernel
theorem dX3_closeHole_5 : decode cX3_closeHole 5 = .ok (.iconst 1, 1) := by decide +kernel
theorem dX3_closeHole_6 : decode cX3_closeHole 6 = .ok (.iload_n 1, 1) := by decide +kernel
theorem dX3_closeHole_7 : decode cX3_closeHole 7 = .ok (.ishl, 1) := by decide +kernel
theorem dX3_closeHole_8 : decode cX3_closeHole 8 = .ok (.iconst (-1), 1) := by decide +kernel
theorem dX3_closeHole_9 : decode cX3_closeHole 9 = .ok (.ixor, 1) := by decide +kernel
theorem dX3_closeHole_10 : decode cX3_closeHole 10 = .ok (.iand, 1) := by decide +kernel
theorem dX3_closeHole_11 : decode cX3_closeHole 11 = .ok (.putfield 40, 3) := by decide +kernel
theorem dX3_closeHole_14 : decode cX3_closeHole 14 = .ok (.return_, 1) := by decide +kernel
theorem dX3_letFall_0 : decode cX3_letFall 0 = .ok (.aload_n 0, 1) := by decide +kernel
theorem dX3_letFall_1 : decode cX3_letFall 1 = .ok (.iload_n 1, 1) := by decide +kernel
theorem dX3_letFall_2 : decode cX3_letFall 2 = .ok (.invokevirtual 70, 3) := by decide +kernel
theorem dX3_letFall_5 : decode cX3_letFall 5 = .ok (.ifCond .ne 4, 3) := by decide +kernel
theorem dX3_letFall_8 : decode cX3_letFall 8 = .ok (.return_, 1) := by decide +kernel
theorem dX3_letFall_9 : decode cX3_letFall 9 = .ok (.aload_n 0, 1) := by decide +kernel
theorem dX3_letFall_10 : decode cX3_letFall 10 = .ok (.iload_n 1, 1) := by decide +kernel
theorem dX3_letFall_11 : decode cX3_letFall 11 = .ok (.invokevirtual 74, 3) := by decide +kernel
theorem dX3_letFall_14 : decode cX3_letFall 14 = .ok (.aload_n 0, 1) := by decide +kernel
theorem dX3_letFall_15 : decode cX3_letFall 15 = .ok (.getfield 21, 3) := by decide +kernel
theorem dX3_letFall_18 : decode cX3_letFall 18 = .ok (.iload_n 1, 1) := by decide +kernel
theorem dX3_letFall_19 : decode cX3_letFall 19 = .ok (.iaload, 1) := by decide +kernel
theorem dX3_letFall_20 : decode cX3_letFall 20 = .ok (.ifCond .ne 11, 3) := by decide +kernel
theorem dX3_letFall_23 : decode cX3_letFall 23 = .ok (.aload_n 0, 1) := by decide +kernel
theorem dX3_letFall_24 : decode cX3_letFall 24 = .ok (.getfield 15, 3) := by decide +kernel
theorem dX3_letFall_27 : decode cX3_letFall 27 = .ok (.iload_n 1, 1) := by decide +kernel
theorem dX3_letFall_28 : decode cX3_letFall 28 = .ok (.bipush 8, 2) := by decide +kernel
theorem dX3_letFall_30 : decode cX3_letFall 30 = .ok (.iastore, 1) := by decide +kernel
theorem dX3_letFall_31 : decode cX3_letFall 31 = .ok (.return_, 1) := by decide +kernel
theorem dX3_passBeats_0 : decode cX3_passBeats 0 = .ok (.aload_n 0, 1) := by decide +kernel
theorem dX3_passBeats_1 : decode cX3_passBeats 1 = .ok (.getfield 45, 3) := by decide +kernel
theorem dX3_passBeats_4 : decode cX3_passBeats 4 = .ok (.istore_n 2, 1) := by decide +kernel
theorem dX3_passBeats_5 : decode cX3_passBeats 5 = .ok (.iconst 0, 1) := by decide +kernel
theorem dX3_passBeats_6 : decode cX3_passBeats 6 = .ok (.istore_n 3, 1) := by decide +kernel
theorem dX3_passBeats_7 : decode cX3_passBeats 7 = .ok (.iload_n 3, 1) := by decide +kernel
theorem dX3_passBeats_8 : decode cX3_passBeats 8 = .ok (.iload_n 1, 1) := by decide +kernel
theorem dX3_passBeats_9 : decode cX3_passBeats 9 = .ok (.if_icmp .ge 14, 3) := by decide +kernel
theorem dX3_passBeats_12 : decode cX3_passBeats 12 = .ok (.aload_n 0, 1) := by decide +kernel
theorem dX3_passBeats_13 : decode cX3_passBeats 13 = .ok (.invokevirtual 78, 3) := by decide +kernel
theorem dX3_passBeats_16 : decode cX3_passBeats 16 = .ok (.pop, 1) := by decide +kernel
theorem dX3_passBeats_17 : decode cX3_passBeats 17 = .ok (.iinc 3 1, 3) := by decide +kernel
theorem dX3_passBeats_20 : decode cX3_passBeats 20 = .ok (.goto (-13), 3) := by decide +kernel
theorem dX3_passBeats_23 : decode cX3_passBeats 23 = .ok (.aload_n 0, 1) := by decide +kernel
theorem dX3_passBeats_24 : decode cX3_passBeats 24 = .ok (.getfield 45, 3) := by decide +kernel
theorem dX3_passBeats_27 : decode cX3_passBeats 27 = .ok (.iload_n 2, 1) := by decide +kernel
theorem dX3_passBeats_28 : decode cX3_passBeats 28 = .ok (.isub, 1) := by decide +kernel
theorem dX3_passBeats_29 : decode cX3_passBeats 29 = .ok (.ireturn, 1) := by decide +kernel
theorem dX3_passBeat_0 : decode cX3_passBeat 0 = .ok (.aload_n 0, 1) := by decide +kernel
theorem dX3_passBeat_1 : decode cX3_passBeat 1 = .ok (.getfield 45, 3) := by decide +kernel
theorem dX3_passBeat_4 : decode cX3_passBeat 4 = .ok (.istore_n 1, 1) := by decide +kernel
theorem dX3_passBeat_5 : decode cX3_passBeat 5 = .ok (.aload_n 0, 1) := by decide +kernel
theorem dX3_passBeat_6 : decode cX3_passBeat 6 = .ok (.invokevirtual 82, 3) := by decide +kernel
theorem dX3_passBeat_9 : decode cX3_passBeat 9 = .ok (.istore_n 2, 1) := by decide +kernel
theorem dX3_passBeat_10 : decode cX3_passBeat 10 = .ok (.aload_n 0, 1) := by decide +kernel
theorem dX3_passBeat_11 : decode cX3_passBeat 11 = .ok (.getfield 24, 3) := by decide +kernel
theorem dX3_passBeat_14 : decode cX3_passBeat 14 = .ok (.getfield 85, 3) := by decide +kernel
theorem dX3_passBeat_17 : decode cX3_passBeat 17 = .ok (.iconst 2, 1) := by decide +kernel
theorem dX3_passBeat_18 : decode cX3_passBeat 18 = .ok (.isub, 1) := by decide +kernel
theorem dX3_passBeat_19 : decode cX3_passBeat 19 = .ok (.istore_n 3, 1) := by decide +kernel
theorem dX3_passBeat_20 : decode cX3_passBeat 20 = .ok (.iload_n 3, 1) := by decide +kernel
theorem dX3_passBeat_21 : decode cX3_passBeat 21 = .ok (.ifCond .lt 14, 3) := by decide +kernel
theorem dX3_passBeat_24 : decode cX3_passBeat 24 = .ok (.aload_n 0, 1) := by decide +kernel
theorem dX3_passBeat_25 : decode cX3_passBeat 25 = .ok (.iload_n 3, 1) := by decide +kernel
theorem dX3_passBeat_26 : decode cX3_passBeat 26 = .ok (.invokevirtual 88, 3) := by decide +kernel
theorem dX3_passBeat_29 : decode cX3_passBeat 29 = .ok (.iinc 3 (-1), 3) := by decide +kernel
theorem dX3_passBeat_32 : decode cX3_passBeat 32 = .ok (.goto (-12), 3) := by decide +kernel
theorem dX3_passBeat_35 : decode cX3_passBeat 35 = .ok (.aload_n 0, 1) := by decide +kernel
theorem dX3_passBeat_36 : decode cX3_passBeat 36 = .ok (.invokevirtual 91, 3) := by decide +kernel
theorem dX3_passBeat_39 : decode cX3_passBeat 39 = .ok (.aload_n 0, 1) := by decide +kernel
theorem dX3_passBeat_40 : decode cX3_passBeat 40 = .ok (.invokevirtual 94, 3) := by decide +kernel
theorem dX3_passBeat_43 : decode cX3_passBeat 43 = .ok (.aload_n 0, 1) := by decide +kernel
theorem dX3_passBeat_44 : decode cX3_passBeat 44 = .ok (.iload_n 2, 1) := by decide +kernel
theorem dX3_passBeat_45 : decode cX3_passBeat 45 = .ok (.invokevirtual 97, 3) := by decide +kernel
theorem dX3_passBeat_48 : decode cX3_passBeat 48 = .ok (.aload_n 0, 1) := by decide +kernel
theorem dX3_passBeat_49 : decode cX3_passBeat 49 = .ok (.getfield 44, 3) := by decide +kernel
theorem dX3_passBeat_52 : decode cX3_passBeat 52 = .ok (.ifCond .eq 24, 3) := by decide +kernel
theorem dX3_passBeat_55 : decode cX3_passBeat 55 = .ok (.aload_n 0, 1) := by decide +kernel
theorem dX3_passBeat_56 : decode cX3_passBeat 56 = .ok (.bipush 99, 2) := by decide +kernel
theorem dX3_passBeat_58 : decode cX3_passBeat 58 = .ok (.aload_n 0, 1) := by decide +kernel
theorem dX3_passBeat_59 : decode cX3_passBeat 59 = .ok (.getfield 44, 3) := by decide +kernel
theorem dX3_passBeat_62 : decode cX3_passBeat 62 = .ok (.aload_n 0, 1) := by decide +kernel
theorem dX3_passBeat_63 : decode cX3_passBeat 63 = .ok (.getfield 24, 3) := by decide +kernel
theorem dX3_passBeat_66 : decode cX3_passBeat 66 = .ok (.getfield 100, 3) := by decide +kernel
theorem dX3_passBeat_69 : decode cX3_passBeat 69 = .ok (.iadd, 1) := by decide +kernel
theorem dX3_passBeat_70 : decode cX3_passBeat 70 = .ok (.invokestatic 103, 3) := by decide +kernel
theorem dX3_passBeat_73 : decode cX3_passBeat 73 = .ok (.putfield 44, 3) := by decide +kernel
theorem dX3_passBeat_76 : decode cX3_passBeat 76 = .ok (.aload_n 0, 1) := by decide +kernel
theorem dX3_passBeat_77 : decode cX3_passBeat 77 = .ok (.dup, 1) := by decide +kernel
theorem dX3_passBeat_78 : decode cX3_passBeat 78 = .ok (.getfield 48, 3) := by decide +kernel
theorem dX3_passBeat_81 : decode cX3_passBeat 81 = .ok (.iconst 1, 1) := by decide +kernel
theorem dX3_passBeat_82 : decode cX3_passBeat 82 = .ok (.iadd, 1) := by decide +kernel
theorem dX3_passBeat_83 : decode cX3_passBeat 83 = .ok (.putfield 48, 3) := by decide +kernel
theorem dX3_passBeat_86 : decode cX3_passBeat 86 = .ok (.aload_n 0, 1) := by decide +kernel
theorem dX3_passBeat_87 : decode cX3_passBeat 87 = .ok (.getfield 45, 3) := by decide +kernel
theorem dX3_passBeat_90 : decode cX3_passBeat 90 = .ok (.iload_n 1, 1) := by decide +kernel
theorem dX3_passBeat_91 : decode cX3_passBeat 91 = .ok (.isub, 1) := by decide +kernel
theorem dX3_passBeat_92 : decode cX3_passBeat 92 = .ok (.ireturn, 1) := by decide +kernel
theorem dX3_throwLast_0 : decode cX3_throwLast 0 = .ok (.aload_n 0, 1) := by decide +kernel
theorem dX3_throwLast_1 : decode cX3_throwLast 1 = .ok (.getfield 24, 3) := by decide +kernel
theorem dX3_throwLast_4 : decode cX3_throwLast 4 = .ok (.getfield 85, 3) := by decide +kernel
theorem dX3_throwLast_7 : decode cX3_throwLast 7 = .ok (.iconst 1, 1) := by decide +kernel
theorem dX3_throwLast_8 : decode cX3_throwLast 8 = .ok (.isub, 1) := by decide +kernel
theorem dX3_throwLast_9 : decode cX3_throwLast 9 = .ok (.istore_n 1, 1) := by decide +kernel
theorem dX3_throwLast_10 : decode cX3_throwLast 10 = .ok (.aload_n 0, 1) := by decide +kernel
theorem dX3_throwLast_11 : decode cX3_throwLast 11 = .ok (.iload_n 1, 1) := by decide +kernel
theorem dX3_throwLast_12 : decode cX3_throwLast 12 = .ok (.invokevirtual 109, 3) := by decide +kernel
theorem dX3_throwLast_15 : decode cX3_throwLast 15 = .ok (.istore_n 2, 1) := by decide +kernel
theorem dX3_throwLast_16 : decode cX3_throwLast 16 = .ok (.iload_n 2, 1) := by decide +kernel
theorem dX3_throwLast_17 : decode cX3_throwLast 17 = .ok (.ifCond .lt 11, 3) := by decide +kernel
theorem dX3_throwLast_20 : decode cX3_throwLast 20 = .ok (.aload_n 0, 1) := by decide +kernel
theorem dX3_throwLast_21 : decode cX3_throwLast 21 = .ok (.iload_n 1, 1) := by decide +kernel
theorem dX3_throwLast_22 : decode cX3_throwLast 22 = .ok (.invokevirtual 112, 3) := by decide +kernel
theorem dX3_throwLast_25 : decode cX3_throwLast 25 = .ok (.ifCond .ne 6, 3) := by decide +kernel
theorem dX3_throwLast_28 : decode cX3_throwLast 28 = .ok (.bipush (-9), 2) := by decide +kernel
theorem dX3_throwLast_30 : decode cX3_throwLast 30 = .ok (.ireturn, 1) := by decide +kernel
theorem dX3_throwLast_31 : decode cX3_throwLast 31 = .ok (.aload_n 0, 1) := by decide +kernel
theorem dX3_throwLast_32 : decode cX3_throwLast 32 = .ok (.iconst 0, 1) := by decide +kernel
theorem dX3_throwLast_33 : decode cX3_throwLast 33 = .ok (.aload_n 0, 1) := by decide +kernel
theorem dX3_throwLast_34 : decode cX3_throwLast 34 = .ok (.getfield 44, 3) := by decide +kernel
theorem dX3_throwLast_37 : decode cX3_throwLast 37 = .ok (.aload_n 0, 1) := by decide +kernel
theorem dX3_throwLast_38 : decode cX3_throwLast 38 = .ok (.getfield 18, 3) := by decide +kernel
theorem dX3_throwLast_41 : decode cX3_throwLast 41 = .ok (.iload_n 2, 1) := by decide +kernel
theorem dX3_throwLast_42 : decode cX3_throwLast 42 = .ok (.iaload, 1) := by decide +kernel
theorem dX3_throwLast_43 : decode cX3_throwLast 43 = .ok (.isub, 1) := by decide +kernel
theorem dX3_throwLast_44 : decode cX3_throwLast 44 = .ok (.invokestatic 115, 3) := by decide +kernel
theorem dX3_throwLast_47 : decode cX3_throwLast 47 = .ok (.putfield 44, 3) := by decide +kernel
theorem dX3_throwLast_50 : decode cX3_throwLast 50 = .ok (.aload_n 0, 1) := by decide +kernel
theorem dX3_throwLast_51 : decode cX3_throwLast 51 = .ok (.dup, 1) := by decide +kernel
theorem dX3_throwLast_52 : decode cX3_throwLast 52 = .ok (.getfield 45, 3) := by decide +kernel
theorem dX3_throwLast_55 : decode cX3_throwLast 55 = .ok (.aload_n 0, 1) := by decide +kernel
theorem dX3_throwLast_56 : decode cX3_throwLast 56 = .ok (.getfield 18, 3) := by decide +kernel
theorem dX3_throwLast_59 : decode cX3_throwLast 59 = .ok (.iload_n 2, 1) := by decide +kernel
theorem dX3_throwLast_60 : decode cX3_throwLast 60 = .ok (.iaload, 1) := by decide +kernel
theorem dX3_throwLast_61 : decode cX3_throwLast 61 = .ok (.iadd, 1) := by decide +kernel
theorem dX3_throwLast_62 : decode cX3_throwLast 62 = .ok (.putfield 45, 3) := by decide +kernel
theorem dX3_throwLast_65 : decode cX3_throwLast 65 = .ok (.aload_n 0, 1) := by decide +kernel
theorem dX3_throwLast_66 : decode cX3_throwLast 66 = .ok (.iload_n 2, 1) := by decide +kernel
theorem dX3_throwLast_67 : decode cX3_throwLast 67 = .ok (.invokevirtual 74, 3) := by decide +kernel
theorem dX3_throwLast_70 : decode cX3_throwLast 70 = .ok (.iload_n 2, 1) := by decide +kernel
theorem dX3_throwLast_71 : decode cX3_throwLast 71 = .ok (.ireturn, 1) := by decide +kernel
theorem dX3_sendBack_0 : decode cX3_sendBack 0 = .ok (.aload_n 0, 1) := by decide +kernel
theorem dX3_sendBack_1 : decode cX3_sendBack 1 = .ok (.getfield 15, 3) := by decide +kernel
theorem dX3_sendBack_4 : decode cX3_sendBack 4 = .ok (.iload_n 1, 1) := by decide +kernel
theorem dX3_sendBack_5 : decode cX3_sendBack 5 = .ok (.bipush 9, 2) := by decide +kernel
theorem dX3_sendBack_7 : decode cX3_sendBack 7 = .ok (.iastore, 1) := by decide +kernel
theorem dX3_sendBack_8 : decode cX3_sendBack 8 = .ok (.aload_n 0, 1) := by decide +kernel
theorem dX3_sendBack_9 : decode cX3_sendBack 9 = .ok (.getfield 18, 3) := by decide +kernel
theorem dX3_sendBack_12 : decode cX3_sendBack 12 = .ok (.iload_n 1, 1) := by decide +kernel
theorem dX3_sendBack_13 : decode cX3_sendBack 13 = .ok (.iconst 0, 1) := by decide +kernel
theorem dX3_sendBack_14 : decode cX3_sendBack 14 = .ok (.iastore, 1) := by decide +kernel
theorem dX3_sendBack_15 : decode cX3_sendBack 15 = .ok (.aload_n 0, 1) := by decide +kernel
theorem dX3_sendBack_16 : decode cX3_sendBack 16 = .ok (.getfield 21, 3) := by decide +kernel
theorem dX3_sendBack_19 : decode cX3_sendBack 19 = .ok (.iload_n 1, 1) := by decide +kernel
theorem dX3_sendBack_20 : decode cX3_sendBack 20 = .ok (.aload_n 0, 1) := by decide +kernel
theorem dX3_sendBack_21 : decode cX3_sendBack 21 = .ok (.getfield 24, 3) := by decide +kernel
theorem dX3_sendBack_24 : decode cX3_sendBack 24 = .ok (.getfield 118, 3) := by decide +kernel
theorem dX3_sendBack_27 : decode cX3_sendBack 27 = .ok (.iastore, 1) := by decide +kernel
theorem dX3_sendBack_28 : decode cX3_sendBack 28 = .ok (.return_, 1) := by decide +kernel
theorem dX3_handOn_0 : decode cX3_handOn 0 = .ok (.aload_n 0, 1) := by decide +kernel
theorem dX3_handOn_1 : decode cX3_handOn 1 = .ok (.iload_n 1, 1) := by decide +kernel
theorem dX3_handOn_2 : decode cX3_handOn 2 = .ok (.invokevirtual 109, 3) := by decide +kernel
theorem dX3_handOn_5 : decode cX3_handOn 5 = .ok (.istore_n 2, 1) := by decide +kernel
theorem dX3_handOn_6 : decode cX3_handOn 6 = .ok (.iload_n 2, 1) := by decide +kernel
theorem dX3_handOn_7 : decode cX3_handOn 7 = .ok (.ifCond .lt 21, 3) := by decide +kernel
theorem dX3_handOn_10 : decode cX3_handOn 10 = .ok (.aload_n 0, 1) := by decide +kernel
theorem dX3_handOn_11 : decode cX3_handOn 11 = .ok (.iload_n 1, 1) := by decide +kernel
theorem dX3_handOn_12 : decode cX3_handOn 12 = .ok (.invokevirtual 112, 3) := by decide +kernel
theorem dX3_handOn_15 : decode cX3_handOn 15 = .ok (.ifCond .eq 13, 3) := by decide +kernel
theorem dX3_handOn_18 : decode cX3_handOn 18 = .ok (.aload_n 0, 1) := by decide +kernel
theorem dX3_handOn_19 : decode cX3_handOn 19 = .ok (.iload_n 1, 1) := by decide +kernel
theorem dX3_handOn_20 : decode cX3_handOn 20 = .ok (.iconst 1, 1) := by decide +kernel
theorem dX3_handOn_21 : decode cX3_handOn 21 = .ok (.iadd, 1) := by decide +kernel
theorem dX3_handOn_22 : decode cX3_handOn 22 = .ok (.invokevirtual 109, 3) := by decide +kernel
theorem dX3_handOn_25 : decode cX3_handOn 25 = .ok (.ifCond .lt 4, 3) := by decide +kernel
theorem dX3_handOn_28 : decode cX3_handOn 28 = .ok (.return_, 1) := by decide +kernel
theorem dX3_handOn_29 : decode cX3_handOn 29 = .ok (.aload_n 0, 1) := by decide +kernel
theorem dX3_handOn_30 : decode cX3_handOn 30 = .ok (.iload_n 1, 1) := by decide +kernel
theorem dX3_handOn_31 : decode cX3_handOn 31 = .ok (.invokevirtual 63, 3) := by decide +kernel
theorem dX3_handOn_34 : decode cX3_handOn 34 = .ok (.iconst 1, 1) := by decide +kernel
theorem dX3_handOn_35 : decode cX3_handOn 35 = .ok (.if_icmp .ne 7, 3) := by decide +kernel
theorem dX3_handOn_38 : decode cX3_handOn 38 = .ok (.iconst 1, 1) := by decide +kernel
theorem dX3_handOn_39 : decode cX3_handOn 39 = .ok (.goto 4, 3) := by decide +kernel
theorem dX3_handOn_42 : decode cX3_handOn 42 = .ok (.iconst 0, 1) := by decide +kernel
theorem dX3_handOn_43 : decode cX3_handOn 43 = .ok (.istore_n 3, 1) := by decide +kernel
theorem dX3_handOn_44 : decode cX3_handOn 44 = .ok (.aload_n 0, 1) := by decide +kernel
theorem dX3_handOn_45 : decode cX3_handOn 45 = .ok (.iload_n 2, 1) := by decide +kernel
theorem dX3_handOn_46 : decode cX3_handOn 46 = .ok (.iload_n 1, 1) := by decide +kernel
theorem dX3_handOn_47 : decode cX3_handOn 47 = .ok (.iconst 1, 1) := by decide +kernel
theorem dX3_handOn_48 : decode cX3_handOn 48 = .ok (.iadd, 1) := by decide +kernel
theorem dX3_handOn_49 : decode cX3_handOn 49 = .ok (.iconst 0, 1) := by decide +kernel
theorem dX3_handOn_50 : decode cX3_handOn 50 = .ok (.aload_n 0, 1) := by decide +kernel
theorem dX3_handOn_51 : decode cX3_handOn 51 = .ok (.getfield 18, 3) := by decide +kernel
theorem dX3_handOn_54 : decode cX3_handOn 54 = .ok (.iload_n 2, 1) := by decide +kernel
theorem dX3_handOn_55 : decode cX3_handOn 55 = .ok (.iaload, 1) := by decide +kernel
theorem dX3_handOn_56 : decode cX3_handOn 56 = .ok (.iload_n 3, 1) := by decide +kernel
theorem dX3_handOn_57 : decode cX3_handOn 57 = .ok (.isub, 1) := by decide +kernel
theorem dX3_handOn_58 : decode cX3_handOn 58 = .ok (.invokestatic 115, 3) := by decide +kernel
theorem dX3_handOn_61 : decode cX3_handOn 61 = .ok (.invokevirtual 121, 3) := by decide +kernel
theorem dX3_handOn_64 : decode cX3_handOn 64 = .ok (.return_, 1) := by decide +kernel
theorem dX3_fillAtWell_0 : decode cX3_fillAtWell 0 = .ok (.aload_n 0, 1) := by decide +kernel
theorem dX3_fillAtWell_1 : decode cX3_fillAtWell 1 = .ok (.getfield 24, 3) := by decide +kernel
theorem dX3_fillAtWell_4 : decode cX3_fillAtWell 4 = .ok (.getfield 85, 3) := by decide +kernel
theorem dX3_fillAtWell_7 : decode cX3_fillAtWell 7 = .ok (.ifCond .eq 11, 3) := by decide +kernel
theorem dX3_fillAtWell_10 : decode cX3_fillAtWell 10 = .ok (.aload_n 0, 1) := by decide +kernel
theorem dX3_fillAtWell_11 : decode cX3_fillAtWell 11 = .ok (.iconst 0, 1) := by decide +kernel
theorem dX3_fillAtWell_12 : decode cX3_fillAtWell 12 = .ok (.invokevirtual 109, 3) := by decide +kernel
theorem dX3_fillAtWell_15 : decode cX3_fillAtWell 15 = .ok (.ifCond .lt 4, 3) := by decide +kernel
theorem dX3_fillAtWell_18 : decode cX3_fillAtWell 18 = .ok (.return_, 1) := by decide +kernel
theorem dX3_fillAtWell_19 : decode cX3_fillAtWell 19 = .ok (.aload_n 0, 1) := by decide +kernel
theorem dX3_fillAtWell_20 : decode cX3_fillAtWell 20 = .ok (.bipush 8, 2) := by decide +kernel
theorem dX3_fillAtWell_22 : decode cX3_fillAtWell 22 = .ok (.invokevirtual 109, 3) := by decide +kernel
theorem dX3_fillAtWell_25 : decode cX3_fillAtWell 25 = .ok (.istore_n 1, 1) := by decide +kernel
theorem dX3_fillAtWell_26 : decode cX3_fillAtWell 26 = .ok (.iload_n 1, 1) := by decide +kernel
theorem dX3_fillAtWell_27 : decode cX3_fillAtWell 27 = .ok (.ifCond .lt 18, 3) := by decide +kernel
theorem dX3_fillAtWell_30 : decode cX3_fillAtWell 30 = .ok (.aload_n 0, 1) := by decide +kernel
theorem dX3_fillAtWell_31 : decode cX3_fillAtWell 31 = .ok (.iload_n 1, 1) := by decide +kernel
theorem dX3_fillAtWell_32 : decode cX3_fillAtWell 32 = .ok (.iconst 0, 1) := by decide +kernel
theorem dX3_fillAtWell_33 : decode cX3_fillAtWell 33 = .ok (.aload_n 0, 1) := by decide +kernel
theorem dX3_fillAtWell_34 : decode cX3_fillAtWell 34 = .ok (.getfield 24, 3) := by decide +kernel
theorem dX3_fillAtWell_37 : decode cX3_fillAtWell 37 = .ok (.getfield 125, 3) := by decide +kernel
theorem dX3_fillAtWell_40 : decode cX3_fillAtWell 40 = .ok (.iload_n 1, 1) := by decide +kernel
theorem dX3_fillAtWell_41 : decode cX3_fillAtWell 41 = .ok (.iaload, 1) := by decide +kernel
theorem dX3_fillAtWell_42 : decode cX3_fillAtWell 42 = .ok (.invokevirtual 121, 3) := by decide +kernel
theorem dX3_fillAtWell_45 : decode cX3_fillAtWell 45 = .ok (.return_, 1) := by decide +kernel
theorem dX3_give_0 : decode cX3_give 0 = .ok (.aload_n 0, 1) := by decide +kernel
theorem dX3_give_1 : decode cX3_give 1 = .ok (.getfield 15, 3) := by decide +kernel
theorem dX3_give_4 : decode cX3_give 4 = .ok (.iload_n 1, 1) := by decide +kernel
theorem dX3_give_5 : decode cX3_give 5 = .ok (.iload_n 2, 1) := by decide +kernel
theorem dX3_give_6 : decode cX3_give 6 = .ok (.iastore, 1) := by decide +kernel
theorem dX3_give_7 : decode cX3_give 7 = .ok (.aload_n 0, 1) := by decide +kernel
theorem dX3_give_8 : decode cX3_give 8 = .ok (.getfield 18, 3) := by decide +kernel
theorem dX3_give_11 : decode cX3_give 11 = .ok (.iload_n 1, 1) := by decide +kernel
theorem dX3_give_12 : decode cX3_give 12 = .ok (.aload_n 0, 1) := by decide +kernel
theorem dX3_give_13 : decode cX3_give 13 = .ok (.iload_n 2, 1) := by decide +kernel
theorem dX3_give_14 : decode cX3_give 14 = .ok (.invokevirtual 63, 3) := by decide +kernel
theorem dX3_give_17 : decode cX3_give 17 = .ok (.iconst 3, 1) := by decide +kernel
theorem dX3_give_18 : decode cX3_give 18 = .ok (.if_icmp .ne 11, 3) := by decide +kernel
theorem dX3_give_21 : decode cX3_give 21 = .ok (.iconst 2, 1) := by decide +kernel
theorem dX3_give_22 : decode cX3_give 22 = .ok (.iload_n 3, 1) := by decide +kernel
theorem dX3_give_23 : decode cX3_give 23 = .ok (.invokestatic 103, 3) := by decide +kernel
theorem dX3_give_26 : decode cX3_give 26 = .ok (.goto 4, 3) := by decide +kernel
theorem dX3_give_29 : decode cX3_give 29 = .ok (.iload_n 3, 1) := by decide +kernel
theorem dX3_give_30 : decode cX3_give 30 = .ok (.iastore, 1) := by decide +kernel
theorem dX3_give_31 : decode cX3_give 31 = .ok (.return_, 1) := by decide +kernel
theorem dX3_leak_0 : decode cX3_leak 0 = .ok (.iconst 0, 1) := by decide +kernel
theorem dX3_leak_1 : decode cX3_leak 1 = .ok (.istore_n 1, 1) := by decide +kernel
theorem dX3_leak_2 : decode cX3_leak 2 = .ok (.iload_n 1, 1) := by decide +kernel
theorem dX3_leak_3 : decode cX3_leak 3 = .ok (.aload_n 0, 1) := by decide +kernel
theorem dX3_leak_4 : decode cX3_leak 4 = .ok (.getfield 18, 3) := by decide +kernel
theorem dX3_leak_7 : decode cX3_leak 7 = .ok (.arraylength, 1) := by decide +kernel
theorem dX3_leak_8 : decode cX3_leak 8 = .ok (.if_icmp .ge 43, 3) := by decide +kernel
theorem dX3_leak_11 : decode cX3_leak 11 = .ok (.aload_n 0, 1) := by decide +kernel
theorem dX3_leak_12 : decode cX3_leak 12 = .ok (.iload_n 1, 1) := by decide +kernel
theorem dX3_leak_13 : decode cX3_leak 13 = .ok (.invokevirtual 70, 3) := by decide +kernel
theorem dX3_leak_16 : decode cX3_leak 16 = .ok (.ifCond .eq 29, 3) := by decide +kernel
theorem dX3_leak_19 : decode cX3_leak 19 = .ok (.aload_n 0, 1) := by decide +kernel
theorem dX3_leak_20 : decode cX3_leak 20 = .ok (.iload_n 1, 1) := by decide +kernel
theorem dX3_leak_21 : decode cX3_leak 21 = .ok (.invokevirtual 128, 3) := by decide +kernel
theorem dX3_leak_24 : decode cX3_leak 24 = .ok (.ifCond .eq 21, 3) := by decide +kernel
theorem dX3_leak_27 : decode cX3_leak 27 = .ok (.aload_n 0, 1) := by decide +kernel
theorem dX3_leak_28 : decode cX3_leak 28 = .ok (.getfield 18, 3) := by decide +kernel
theorem dX3_leak_31 : decode cX3_leak 31 = .ok (.iload_n 1, 1) := by decide +kernel
theorem dX3_leak_32 : decode cX3_leak 32 = .ok (.iconst 0, 1) := by decide +kernel
theorem dX3_leak_33 : decode cX3_leak 33 = .ok (.aload_n 0, 1) := by decide +kernel
theorem dX3_leak_34 : decode cX3_leak 34 = .ok (.getfield 18, 3) := by decide +kernel
theorem dX3_leak_37 : decode cX3_leak 37 = .ok (.iload_n 1, 1) := by decide +kernel
theorem dX3_leak_38 : decode cX3_leak 38 = .ok (.iaload, 1) := by decide +kernel
theorem dX3_leak_39 : decode cX3_leak 39 = .ok (.iconst 1, 1) := by decide +kernel
theorem dX3_leak_40 : decode cX3_leak 40 = .ok (.isub, 1) := by decide +kernel
theorem dX3_leak_41 : decode cX3_leak 41 = .ok (.invokestatic 115, 3) := by decide +kernel
theorem dX3_leak_44 : decode cX3_leak 44 = .ok (.iastore, 1) := by decide +kernel
theorem dX3_leak_45 : decode cX3_leak 45 = .ok (.iinc 1 1, 3) := by decide +kernel
theorem dX3_leak_48 : decode cX3_leak 48 = .ok (.goto (-46), 3) := by decide +kernel
theorem dX3_leak_51 : decode cX3_leak 51 = .ok (.return_, 1) := by decide +kernel
theorem dX3_runBack_0 : decode cX3_runBack 0 = .ok (.iconst 0, 1) := by decide +kernel
theorem dX3_runBack_1 : decode cX3_runBack 1 = .ok (.istore_n 2, 1) := by decide +kernel
theorem dX3_runBack_2 : decode cX3_runBack 2 = .ok (.iload_n 2, 1) := by decide +kernel
theorem dX3_runBack_3 : decode cX3_runBack 3 = .ok (.aload_n 0, 1) := by decide +kernel
theorem dX3_runBack_4 : decode cX3_runBack 4 = .ok (.getfield 15, 3) := by decide +kernel
theorem dX3_runBack_7 : decode cX3_runBack 7 = .ok (.arraylength, 1) := by decide +kernel
theorem dX3_runBack_8 : decode cX3_runBack 8 = .ok (.if_icmp .ge 61, 3) := by decide +kernel
theorem dX3_runBack_11 : decode cX3_runBack 11 = .ok (.aload_n 0, 1) := by decide +kernel
theorem dX3_runBack_12 : decode cX3_runBack 12 = .ok (.getfield 15, 3) := by decide +kernel
theorem dX3_runBack_15 : decode cX3_runBack 15 = .ok (.iload_n 2, 1) := by decide +kernel
theorem dX3_runBack_16 : decode cX3_runBack 16 = .ok (.iaload, 1) := by decide +kernel
theorem dX3_runBack_17 : decode cX3_runBack 17 = .ok (.bipush 9, 2) := by decide +kernel
theorem dX3_runBack_19 : decode cX3_runBack 19 = .ok (.if_icmp .ne 44, 3) := by decide +kernel
theorem dX3_runBack_22 : decode cX3_runBack 22 = .ok (.aload_n 0, 1) := by decide +kernel
theorem dX3_runBack_23 : decode cX3_runBack 23 = .ok (.getfield 21, 3) := by decide +kernel
theorem dX3_runBack_26 : decode cX3_runBack 26 = .ok (.iload_n 2, 1) := by decide +kernel
theorem dX3_runBack_27 : decode cX3_runBack 27 = .ok (.dup2, 1) := by decide +kernel
theorem dX3_runBack_28 : decode cX3_runBack 28 = .ok (.iaload, 1) := by decide +kernel
theorem dX3_runBack_29 : decode cX3_runBack 29 = .ok (.iload_n 2, 1) := by decide +kernel
theorem dX3_runBack_30 : decode cX3_runBack 30 = .ok (.iload_n 1, 1) := by decide +kernel
theorem dX3_runBack_31 : decode cX3_runBack 31 = .ok (.if_icmp .ne 7, 3) := by decide +kernel
theorem dX3_runBack_34 : decode cX3_runBack 34 = .ok (.iconst 0, 1) := by decide +kernel
theorem dX3_runBack_35 : decode cX3_runBack 35 = .ok (.goto 4, 3) := by decide +kernel
theorem dX3_runBack_38 : decode cX3_runBack 38 = .ok (.iconst 1, 1) := by decide +kernel
theorem dX3_runBack_39 : decode cX3_runBack 39 = .ok (.isub, 1) := by decide +kernel
theorem dX3_runBack_40 : decode cX3_runBack 40 = .ok (.iastore, 1) := by decide +kernel
theorem dX3_runBack_41 : decode cX3_runBack 41 = .ok (.aload_n 0, 1) := by decide +kernel
theorem dX3_runBack_42 : decode cX3_runBack 42 = .ok (.getfield 15, 3) := by decide +kernel
theorem dX3_runBack_45 : decode cX3_runBack 45 = .ok (.iload_n 2, 1) := by decide +kernel
theorem dX3_runBack_46 : decode cX3_runBack 46 = .ok (.aload_n 0, 1) := by decide +kernel
theorem dX3_runBack_47 : decode cX3_runBack 47 = .ok (.getfield 21, 3) := by decide +kernel
theorem dX3_runBack_50 : decode cX3_runBack 50 = .ok (.iload_n 2, 1) := by decide +kernel
theorem dX3_runBack_51 : decode cX3_runBack 51 = .ok (.iaload, 1) := by decide +kernel
theorem dX3_runBack_52 : decode cX3_runBack 52 = .ok (.ifCond .ne 8, 3) := by decide +kernel
theorem dX3_runBack_55 : decode cX3_runBack 55 = .ok (.bipush 8, 2) := by decide +kernel
theorem dX3_runBack_57 : decode cX3_runBack 57 = .ok (.goto 5, 3) := by decide +kernel
theorem dX3_runBack_60 : decode cX3_runBack 60 = .ok (.bipush 9, 2) := by decide +kernel
theorem dX3_runBack_62 : decode cX3_runBack 62 = .ok (.iastore, 1) := by decide +kernel
theorem dX3_runBack_63 : decode cX3_runBack 63 = .ok (.iinc 2 1, 3) := by decide +kernel
theorem dX3_runBack_66 : decode cX3_runBack 66 = .ok (.goto (-64), 3) := by decide +kernel
theorem dX3_runBack_69 : decode cX3_runBack 69 = .ok (.return_, 1) := by decide +kernel
theorem dX3_follow_0 : decode cX3_follow 0 = .ok (.iload_n 1, 1) := by decide +kernel
theorem dX3_follow_1 : decode cX3_follow 1 = .ok (.tableswitch 174 0 6 #[43, 64, 71, 89, 107, 131, 155], 43) := by decide +kernel
theorem dX3_follow_44 : decode cX3_follow 44 = .ok (.iload_n 2, 1) := by decide +kernel
theorem dX3_follow_45 : decode cX3_follow 45 = .ok (.ifCond .ne 18, 3) := by decide +kernel
theorem dX3_follow_48 : decode cX3_follow 48 = .ok (.iload_n 3, 1) := by decide +kernel
theorem dX3_follow_49 : decode cX3_follow 49 = .ok (.ifCond .ne 14, 3) := by decide +kernel
theorem dX3_follow_52 : decode cX3_follow 52 = .ok (.aload_n 0, 1) := by decide +kernel
theorem dX3_follow_53 : decode cX3_follow 53 = .ok (.invokevirtual 78, 3) := by decide +kernel
theorem dX3_follow_56 : decode cX3_follow 56 = .ok (.ifCond .lt 7, 3) := by decide +kernel
theorem dX3_follow_59 : decode cX3_follow 59 = .ok (.iconst 1, 1) := by decide +kernel
theorem dX3_follow_60 : decode cX3_follow 60 = .ok (.goto 4, 3) := by decide +kernel
theorem dX3_follow_63 : decode cX3_follow 63 = .ok (.iconst 0, 1) := by decide +kernel
theorem dX3_follow_64 : decode cX3_follow 64 = .ok (.ireturn, 1) := by decide +kernel
theorem dX3_follow_65 : decode cX3_follow 65 = .ok (.aload_n 0, 1) := by decide +kernel
theorem dX3_follow_66 : decode cX3_follow 66 = .ok (.iload_n 2, 1) := by decide +kernel
theorem dX3_follow_67 : decode cX3_follow 67 = .ok (.iload_n 3, 1) := by decide +kernel
theorem dX3_follow_68 : decode cX3_follow 68 = .ok (.invokevirtual 131, 3) := by decide +kernel
theorem dX3_follow_71 : decode cX3_follow 71 = .ok (.ireturn, 1) := by decide +kernel
theorem dX3_follow_72 : decode cX3_follow 72 = .ok (.iload_n 2, 1) := by decide +kernel
theorem dX3_follow_73 : decode cX3_follow 73 = .ok (.ifCond .ne 15, 3) := by decide +kernel
theorem dX3_follow_76 : decode cX3_follow 76 = .ok (.aload_n 0, 1) := by decide +kernel
theorem dX3_follow_77 : decode cX3_follow 77 = .ok (.iload_n 3, 1) := by decide +kernel
theorem dX3_follow_78 : decode cX3_follow 78 = .ok (.invokevirtual 135, 3) := by decide +kernel
theorem dX3_follow_81 : decode cX3_follow 81 = .ok (.ifCond .eq 7, 3) := by decide +kernel
theorem dX3_follow_84 : decode cX3_follow 84 = .ok (.iconst 1, 1) := by decide +kernel
theorem dX3_follow_85 : decode cX3_follow 85 = .ok (.goto 4, 3) := by decide +kernel
theorem dX3_follow_88 : decode cX3_follow 88 = .ok (.iconst 0, 1) := by decide +kernel
theorem dX3_follow_89 : decode cX3_follow 89 = .ok (.ireturn, 1) := by decide +kernel
theorem dX3_follow_90 : decode cX3_follow 90 = .ok (.iload_n 2, 1) := by decide +kernel
theorem dX3_follow_91 : decode cX3_follow 91 = .ok (.ifCond .ne 15, 3) := by decide +kernel
theorem dX3_follow_94 : decode cX3_follow 94 = .ok (.aload_n 0, 1) := by decide +kernel
theorem dX3_follow_95 : decode cX3_follow 95 = .ok (.iload_n 3, 1) := by decide +kernel
theorem dX3_follow_96 : decode cX3_follow 96 = .ok (.invokevirtual 138, 3) := by decide +kernel
theorem dX3_follow_99 : decode cX3_follow 99 = .ok (.ifCond .eq 7, 3) := by decide +kernel
theorem dX3_follow_102 : decode cX3_follow 102 = .ok (.iconst 1, 1) := by decide +kernel
theorem dX3_follow_103 : decode cX3_follow 103 = .ok (.goto 4, 3) := by decide +kernel
theorem dX3_follow_106 : decode cX3_follow 106 = .ok (.iconst 0, 1) := by decide +kernel
theorem dX3_follow_107 : decode cX3_follow 107 = .ok (.ireturn, 1) := by decide +kernel
theorem dX3_follow_108 : decode cX3_follow 108 = .ok (.aload_n 0, 1) := by decide +kernel
theorem dX3_follow_109 : decode cX3_follow 109 = .ok (.iload_n 3, 1) := by decide +kernel
theorem dX3_follow_110 : decode cX3_follow 110 = .ok (.invokevirtual 70, 3) := by decide +kernel
theorem dX3_follow_113 : decode cX3_follow 113 = .ok (.ifCond .eq 17, 3) := by decide +kernel
theorem dX3_follow_116 : decode cX3_follow 116 = .ok (.aload_n 0, 1) := by decide +kernel
theorem dX3_follow_117 : decode cX3_follow 117 = .ok (.getfield 15, 3) := by decide +kernel
theorem dX3_follow_120 : decode cX3_follow 120 = .ok (.iload_n 3, 1) := by decide +kernel
theorem dX3_follow_121 : decode cX3_follow 121 = .ok (.iaload, 1) := by decide +kernel
theorem dX3_follow_122 : decode cX3_follow 122 = .ok (.iload_n 2, 1) := by decide +kernel
theorem dX3_follow_123 : decode cX3_follow 123 = .ok (.if_icmp .ne 7, 3) := by decide +kernel
theorem dX3_follow_126 : decode cX3_follow 126 = .ok (.iconst 1, 1) := by decide +kernel
theorem dX3_follow_127 : decode cX3_follow 127 = .ok (.goto 4, 3) := by decide +kernel
theorem dX3_follow_130 : decode cX3_follow 130 = .ok (.iconst 0, 1) := by decide +kernel
theorem dX3_follow_131 : decode cX3_follow 131 = .ok (.ireturn, 1) := by decide +kernel
theorem dX3_follow_132 : decode cX3_follow 132 = .ok (.aload_n 0, 1) := by decide +kernel
theorem dX3_follow_133 : decode cX3_follow 133 = .ok (.iload_n 2, 1) := by decide +kernel
theorem dX3_follow_134 : decode cX3_follow 134 = .ok (.invokevirtual 70, 3) := by decide +kernel
theorem dX3_follow_137 : decode cX3_follow 137 = .ok (.ifCond .eq 17, 3) := by decide +kernel
theorem dX3_follow_140 : decode cX3_follow 140 = .ok (.aload_n 0, 1) := by decide +kernel
theorem dX3_follow_141 : decode cX3_follow 141 = .ok (.getfield 18, 3) := by decide +kernel
theorem dX3_follow_144 : decode cX3_follow 144 = .ok (.iload_n 2, 1) := by decide +kernel
theorem dX3_follow_145 : decode cX3_follow 145 = .ok (.iaload, 1) := by decide +kernel
theorem dX3_follow_146 : decode cX3_follow 146 = .ok (.iload_n 3, 1) := by decide +kernel
theorem dX3_follow_147 : decode cX3_follow 147 = .ok (.if_icmp .lt 7, 3) := by decide +kernel
theorem dX3_follow_150 : decode cX3_follow 150 = .ok (.iconst 1, 1) := by decide +kernel
theorem dX3_follow_151 : decode cX3_follow 151 = .ok (.goto 4, 3) := by decide +kernel
theorem dX3_follow_154 : decode cX3_follow 154 = .ok (.iconst 0, 1) := by decide +kernel
theorem dX3_follow_155 : decode cX3_follow 155 = .ok (.ireturn, 1) := by decide +kernel
theorem dX3_follow_156 : decode cX3_follow 156 = .ok (.aload_n 0, 1) := by decide +kernel
theorem dX3_follow_157 : decode cX3_follow 157 = .ok (.getfield 44, 3) := by decide +kernel
theorem dX3_follow_160 : decode cX3_follow 160 = .ok (.bipush 10, 2) := by decide +kernel
theorem dX3_follow_162 : decode cX3_follow 162 = .ok (.iload_n 2, 1) := by decide +kernel
theorem dX3_follow_163 : decode cX3_follow 163 = .ok (.imul, 1) := by decide +kernel
theorem dX3_follow_164 : decode cX3_follow 164 = .ok (.iload_n 3, 1) := by decide +kernel
theorem dX3_follow_165 : decode cX3_follow 165 = .ok (.iadd, 1) := by decide +kernel
theorem dX3_follow_166 : decode cX3_follow 166 = .ok (.if_icmp .gt 7, 3) := by decide +kernel
theorem dX3_follow_169 : decode cX3_follow 169 = .ok (.iconst 1, 1) := by decide +kernel
theorem dX3_follow_170 : decode cX3_follow 170 = .ok (.goto 4, 3) := by decide +kernel
theorem dX3_follow_173 : decode cX3_follow 173 = .ok (.iconst 0, 1) := by decide +kernel
theorem dX3_follow_174 : decode cX3_follow 174 = .ok (.ireturn, 1) := by decide +kernel
theorem dX3_follow_175 : decode cX3_follow 175 = .ok (.iconst 0, 1) := by decide +kernel
theorem dX3_follow_176 : decode cX3_follow 176 = .ok (.ireturn, 1) := by decide +kernel
theorem dX3_followChange_0 : decode cX3_followChange 0 = .ok (.aload_n 0, 1) := by decide +kernel
theorem dX3_followChange_1 : decode cX3_followChange 1 = .ok (.getfield 24, 3) := by decide +kernel
theorem dX3_followChange_4 : decode cX3_followChange 4 = .ok (.iload_n 1, 1) := by decide +kernel
theorem dX3_followChange_5 : decode cX3_followChange 5 = .ok (.invokevirtual 141, 3) := by decide +kernel
theorem dX3_followChange_8 : decode cX3_followChange 8 = .ok (.ifCond .eq 19, 3) := by decide +kernel
theorem dX3_followChange_11 : decode cX3_followChange 11 = .ok (.aload_n 0, 1) := by decide +kernel
theorem dX3_followChange_12 : decode cX3_followChange 12 = .ok (.getfield 24, 3) := by decide +kernel
theorem dX3_followChange_15 : decode cX3_followChange 15 = .ok (.iload_n 2, 1) := by decide +kernel
theorem dX3_followChange_16 : decode cX3_followChange 16 = .ok (.invokevirtual 141, 3) := by decide +kernel
theorem dX3_followChange_19 : decode cX3_followChange 19 = .ok (.ifCond .eq 8, 3) := by decide +kernel
theorem dX3_followChange_22 : decode cX3_followChange 22 = .ok (.iload_n 1, 1) := by decide +kernel
theorem dX3_followChange_23 : decode cX3_followChange 23 = .ok (.iload_n 2, 1) := by decide +kernel
theorem dX3_followChange_24 : decode cX3_followChange 24 = .ok (.if_icmp .ne 5, 3) := by decide +kernel
theorem dX3_followChange_27 : decode cX3_followChange 27 = .ok (.iconst 0, 1) := by decide +kernel
theorem dX3_followChange_28 : decode cX3_followChange 28 = .ok (.ireturn, 1) := by decide +kernel
theorem dX3_followChange_29 : decode cX3_followChange 29 = .ok (.aload_n 0, 1) := by decide +kernel
theorem dX3_followChange_30 : decode cX3_followChange 30 = .ok (.iload_n 1, 1) := by decide +kernel
theorem dX3_followChange_31 : decode cX3_followChange 31 = .ok (.iload_n 2, 1) := by decide +kernel
theorem dX3_followChange_32 : decode cX3_followChange 32 = .ok (.invokevirtual 144, 3) := by decide +kernel
theorem dX3_followChange_35 : decode cX3_followChange 35 = .ok (.iconst 1, 1) := by decide +kernel
theorem dX3_followChange_36 : decode cX3_followChange 36 = .ok (.ireturn, 1) := by decide +kernel
theorem dX3_followMend_0 : decode cX3_followMend 0 = .ok (.aload_n 0, 1) := by decide +kernel
theorem dX3_followMend_1 : decode cX3_followMend 1 = .ok (.iload_n 1, 1) := by decide +kernel
theorem dX3_followMend_2 : decode cX3_followMend 2 = .ok (.invokevirtual 128, 3) := by decide +kernel
theorem dX3_followMend_5 : decode cX3_followMend 5 = .ok (.ifCond .ne 5, 3) := by decide +kernel
theorem dX3_followMend_8 : decode cX3_followMend 8 = .ok (.iconst 0, 1) := by decide +kernel
theorem dX3_followMend_9 : decode cX3_followMend 9 = .ok (.ireturn, 1) := by decide +kernel
theorem dX3_followMend_10 : decode cX3_followMend 10 = .ok (.aload_n 0, 1) := by decide +kernel
theorem dX3_followMend_11 : decode cX3_followMend 11 = .ok (.iload_n 1, 1) := by decide +kernel
theorem dX3_followMend_12 : decode cX3_followMend 12 = .ok (.invokevirtual 148, 3) := by decide +kernel
theorem dX3_followMend_15 : decode cX3_followMend 15 = .ok (.iconst 1, 1) := by decide +kernel
theorem dX3_followMend_16 : decode cX3_followMend 16 = .ok (.ireturn, 1) := by decide +kernel
theorem dX3_followDrop_0 : decode cX3_followDrop 0 = .ok (.aload_n 0, 1) := by decide +kernel
theorem dX3_followDrop_1 : decode cX3_followDrop 1 = .ok (.iload_n 1, 1) := by decide +kernel
theorem dX3_followDrop_2 : decode cX3_followDrop 2 = .ok (.invokevirtual 70, 3) := by decide +kernel
theorem dX3_followDrop_5 : decode cX3_followDrop 5 = .ok (.ifCond .ne 5, 3) := by decide +kernel
theorem dX3_followDrop_8 : decode cX3_followDrop 8 = .ok (.iconst 0, 1) := by decide +kernel
theorem dX3_followDrop_9 : decode cX3_followDrop 9 = .ok (.ireturn, 1) := by decide +kernel
theorem dX3_followDrop_10 : decode cX3_followDrop 10 = .ok (.aload_n 0, 1) := by decide +kernel
theorem dX3_followDrop_11 : decode cX3_followDrop 11 = .ok (.iload_n 1, 1) := by decide +kernel
theorem dX3_followDrop_12 : decode cX3_followDrop 12 = .ok (.invokevirtual 151, 3) := by decide +kernel
theorem dX3_followDrop_15 : decode cX3_followDrop 15 = .ok (.iconst 1, 1) := by decide +kernel
theorem dX3_followDrop_16 : decode cX3_followDrop 16 = .ok (.ireturn, 1) := by decide +kernel
end
section
theorem dX4_init_0 : decode cX4_init 0 = .ok (.aload_n 0, 1) := by decide +kernel
theorem dX4_init_1 : decode cX4_init 1 = .ok (.invokespecial 3, 3) := by decide +kernel
theorem dX4_init_4 : decode cX4_init 4 = .ok (.aload_n 0, 1) := by decide +kernel
theorem dX4_init_5 : decode cX4_init 5 = .ok (.iconst 5, 1) := by decide +kernel
theorem dX4_init_6 : decode cX4_init 6 = .ok (.newarray .int, 2) := by decide +kernel
theorem dX4_init_8 : decode cX4_init 8 = .ok (.putfield 9, 3) := by decide +kernel
theorem dX4_init_11 : decode cX4_init 11 = .ok (.aload_n 0, 1) := by decide +kernel
theorem dX4_init_12 : decode cX4_init 12 = .ok (.iconst 0, 1) := by decide +kernel
theorem dX4_init_13 : decode cX4_init 13 = .ok (.putfield 15, 3) := by decide +kernel
theorem dX4_init_16 : decode cX4_init 16 = .ok (.aload_n 0, 1) := by decide +kernel
theorem dX4_init_17 : decode cX4_init 17 = .ok (.iconst 0, 1) := by decide +kernel
theorem dX4_init_18 : decode cX4_init 18 = .ok (.putfield 19, 3) := by decide +kernel
theorem dX4_init_21 : decode cX4_init 21 = .ok (.aload_n 0, 1) := by decide +kernel
theorem dX4_init_22 : decode cX4_init 22 = .ok (.aload_n 1, 1) := by decide +kernel
theorem dX4_init_23 : decode cX4_init 23 = .ok (.putfield 22, 3) := by decide +kernel
theorem dX4_init_26 : decode cX4_init 26 = .ok (.aload_n 0, 1) := by decide +kernel
theorem dX4_init_27 : decode cX4_init 27 = .ok (.aload_n 2, 1) := by decide +kernel
theorem dX4_init_28 : decode cX4_init 28 = .ok (.putfield 26, 3) := by decide +kernel
theorem dX4_init_31 : decode cX4_init 31 = .ok (.aload_n 0, 1) := by decide +kernel
theorem dX4_init_32 : decode cX4_init 32 = .ok (.aload_n 3, 1) := by decide +kernel
theorem dX4_init_33 : decode cX4_init 33 = .ok (.putfield 30, 3) := by decide +kernel
theorem dX4_init_36 : decode cX4_init 36 = .ok (.return_, 1) := by decide +kernel
theorem dX4_tryExchanges_0 : decode cX4_tryExchanges 0 = .ok (.aload_n 0, 1) := by decide +kernel
theorem dX4_tryExchanges_1 : decode cX4_tryExchanges 1 = .ok (.getfield 30, 3) := by decide +kernel
theorem dX4_tryExchanges_4 : decode cX4_tryExchanges 4 = .ok (.aload_n 0, 1) := by decide +kernel
theorem dX4_tryExchanges_5 : decode cX4_tryExchanges 5 = .ok (.getfield 26, 3) := by decide +kernel
theorem dX4_tryExchanges_8 : decode cX4_tryExchanges 8 = .ok (.invokevirtual 33, 3) := by decide +kernel
theorem dX4_tryExchanges_11 : decode cX4_tryExchanges 11 = .ok (.aload_n 0, 1) := by decide +kernel
theorem dX4_tryExchanges_12 : decode cX4_tryExchanges 12 = .ok (.getfield 30, 3) := by decide +kernel
theorem dX4_tryExchanges_15 : decode cX4_tryExchanges 15 = .ok (.iload_n 1, 1) := by decide +kernel
theorem dX4_tryExchanges_16 : decode cX4_tryExchanges 16 = .ok (.invokevirtual 39, 3) := by decide +kernel
theorem dX4_tryExchanges_19 : decode cX4_tryExchanges 19 = .ok (.pop, 1) := by decide +kernel
theorem dX4_tryExchanges_20 : decode cX4_tryExchanges 20 = .ok (.aload_n 0, 1) := by decide +kernel
theorem dX4_tryExchanges_21 : decode cX4_tryExchanges 21 = .ok (.aload_n 0, 1) := by decide +kernel
theorem dX4_tryExchanges_22 : decode cX4_tryExchanges 22 = .ok (.getfield 30, 3) := by decide +kernel
theorem dX4_tryExchanges_25 : decode cX4_tryExchanges 25 = .ok (.getfield 43, 3) := by decide +kernel
theorem dX4_tryExchanges_28 : decode cX4_tryExchanges 28 = .ok (.putfield 15, 3) := by decide +kernel
theorem dX4_tryExchanges_31 : decode cX4_tryExchanges 31 = .ok (.aload_n 0, 1) := by decide +kernel
theorem dX4_tryExchanges_32 : decode cX4_tryExchanges 32 = .ok (.bipush 99, 2) := by decide +kernel
theorem dX4_tryExchanges_34 : decode cX4_tryExchanges 34 = .ok (.putfield 19, 3) := by decide +kernel
theorem dX4_tryExchanges_37 : decode cX4_tryExchanges 37 = .ok (.iconst 0, 1) := by decide +kernel
theorem dX4_tryExchanges_38 : decode cX4_tryExchanges 38 = .ok (.istore_n 2, 1) := by decide +kernel
theorem dX4_tryExchanges_39 : decode cX4_tryExchanges 39 = .ok (.iload_n 2, 1) := by decide +kernel
theorem dX4_tryExchanges_40 : decode cX4_tryExchanges 40 = .ok (.aload_n 0, 1) := by decide +kernel
theorem dX4_tryExchanges_41 : decode cX4_tryExchanges 41 = .ok (.getfield 22, 3) := by decide +kernel
theorem dX4_tryExchanges_44 : decode cX4_tryExchanges 44 = .ok (.getfield 46, 3) := by decide +kernel
theorem dX4_tryExchanges_47 : decode cX4_tryExchanges 47 = .ok (.if_icmp .ge 69, 3) := by decide +kernel
theorem dX4_tryExchanges_50 : decode cX4_tryExchanges 50 = .ok (.iload_n 2, 1) := by decide +kernel
theorem dX4_tryExchanges_51 : decode cX4_tryExchanges 51 = .ok (.iconst 1, 1) := by decide +kernel
theorem dX4_tryExchanges_52 : decode cX4_tryExchanges 52 = .ok (.iadd, 1) := by decide +kernel
theorem dX4_tryExchanges_53 : decode cX4_tryExchanges 53 = .ok (.istore_n 3, 1) := by decide +kernel
theorem dX4_tryExchanges_54 : decode cX4_tryExchanges 54 = .ok (.iload_n 3, 1) := by decide +kernel
theorem dX4_tryExchanges_55 : decode cX4_tryExchanges 55 = .ok (.aload_n 0, 1) := by decide +kernel
theorem dX4_tryExchanges_56 : decode cX4_tryExchanges 56 = .ok (.getfield 22, 3) := by decide +kernel
theorem dX4_tryExchanges_59 : decode cX4_tryExchanges 59 = .ok (.getfield 46, 3) := by decide +kernel
theorem dX4_tryExchanges_62 : decode cX4_tryExchanges 62 = .ok (.if_icmp .ge 48, 3) := by decide +kernel
theorem dX4_tryExchanges_65 : decode cX4_tryExchanges 65 = .ok (.aload_n 0, 1) := by decide +kernel
theorem dX4_tryExchanges_66 : decode cX4_tryExchanges 66 = .ok (.getfield 30, 3) := by decide +kernel
theorem dX4_tryExchanges_69 : decode cX4_tryExchanges 69 = .ok (.aload_n 0, 1) := by decide +kernel
theorem dX4_tryExchanges_70 : decode cX4_tryExchanges 70 = .ok (.getfield 26, 3) := by decide +kernel
theorem dX4_tryExchanges_73 : decode cX4_tryExchanges 73 = .ok (.invokevirtual 33, 3) := by decide +kernel
theorem dX4_tryExchanges_76 : decode cX4_tryExchanges 76 = .ok (.aload_n 0, 1) := by decide +kernel
theorem dX4_tryExchanges_77 : decode cX4_tryExchanges 77 = .ok (.getfield 30, 3) := by decide +kernel
theorem dX4_tryExchanges_80 : decode cX4_tryExchanges 80 = .ok (.iload_n 2, 1) := by decide +kernel
theorem dX4_tryExchanges_81 : decode cX4_tryExchanges 81 = .ok (.iload_n 3, 1) := by decide +kernel
theorem dX4_tryExchanges_82 : decode cX4_tryExchanges 82 = .ok (.invokevirtual 51, 3) := by decide +kernel
theorem dX4_tryExchanges_85 : decode cX4_tryExchanges 85 = .ok (.aload_n 0, 1) := by decide +kernel
theorem dX4_tryExchanges_86 : decode cX4_tryExchanges 86 = .ok (.getfield 30, 3) := by decide +kernel
theorem dX4_tryExchanges_89 : decode cX4_tryExchanges 89 = .ok (.iload_n 1, 1) := by decide +kernel
theorem dX4_tryExchanges_90 : decode cX4_tryExchanges 90 = .ok (.invokevirtual 39, 3) := by decide +kernel
theorem dX4_tryExchanges_93 : decode cX4_tryExchanges 93 = .ok (.pop, 1) := by decide +kernel
theorem dX4_tryExchanges_94 : decode cX4_tryExchanges 94 = .ok (.aload_n 0, 1) := by decide +kernel
theorem dX4_tryExchanges_95 : decode cX4_tryExchanges 95 = .ok (.bipush 10, 2) := by decide +kernel
theorem dX4_tryExchanges_97 : decode cX4_tryExchanges 97 = .ok (.iload_n 2, 1) := by decide +kernel
theorem dX4_tryExchanges_98 : decode cX4_tryExchanges 98 = .ok (.imul, 1) := by decide +kernel
theorem dX4_tryExchanges_99 : decode cX4_tryExchanges 99 = .ok (.iload_n 3, 1) := by decide +kernel
theorem dX4_tryExchanges_100 : decode cX4_tryExchanges 100 = .ok (.iadd, 1) := by decide +kernel
theorem dX4_tryExchanges_101 : decode cX4_tryExchanges 101 = .ok (.invokevirtual 55, 3) := by decide +kernel
theorem dX4_tryExchanges_104 : decode cX4_tryExchanges 104 = .ok (.iinc 3 1, 3) := by decide +kernel
theorem dX4_tryExchanges_107 : decode cX4_tryExchanges 107 = .ok (.goto (-53), 3) := by decide +kernel
theorem dX4_tryExchanges_110 : decode cX4_tryExchanges 110 = .ok (.iinc 2 1, 3) := by decide +kernel
theorem dX4_tryExchanges_113 : decode cX4_tryExchanges 113 = .ok (.goto (-74), 3) := by decide +kernel
theorem dX4_tryExchanges_116 : decode cX4_tryExchanges 116 = .ok (.return_, 1) := by decide +kernel
theorem dX4_tryOrders_0 : decode cX4_tryOrders 0 = .ok (.iconst 0, 1) := by decide +kernel
theorem dX4_tryOrders_1 : decode cX4_tryOrders 1 = .ok (.istore_n 2, 1) := by decide +kernel
theorem dX4_tryOrders_2 : decode cX4_tryOrders 2 = .ok (.iload_n 2, 1) := by decide +kernel
theorem dX4_tryOrders_3 : decode cX4_tryOrders 3 = .ok (.aload_n 0, 1) := by decide +kernel
theorem dX4_tryOrders_4 : decode cX4_tryOrders 4 = .ok (.getfield 9, 3) := by decide +kernel
theorem dX4_tryOrders_7 : decode cX4_tryOrders 7 = .ok (.arraylength, 1) := by decide +kernel
theorem dX4_tryOrders_8 : decode cX4_tryOrders 8 = .ok (.if_icmp .ge 16, 3) := by decide +kernel
theorem dX4_tryOrders_11 : decode cX4_tryOrders 11 = .ok (.aload_n 0, 1) := by decide +kernel
theorem dX4_tryOrders_12 : decode cX4_tryOrders 12 = .ok (.getfield 9, 3) := by decide +kernel
theorem dX4_tryOrders_15 : decode cX4_tryOrders 15 = .ok (.iload_n 2, 1) := by decide +kernel
theorem dX4_tryOrders_16 : decode cX4_tryOrders 16 = .ok (.iload_n 2, 1) := by decide +kernel
theorem dX4_tryOrders_17 : decode cX4_tryOrders 17 = .ok (.iastore, 1) := by decide +kernel
theorem dX4_tryOrders_18 : decode cX4_tryOrders 18 = .ok (.iinc 2 1, 3) := by decide +kernel
theorem dX4_tryOrders_21 : decode cX4_tryOrders 21 = .ok (.goto (-19), 3) := by decide +kernel
theorem dX4_tryOrders_24 : decode cX4_tryOrders 24 = .ok (.aload_n 0, 1) := by decide +kernel
theorem dX4_tryOrders_25 : decode cX4_tryOrders 25 = .ok (.bipush (-9), 2) := by decide +kernel
theorem dX4_tryOrders_27 : decode cX4_tryOrders 27 = .ok (.putfield 15, 3) := by decide +kernel
theorem dX4_tryOrders_30 : decode cX4_tryOrders 30 = .ok (.aload_n 0, 1) := by decide +kernel
theorem dX4_tryOrders_31 : decode cX4_tryOrders 31 = .ok (.iconst 0, 1) := by decide +kernel
theorem dX4_tryOrders_32 : decode cX4_tryOrders 32 = .ok (.putfield 19, 3) := by decide +kernel
theorem dX4_tryOrders_35 : decode cX4_tryOrders 35 = .ok (.iconst 1, 1) := by decide +kernel
theorem dX4_tryOrders_36 : decode cX4_tryOrders 36 = .ok (.istore_n 2, 1) := by decide +kernel
theorem dX4_tryOrders_37 : decode cX4_tryOrders 37 = .ok (.aload_n 0, 1) := by decide +kernel
theorem dX4_tryOrders_38 : decode cX4_tryOrders 38 = .ok (.getfield 22, 3) := by decide +kernel
theorem dX4_tryOrders_41 : decode cX4_tryOrders 41 = .ok (.getfield 46, 3) := by decide +kernel
theorem dX4_tryOrders_44 : decode cX4_tryOrders 44 = .ok (.invokestatic 59, 3) := by decide +kernel
theorem dX4_tryOrders_47 : decode cX4_tryOrders 47 = .ok (.istore_n 3, 1) := by decide +kernel
theorem dX4_tryOrders_48 : decode cX4_tryOrders 48 = .ok (.iconst 0, 1) := by decide +kernel
theorem dX4_tryOrders_49 : decode cX4_tryOrders 49 = .ok (.istore 4, 2) := by decide +kernel
theorem dX4_tryOrders_51 : decode cX4_tryOrders 51 = .ok (.iload 4, 2) := by decide +kernel
theorem dX4_tryOrders_53 : decode cX4_tryOrders 53 = .ok (.iload_n 3, 1) := by decide +kernel
theorem dX4_tryOrders_54 : decode cX4_tryOrders 54 = .ok (.if_icmp .ge 63, 3) := by decide +kernel
theorem dX4_tryOrders_57 : decode cX4_tryOrders 57 = .ok (.iload_n 2, 1) := by decide +kernel
theorem dX4_tryOrders_58 : decode cX4_tryOrders 58 = .ok (.ifCond .eq 59, 3) := by decide +kernel
theorem dX4_tryOrders_61 : decode cX4_tryOrders 61 = .ok (.aload_n 0, 1) := by decide +kernel
theorem dX4_tryOrders_62 : decode cX4_tryOrders 62 = .ok (.getfield 30, 3) := by decide +kernel
theorem dX4_tryOrders_65 : decode cX4_tryOrders 65 = .ok (.aload_n 0, 1) := by decide +kernel
theorem dX4_tryOrders_66 : decode cX4_tryOrders 66 = .ok (.getfield 26, 3) := by decide +kernel
theorem dX4_tryOrders_69 : decode cX4_tryOrders 69 = .ok (.invokevirtual 33, 3) := by decide +kernel
theorem dX4_tryOrders_72 : decode cX4_tryOrders 72 = .ok (.aload_n 0, 1) := by decide +kernel
theorem dX4_tryOrders_73 : decode cX4_tryOrders 73 = .ok (.getfield 9, 3) := by decide +kernel
theorem dX4_tryOrders_76 : decode cX4_tryOrders 76 = .ok (.iconst 0, 1) := by decide +kernel
theorem dX4_tryOrders_77 : decode cX4_tryOrders 77 = .ok (.aload_n 0, 1) := by decide +kernel
theorem dX4_tryOrders_78 : decode cX4_tryOrders 78 = .ok (.getfield 30, 3) := by decide +kernel
theorem dX4_tryOrders_81 : decode cX4_tryOrders 81 = .ok (.getfield 62, 3) := by decide +kernel
theorem dX4_tryOrders_84 : decode cX4_tryOrders 84 = .ok (.iconst 0, 1) := by decide +kernel
theorem dX4_tryOrders_85 : decode cX4_tryOrders 85 = .ok (.iconst 5, 1) := by decide +kernel
theorem dX4_tryOrders_86 : decode cX4_tryOrders 86 = .ok (.invokestatic 65, 3) := by decide +kernel
theorem dX4_tryOrders_89 : decode cX4_tryOrders 89 = .ok (.aload_n 0, 1) := by decide +kernel
theorem dX4_tryOrders_90 : decode cX4_tryOrders 90 = .ok (.getfield 30, 3) := by decide +kernel
theorem dX4_tryOrders_93 : decode cX4_tryOrders 93 = .ok (.iload_n 1, 1) := by decide +kernel
theorem dX4_tryOrders_94 : decode cX4_tryOrders 94 = .ok (.invokevirtual 39, 3) := by decide +kernel
theorem dX4_tryOrders_97 : decode cX4_tryOrders 97 = .ok (.pop, 1) := by decide +kernel
theorem dX4_tryOrders_98 : decode cX4_tryOrders 98 = .ok (.aload_n 0, 1) := by decide +kernel
theorem dX4_tryOrders_99 : decode cX4_tryOrders 99 = .ok (.aload_n 0, 1) := by decide +kernel
theorem dX4_tryOrders_100 : decode cX4_tryOrders 100 = .ok (.invokevirtual 71, 3) := by decide +kernel
theorem dX4_tryOrders_103 : decode cX4_tryOrders 103 = .ok (.invokevirtual 55, 3) := by decide +kernel
theorem dX4_tryOrders_106 : decode cX4_tryOrders 106 = .ok (.aload_n 0, 1) := by decide +kernel
theorem dX4_tryOrders_107 : decode cX4_tryOrders 107 = .ok (.invokevirtual 75, 3) := by decide +kernel
theorem dX4_tryOrders_110 : decode cX4_tryOrders 110 = .ok (.istore_n 2, 1) := by decide +kernel
theorem dX4_tryOrders_111 : decode cX4_tryOrders 111 = .ok (.iinc 4 1, 3) := by decide +kernel
theorem dX4_tryOrders_114 : decode cX4_tryOrders 114 = .ok (.goto (-63), 3) := by decide +kernel
theorem dX4_tryOrders_117 : decode cX4_tryOrders 117 = .ok (.return_, 1) := by decide +kernel
theorem dX4_prefer_0 : decode cX4_prefer 0 = .ok (.aload_n 0, 1) := by decide +kernel
theorem dX4_prefer_1 : decode cX4_prefer 1 = .ok (.getfield 30, 3) := by decide +kernel
theorem dX4_prefer_4 : decode cX4_prefer 4 = .ok (.getfield 43, 3) := by decide +kernel
theorem dX4_prefer_7 : decode cX4_prefer 7 = .ok (.aload_n 0, 1) := by decide +kernel
theorem dX4_prefer_8 : decode cX4_prefer 8 = .ok (.getfield 15, 3) := by decide +kernel
theorem dX4_prefer_11 : decode cX4_prefer 11 = .ok (.if_icmp .le 19, 3) := by decide +kernel
theorem dX4_prefer_14 : decode cX4_prefer 14 = .ok (.aload_n 0, 1) := by decide +kernel
theorem dX4_prefer_15 : decode cX4_prefer 15 = .ok (.aload_n 0, 1) := by decide +kernel
theorem dX4_prefer_16 : decode cX4_prefer 16 = .ok (.getfield 30, 3) := by decide +kernel
theorem dX4_prefer_19 : decode cX4_prefer 19 = .ok (.getfield 43, 3) := by decide +kernel
theorem dX4_prefer_22 : decode cX4_prefer 22 = .ok (.putfield 15, 3) := by decide +kernel
theorem dX4_prefer_25 : decode cX4_prefer 25 = .ok (.aload_n 0, 1) := by decide +kernel
theorem dX4_prefer_26 : decode cX4_prefer 26 = .ok (.iload_n 1, 1) := by decide +kernel
theorem dX4_prefer_27 : decode cX4_prefer 27 = .ok (.putfield 19, 3) := by decide +kernel
theorem dX4_prefer_30 : decode cX4_prefer 30 = .ok (.return_, 1) := by decide +kernel
theorem dX4_orderFigures_0 : decode cX4_orderFigures 0 = .ok (.iconst 0, 1) := by decide +kernel
theorem dX4_orderFigures_1 : decode cX4_orderFigures 1 = .ok (.istore_n 1, 1) := by decide +kernel
theorem dX4_orderFigures_2 : decode cX4_orderFigures 2 = .ok (.iconst 0, 1) := by decide +kernel
theorem dX4_orderFigures_3 : decode cX4_orderFigures 3 = .ok (.istore_n 2, 1) := by decide +kernel
theorem dX4_orderFigures_4 : decode cX4_orderFigures 4 = .ok (.iload_n 2, 1) := by decide +kernel
theorem dX4_orderFigures_5 : decode cX4_orderFigures 5 = .ok (.aload_n 0, 1) := by decide +kernel
theorem dX4_orderFigures_6 : decode cX4_orderFigures 6 = .ok (.getfield 22, 3) := by decide +kernel
theorem dX4_orderFigures_9 : decode cX4_orderFigures 9 = .ok (.getfield 46, 3) := by decide +kernel
theorem dX4_orderFigures_12 : decode cX4_orderFigures 12 = .ok (.if_icmp .ge 32, 3) := by decide +kernel
theorem dX4_orderFigures_15 : decode cX4_orderFigures 15 = .ok (.iload_n 2, 1) := by decide +kernel
theorem dX4_orderFigures_16 : decode cX4_orderFigures 16 = .ok (.aload_n 0, 1) := by decide +kernel
theorem dX4_orderFigures_17 : decode cX4_orderFigures 17 = .ok (.getfield 9, 3) := by decide +kernel
theorem dX4_orderFigures_20 : decode cX4_orderFigures 20 = .ok (.arraylength, 1) := by decide +kernel
theorem dX4_orderFigures_21 : decode cX4_orderFigures 21 = .ok (.if_icmp .ge 23, 3) := by decide +kernel
theorem dX4_orderFigures_24 : decode cX4_orderFigures 24 = .ok (.bipush 10, 2) := by decide +kernel
theorem dX4_orderFigures_26 : decode cX4_orderFigures 26 = .ok (.iload_n 1, 1) := by decide +kernel
theorem dX4_orderFigures_27 : decode cX4_orderFigures 27 = .ok (.imul, 1) := by decide +kernel
theorem dX4_orderFigures_28 : decode cX4_orderFigures 28 = .ok (.aload_n 0, 1) := by decide +kernel
theorem dX4_orderFigures_29 : decode cX4_orderFigures 29 = .ok (.getfield 9, 3) := by decide +kernel
theorem dX4_orderFigures_32 : decode cX4_orderFigures 32 = .ok (.iload_n 2, 1) := by decide +kernel
theorem dX4_orderFigures_33 : decode cX4_orderFigures 33 = .ok (.iaload, 1) := by decide +kernel
theorem dX4_orderFigures_34 : decode cX4_orderFigures 34 = .ok (.iadd, 1) := by decide +kernel
theorem dX4_orderFigures_35 : decode cX4_orderFigures 35 = .ok (.iconst 1, 1) := by decide +kernel
theorem dX4_orderFigures_36 : decode cX4_orderFigures 36 = .ok (.iadd, 1) := by decide +kernel
theorem dX4_orderFigures_37 : decode cX4_orderFigures 37 = .ok (.istore_n 1, 1) := by decide +kernel
theorem dX4_orderFigures_38 : decode cX4_orderFigures 38 = .ok (.iinc 2 1, 3) := by decide +kernel
theorem dX4_orderFigures_41 : decode cX4_orderFigures 41 = .ok (.goto (-37), 3) := by decide +kernel
theorem dX4_orderFigures_44 : decode cX4_orderFigures 44 = .ok (.iload_n 1, 1) := by decide +kernel
theorem dX4_orderFigures_45 : decode cX4_orderFigures 45 = .ok (.ireturn, 1) := by decide +kernel
theorem dX4_toNextOrder_0 : decode cX4_toNextOrder 0 = .ok (.aload_n 0, 1) := by decide +kernel
theorem dX4_toNextOrder_1 : decode cX4_toNextOrder 1 = .ok (.getfield 22, 3) := by decide +kernel
theorem dX4_toNextOrder_4 : decode cX4_toNextOrder 4 = .ok (.getfield 46, 3) := by decide +kernel
theorem dX4_toNextOrder_7 : decode cX4_toNextOrder 7 = .ok (.aload_n 0, 1) := by decide +kernel
theorem dX4_toNextOrder_8 : decode cX4_toNextOrder 8 = .ok (.getfield 9, 3) := by decide +kernel
theorem dX4_toNextOrder_11 : decode cX4_toNextOrder 11 = .ok (.arraylength, 1) := by decide +kernel
theorem dX4_toNextOrder_12 : decode cX4_toNextOrder 12 = .ok (.invokestatic 79, 3) := by decide +kernel
theorem dX4_toNextOrder_15 : decode cX4_toNextOrder 15 = .ok (.istore_n 1, 1) := by decide +kernel
theorem dX4_toNextOrder_16 : decode cX4_toNextOrder 16 = .ok (.iload_n 1, 1) := by decide +kernel
theorem dX4_toNextOrder_17 : decode cX4_toNextOrder 17 = .ok (.iconst 2, 1) := by decide +kernel
theorem dX4_toNextOrder_18 : decode cX4_toNextOrder 18 = .ok (.isub, 1) := by decide +kernel
theorem dX4_toNextOrder_19 : decode cX4_toNextOrder 19 = .ok (.istore_n 2, 1) := by decide +kernel
theorem dX4_toNextOrder_20 : decode cX4_toNextOrder 20 = .ok (.iload_n 2, 1) := by decide +kernel
theorem dX4_toNextOrder_21 : decode cX4_toNextOrder 21 = .ok (.ifCond .lt 26, 3) := by decide +kernel
theorem dX4_toNextOrder_24 : decode cX4_toNextOrder 24 = .ok (.aload_n 0, 1) := by decide +kernel
theorem dX4_toNextOrder_25 : decode cX4_toNextOrder 25 = .ok (.getfield 9, 3) := by decide +kernel
theorem dX4_toNextOrder_28 : decode cX4_toNextOrder 28 = .ok (.iload_n 2, 1) := by decide +kernel
theorem dX4_toNextOrder_29 : decode cX4_toNextOrder 29 = .ok (.iaload, 1) := by decide +kernel
theorem dX4_toNextOrder_30 : decode cX4_toNextOrder 30 = .ok (.aload_n 0, 1) := by decide +kernel
theorem dX4_toNextOrder_31 : decode cX4_toNextOrder 31 = .ok (.getfield 9, 3) := by decide +kernel
theorem dX4_toNextOrder_34 : decode cX4_toNextOrder 34 = .ok (.iload_n 2, 1) := by decide +kernel
theorem dX4_toNextOrder_35 : decode cX4_toNextOrder 35 = .ok (.iconst 1, 1) := by decide +kernel
theorem dX4_toNextOrder_36 : decode cX4_toNextOrder 36 = .ok (.iadd, 1) := by decide +kernel
theorem dX4_toNextOrder_37 : decode cX4_toNextOrder 37 = .ok (.iaload, 1) := by decide +kernel
theorem dX4_toNextOrder_38 : decode cX4_toNextOrder 38 = .ok (.if_icmp .le 9, 3) := by decide +kernel
theorem dX4_toNextOrder_41 : decode cX4_toNextOrder 41 = .ok (.iinc 2 (-1), 3) := by decide +kernel
theorem dX4_toNextOrder_44 : decode cX4_toNextOrder 44 = .ok (.goto (-24), 3) := by decide +kernel
theorem dX4_toNextOrder_47 : decode cX4_toNextOrder 47 = .ok (.iload_n 2, 1) := by decide +kernel
theorem dX4_toNextOrder_48 : decode cX4_toNextOrder 48 = .ok (.ifCond .ge 5, 3) := by decide +kernel
theorem dX4_toNextOrder_51 : decode cX4_toNextOrder 51 = .ok (.iconst 0, 1) := by decide +kernel
theorem dX4_toNextOrder_52 : decode cX4_toNextOrder 52 = .ok (.ireturn, 1) := by decide +kernel
theorem dX4_toNextOrder_53 : decode cX4_toNextOrder 53 = .ok (.iload_n 1, 1) := by decide +kernel
theorem dX4_toNextOrder_54 : decode cX4_toNextOrder 54 = .ok (.iconst 1, 1) := by decide +kernel
theorem dX4_toNextOrder_55 : decode cX4_toNextOrder 55 = .ok (.isub, 1) := by decide +kernel
theorem dX4_toNextOrder_56 : decode cX4_toNextOrder 56 = .ok (.istore_n 3, 1) := by decide +kernel
theorem dX4_toNextOrder_57 : decode cX4_toNextOrder 57 = .ok (.iload_n 3, 1) := by decide +kernel
theorem dX4_toNextOrder_58 : decode cX4_toNextOrder 58 = .ok (.iload_n 2, 1) := by decide +kernel
theorem dX4_toNextOrder_59 : decode cX4_toNextOrder 59 = .ok (.if_icmp .le 24, 3) := by decide +kernel
theorem dX4_toNextOrder_62 : decode cX4_toNextOrder 62 = .ok (.aload_n 0, 1) := by decide +kernel
theorem dX4_toNextOrder_63 : decode cX4_toNextOrder 63 = .ok (.getfield 9, 3) := by decide +kernel
theorem dX4_toNextOrder_66 : decode cX4_toNextOrder 66 = .ok (.iload_n 3, 1) := by decide +kernel
theorem dX4_toNextOrder_67 : decode cX4_toNextOrder 67 = .ok (.iaload, 1) := by decide +kernel
theorem dX4_toNextOrder_68 : decode cX4_toNextOrder 68 = .ok (.aload_n 0, 1) := by decide +kernel
theorem dX4_toNextOrder_69 : decode cX4_toNextOrder 69 = .ok (.getfield 9, 3) := by decide +kernel
theorem dX4_toNextOrder_72 : decode cX4_toNextOrder 72 = .ok (.iload_n 2, 1) := by decide +kernel
theorem dX4_toNextOrder_73 : decode cX4_toNextOrder 73 = .ok (.iaload, 1) := by decide +kernel
theorem dX4_toNextOrder_74 : decode cX4_toNextOrder 74 = .ok (.if_icmp .ge 9, 3) := by decide +kernel
theorem dX4_toNextOrder_77 : decode cX4_toNextOrder 77 = .ok (.iinc 3 (-1), 3) := by decide +kernel
theorem dX4_toNextOrder_80 : decode cX4_toNextOrder 80 = .ok (.goto (-23), 3) := by decide +kernel
theorem dX4_toNextOrder_83 : decode cX4_toNextOrder 83 = .ok (.aload_n 0, 1) := by decide +kernel
theorem dX4_toNextOrder_84 : decode cX4_toNextOrder 84 = .ok (.iload_n 2, 1) := by decide +kernel
theorem dX4_toNextOrder_85 : decode cX4_toNextOrder 85 = .ok (.iload_n 3, 1) := by decide +kernel
theorem dX4_toNextOrder_86 : decode cX4_toNextOrder 86 = .ok (.invokevirtual 85, 3) := by decide +kernel
theorem dX4_toNextOrder_89 : decode cX4_toNextOrder 89 = .ok (.iload_n 1, 1) := by decide +kernel
theorem dX4_toNextOrder_90 : decode cX4_toNextOrder 90 = .ok (.iconst 1, 1) := by decide +kernel
theorem dX4_toNextOrder_91 : decode cX4_toNextOrder 91 = .ok (.isub, 1) := by decide +kernel
theorem dX4_toNextOrder_92 : decode cX4_toNextOrder 92 = .ok (.istore 4, 2) := by decide +kernel
theorem dX4_toNextOrder_94 : decode cX4_toNextOrder 94 = .ok (.iload_n 2, 1) := by decide +kernel
theorem dX4_toNextOrder_95 : decode cX4_toNextOrder 95 = .ok (.iconst 1, 1) := by decide +kernel
theorem dX4_toNextOrder_96 : decode cX4_toNextOrder 96 = .ok (.iadd, 1) := by decide +kernel
theorem dX4_toNextOrder_97 : decode cX4_toNextOrder 97 = .ok (.istore 5, 2) := by decide +kernel
theorem dX4_toNextOrder_99 : decode cX4_toNextOrder 99 = .ok (.iload 5, 2) := by decide +kernel
theorem dX4_toNextOrder_101 : decode cX4_toNextOrder 101 = .ok (.iload 4, 2) := by decide +kernel
theorem dX4_toNextOrder_103 : decode cX4_toNextOrder 103 = .ok (.if_icmp .ge 20, 3) := by decide +kernel
theorem dX4_toNextOrder_106 : decode cX4_toNextOrder 106 = .ok (.aload_n 0, 1) := by decide +kernel
theorem dX4_toNextOrder_107 : decode cX4_toNextOrder 107 = .ok (.iload 5, 2) := by decide +kernel
theorem dX4_toNextOrder_109 : decode cX4_toNextOrder 109 = .ok (.iload 4, 2) := by decide +kernel
theorem dX4_toNextOrder_111 : decode cX4_toNextOrder 111 = .ok (.invokevirtual 85, 3) := by decide +kernel
theorem dX4_toNextOrder_114 : decode cX4_toNextOrder 114 = .ok (.iinc 4 (-1), 3) := by decide +kernel
theorem dX4_toNextOrder_117 : decode cX4_toNextOrder 117 = .ok (.iinc 5 1, 3) := by decide +kernel
theorem dX4_toNextOrder_120 : decode cX4_toNextOrder 120 = .ok (.goto (-21), 3) := by decide +kernel
theorem dX4_toNextOrder_123 : decode cX4_toNextOrder 123 = .ok (.iconst 1, 1) := by decide +kernel
theorem dX4_toNextOrder_124 : decode cX4_toNextOrder 124 = .ok (.ireturn, 1) := by decide +kernel
theorem dX4_exchangeInOrder_0 : decode cX4_exchangeInOrder 0 = .ok (.iload_n 1, 1) := by decide +kernel
theorem dX4_exchangeInOrder_1 : decode cX4_exchangeInOrder 1 = .ok (.ifCond .lt 25, 3) := by decide +kernel
theorem dX4_exchangeInOrder_4 : decode cX4_exchangeInOrder 4 = .ok (.iload_n 1, 1) := by decide +kernel
theorem dX4_exchangeInOrder_5 : decode cX4_exchangeInOrder 5 = .ok (.aload_n 0, 1) := by decide +kernel
theorem dX4_exchangeInOrder_6 : decode cX4_exchangeInOrder 6 = .ok (.getfield 9, 3) := by decide +kernel
theorem dX4_exchangeInOrder_9 : decode cX4_exchangeInOrder 9 = .ok (.arraylength, 1) := by decide +kernel
theorem dX4_exchangeInOrder_10 : decode cX4_exchangeInOrder 10 = .ok (.if_icmp .ge 16, 3) := by decide +kernel
theorem dX4_exchangeInOrder_13 : decode cX4_exchangeInOrder 13 = .ok (.iload_n 2, 1) := by decide +kernel
theorem dX4_exchangeInOrder_14 : decode cX4_exchangeInOrder 14 = .ok (.ifCond .lt 12, 3) := by decide +kernel
theorem dX4_exchangeInOrder_17 : decode cX4_exchangeInOrder 17 = .ok (.iload_n 2, 1) := by decide +kernel
theorem dX4_exchangeInOrder_18 : decode cX4_exchangeInOrder 18 = .ok (.aload_n 0, 1) := by decide +kernel
theorem dX4_exchangeInOrder_19 : decode cX4_exchangeInOrder 19 = .ok (.getfield 9, 3) := by decide +kernel
theorem dX4_exchangeInOrder_22 : decode cX4_exchangeInOrder 22 = .ok (.arraylength, 1) := by decide +kernel
theorem dX4_exchangeInOrder_23 : decode cX4_exchangeInOrder 23 = .ok (.if_icmp .lt 4, 3) := by decide +kernel
theorem dX4_exchangeInOrder_26 : decode cX4_exchangeInOrder 26 = .ok (.return_, 1) := by decide +kernel
theorem dX4_exchangeInOrder_27 : decode cX4_exchangeInOrder 27 = .ok (.aload_n 0, 1) := by decide +kernel
theorem dX4_exchangeInOrder_28 : decode cX4_exchangeInOrder 28 = .ok (.getfield 9, 3) := by decide +kernel
theorem dX4_exchangeInOrder_31 : decode cX4_exchangeInOrder 31 = .ok (.iload_n 1, 1) := by decide +kernel
theorem dX4_exchangeInOrder_32 : decode cX4_exchangeInOrder 32 = .ok (.iaload, 1) := by decide +kernel
theorem dX4_exchangeInOrder_33 : decode cX4_exchangeInOrder 33 = .ok (.istore_n 3, 1) := by decide +kernel
theorem dX4_exchangeInOrder_34 : decode cX4_exchangeInOrder 34 = .ok (.aload_n 0, 1) := by decide +kernel
theorem dX4_exchangeInOrder_35 : decode cX4_exchangeInOrder 35 = .ok (.getfield 9, 3) := by decide +kernel
theorem dX4_exchangeInOrder_38 : decode cX4_exchangeInOrder 38 = .ok (.iload_n 1, 1) := by decide +kernel
theorem dX4_exchangeInOrder_39 : decode cX4_exchangeInOrder 39 = .ok (.aload_n 0, 1) := by decide +kernel
theorem dX4_exchangeInOrder_40 : decode cX4_exchangeInOrder 40 = .ok (.getfield 9, 3) := by decide +kernel
theorem dX4_exchangeInOrder_43 : decode cX4_exchangeInOrder 43 = .ok (.iload_n 2, 1) := by decide +kernel
theorem dX4_exchangeInOrder_44 : decode cX4_exchangeInOrder 44 = .ok (.iaload, 1) := by decide +kernel
theorem dX4_exchangeInOrder_45 : decode cX4_exchangeInOrder 45 = .ok (.iastore, 1) := by decide +kernel
theorem dX4_exchangeInOrder_46 : decode cX4_exchangeInOrder 46 = .ok (.aload_n 0, 1) := by decide +kernel
theorem dX4_exchangeInOrder_47 : decode cX4_exchangeInOrder 47 = .ok (.getfield 9, 3) := by decide +kernel
theorem dX4_exchangeInOrder_50 : decode cX4_exchangeInOrder 50 = .ok (.iload_n 2, 1) := by decide +kernel
theorem dX4_exchangeInOrder_51 : decode cX4_exchangeInOrder 51 = .ok (.iload_n 3, 1) := by decide +kernel
theorem dX4_exchangeInOrder_52 : decode cX4_exchangeInOrder 52 = .ok (.iastore, 1) := by decide +kernel
theorem dX4_exchangeInOrder_53 : decode cX4_exchangeInOrder 53 = .ok (.return_, 1) := by decide +kernel
theorem dX5_init_0 : decode cX5_init 0 = .ok (.aload_n 0, 1) := by decide +kernel
theorem dX5_init_1 : decode cX5_init 1 = .ok (.invokespecial 5, 3) := by decide +kernel
theorem dX5_init_4 : decode cX5_init 4 = .ok (.aload_n 0, 1) := by decide +kernel
theorem dX5_init_5 : decode cX5_init 5 = .ok (.iload_n 1, 1) := by decide +kernel
theorem dX5_init_6 : decode cX5_init 6 = .ok (.iconst 1, 1) := by decide +kernel
theorem dX5_init_7 : decode cX5_init 7 = .ok (.if_icmp .ge 8, 3) := by decide +kernel
theorem dX5_init_10 : decode cX5_init 10 = .ok (.bipush 21, 2) := by decide +kernel
theorem dX5_init_12 : decode cX5_init 12 = .ok (.goto 7, 3) := by decide +kernel
theorem dX5_init_15 : decode cX5_init 15 = .ok (.iload_n 1, 1) := by decide +kernel
theorem dX5_init_16 : decode cX5_init 16 = .ok (.bipush 21, 2) := by decide +kernel
theorem dX5_init_18 : decode cX5_init 18 = .ok (.imul, 1) := by decide +kernel
theorem dX5_init_19 : decode cX5_init 19 = .ok (.newarray .int, 2) := by decide +kernel
theorem dX5_init_21 : decode cX5_init 21 = .ok (.putfield 11, 3) := by decide +kernel
theorem dX5_init_24 : decode cX5_init 24 = .ok (.return_, 1) := by decide +kernel
theorem dX5_hasRow_0 : decode cX5_hasRow 0 = .ok (.iload_n 1, 1) := by decide +kernel
theorem dX5_hasRow_1 : decode cX5_hasRow 1 = .ok (.ifCond .lt 19, 3) := by decide +kernel
theorem dX5_hasRow_4 : decode cX5_hasRow 4 = .ok (.iload_n 1, 1) := by decide +kernel
theorem dX5_hasRow_5 : decode cX5_hasRow 5 = .ok (.aload_n 0, 1) := by decide +kernel
theorem dX5_hasRow_6 : decode cX5_hasRow 6 = .ok (.getfield 11, 3) := by decide +kernel
theorem dX5_hasRow_9 : decode cX5_hasRow 9 = .ok (.arraylength, 1) := by decide +kernel
theorem dX5_hasRow_10 : decode cX5_hasRow 10 = .ok (.bipush 21, 2) := by decide +kernel
theorem dX5_hasRow_12 : decode cX5_hasRow 12 = .ok (.idiv, 1) := by decide +kernel
theorem dX5_hasRow_13 : decode cX5_hasRow 13 = .ok (.if_icmp .ge 7, 3) := by decide +kernel
theorem dX5_hasRow_16 : decode cX5_hasRow 16 = .ok (.iconst 1, 1) := by decide +kernel
theorem dX5_hasRow_17 : decode cX5_hasRow 17 = .ok (.goto 4, 3) := by decide +kernel
theorem dX5_hasRow_20 : decode cX5_hasRow 20 = .ok (.iconst 0, 1) := by decide +kernel
theorem dX5_hasRow_21 : decode cX5_hasRow 21 = .ok (.ireturn, 1) := by decide +kernel
theorem dX5_store_0 : decode cX5_store 0 = .ok (.aload_n 0, 1) := by decide +kernel
theorem dX5_store_1 : decode cX5_store 1 = .ok (.iload_n 1, 1) := by decide +kernel
theorem dX5_store_2 : decode cX5_store 2 = .ok (.invokevirtual 15, 3) := by decide +kernel
theorem dX5_store_5 : decode cX5_store 5 = .ok (.ifCond .ne 4, 3) := by decide +kernel
theorem dX5_store_8 : decode cX5_store 8 = .ok (.return_, 1) := by decide +kernel
theorem dX5_store_9 : decode cX5_store 9 = .ok (.iload_n 1, 1) := by decide +kernel
theorem dX5_store_10 : decode cX5_store 10 = .ok (.bipush 21, 2) := by decide +kernel
theorem dX5_store_12 : decode cX5_store 12 = .ok (.imul, 1) := by decide +kernel
theorem dX5_store_13 : decode cX5_store 13 = .ok (.istore_n 3, 1) := by decide +kernel
theorem dX5_store_14 : decode cX5_store 14 = .ok (.aload_n 2, 1) := by decide +kernel
theorem dX5_store_15 : decode cX5_store 15 = .ok (.getfield 19, 3) := by decide +kernel
theorem dX5_store_18 : decode cX5_store 18 = .ok (.iconst 0, 1) := by decide +kernel
theorem dX5_store_19 : decode cX5_store 19 = .ok (.aload_n 0, 1) := by decide +kernel
theorem dX5_store_20 : decode cX5_store 20 = .ok (.getfield 11, 3) := by decide +kernel
theorem dX5_store_23 : decode cX5_store 23 = .ok (.iload_n 3, 1) := by decide +kernel
theorem dX5_store_24 : decode cX5_store 24 = .ok (.iconst 5, 1) := by decide +kernel
theorem dX5_store_25 : decode cX5_store 25 = .ok (.invokestatic 24, 3) := by decide +kernel
theorem dX5_store_28 : decode cX5_store 28 = .ok (.aload_n 2, 1) := by decide +kernel
theorem dX5_store_29 : decode cX5_store 29 = .ok (.getfield 30, 3) := by decide +kernel
theorem dX5_store_32 : decode cX5_store 32 = .ok (.iconst 0, 1) := by decide +kernel
theorem dX5_store_33 : decode cX5_store 33 = .ok (.aload_n 0, 1) := by decide +kernel
theorem dX5_store_34 : decode cX5_store 34 = .ok (.getfield 11, 3) := by decide +kernel
theorem dX5_store_37 : decode cX5_store 37 = .ok (.iload_n 3, 1) := by decide +kernel
theorem dX5_store_38 : decode cX5_store 38 = .ok (.iconst 5, 1) := by decide +kernel
theorem dX5_store_39 : decode cX5_store 39 = .ok (.iadd, 1) := by decide +kernel
theorem dX5_store_40 : decode cX5_store 40 = .ok (.iconst 4, 1) := by decide +kernel
theorem dX5_store_41 : decode cX5_store 41 = .ok (.invokestatic 24, 3) := by decide +kernel
theorem dX5_store_44 : decode cX5_store 44 = .ok (.aload_n 2, 1) := by decide +kernel
theorem dX5_store_45 : decode cX5_store 45 = .ok (.getfield 33, 3) := by decide +kernel
theorem dX5_store_48 : decode cX5_store 48 = .ok (.iconst 0, 1) := by decide +kernel
theorem dX5_store_49 : decode cX5_store 49 = .ok (.aload_n 0, 1) := by decide +kernel
theorem dX5_store_50 : decode cX5_store 50 = .ok (.getfield 11, 3) := by decide +kernel
theorem dX5_store_53 : decode cX5_store 53 = .ok (.iload_n 3, 1) := by decide +kernel
theorem dX5_store_54 : decode cX5_store 54 = .ok (.bipush 9, 2) := by decide +kernel
theorem dX5_store_56 : decode cX5_store 56 = .ok (.iadd, 1) := by decide +kernel
theorem dX5_store_57 : decode cX5_store 57 = .ok (.iconst 4, 1) := by decide +kernel
theorem dX5_store_58 : decode cX5_store 58 = .ok (.invokestatic 24, 3) := by decide +kernel
theorem dX5_store_61 : decode cX5_store 61 = .ok (.aload_n 2, 1) := by decide +kernel
theorem dX5_store_62 : decode cX5_store 62 = .ok (.getfield 36, 3) := by decide +kernel
theorem dX5_store_65 : decode cX5_store 65 = .ok (.iconst 0, 1) := by decide +kernel
theorem dX5_store_66 : decode cX5_store 66 = .ok (.aload_n 0, 1) := by decide +kernel
theorem dX5_store_67 : decode cX5_store 67 = .ok (.getfield 11, 3) := by decide +kernel
theorem dX5_store_70 : decode cX5_store 70 = .ok (.iload_n 3, 1) := by decide +kernel
theorem dX5_store_71 : decode cX5_store 71 = .ok (.bipush 13, 2) := by decide +kernel
theorem dX5_store_73 : decode cX5_store 73 = .ok (.iadd, 1) := by decide +kernel
theorem dX5_store_74 : decode cX5_store 74 = .ok (.iconst 4, 1) := by decide +kernel
theorem dX5_store_75 : decode cX5_store 75 = .ok (.invokestatic 24, 3) := by decide +kernel
theorem dX5_store_78 : decode cX5_store 78 = .ok (.aload_n 0, 1) := by decide +kernel
theorem dX5_store_79 : decode cX5_store 79 = .ok (.getfield 11, 3) := by decide +kernel
theorem dX5_store_82 : decode cX5_store 82 = .ok (.iload_n 3, 1) := by decide +kernel
theorem dX5_store_83 : decode cX5_store 83 = .ok (.bipush 17, 2) := by decide +kernel
theorem dX5_store_85 : decode cX5_store 85 = .ok (.iadd, 1) := by decide +kernel
theorem dX5_store_86 : decode cX5_store 86 = .ok (.aload_n 2, 1) := by decide +kernel
theorem dX5_store_87 : decode cX5_store 87 = .ok (.getfield 39, 3) := by decide +kernel
theorem dX5_store_90 : decode cX5_store 90 = .ok (.iastore, 1) := by decide +kernel
theorem dX5_store_91 : decode cX5_store 91 = .ok (.aload_n 0, 1) := by decide +kernel
theorem dX5_store_92 : decode cX5_store 92 = .ok (.getfield 11, 3) := by decide +kernel
theorem dX5_store_95 : decode cX5_store 95 = .ok (.iload_n 3, 1) := by decide +kernel
theorem dX5_store_96 : decode cX5_store 96 = .ok (.bipush 18, 2) := by decide +kernel
theorem dX5_store_98 : decode cX5_store 98 = .ok (.iadd, 1) := by decide +kernel
theorem dX5_store_99 : decode cX5_store 99 = .ok (.aload_n 2, 1) := by decide +kernel
theorem dX5_store_100 : decode cX5_store 100 = .ok (.getfield 43, 3) := by decide +kernel
theorem dX5_store_103 : decode cX5_store 103 = .ok (.iastore, 1) := by decide +kernel
theorem dX5_store_104 : decode cX5_store 104 = .ok (.aload_n 0, 1) := by decide +kernel
theorem dX5_store_105 : decode cX5_store 105 = .ok (.getfield 11, 3) := by decide +kernel
theorem dX5_store_108 : decode cX5_store 108 = .ok (.iload_n 3, 1) := by decide +kernel
theorem dX5_store_109 : decode cX5_store 109 = .ok (.bipush 19, 2) := by decide +kernel
theorem dX5_store_111 : decode cX5_store 111 = .ok (.iadd, 1) := by decide +kernel
theorem dX5_store_112 : decode cX5_store 112 = .ok (.aload_n 2, 1) := by decide +kernel
theorem dX5_store_113 : decode cX5_store 113 = .ok (.getfield 46, 3) := by decide +kernel
theorem dX5_store_116 : decode cX5_store 116 = .ok (.iastore, 1) := by decide +kernel
theorem dX5_store_117 : decode cX5_store 117 = .ok (.aload_n 0, 1) := by decide +kernel
theorem dX5_store_118 : decode cX5_store 118 = .ok (.getfield 11, 3) := by decide +kernel
theorem dX5_store_121 : decode cX5_store 121 = .ok (.iload_n 3, 1) := by decide +kernel
theorem dX5_store_122 : decode cX5_store 122 = .ok (.bipush 20, 2) := by decide +kernel
theorem dX5_store_124 : decode cX5_store 124 = .ok (.iadd, 1) := by decide +kernel
theorem dX5_store_125 : decode cX5_store 125 = .ok (.aload_n 2, 1) := by decide +kernel
theorem dX5_store_126 : decode cX5_store 126 = .ok (.getfield 49, 3) := by decide +kernel
theorem dX5_store_129 : decode cX5_store 129 = .ok (.iastore, 1) := by decide +kernel
theorem dX5_store_130 : decode cX5_store 130 = .ok (.return_, 1) := by decide +kernel
theorem dX5_fetch_0 : decode cX5_fetch 0 = .ok (.aload_n 0, 1) := by decide +kernel
theorem dX5_fetch_1 : decode cX5_fetch 1 = .ok (.iload_n 1, 1) := by decide +kernel
theorem dX5_fetch_2 : decode cX5_fetch 2 = .ok (.invokevirtual 15, 3) := by decide +kernel
theorem dX5_fetch_5 : decode cX5_fetch 5 = .ok (.ifCond .ne 4, 3) := by decide +kernel
theorem dX5_fetch_8 : decode cX5_fetch 8 = .ok (.return_, 1) := by decide +kernel
theorem dX5_fetch_9 : decode cX5_fetch 9 = .ok (.iload_n 1, 1) := by decide +kernel
theorem dX5_fetch_10 : decode cX5_fetch 10 = .ok (.bipush 21, 2) := by decide +kernel
theorem dX5_fetch_12 : decode cX5_fetch 12 = .ok (.imul, 1) := by decide +kernel
theorem dX5_fetch_13 : decode cX5_fetch 13 = .ok (.istore_n 3, 1) := by decide +kernel
theorem dX5_fetch_14 : decode cX5_fetch 14 = .ok (.aload_n 0, 1) := by decide +kernel
theorem dX5_fetch_15 : decode cX5_fetch 15 = .ok (.getfield 11, 3) := by decide +kernel
theorem dX5_fetch_18 : decode cX5_fetch 18 = .ok (.iload_n 3, 1) := by decide +kernel
theorem dX5_fetch_19 : decode cX5_fetch 19 = .ok (.aload_n 2, 1) := by decide +kernel
theorem dX5_fetch_20 : decode cX5_fetch 20 = .ok (.getfield 19, 3) := by decide +kernel
theorem dX5_fetch_23 : decode cX5_fetch 23 = .ok (.iconst 0, 1) := by decide +kernel
theorem dX5_fetch_24 : decode cX5_fetch 24 = .ok (.iconst 5, 1) := by decide +kernel
theorem dX5_fetch_25 : decode cX5_fetch 25 = .ok (.invokestatic 24, 3) := by decide +kernel
theorem dX5_fetch_28 : decode cX5_fetch 28 = .ok (.aload_n 0, 1) := by decide +kernel
theorem dX5_fetch_29 : decode cX5_fetch 29 = .ok (.getfield 11, 3) := by decide +kernel
theorem dX5_fetch_32 : decode cX5_fetch 32 = .ok (.iload_n 3, 1) := by decide +kernel
theorem dX5_fetch_33 : decode cX5_fetch 33 = .ok (.iconst 5, 1) := by decide +kernel
theorem dX5_fetch_34 : decode cX5_fetch 34 = .ok (.iadd, 1) := by decide +kernel
theorem dX5_fetch_35 : decode cX5_fetch 35 = .ok (.aload_n 2, 1) := by decide +kernel
theorem dX5_fetch_36 : decode cX5_fetch 36 = .ok (.getfield 30, 3) := by decide +kernel
theorem dX5_fetch_39 : decode cX5_fetch 39 = .ok (.iconst 0, 1) := by decide +kernel
theorem dX5_fetch_40 : decode cX5_fetch 40 = .ok (.iconst 4, 1) := by decide +kernel
theorem dX5_fetch_41 : decode cX5_fetch 41 = .ok (.invokestatic 24, 3) := by decide +kernel
theorem dX5_fetch_44 : decode cX5_fetch 44 = .ok (.aload_n 0, 1) := by decide +kernel
theorem dX5_fetch_45 : decode cX5_fetch 45 = .ok (.getfield 11, 3) := by decide +kernel
theorem dX5_fetch_48 : decode cX5_fetch 48 = .ok (.iload_n 3, 1) := by decide +kernel
theorem dX5_fetch_49 : decode cX5_fetch 49 = .ok (.bipush 9, 2) := by decide +kernel
theorem dX5_fetch_51 : decode cX5_fetch 51 = .ok (.iadd, 1) := by decide +kernel
theorem dX5_fetch_52 : decode cX5_fetch 52 = .ok (.aload_n 2, 1) := by decide +kernel
theorem dX5_fetch_53 : decode cX5_fetch 53 = .ok (.getfield 33, 3) := by decide +kernel
theorem dX5_fetch_56 : decode cX5_fetch 56 = .ok (.iconst 0, 1) := by decide +kernel
theorem dX5_fetch_57 : decode cX5_fetch 57 = .ok (.iconst 4, 1) := by decide +kernel
theorem dX5_fetch_58 : decode cX5_fetch 58 = .ok (.invokestatic 24, 3) := by decide +kernel
theorem dX5_fetch_61 : decode cX5_fetch 61 = .ok (.aload_n 0, 1) := by decide +kernel
theorem dX5_fetch_62 : decode cX5_fetch 62 = .ok (.getfield 11, 3) := by decide +kernel
theorem dX5_fetch_65 : decode cX5_fetch 65 = .ok (.iload_n 3, 1) := by decide +kernel
theorem dX5_fetch_66 : decode cX5_fetch 66 = .ok (.bipush 13, 2) := by decide +kernel
theorem dX5_fetch_68 : decode cX5_fetch 68 = .ok (.iadd, 1) := by decide +kernel
theorem dX5_fetch_69 : decode cX5_fetch 69 = .ok (.aload_n 2, 1) := by decide +kernel
theorem dX5_fetch_70 : decode cX5_fetch 70 = .ok (.getfield 36, 3) := by decide +kernel
theorem dX5_fetch_73 : decode cX5_fetch 73 = .ok (.iconst 0, 1) := by decide +kernel
theorem dX5_fetch_74 : decode cX5_fetch 74 = .ok (.iconst 4, 1) := by decide +kernel
theorem dX5_fetch_75 : decode cX5_fetch 75 = .ok (.invokestatic 24, 3) := by decide +kernel
theorem dX5_fetch_78 : decode cX5_fetch 78 = .ok (.aload_n 2, 1) := by decide +kernel
theorem dX5_fetch_79 : decode cX5_fetch 79 = .ok (.aload_n 0, 1) := by decide +kernel
theorem dX5_fetch_80 : decode cX5_fetch 80 = .ok (.getfield 11, 3) := by decide +kernel
theorem dX5_fetch_83 : decode cX5_fetch 83 = .ok (.iload_n 3, 1) := by decide +kernel
theorem dX5_fetch_84 : decode cX5_fetch 84 = .ok (.bipush 17, 2) := by decide +kernel
theorem dX5_fetch_86 : decode cX5_fetch 86 = .ok (.iadd, 1) := by decide +kernel
theorem dX5_fetch_87 : decode cX5_fetch 87 = .ok (.iaload, 1) := by decide +kernel
theorem dX5_fetch_88 : decode cX5_fetch 88 = .ok (.putfield 39, 3) := by decide +kernel
theorem dX5_fetch_91 : decode cX5_fetch 91 = .ok (.aload_n 2, 1) := by decide +kernel
theorem dX5_fetch_92 : decode cX5_fetch 92 = .ok (.aload_n 0, 1) := by decide +kernel
theorem dX5_fetch_93 : decode cX5_fetch 93 = .ok (.getfield 11, 3) := by decide +kernel
theorem dX5_fetch_96 : decode cX5_fetch 96 = .ok (.iload_n 3, 1) := by decide +kernel
theorem dX5_fetch_97 : decode cX5_fetch 97 = .ok (.bipush 18, 2) := by decide +kernel
theorem dX5_fetch_99 : decode cX5_fetch 99 = .ok (.iadd, 1) := by decide +kernel
theorem dX5_fetch_100 : decode cX5_fetch 100 = .ok (.iaload, 1) := by decide +kernel
theorem dX5_fetch_101 : decode cX5_fetch 101 = .ok (.putfield 43, 3) := by decide +kernel
theorem dX5_fetch_104 : decode cX5_fetch 104 = .ok (.aload_n 2, 1) := by decide +kernel
theorem dX5_fetch_105 : decode cX5_fetch 105 = .ok (.aload_n 0, 1) := by decide +kernel
theorem dX5_fetch_106 : decode cX5_fetch 106 = .ok (.getfield 11, 3) := by decide +kernel
theorem dX5_fetch_109 : decode cX5_fetch 109 = .ok (.iload_n 3, 1) := by decide +kernel
theorem dX5_fetch_110 : decode cX5_fetch 110 = .ok (.bipush 19, 2) := by decide +kernel
theorem dX5_fetch_112 : decode cX5_fetch 112 = .ok (.iadd, 1) := by decide +kernel
theorem dX5_fetch_113 : decode cX5_fetch 113 = .ok (.iaload, 1) := by decide +kernel
theorem dX5_fetch_114 : decode cX5_fetch 114 = .ok (.putfield 46, 3) := by decide +kernel
theorem dX5_fetch_117 : decode cX5_fetch 117 = .ok (.aload_n 2, 1) := by decide +kernel
theorem dX5_fetch_118 : decode cX5_fetch 118 = .ok (.aload_n 0, 1) := by decide +kernel
theorem dX5_fetch_119 : decode cX5_fetch 119 = .ok (.getfield 11, 3) := by decide +kernel
theorem dX5_fetch_122 : decode cX5_fetch 122 = .ok (.iload_n 3, 1) := by decide +kernel
theorem dX5_fetch_123 : decode cX5_fetch 123 = .ok (.bipush 20, 2) := by decide +kernel
theorem dX5_fetch_125 : decode cX5_fetch 125 = .ok (.iadd, 1) := by decide +kernel
theorem dX5_fetch_126 : decode cX5_fetch 126 = .ok (.iaload, 1) := by decide +kernel
theorem dX5_fetch_127 : decode cX5_fetch 127 = .ok (.putfield 49, 3) := by decide +kernel
theorem dX5_fetch_130 : decode cX5_fetch 130 = .ok (.return_, 1) := by decide +kernel
theorem dX6_init_0 : decode cX6_init 0 = .ok (.aload_n 0, 1) := by decide +kernel
theorem dX6_init_1 : decode cX6_init 1 = .ok (.invokespecial 3, 3) := by decide +kernel
theorem dX6_init_4 : decode cX6_init 4 = .ok (.aload_n 0, 1) := by decide +kernel
theorem dX6_init_5 : decode cX6_init 5 = .ok (.bipush 6, 2) := by decide +kernel
theorem dX6_init_7 : decode cX6_init 7 = .ok (.newarray .int, 2) := by decide +kernel
theorem dX6_init_9 : decode cX6_init 9 = .ok (.putfield 9, 3) := by decide +kernel
theorem dX6_init_12 : decode cX6_init 12 = .ok (.aload_n 0, 1) := by decide +kernel
theorem dX6_init_13 : decode cX6_init 13 = .ok (.bipush 6, 2) := by decide +kernel
theorem dX6_init_15 : decode cX6_init 15 = .ok (.newarray .int, 2) := by decide +kernel
theorem dX6_init_17 : decode cX6_init 17 = .ok (.putfield 15, 3) := by decide +kernel
theorem dX6_init_20 : decode cX6_init 20 = .ok (.aload_n 0, 1) := by decide +kernel
theorem dX6_init_21 : decode cX6_init 21 = .ok (.bipush 6, 2) := by decide +kernel
theorem dX6_init_23 : decode cX6_init 23 = .ok (.newarray .int, 2) := by decide +kernel
theorem dX6_init_25 : decode cX6_init 25 = .ok (.putfield 18, 3) := by decide +kernel
theorem dX6_init_28 : decode cX6_init 28 = .ok (.aload_n 0, 1) := by decide +kernel
theorem dX6_init_29 : decode cX6_init 29 = .ok (.iconst 0, 1) := by decide +kernel
theorem dX6_init_30 : decode cX6_init 30 = .ok (.putfield 21, 3) := by decide +kernel
theorem dX6_init_33 : decode cX6_init 33 = .ok (.return_, 1) := by decide +kernel
theorem dX6_add_0 : decode cX6_add 0 = .ok (.aload_n 0, 1) := by decide +kernel
theorem dX6_add_1 : decode cX6_add 1 = .ok (.getfield 21, 3) := by decide +kernel
theorem dX6_add_4 : decode cX6_add 4 = .ok (.ifCond .lt 12, 3) := by decide +kernel
theorem dX6_add_7 : decode cX6_add 7 = .ok (.aload_n 0, 1) := by decide +kernel
theorem dX6_add_8 : decode cX6_add 8 = .ok (.getfield 21, 3) := by decide +kernel
theorem dX6_add_11 : decode cX6_add 11 = .ok (.bipush 6, 2) := by decide +kernel
theorem dX6_add_13 : decode cX6_add 13 = .ok (.if_icmp .lt 5, 3) := by decide +kernel
theorem dX6_add_16 : decode cX6_add 16 = .ok (.iconst 0, 1) := by decide +kernel
theorem dX6_add_17 : decode cX6_add 17 = .ok (.ireturn, 1) := by decide +kernel
theorem dX6_add_18 : decode cX6_add 18 = .ok (.aload_n 0, 1) := by decide +kernel
theorem dX6_add_19 : decode cX6_add 19 = .ok (.getfield 9, 3) := by decide +kernel
theorem dX6_add_22 : decode cX6_add 22 = .ok (.aload_n 0, 1) := by decide +kernel
theorem dX6_add_23 : decode cX6_add 23 = .ok (.getfield 21, 3) := by decide +kernel
theorem dX6_add_26 : decode cX6_add 26 = .ok (.iload_n 1, 1) := by decide +kernel
theorem dX6_add_27 : decode cX6_add 27 = .ok (.iastore, 1) := by decide +kernel
theorem dX6_add_28 : decode cX6_add 28 = .ok (.aload_n 0, 1) := by decide +kernel
theorem dX6_add_29 : decode cX6_add 29 = .ok (.getfield 15, 3) := by decide +kernel
theorem dX6_add_32 : decode cX6_add 32 = .ok (.aload_n 0, 1) := by decide +kernel
theorem dX6_add_33 : decode cX6_add 33 = .ok (.getfield 21, 3) := by decide +kernel
theorem dX6_add_36 : decode cX6_add 36 = .ok (.iload_n 2, 1) := by decide +kernel
theorem dX6_add_37 : decode cX6_add 37 = .ok (.iastore, 1) := by decide +kernel
theorem dX6_add_38 : decode cX6_add 38 = .ok (.aload_n 0, 1) := by decide +kernel
theorem dX6_add_39 : decode cX6_add 39 = .ok (.getfield 18, 3) := by decide +kernel
theorem dX6_add_42 : decode cX6_add 42 = .ok (.aload_n 0, 1) := by decide +kernel
theorem dX6_add_43 : decode cX6_add 43 = .ok (.getfield 21, 3) := by decide +kernel
theorem dX6_add_46 : decode cX6_add 46 = .ok (.iload_n 3, 1) := by decide +kernel
theorem dX6_add_47 : decode cX6_add 47 = .ok (.iastore, 1) := by decide +kernel
theorem dX6_add_48 : decode cX6_add 48 = .ok (.aload_n 0, 1) := by decide +kernel
theorem dX6_add_49 : decode cX6_add 49 = .ok (.dup, 1) := by decide +kernel
theorem dX6_add_50 : decode cX6_add 50 = .ok (.getfield 21, 3) := by decide +kernel
theorem dX6_add_53 : decode cX6_add 53 = .ok (.iconst 1, 1) := by decide +kernel
theorem dX6_add_54 : decode cX6_add 54 = .ok (.iadd, 1) := by decide +kernel
theorem dX6_add_55 : decode cX6_add 55 = .ok (.putfield 21, 3) := by decide +kernel
theorem dX6_add_58 : decode cX6_add 58 = .ok (.iconst 1, 1) := by decide +kernel
theorem dX6_add_59 : decode cX6_add 59 = .ok (.ireturn, 1) := by decide +kernel
theorem dX6_countFires_0 : decode cX6_countFires 0 = .ok (.iconst 0, 1) := by decide +kernel
theorem dX6_countFires_1 : decode cX6_countFires 1 = .ok (.istore_n 1, 1) := by decide +kernel
theorem dX6_countFires_2 : decode cX6_countFires 2 = .ok (.iconst 0, 1) := by decide +kernel
theorem dX6_countFires_3 : decode cX6_countFires 3 = .ok (.istore_n 2, 1) := by decide +kernel
theorem dX6_countFires_4 : decode cX6_countFires 4 = .ok (.iload_n 2, 1) := by decide +kernel
theorem dX6_countFires_5 : decode cX6_countFires 5 = .ok (.bipush 100, 2) := by decide +kernel
theorem dX6_countFires_7 : decode cX6_countFires 7 = .ok (.if_icmp .ge 32, 3) := by decide +kernel
theorem dX6_countFires_10 : decode cX6_countFires 10 = .ok (.iload_n 1, 1) := by decide +kernel
theorem dX6_countFires_11 : decode cX6_countFires 11 = .ok (.aload_n 0, 1) := by decide +kernel
theorem dX6_countFires_12 : decode cX6_countFires 12 = .ok (.iload_n 2, 1) := by decide +kernel
theorem dX6_countFires_13 : decode cX6_countFires 13 = .ok (.bipush 10, 2) := by decide +kernel
theorem dX6_countFires_15 : decode cX6_countFires 15 = .ok (.idiv, 1) := by decide +kernel
theorem dX6_countFires_16 : decode cX6_countFires 16 = .ok (.iload_n 2, 1) := by decide +kernel
theorem dX6_countFires_17 : decode cX6_countFires 17 = .ok (.bipush 10, 2) := by decide +kernel
theorem dX6_countFires_19 : decode cX6_countFires 19 = .ok (.irem, 1) := by decide +kernel
theorem dX6_countFires_20 : decode cX6_countFires 20 = .ok (.invokevirtual 25, 3) := by decide +kernel
theorem dX6_countFires_23 : decode cX6_countFires 23 = .ok (.ifCond .eq 7, 3) := by decide +kernel
theorem dX6_countFires_26 : decode cX6_countFires 26 = .ok (.iconst 1, 1) := by decide +kernel
theorem dX6_countFires_27 : decode cX6_countFires 27 = .ok (.goto 4, 3) := by decide +kernel
theorem dX6_countFires_30 : decode cX6_countFires 30 = .ok (.iconst 0, 1) := by decide +kernel
theorem dX6_countFires_31 : decode cX6_countFires 31 = .ok (.iadd, 1) := by decide +kernel
theorem dX6_countFires_32 : decode cX6_countFires 32 = .ok (.istore_n 1, 1) := by decide +kernel
theorem dX6_countFires_33 : decode cX6_countFires 33 = .ok (.iinc 2 1, 3) := by decide +kernel
theorem dX6_countFires_36 : decode cX6_countFires 36 = .ok (.goto (-32), 3) := by decide +kernel
theorem dX6_countFires_39 : decode cX6_countFires 39 = .ok (.iload_n 1, 1) := by decide +kernel
theorem dX6_countFires_40 : decode cX6_countFires 40 = .ok (.ireturn, 1) := by decide +kernel
theorem dX6_firstFire_0 : decode cX6_firstFire 0 = .ok (.iconst 0, 1) := by decide +kernel
theorem dX6_firstFire_1 : decode cX6_firstFire 1 = .ok (.istore_n 1, 1) := by decide +kernel
theorem dX6_firstFire_2 : decode cX6_firstFire 2 = .ok (.iload_n 1, 1) := by decide +kernel
theorem dX6_firstFire_3 : decode cX6_firstFire 3 = .ok (.bipush 100, 2) := by decide +kernel
theorem dX6_firstFire_5 : decode cX6_firstFire 5 = .ok (.if_icmp .ge 26, 3) := by decide +kernel
theorem dX6_firstFire_8 : decode cX6_firstFire 8 = .ok (.aload_n 0, 1) := by decide +kernel
theorem dX6_firstFire_9 : decode cX6_firstFire 9 = .ok (.iload_n 1, 1) := by decide +kernel
theorem dX6_firstFire_10 : decode cX6_firstFire 10 = .ok (.bipush 10, 2) := by decide +kernel
theorem dX6_firstFire_12 : decode cX6_firstFire 12 = .ok (.idiv, 1) := by decide +kernel
theorem dX6_firstFire_13 : decode cX6_firstFire 13 = .ok (.iload_n 1, 1) := by decide +kernel
theorem dX6_firstFire_14 : decode cX6_firstFire 14 = .ok (.bipush 10, 2) := by decide +kernel
theorem dX6_firstFire_16 : decode cX6_firstFire 16 = .ok (.irem, 1) := by decide +kernel
theorem dX6_firstFire_17 : decode cX6_firstFire 17 = .ok (.invokevirtual 25, 3) := by decide +kernel
theorem dX6_firstFire_20 : decode cX6_firstFire 20 = .ok (.ifCond .eq 5, 3) := by decide +kernel
theorem dX6_firstFire_23 : decode cX6_firstFire 23 = .ok (.iload_n 1, 1) := by decide +kernel
theorem dX6_firstFire_24 : decode cX6_firstFire 24 = .ok (.ireturn, 1) := by decide +kernel
theorem dX6_firstFire_25 : decode cX6_firstFire 25 = .ok (.iinc 1 1, 3) := by decide +kernel
theorem dX6_firstFire_28 : decode cX6_firstFire 28 = .ok (.goto (-26), 3) := by decide +kernel
theorem dX6_firstFire_31 : decode cX6_firstFire 31 = .ok (.bipush (-9), 2) := by decide +kernel
theorem dX6_firstFire_33 : decode cX6_firstFire 33 = .ok (.ireturn, 1) := by decide +kernel
theorem dX6_fits_0 : decode cX6_fits 0 = .ok (.iconst 0, 1) := by decide +kernel
theorem dX6_fits_1 : decode cX6_fits 1 = .ok (.istore_n 3, 1) := by decide +kernel
theorem dX6_fits_2 : decode cX6_fits 2 = .ok (.iload_n 3, 1) := by decide +kernel
theorem dX6_fits_3 : decode cX6_fits 3 = .ok (.aload_n 0, 1) := by decide +kernel
theorem dX6_fits_4 : decode cX6_fits 4 = .ok (.getfield 21, 3) := by decide +kernel
theorem dX6_fits_7 : decode cX6_fits 7 = .ok (.if_icmp .ge 76, 3) := by decide +kernel
theorem dX6_fits_10 : decode cX6_fits 10 = .ok (.iload_n 3, 1) := by decide +kernel
theorem dX6_fits_11 : decode cX6_fits 11 = .ok (.bipush 6, 2) := by decide +kernel
theorem dX6_fits_13 : decode cX6_fits 13 = .ok (.if_icmp .ge 70, 3) := by decide +kernel
theorem dX6_fits_16 : decode cX6_fits 16 = .ok (.iload_n 1, 1) := by decide +kernel
theorem dX6_fits_17 : decode cX6_fits 17 = .ok (.ifCond .ne 7, 3) := by decide +kernel
theorem dX6_fits_20 : decode cX6_fits 20 = .ok (.iconst 0, 1) := by decide +kernel
theorem dX6_fits_21 : decode cX6_fits 21 = .ok (.goto 18, 3) := by decide +kernel
theorem dX6_fits_24 : decode cX6_fits 24 = .ok (.bipush 99, 2) := by decide +kernel
theorem dX6_fits_26 : decode cX6_fits 26 = .ok (.iload_n 1, 1) := by decide +kernel
theorem dX6_fits_27 : decode cX6_fits 27 = .ok (.iload_n 2, 1) := by decide +kernel
theorem dX6_fits_28 : decode cX6_fits 28 = .ok (.aload_n 0, 1) := by decide +kernel
theorem dX6_fits_29 : decode cX6_fits 29 = .ok (.getfield 9, 3) := by decide +kernel
theorem dX6_fits_32 : decode cX6_fits 32 = .ok (.iload_n 3, 1) := by decide +kernel
theorem dX6_fits_33 : decode cX6_fits 33 = .ok (.iaload, 1) := by decide +kernel
theorem dX6_fits_34 : decode cX6_fits 34 = .ok (.imul, 1) := by decide +kernel
theorem dX6_fits_35 : decode cX6_fits 35 = .ok (.iadd, 1) := by decide +kernel
theorem dX6_fits_36 : decode cX6_fits 36 = .ok (.invokestatic 29, 3) := by decide +kernel
theorem dX6_fits_39 : decode cX6_fits 39 = .ok (.istore 4, 2) := by decide +kernel
theorem dX6_fits_41 : decode cX6_fits 41 = .ok (.iload 4, 2) := by decide +kernel
theorem dX6_fits_43 : decode cX6_fits 43 = .ok (.aload_n 0, 1) := by decide +kernel
theorem dX6_fits_44 : decode cX6_fits 44 = .ok (.getfield 15, 3) := by decide +kernel
theorem dX6_fits_47 : decode cX6_fits 47 = .ok (.iload_n 3, 1) := by decide +kernel
theorem dX6_fits_48 : decode cX6_fits 48 = .ok (.iaload, 1) := by decide +kernel
theorem dX6_fits_49 : decode cX6_fits 49 = .ok (.if_icmp .lt 7, 3) := by decide +kernel
theorem dX6_fits_52 : decode cX6_fits 52 = .ok (.iconst 1, 1) := by decide +kernel
theorem dX6_fits_53 : decode cX6_fits 53 = .ok (.goto 4, 3) := by decide +kernel
theorem dX6_fits_56 : decode cX6_fits 56 = .ok (.iconst 0, 1) := by decide +kernel
theorem dX6_fits_57 : decode cX6_fits 57 = .ok (.aload_n 0, 1) := by decide +kernel
theorem dX6_fits_58 : decode cX6_fits 58 = .ok (.getfield 18, 3) := by decide +kernel
theorem dX6_fits_61 : decode cX6_fits 61 = .ok (.iload_n 3, 1) := by decide +kernel
theorem dX6_fits_62 : decode cX6_fits 62 = .ok (.iaload, 1) := by decide +kernel
theorem dX6_fits_63 : decode cX6_fits 63 = .ok (.iconst 1, 1) := by decide +kernel
theorem dX6_fits_64 : decode cX6_fits 64 = .ok (.if_icmp .ne 7, 3) := by decide +kernel
theorem dX6_fits_67 : decode cX6_fits 67 = .ok (.iconst 1, 1) := by decide +kernel
theorem dX6_fits_68 : decode cX6_fits 68 = .ok (.goto 4, 3) := by decide +kernel
theorem dX6_fits_71 : decode cX6_fits 71 = .ok (.iconst 0, 1) := by decide +kernel
theorem dX6_fits_72 : decode cX6_fits 72 = .ok (.if_icmp .eq 5, 3) := by decide +kernel
theorem dX6_fits_75 : decode cX6_fits 75 = .ok (.iconst 0, 1) := by decide +kernel
theorem dX6_fits_76 : decode cX6_fits 76 = .ok (.ireturn, 1) := by decide +kernel
theorem dX6_fits_77 : decode cX6_fits 77 = .ok (.iinc 3 1, 3) := by decide +kernel
theorem dX6_fits_80 : decode cX6_fits 80 = .ok (.goto (-78), 3) := by decide +kernel
theorem dX6_fits_83 : decode cX6_fits 83 = .ok (.iconst 1, 1) := by decide +kernel
theorem dX6_fits_84 : decode cX6_fits 84 = .ok (.ireturn, 1) := by decide +kernel
theorem dX7_init_0 : decode cX7_init 0 = .ok (.aload_n 0, 1) := by decide +kernel
theorem dX7_init_1 : decode cX7_init 1 = .ok (.invokespecial 3, 3) := by decide +kernel
theorem dX7_init_4 : decode cX7_init 4 = .ok (.aload_n 0, 1) := by decide +kernel
theorem dX7_init_5 : decode cX7_init 5 = .ok (.bipush 36, 2) := by decide +kernel
theorem dX7_init_7 : decode cX7_init 7 = .ok (.newarray .int, 2) := by decide +kernel
theorem dX7_init_9 : decode cX7_init 9 = .ok (.putfield 9, 3) := by decide +kernel
theorem dX7_init_12 : decode cX7_init 12 = .ok (.aload_n 0, 1) := by decide +kernel
theorem dX7_init_13 : decode cX7_init 13 = .ok (.iconst 0, 1) := by decide +kernel
theorem dX7_init_14 : decode cX7_init 14 = .ok (.putfield 15, 3) := by decide +kernel
theorem dX7_init_17 : decode cX7_init 17 = .ok (.return_, 1) := by decide +kernel
theorem dX7_append_0 : decode cX7_append 0 = .ok (.aload_n 0, 1) := by decide +kernel
theorem dX7_append_1 : decode cX7_append 1 = .ok (.getfield 15, 3) := by decide +kernel
theorem dX7_append_4 : decode cX7_append 4 = .ok (.ifCond .lt 15, 3) := by decide +kernel
theorem dX7_append_7 : decode cX7_append 7 = .ok (.aload_n 0, 1) := by decide +kernel
theorem dX7_append_8 : decode cX7_append 8 = .ok (.getfield 15, 3) := by decide +kernel
theorem dX7_append_11 : decode cX7_append 11 = .ok (.aload_n 0, 1) := by decide +kernel
theorem dX7_append_12 : decode cX7_append 12 = .ok (.getfield 9, 3) := by decide +kernel
theorem dX7_append_15 : decode cX7_append 15 = .ok (.arraylength, 1) := by decide +kernel
theorem dX7_append_16 : decode cX7_append 16 = .ok (.if_icmp .lt 5, 3) := by decide +kernel
theorem dX7_append_19 : decode cX7_append 19 = .ok (.iconst 0, 1) := by decide +kernel
theorem dX7_append_20 : decode cX7_append 20 = .ok (.ireturn, 1) := by decide +kernel
theorem dX7_append_21 : decode cX7_append 21 = .ok (.aload_n 0, 1) := by decide +kernel
theorem dX7_append_22 : decode cX7_append 22 = .ok (.getfield 9, 3) := by decide +kernel
theorem dX7_append_25 : decode cX7_append 25 = .ok (.aload_n 0, 1) := by decide +kernel
theorem dX7_append_26 : decode cX7_append 26 = .ok (.getfield 15, 3) := by decide +kernel
theorem dX7_append_29 : decode cX7_append 29 = .ok (.iload_n 1, 1) := by decide +kernel
theorem dX7_append_30 : decode cX7_append 30 = .ok (.iastore, 1) := by decide +kernel
theorem dX7_append_31 : decode cX7_append 31 = .ok (.aload_n 0, 1) := by decide +kernel
theorem dX7_append_32 : decode cX7_append 32 = .ok (.dup, 1) := by decide +kernel
theorem dX7_append_33 : decode cX7_append 33 = .ok (.getfield 15, 3) := by decide +kernel
theorem dX7_append_36 : decode cX7_append 36 = .ok (.iconst 1, 1) := by decide +kernel
theorem dX7_append_37 : decode cX7_append 37 = .ok (.iadd, 1) := by decide +kernel
theorem dX7_append_38 : decode cX7_append 38 = .ok (.putfield 15, 3) := by decide +kernel
theorem dX7_append_41 : decode cX7_append 41 = .ok (.iconst 1, 1) := by decide +kernel
theorem dX7_append_42 : decode cX7_append 42 = .ok (.ireturn, 1) := by decide +kernel
end
section
theorem dX8_init_0 : decode cX8_init 0 = .ok (.aload_n 0, 1) := by decide +kernel
theorem dX8_init_1 : decode cX8_init 1 = .ok (.invokespecial 1, 3) := by decide +kernel
theorem dX8_init_4 : decode cX8_init 4 = .ok (.aload_n 0, 1) := by decide +kernel
theorem dX8_init_5 : decode cX8_init 5 = .ok (.new 7, 3) := by decide +kernel
theorem dX8_init_8 : decode cX8_init 8 = .ok (.dup, 1) := by decide +kernel
theorem dX8_init_9 : decode cX8_init 9 = .ok (.invokespecial 9, 3) := by decide +kernel
theorem dX8_init_12 : decode cX8_init 12 = .ok (.putfield 10, 3) := by decide +kernel
theorem dX8_init_15 : decode cX8_init 15 = .ok (.aload_n 0, 1) := by decide +kernel
theorem dX8_init_16 : decode cX8_init 16 = .ok (.new 16, 3) := by decide +kernel
theorem dX8_init_19 : decode cX8_init 19 = .ok (.dup, 1) := by decide +kernel
theorem dX8_init_20 : decode cX8_init 20 = .ok (.invokespecial 18, 3) := by decide +kernel
theorem dX8_init_23 : decode cX8_init 23 = .ok (.putfield 19, 3) := by decide +kernel
theorem dX8_init_26 : decode cX8_init 26 = .ok (.aload_n 0, 1) := by decide +kernel
theorem dX8_init_27 : decode cX8_init 27 = .ok (.new 16, 3) := by decide +kernel
theorem dX8_init_30 : decode cX8_init 30 = .ok (.dup, 1) := by decide +kernel
theorem dX8_init_31 : decode cX8_init 31 = .ok (.invokespecial 18, 3) := by decide +kernel
theorem dX8_init_34 : decode cX8_init 34 = .ok (.putfield 23, 3) := by decide +kernel
theorem dX8_init_37 : decode cX8_init 37 = .ok (.aload_n 0, 1) := by decide +kernel
theorem dX8_init_38 : decode cX8_init 38 = .ok (.new 26, 3) := by decide +kernel
theorem dX8_init_41 : decode cX8_init 41 = .ok (.dup, 1) := by decide +kernel
theorem dX8_init_42 : decode cX8_init 42 = .ok (.aload_n 0, 1) := by decide +kernel
theorem dX8_init_43 : decode cX8_init 43 = .ok (.getfield 23, 3) := by decide +kernel
theorem dX8_init_46 : decode cX8_init 46 = .ok (.invokespecial 28, 3) := by decide +kernel
theorem dX8_init_49 : decode cX8_init 49 = .ok (.putfield 31, 3) := by decide +kernel
theorem dX8_init_52 : decode cX8_init 52 = .ok (.new 26, 3) := by decide +kernel
theorem dX8_init_55 : decode cX8_init 55 = .ok (.dup, 1) := by decide +kernel
theorem dX8_init_56 : decode cX8_init 56 = .ok (.aload_n 0, 1) := by decide +kernel
theorem dX8_init_57 : decode cX8_init 57 = .ok (.getfield 23, 3) := by decide +kernel
theorem dX8_init_60 : decode cX8_init 60 = .ok (.invokespecial 28, 3) := by decide +kernel
theorem dX8_init_63 : decode cX8_init 63 = .ok (.astore_n 1, 1) := by decide +kernel
theorem dX8_init_64 : decode cX8_init 64 = .ok (.aload_n 0, 1) := by decide +kernel
theorem dX8_init_65 : decode cX8_init 65 = .ok (.new 35, 3) := by decide +kernel
theorem dX8_init_68 : decode cX8_init 68 = .ok (.dup, 1) := by decide +kernel
theorem dX8_init_69 : decode cX8_init 69 = .ok (.invokespecial 37, 3) := by decide +kernel
theorem dX8_init_72 : decode cX8_init 72 = .ok (.putfield 38, 3) := by decide +kernel
theorem dX8_init_75 : decode cX8_init 75 = .ok (.aload_n 0, 1) := by decide +kernel
theorem dX8_init_76 : decode cX8_init 76 = .ok (.new 42, 3) := by decide +kernel
theorem dX8_init_79 : decode cX8_init 79 = .ok (.dup, 1) := by decide +kernel
theorem dX8_init_80 : decode cX8_init 80 = .ok (.iconst 2, 1) := by decide +kernel
theorem dX8_init_81 : decode cX8_init 81 = .ok (.invokespecial 44, 3) := by decide +kernel
theorem dX8_init_84 : decode cX8_init 84 = .ok (.putfield 47, 3) := by decide +kernel
theorem dX8_init_87 : decode cX8_init 87 = .ok (.aload_n 0, 1) := by decide +kernel
theorem dX8_init_88 : decode cX8_init 88 = .ok (.iconst 0, 1) := by decide +kernel
theorem dX8_init_89 : decode cX8_init 89 = .ok (.putfield 51, 3) := by decide +kernel
theorem dX8_init_92 : decode cX8_init 92 = .ok (.aload_n 0, 1) := by decide +kernel
theorem dX8_init_93 : decode cX8_init 93 = .ok (.new 55, 3) := by decide +kernel
theorem dX8_init_96 : decode cX8_init 96 = .ok (.dup, 1) := by decide +kernel
theorem dX8_init_97 : decode cX8_init 97 = .ok (.invokespecial 57, 3) := by decide +kernel
theorem dX8_init_100 : decode cX8_init 100 = .ok (.putfield 58, 3) := by decide +kernel
theorem dX8_init_103 : decode cX8_init 103 = .ok (.aload_n 0, 1) := by decide +kernel
theorem dX8_init_104 : decode cX8_init 104 = .ok (.new 62, 3) := by decide +kernel
theorem dX8_init_107 : decode cX8_init 107 = .ok (.dup, 1) := by decide +kernel
theorem dX8_init_108 : decode cX8_init 108 = .ok (.aload_n 0, 1) := by decide +kernel
theorem dX8_init_109 : decode cX8_init 109 = .ok (.getfield 23, 3) := by decide +kernel
theorem dX8_init_112 : decode cX8_init 112 = .ok (.aload_n 0, 1) := by decide +kernel
theorem dX8_init_113 : decode cX8_init 113 = .ok (.getfield 31, 3) := by decide +kernel
theorem dX8_init_116 : decode cX8_init 116 = .ok (.aload_n 1, 1) := by decide +kernel
theorem dX8_init_117 : decode cX8_init 117 = .ok (.invokespecial 64, 3) := by decide +kernel
theorem dX8_init_120 : decode cX8_init 120 = .ok (.putfield 67, 3) := by decide +kernel
theorem dX8_init_123 : decode cX8_init 123 = .ok (.aload_n 0, 1) := by decide +kernel
theorem dX8_init_124 : decode cX8_init 124 = .ok (.new 71, 3) := by decide +kernel
theorem dX8_init_127 : decode cX8_init 127 = .ok (.dup, 1) := by decide +kernel
theorem dX8_init_128 : decode cX8_init 128 = .ok (.aload_n 0, 1) := by decide +kernel
theorem dX8_init_129 : decode cX8_init 129 = .ok (.getfield 23, 3) := by decide +kernel
theorem dX8_init_132 : decode cX8_init 132 = .ok (.aload_n 0, 1) := by decide +kernel
theorem dX8_init_133 : decode cX8_init 133 = .ok (.getfield 31, 3) := by decide +kernel
theorem dX8_init_136 : decode cX8_init 136 = .ok (.aload_n 1, 1) := by decide +kernel
theorem dX8_init_137 : decode cX8_init 137 = .ok (.invokespecial 73, 3) := by decide +kernel
theorem dX8_init_140 : decode cX8_init 140 = .ok (.putfield 74, 3) := by decide +kernel
theorem dX8_init_143 : decode cX8_init 143 = .ok (.aload_n 0, 1) := by decide +kernel
theorem dX8_init_144 : decode cX8_init 144 = .ok (.lconst 0, 1) := by decide +kernel
theorem dX8_init_145 : decode cX8_init 145 = .ok (.putfield 78, 3) := by decide +kernel
theorem dX8_init_148 : decode cX8_init 148 = .ok (.return_, 1) := by decide +kernel
theorem dX8_write_0 : decode cX8_write 0 = .ok (.iload_n 1, 1) := by decide +kernel
theorem dX8_write_1 : decode cX8_write 1 = .ok (.ifCond .lt 10, 3) := by decide +kernel
theorem dX8_write_4 : decode cX8_write 4 = .ok (.iload_n 1, 1) := by decide +kernel
theorem dX8_write_5 : decode cX8_write 5 = .ok (.sipush 255, 3) := by decide +kernel
theorem dX8_write_8 : decode cX8_write 8 = .ok (.if_icmp .le 6, 3) := by decide +kernel
theorem dX8_write_11 : decode cX8_write 11 = .ok (.bipush (-2), 2) := by decide +kernel
theorem dX8_write_13 : decode cX8_write 13 = .ok (.ireturn, 1) := by decide +kernel
theorem dX8_write_14 : decode cX8_write 14 = .ok (.aload_n 0, 1) := by decide +kernel
theorem dX8_write_15 : decode cX8_write 15 = .ok (.getfield 10, 3) := by decide +kernel
theorem dX8_write_18 : decode cX8_write 18 = .ok (.iload_n 1, 1) := by decide +kernel
theorem dX8_write_19 : decode cX8_write 19 = .ok (.invokevirtual 82, 3) := by decide +kernel
theorem dX8_write_22 : decode cX8_write 22 = .ok (.ifCond .eq 13, 3) := by decide +kernel
theorem dX8_write_25 : decode cX8_write 25 = .ok (.aload_n 0, 1) := by decide +kernel
theorem dX8_write_26 : decode cX8_write 26 = .ok (.getfield 10, 3) := by decide +kernel
theorem dX8_write_29 : decode cX8_write 29 = .ok (.getfield 86, 3) := by decide +kernel
theorem dX8_write_32 : decode cX8_write 32 = .ok (.goto 5, 3) := by decide +kernel
theorem dX8_write_35 : decode cX8_write 35 = .ok (.bipush (-4), 2) := by decide +kernel
theorem dX8_write_37 : decode cX8_write 37 = .ok (.ireturn, 1) := by decide +kernel
theorem dX8_wipe_0 : decode cX8_wipe 0 = .ok (.aload_n 0, 1) := by decide +kernel
theorem dX8_wipe_1 : decode cX8_wipe 1 = .ok (.getfield 10, 3) := by decide +kernel
theorem dX8_wipe_4 : decode cX8_wipe 4 = .ok (.getfield 86, 3) := by decide +kernel
theorem dX8_wipe_7 : decode cX8_wipe 7 = .ok (.istore_n 1, 1) := by decide +kernel
theorem dX8_wipe_8 : decode cX8_wipe 8 = .ok (.aload_n 0, 1) := by decide +kernel
theorem dX8_wipe_9 : decode cX8_wipe 9 = .ok (.getfield 10, 3) := by decide +kernel
theorem dX8_wipe_12 : decode cX8_wipe 12 = .ok (.iconst 0, 1) := by decide +kernel
theorem dX8_wipe_13 : decode cX8_wipe 13 = .ok (.putfield 86, 3) := by decide +kernel
theorem dX8_wipe_16 : decode cX8_wipe 16 = .ok (.iload_n 1, 1) := by decide +kernel
theorem dX8_wipe_17 : decode cX8_wipe 17 = .ok (.ireturn, 1) := by decide +kernel
theorem dX8_fault_0 : decode cX8_fault 0 = .ok (.aload_n 0, 1) := by decide +kernel
theorem dX8_fault_1 : decode cX8_fault 1 = .ok (.getfield 19, 3) := by decide +kernel
theorem dX8_fault_4 : decode cX8_fault 4 = .ok (.aload_n 0, 1) := by decide +kernel
theorem dX8_fault_5 : decode cX8_fault 5 = .ok (.getfield 10, 3) := by decide +kernel
theorem dX8_fault_8 : decode cX8_fault 8 = .ok (.invokevirtual 89, 3) := by decide +kernel
theorem dX8_fault_11 : decode cX8_fault 11 = .ok (.ireturn, 1) := by decide +kernel
theorem dX8_night_0 : decode cX8_night 0 = .ok (.aload_n 0, 1) := by decide +kernel
theorem dX8_night_1 : decode cX8_night 1 = .ok (.getfield 19, 3) := by decide +kernel
theorem dX8_night_4 : decode cX8_night 4 = .ok (.aload_n 0, 1) := by decide +kernel
theorem dX8_night_5 : decode cX8_night 5 = .ok (.getfield 10, 3) := by decide +kernel
theorem dX8_night_8 : decode cX8_night 8 = .ok (.invokevirtual 89, 3) := by decide +kernel
theorem dX8_night_11 : decode cX8_night 11 = .ok (.bipush (-9), 2) := by decide +kernel
theorem dX8_night_13 : decode cX8_night 13 = .ok (.if_icmp .eq 6, 3) := by decide +kernel
theorem dX8_night_16 : decode cX8_night 16 = .ok (.bipush (-3), 2) := by decide +kernel
theorem dX8_night_18 : decode cX8_night 18 = .ok (.ireturn, 1) := by decide +kernel
theorem dX8_night_19 : decode cX8_night 19 = .ok (.aload_n 0, 1) := by decide +kernel
theorem dX8_night_20 : decode cX8_night 20 = .ok (.getfield 23, 3) := by decide +kernel
theorem dX8_night_23 : decode cX8_night 23 = .ok (.aload_n 0, 1) := by decide +kernel
theorem dX8_night_24 : decode cX8_night 24 = .ok (.getfield 10, 3) := by decide +kernel
theorem dX8_night_27 : decode cX8_night 27 = .ok (.invokevirtual 89, 3) := by decide +kernel
theorem dX8_night_30 : decode cX8_night 30 = .ok (.pop, 1) := by decide +kernel
theorem dX8_night_31 : decode cX8_night 31 = .ok (.aload_n 0, 1) := by decide +kernel
theorem dX8_night_32 : decode cX8_night 32 = .ok (.getfield 31, 3) := by decide +kernel
theorem dX8_night_35 : decode cX8_night 35 = .ok (.invokevirtual 93, 3) := by decide +kernel
theorem dX8_night_38 : decode cX8_night 38 = .ok (.aload_n 0, 1) := by decide +kernel
theorem dX8_night_39 : decode cX8_night 39 = .ok (.getfield 38, 3) := by decide +kernel
theorem dX8_night_42 : decode cX8_night 42 = .ok (.invokevirtual 96, 3) := by decide +kernel
theorem dX8_night_45 : decode cX8_night 45 = .ok (.aload_n 0, 1) := by decide +kernel
theorem dX8_night_46 : decode cX8_night 46 = .ok (.iconst 0, 1) := by decide +kernel
theorem dX8_night_47 : decode cX8_night 47 = .ok (.putfield 51, 3) := by decide +kernel
theorem dX8_night_50 : decode cX8_night 50 = .ok (.bipush 10, 2) := by decide +kernel
theorem dX8_night_52 : decode cX8_night 52 = .ok (.aload_n 0, 1) := by decide +kernel
theorem dX8_night_53 : decode cX8_night 53 = .ok (.getfield 23, 3) := by decide +kernel
theorem dX8_night_56 : decode cX8_night 56 = .ok (.getfield 99, 3) := by decide +kernel
theorem dX8_night_59 : decode cX8_night 59 = .ok (.imul, 1) := by decide +kernel
theorem dX8_night_60 : decode cX8_night 60 = .ok (.aload_n 0, 1) := by decide +kernel
theorem dX8_night_61 : decode cX8_night 61 = .ok (.getfield 23, 3) := by decide +kernel
theorem dX8_night_64 : decode cX8_night 64 = .ok (.getfield 102, 3) := by decide +kernel
theorem dX8_night_67 : decode cX8_night 67 = .ok (.iadd, 1) := by decide +kernel
theorem dX8_night_68 : decode cX8_night 68 = .ok (.ireturn, 1) := by decide +kernel
theorem dX8_about_0 : decode cX8_about 0 = .ok (.iload_n 1, 1) := by decide +kernel
theorem dX8_about_1 : decode cX8_about 1 = .ok (.tableswitch 187 0 13 #[71, 79, 87, 95, 103, 111, 119, 127, 135, 145, 155, 163, 171, 179], 71) := by decide +kernel
theorem dX8_about_72 : decode cX8_about 72 = .ok (.aload_n 0, 1) := by decide +kernel
theorem dX8_about_73 : decode cX8_about 73 = .ok (.getfield 23, 3) := by decide +kernel
theorem dX8_about_76 : decode cX8_about 76 = .ok (.getfield 99, 3) := by decide +kernel
theorem dX8_about_79 : decode cX8_about 79 = .ok (.ireturn, 1) := by decide +kernel
theorem dX8_about_80 : decode cX8_about 80 = .ok (.aload_n 0, 1) := by decide +kernel
theorem dX8_about_81 : decode cX8_about 81 = .ok (.getfield 23, 3) := by decide +kernel
theorem dX8_about_84 : decode cX8_about 84 = .ok (.getfield 102, 3) := by decide +kernel
theorem dX8_about_87 : decode cX8_about 87 = .ok (.ireturn, 1) := by decide +kernel
theorem dX8_about_88 : decode cX8_about 88 = .ok (.aload_n 0, 1) := by decide +kernel
theorem dX8_about_89 : decode cX8_about 89 = .ok (.getfield 31, 3) := by decide +kernel
theorem dX8_about_92 : decode cX8_about 92 = .ok (.getfield 105, 3) := by decide +kernel
theorem dX8_about_95 : decode cX8_about 95 = .ok (.ireturn, 1) := by decide +kernel
theorem dX8_about_96 : decode cX8_about 96 = .ok (.aload_n 0, 1) := by decide +kernel
theorem dX8_about_97 : decode cX8_about 97 = .ok (.getfield 23, 3) := by decide +kernel
theorem dX8_about_100 : decode cX8_about 100 = .ok (.getfield 108, 3) := by decide +kernel
theorem dX8_about_103 : decode cX8_about 103 = .ok (.ireturn, 1) := by decide +kernel
theorem dX8_about_104 : decode cX8_about 104 = .ok (.aload_n 0, 1) := by decide +kernel
theorem dX8_about_105 : decode cX8_about 105 = .ok (.getfield 23, 3) := by decide +kernel
theorem dX8_about_108 : decode cX8_about 108 = .ok (.getfield 111, 3) := by decide +kernel
theorem dX8_about_111 : decode cX8_about 111 = .ok (.ireturn, 1) := by decide +kernel
theorem dX8_about_112 : decode cX8_about 112 = .ok (.aload_n 0, 1) := by decide +kernel
theorem dX8_about_113 : decode cX8_about 113 = .ok (.getfield 31, 3) := by decide +kernel
theorem dX8_about_116 : decode cX8_about 116 = .ok (.getfield 114, 3) := by decide +kernel
theorem dX8_about_119 : decode cX8_about 119 = .ok (.ireturn, 1) := by decide +kernel
theorem dX8_about_120 : decode cX8_about 120 = .ok (.aload_n 0, 1) := by decide +kernel
theorem dX8_about_121 : decode cX8_about 121 = .ok (.getfield 31, 3) := by decide +kernel
theorem dX8_about_124 : decode cX8_about 124 = .ok (.getfield 117, 3) := by decide +kernel
theorem dX8_about_127 : decode cX8_about 127 = .ok (.ireturn, 1) := by decide +kernel
theorem dX8_about_128 : decode cX8_about 128 = .ok (.aload_n 0, 1) := by decide +kernel
theorem dX8_about_129 : decode cX8_about 129 = .ok (.getfield 31, 3) := by decide +kernel
theorem dX8_about_132 : decode cX8_about 132 = .ok (.invokevirtual 120, 3) := by decide +kernel
theorem dX8_about_135 : decode cX8_about 135 = .ok (.ireturn, 1) := by decide +kernel
theorem dX8_about_136 : decode cX8_about 136 = .ok (.aload_n 0, 1) := by decide +kernel
theorem dX8_about_137 : decode cX8_about 137 = .ok (.getfield 31, 3) := by decide +kernel
theorem dX8_about_140 : decode cX8_about 140 = .ok (.bipush 8, 2) := by decide +kernel
theorem dX8_about_142 : decode cX8_about 142 = .ok (.invokevirtual 124, 3) := by decide +kernel
theorem dX8_about_145 : decode cX8_about 145 = .ok (.ireturn, 1) := by decide +kernel
theorem dX8_about_146 : decode cX8_about 146 = .ok (.aload_n 0, 1) := by decide +kernel
theorem dX8_about_147 : decode cX8_about 147 = .ok (.getfield 31, 3) := by decide +kernel
theorem dX8_about_150 : decode cX8_about 150 = .ok (.bipush 9, 2) := by decide +kernel
theorem dX8_about_152 : decode cX8_about 152 = .ok (.invokevirtual 124, 3) := by decide +kernel
theorem dX8_about_155 : decode cX8_about 155 = .ok (.ireturn, 1) := by decide +kernel
theorem dX8_about_156 : decode cX8_about 156 = .ok (.aload_n 0, 1) := by decide +kernel
theorem dX8_about_157 : decode cX8_about 157 = .ok (.getfield 31, 3) := by decide +kernel
theorem dX8_about_160 : decode cX8_about 160 = .ok (.getfield 128, 3) := by decide +kernel
theorem dX8_about_163 : decode cX8_about 163 = .ok (.ireturn, 1) := by decide +kernel
theorem dX8_about_164 : decode cX8_about 164 = .ok (.aload_n 0, 1) := by decide +kernel
theorem dX8_about_165 : decode cX8_about 165 = .ok (.getfield 38, 3) := by decide +kernel
theorem dX8_about_168 : decode cX8_about 168 = .ok (.getfield 131, 3) := by decide +kernel
theorem dX8_about_171 : decode cX8_about 171 = .ok (.ireturn, 1) := by decide +kernel
theorem dX8_about_172 : decode cX8_about 172 = .ok (.aload_n 0, 1) := by decide +kernel
theorem dX8_about_173 : decode cX8_about 173 = .ok (.getfield 58, 3) := by decide +kernel
theorem dX8_about_176 : decode cX8_about 176 = .ok (.getfield 134, 3) := by decide +kernel
theorem dX8_about_179 : decode cX8_about 179 = .ok (.ireturn, 1) := by decide +kernel
theorem dX8_about_180 : decode cX8_about 180 = .ok (.aload_n 0, 1) := by decide +kernel
theorem dX8_about_181 : decode cX8_about 181 = .ok (.getfield 10, 3) := by decide +kernel
theorem dX8_about_184 : decode cX8_about 184 = .ok (.getfield 86, 3) := by decide +kernel
theorem dX8_about_187 : decode cX8_about 187 = .ok (.ireturn, 1) := by decide +kernel
theorem dX8_about_188 : decode cX8_about 188 = .ok (.bipush (-2), 2) := by decide +kernel
theorem dX8_about_190 : decode cX8_about 190 = .ok (.ireturn, 1) := by decide +kernel
theorem dX8_person_0 : decode cX8_person 0 = .ok (.aload_n 0, 1) := by decide +kernel
theorem dX8_person_1 : decode cX8_person 1 = .ok (.getfield 23, 3) := by decide +kernel
theorem dX8_person_4 : decode cX8_person 4 = .ok (.iload_n 1, 1) := by decide +kernel
theorem dX8_person_5 : decode cX8_person 5 = .ok (.invokevirtual 135, 3) := by decide +kernel
theorem dX8_person_8 : decode cX8_person 8 = .ok (.ifCond .ne 5, 3) := by decide +kernel
theorem dX8_person_11 : decode cX8_person 11 = .ok (.iconst (-1), 1) := by decide +kernel
theorem dX8_person_12 : decode cX8_person 12 = .ok (.ireturn, 1) := by decide +kernel
theorem dX8_person_13 : decode cX8_person 13 = .ok (.iload_n 2, 1) := by decide +kernel
theorem dX8_person_14 : decode cX8_person 14 = .ok (.lookupswitch 45 #[(0, 26), (1, 36)], 26) := by decide +kernel
theorem dX8_person_40 : decode cX8_person 40 = .ok (.aload_n 0, 1) := by decide +kernel
theorem dX8_person_41 : decode cX8_person 41 = .ok (.getfield 23, 3) := by decide +kernel
theorem dX8_person_44 : decode cX8_person 44 = .ok (.getfield 138, 3) := by decide +kernel
theorem dX8_person_47 : decode cX8_person 47 = .ok (.iload_n 1, 1) := by decide +kernel
theorem dX8_person_48 : decode cX8_person 48 = .ok (.iaload, 1) := by decide +kernel
theorem dX8_person_49 : decode cX8_person 49 = .ok (.ireturn, 1) := by decide +kernel
theorem dX8_person_50 : decode cX8_person 50 = .ok (.aload_n 0, 1) := by decide +kernel
theorem dX8_person_51 : decode cX8_person 51 = .ok (.getfield 31, 3) := by decide +kernel
theorem dX8_person_54 : decode cX8_person 54 = .ok (.iload_n 1, 1) := by decide +kernel
theorem dX8_person_55 : decode cX8_person 55 = .ok (.invokevirtual 142, 3) := by decide +kernel
theorem dX8_person_58 : decode cX8_person 58 = .ok (.ireturn, 1) := by decide +kernel
theorem dX8_person_59 : decode cX8_person 59 = .ok (.bipush (-2), 2) := by decide +kernel
theorem dX8_person_61 : decode cX8_person 61 = .ok (.ireturn, 1) := by decide +kernel
theorem dX8_stand_0 : decode cX8_stand 0 = .ok (.aload_n 0, 1) := by decide +kernel
theorem dX8_stand_1 : decode cX8_stand 1 = .ok (.getfield 23, 3) := by decide +kernel
theorem dX8_stand_4 : decode cX8_stand 4 = .ok (.iload_n 1, 1) := by decide +kernel
theorem dX8_stand_5 : decode cX8_stand 5 = .ok (.invokevirtual 135, 3) := by decide +kernel
theorem dX8_stand_8 : decode cX8_stand 8 = .ok (.ifCond .ne 5, 3) := by decide +kernel
theorem dX8_stand_11 : decode cX8_stand 11 = .ok (.iconst (-1), 1) := by decide +kernel
theorem dX8_stand_12 : decode cX8_stand 12 = .ok (.ireturn, 1) := by decide +kernel
theorem dX8_stand_13 : decode cX8_stand 13 = .ok (.iload_n 2, 1) := by decide +kernel
theorem dX8_stand_14 : decode cX8_stand 14 = .ok (.lookupswitch 45 #[(0, 26), (1, 36)], 26) := by decide +kernel
theorem dX8_stand_40 : decode cX8_stand 40 = .ok (.aload_n 0, 1) := by decide +kernel
theorem dX8_stand_41 : decode cX8_stand 41 = .ok (.getfield 31, 3) := by decide +kernel
theorem dX8_stand_44 : decode cX8_stand 44 = .ok (.getfield 145, 3) := by decide +kernel
theorem dX8_stand_47 : decode cX8_stand 47 = .ok (.iload_n 1, 1) := by decide +kernel
theorem dX8_stand_48 : decode cX8_stand 48 = .ok (.iaload, 1) := by decide +kernel
theorem dX8_stand_49 : decode cX8_stand 49 = .ok (.ireturn, 1) := by decide +kernel
theorem dX8_stand_50 : decode cX8_stand 50 = .ok (.aload_n 0, 1) := by decide +kernel
theorem dX8_stand_51 : decode cX8_stand 51 = .ok (.getfield 31, 3) := by decide +kernel
theorem dX8_stand_54 : decode cX8_stand 54 = .ok (.iload_n 1, 1) := by decide +kernel
theorem dX8_stand_55 : decode cX8_stand 55 = .ok (.invokevirtual 148, 3) := by decide +kernel
theorem dX8_stand_58 : decode cX8_stand 58 = .ok (.ireturn, 1) := by decide +kernel
theorem dX8_stand_59 : decode cX8_stand 59 = .ok (.bipush (-2), 2) := by decide +kernel
theorem dX8_stand_61 : decode cX8_stand 61 = .ok (.ireturn, 1) := by decide +kernel
theorem dX8_bucket_0 : decode cX8_bucket 0 = .ok (.aload_n 0, 1) := by decide +kernel
theorem dX8_bucket_1 : decode cX8_bucket 1 = .ok (.getfield 23, 3) := by decide +kernel
theorem dX8_bucket_4 : decode cX8_bucket 4 = .ok (.iload_n 1, 1) := by decide +kernel
theorem dX8_bucket_5 : decode cX8_bucket 5 = .ok (.invokevirtual 151, 3) := by decide +kernel
theorem dX8_bucket_8 : decode cX8_bucket 8 = .ok (.ifCond .ne 5, 3) := by decide +kernel
theorem dX8_bucket_11 : decode cX8_bucket 11 = .ok (.iconst (-1), 1) := by decide +kernel
theorem dX8_bucket_12 : decode cX8_bucket 12 = .ok (.ireturn, 1) := by decide +kernel
theorem dX8_bucket_13 : decode cX8_bucket 13 = .ok (.iload_n 2, 1) := by decide +kernel
theorem dX8_bucket_14 : decode cX8_bucket 14 = .ok (.tableswitch 91 0 4 #[34, 44, 61, 71, 81], 34) := by decide +kernel
theorem dX8_bucket_48 : decode cX8_bucket 48 = .ok (.aload_n 0, 1) := by decide +kernel
theorem dX8_bucket_49 : decode cX8_bucket 49 = .ok (.getfield 23, 3) := by decide +kernel
theorem dX8_bucket_52 : decode cX8_bucket 52 = .ok (.getfield 154, 3) := by decide +kernel
theorem dX8_bucket_55 : decode cX8_bucket 55 = .ok (.iload_n 1, 1) := by decide +kernel
theorem dX8_bucket_56 : decode cX8_bucket 56 = .ok (.iaload, 1) := by decide +kernel
theorem dX8_bucket_57 : decode cX8_bucket 57 = .ok (.ireturn, 1) := by decide +kernel
theorem dX8_bucket_58 : decode cX8_bucket 58 = .ok (.aload_n 0, 1) := by decide +kernel
theorem dX8_bucket_59 : decode cX8_bucket 59 = .ok (.getfield 31, 3) := by decide +kernel
theorem dX8_bucket_62 : decode cX8_bucket 62 = .ok (.iload_n 1, 1) := by decide +kernel
theorem dX8_bucket_63 : decode cX8_bucket 63 = .ok (.invokevirtual 157, 3) := by decide +kernel
theorem dX8_bucket_66 : decode cX8_bucket 66 = .ok (.ifCond .eq 7, 3) := by decide +kernel
theorem dX8_bucket_69 : decode cX8_bucket 69 = .ok (.iconst 1, 1) := by decide +kernel
theorem dX8_bucket_70 : decode cX8_bucket 70 = .ok (.goto 4, 3) := by decide +kernel
theorem dX8_bucket_73 : decode cX8_bucket 73 = .ok (.iconst 0, 1) := by decide +kernel
theorem dX8_bucket_74 : decode cX8_bucket 74 = .ok (.ireturn, 1) := by decide +kernel
theorem dX8_bucket_75 : decode cX8_bucket 75 = .ok (.aload_n 0, 1) := by decide +kernel
theorem dX8_bucket_76 : decode cX8_bucket 76 = .ok (.getfield 31, 3) := by decide +kernel
theorem dX8_bucket_79 : decode cX8_bucket 79 = .ok (.getfield 160, 3) := by decide +kernel
theorem dX8_bucket_82 : decode cX8_bucket 82 = .ok (.iload_n 1, 1) := by decide +kernel
theorem dX8_bucket_83 : decode cX8_bucket 83 = .ok (.iaload, 1) := by decide +kernel
theorem dX8_bucket_84 : decode cX8_bucket 84 = .ok (.ireturn, 1) := by decide +kernel
theorem dX8_bucket_85 : decode cX8_bucket 85 = .ok (.aload_n 0, 1) := by decide +kernel
theorem dX8_bucket_86 : decode cX8_bucket 86 = .ok (.getfield 31, 3) := by decide +kernel
theorem dX8_bucket_89 : decode cX8_bucket 89 = .ok (.getfield 163, 3) := by decide +kernel
theorem dX8_bucket_92 : decode cX8_bucket 92 = .ok (.iload_n 1, 1) := by decide +kernel
theorem dX8_bucket_93 : decode cX8_bucket 93 = .ok (.iaload, 1) := by decide +kernel
theorem dX8_bucket_94 : decode cX8_bucket 94 = .ok (.ireturn, 1) := by decide +kernel
theorem dX8_bucket_95 : decode cX8_bucket 95 = .ok (.aload_n 0, 1) := by decide +kernel
theorem dX8_bucket_96 : decode cX8_bucket 96 = .ok (.getfield 31, 3) := by decide +kernel
theorem dX8_bucket_99 : decode cX8_bucket 99 = .ok (.getfield 166, 3) := by decide +kernel
theorem dX8_bucket_102 : decode cX8_bucket 102 = .ok (.iload_n 1, 1) := by decide +kernel
theorem dX8_bucket_103 : decode cX8_bucket 103 = .ok (.iaload, 1) := by decide +kernel
theorem dX8_bucket_104 : decode cX8_bucket 104 = .ok (.ireturn, 1) := by decide +kernel
theorem dX8_bucket_105 : decode cX8_bucket 105 = .ok (.bipush (-2), 2) := by decide +kernel
theorem dX8_bucket_107 : decode cX8_bucket 107 = .ok (.ireturn, 1) := by decide +kernel
theorem dX8_beat_0 : decode cX8_beat 0 = .ok (.aload_n 0, 1) := by decide +kernel
theorem dX8_beat_1 : decode cX8_beat 1 = .ok (.getfield 38, 3) := by decide +kernel
theorem dX8_beat_4 : decode cX8_beat 4 = .ok (.aload_n 0, 1) := by decide +kernel
theorem dX8_beat_5 : decode cX8_beat 5 = .ok (.getfield 31, 3) := by decide +kernel
theorem dX8_beat_8 : decode cX8_beat 8 = .ok (.invokevirtual 169, 3) := by decide +kernel
theorem dX8_beat_11 : decode cX8_beat 11 = .ok (.aload_n 0, 1) := by decide +kernel
theorem dX8_beat_12 : decode cX8_beat 12 = .ok (.getfield 31, 3) := by decide +kernel
theorem dX8_beat_15 : decode cX8_beat 15 = .ok (.invokevirtual 173, 3) := by decide +kernel
theorem dX8_beat_18 : decode cX8_beat 18 = .ok (.ireturn, 1) := by decide +kernel
theorem dX8_change_0 : decode cX8_change 0 = .ok (.aload_n 0, 1) := by decide +kernel
theorem dX8_change_1 : decode cX8_change 1 = .ok (.getfield 23, 3) := by decide +kernel
theorem dX8_change_4 : decode cX8_change 4 = .ok (.iload_n 1, 1) := by decide +kernel
theorem dX8_change_5 : decode cX8_change 5 = .ok (.invokevirtual 135, 3) := by decide +kernel
theorem dX8_change_8 : decode cX8_change 8 = .ok (.ifCond .eq 14, 3) := by decide +kernel
theorem dX8_change_11 : decode cX8_change 11 = .ok (.aload_n 0, 1) := by decide +kernel
theorem dX8_change_12 : decode cX8_change 12 = .ok (.getfield 23, 3) := by decide +kernel
theorem dX8_change_15 : decode cX8_change 15 = .ok (.iload_n 2, 1) := by decide +kernel
theorem dX8_change_16 : decode cX8_change 16 = .ok (.invokevirtual 135, 3) := by decide +kernel
theorem dX8_change_19 : decode cX8_change 19 = .ok (.ifCond .ne 5, 3) := by decide +kernel
theorem dX8_change_22 : decode cX8_change 22 = .ok (.iconst (-1), 1) := by decide +kernel
theorem dX8_change_23 : decode cX8_change 23 = .ok (.ireturn, 1) := by decide +kernel
theorem dX8_change_24 : decode cX8_change 24 = .ok (.iload_n 1, 1) := by decide +kernel
theorem dX8_change_25 : decode cX8_change 25 = .ok (.iload_n 2, 1) := by decide +kernel
theorem dX8_change_26 : decode cX8_change 26 = .ok (.if_icmp .ne 6, 3) := by decide +kernel
theorem dX8_change_29 : decode cX8_change 29 = .ok (.bipush (-2), 2) := by decide +kernel
theorem dX8_change_31 : decode cX8_change 31 = .ok (.ireturn, 1) := by decide +kernel
theorem dX8_change_32 : decode cX8_change 32 = .ok (.aload_n 0, 1) := by decide +kernel
theorem dX8_change_33 : decode cX8_change 33 = .ok (.getfield 38, 3) := by decide +kernel
theorem dX8_change_36 : decode cX8_change 36 = .ok (.aload_n 0, 1) := by decide +kernel
theorem dX8_change_37 : decode cX8_change 37 = .ok (.getfield 31, 3) := by decide +kernel
theorem dX8_change_40 : decode cX8_change 40 = .ok (.invokevirtual 169, 3) := by decide +kernel
theorem dX8_change_43 : decode cX8_change 43 = .ok (.aload_n 0, 1) := by decide +kernel
theorem dX8_change_44 : decode cX8_change 44 = .ok (.getfield 31, 3) := by decide +kernel
theorem dX8_change_47 : decode cX8_change 47 = .ok (.iload_n 1, 1) := by decide +kernel
theorem dX8_change_48 : decode cX8_change 48 = .ok (.iload_n 2, 1) := by decide +kernel
theorem dX8_change_49 : decode cX8_change 49 = .ok (.invokevirtual 176, 3) := by decide +kernel
theorem dX8_change_52 : decode cX8_change 52 = .ok (.aload_n 0, 1) := by decide +kernel
theorem dX8_change_53 : decode cX8_change 53 = .ok (.getfield 31, 3) := by decide +kernel
theorem dX8_change_56 : decode cX8_change 56 = .ok (.iload_n 1, 1) := by decide +kernel
theorem dX8_change_57 : decode cX8_change 57 = .ok (.invokevirtual 142, 3) := by decide +kernel
theorem dX8_change_60 : decode cX8_change 60 = .ok (.ireturn, 1) := by decide +kernel
theorem dX8_mend_0 : decode cX8_mend 0 = .ok (.aload_n 0, 1) := by decide +kernel
theorem dX8_mend_1 : decode cX8_mend 1 = .ok (.getfield 23, 3) := by decide +kernel
theorem dX8_mend_4 : decode cX8_mend 4 = .ok (.iload_n 1, 1) := by decide +kernel
theorem dX8_mend_5 : decode cX8_mend 5 = .ok (.invokevirtual 151, 3) := by decide +kernel
theorem dX8_mend_8 : decode cX8_mend 8 = .ok (.ifCond .ne 5, 3) := by decide +kernel
theorem dX8_mend_11 : decode cX8_mend 11 = .ok (.iconst (-1), 1) := by decide +kernel
theorem dX8_mend_12 : decode cX8_mend 12 = .ok (.ireturn, 1) := by decide +kernel
theorem dX8_mend_13 : decode cX8_mend 13 = .ok (.aload_n 0, 1) := by decide +kernel
theorem dX8_mend_14 : decode cX8_mend 14 = .ok (.getfield 31, 3) := by decide +kernel
theorem dX8_mend_17 : decode cX8_mend 17 = .ok (.iload_n 1, 1) := by decide +kernel
theorem dX8_mend_18 : decode cX8_mend 18 = .ok (.invokevirtual 157, 3) := by decide +kernel
theorem dX8_mend_21 : decode cX8_mend 21 = .ok (.ifCond .ne 6, 3) := by decide +kernel
theorem dX8_mend_24 : decode cX8_mend 24 = .ok (.bipush (-3), 2) := by decide +kernel
theorem dX8_mend_26 : decode cX8_mend 26 = .ok (.ireturn, 1) := by decide +kernel
theorem dX8_mend_27 : decode cX8_mend 27 = .ok (.aload_n 0, 1) := by decide +kernel
theorem dX8_mend_28 : decode cX8_mend 28 = .ok (.getfield 38, 3) := by decide +kernel
theorem dX8_mend_31 : decode cX8_mend 31 = .ok (.aload_n 0, 1) := by decide +kernel
theorem dX8_mend_32 : decode cX8_mend 32 = .ok (.getfield 31, 3) := by decide +kernel
theorem dX8_mend_35 : decode cX8_mend 35 = .ok (.invokevirtual 169, 3) := by decide +kernel
theorem dX8_mend_38 : decode cX8_mend 38 = .ok (.aload_n 0, 1) := by decide +kernel
theorem dX8_mend_39 : decode cX8_mend 39 = .ok (.getfield 31, 3) := by decide +kernel
theorem dX8_mend_42 : decode cX8_mend 42 = .ok (.iload_n 1, 1) := by decide +kernel
theorem dX8_mend_43 : decode cX8_mend 43 = .ok (.invokevirtual 180, 3) := by decide +kernel
theorem dX8_mend_46 : decode cX8_mend 46 = .ok (.aload_n 0, 1) := by decide +kernel
theorem dX8_mend_47 : decode cX8_mend 47 = .ok (.getfield 31, 3) := by decide +kernel
theorem dX8_mend_50 : decode cX8_mend 50 = .ok (.getfield 128, 3) := by decide +kernel
theorem dX8_mend_53 : decode cX8_mend 53 = .ok (.invokestatic 183, 3) := by decide +kernel
theorem dX8_mend_56 : decode cX8_mend 56 = .ok (.ireturn, 1) := by decide +kernel
theorem dX8_drop_0 : decode cX8_drop 0 = .ok (.aload_n 0, 1) := by decide +kernel
theorem dX8_drop_1 : decode cX8_drop 1 = .ok (.getfield 23, 3) := by decide +kernel
theorem dX8_drop_4 : decode cX8_drop 4 = .ok (.iload_n 1, 1) := by decide +kernel
theorem dX8_drop_5 : decode cX8_drop 5 = .ok (.invokevirtual 151, 3) := by decide +kernel
theorem dX8_drop_8 : decode cX8_drop 8 = .ok (.ifCond .ne 5, 3) := by decide +kernel
theorem dX8_drop_11 : decode cX8_drop 11 = .ok (.iconst (-1), 1) := by decide +kernel
theorem dX8_drop_12 : decode cX8_drop 12 = .ok (.ireturn, 1) := by decide +kernel
theorem dX8_drop_13 : decode cX8_drop 13 = .ok (.aload_n 0, 1) := by decide +kernel
theorem dX8_drop_14 : decode cX8_drop 14 = .ok (.getfield 31, 3) := by decide +kernel
theorem dX8_drop_17 : decode cX8_drop 17 = .ok (.iload_n 1, 1) := by decide +kernel
theorem dX8_drop_18 : decode cX8_drop 18 = .ok (.invokevirtual 188, 3) := by decide +kernel
theorem dX8_drop_21 : decode cX8_drop 21 = .ok (.ifCond .ne 6, 3) := by decide +kernel
theorem dX8_drop_24 : decode cX8_drop 24 = .ok (.bipush (-3), 2) := by decide +kernel
theorem dX8_drop_26 : decode cX8_drop 26 = .ok (.ireturn, 1) := by decide +kernel
theorem dX8_drop_27 : decode cX8_drop 27 = .ok (.aload_n 0, 1) := by decide +kernel
theorem dX8_drop_28 : decode cX8_drop 28 = .ok (.getfield 38, 3) := by decide +kernel
theorem dX8_drop_31 : decode cX8_drop 31 = .ok (.aload_n 0, 1) := by decide +kernel
theorem dX8_drop_32 : decode cX8_drop 32 = .ok (.getfield 31, 3) := by decide +kernel
theorem dX8_drop_35 : decode cX8_drop 35 = .ok (.invokevirtual 169, 3) := by decide +kernel
theorem dX8_drop_38 : decode cX8_drop 38 = .ok (.aload_n 0, 1) := by decide +kernel
theorem dX8_drop_39 : decode cX8_drop 39 = .ok (.getfield 31, 3) := by decide +kernel
theorem dX8_drop_42 : decode cX8_drop 42 = .ok (.getfield 163, 3) := by decide +kernel
theorem dX8_drop_45 : decode cX8_drop 45 = .ok (.iload_n 1, 1) := by decide +kernel
theorem dX8_drop_46 : decode cX8_drop 46 = .ok (.iaload, 1) := by decide +kernel
theorem dX8_drop_47 : decode cX8_drop 47 = .ok (.istore_n 2, 1) := by decide +kernel
theorem dX8_drop_48 : decode cX8_drop 48 = .ok (.aload_n 0, 1) := by decide +kernel
theorem dX8_drop_49 : decode cX8_drop 49 = .ok (.getfield 31, 3) := by decide +kernel
theorem dX8_drop_52 : decode cX8_drop 52 = .ok (.iload_n 1, 1) := by decide +kernel
theorem dX8_drop_53 : decode cX8_drop 53 = .ok (.invokevirtual 191, 3) := by decide +kernel
theorem dX8_drop_56 : decode cX8_drop 56 = .ok (.iload_n 2, 1) := by decide +kernel
theorem dX8_drop_57 : decode cX8_drop 57 = .ok (.ireturn, 1) := by decide +kernel
theorem dX8_undo_0 : decode cX8_undo 0 = .ok (.aload_n 0, 1) := by decide +kernel
theorem dX8_undo_1 : decode cX8_undo 1 = .ok (.getfield 38, 3) := by decide +kernel
theorem dX8_undo_4 : decode cX8_undo 4 = .ok (.getfield 131, 3) := by decide +kernel
theorem dX8_undo_7 : decode cX8_undo 7 = .ok (.ifCond .ne 6, 3) := by decide +kernel
theorem dX8_undo_10 : decode cX8_undo 10 = .ok (.bipush (-3), 2) := by decide +kernel
theorem dX8_undo_12 : decode cX8_undo 12 = .ok (.ireturn, 1) := by decide +kernel
theorem dX8_undo_13 : decode cX8_undo 13 = .ok (.aload_n 0, 1) := by decide +kernel
theorem dX8_undo_14 : decode cX8_undo 14 = .ok (.getfield 38, 3) := by decide +kernel
theorem dX8_undo_17 : decode cX8_undo 17 = .ok (.aload_n 0, 1) := by decide +kernel
theorem dX8_undo_18 : decode cX8_undo 18 = .ok (.getfield 31, 3) := by decide +kernel
theorem dX8_undo_21 : decode cX8_undo 21 = .ok (.invokevirtual 194, 3) := by decide +kernel
theorem dX8_undo_24 : decode cX8_undo 24 = .ok (.aload_n 0, 1) := by decide +kernel
theorem dX8_undo_25 : decode cX8_undo 25 = .ok (.getfield 38, 3) := by decide +kernel
theorem dX8_undo_28 : decode cX8_undo 28 = .ok (.getfield 131, 3) := by decide +kernel
theorem dX8_undo_31 : decode cX8_undo 31 = .ok (.ireturn, 1) := by decide +kernel
theorem dX8_later_0 : decode cX8_later 0 = .ok (.iload_n 1, 1) := by decide +kernel
theorem dX8_later_1 : decode cX8_later 1 = .ok (.ifCond .lt 16, 3) := by decide +kernel
theorem dX8_later_4 : decode cX8_later 4 = .ok (.iload_n 1, 1) := by decide +kernel
theorem dX8_later_5 : decode cX8_later 5 = .ok (.bipush 40, 2) := by decide +kernel
theorem dX8_later_7 : decode cX8_later 7 = .ok (.if_icmp .gt 10, 3) := by decide +kernel
theorem dX8_later_10 : decode cX8_later 10 = .ok (.iload_n 2, 1) := by decide +kernel
theorem dX8_later_11 : decode cX8_later 11 = .ok (.invokestatic 197, 3) := by decide +kernel
theorem dX8_later_14 : decode cX8_later 14 = .ok (.ifCond .ne 6, 3) := by decide +kernel
theorem dX8_later_17 : decode cX8_later 17 = .ok (.bipush (-2), 2) := by decide +kernel
theorem dX8_later_19 : decode cX8_later 19 = .ok (.ireturn, 1) := by decide +kernel
theorem dX8_later_20 : decode cX8_later 20 = .ok (.iload_n 2, 1) := by decide +kernel
theorem dX8_later_21 : decode cX8_later 21 = .ok (.ifCond .ne 14, 3) := by decide +kernel
theorem dX8_later_24 : decode cX8_later 24 = .ok (.aload_n 0, 1) := by decide +kernel
theorem dX8_later_25 : decode cX8_later 25 = .ok (.getfield 74, 3) := by decide +kernel
theorem dX8_later_28 : decode cX8_later 28 = .ok (.iload_n 1, 1) := by decide +kernel
theorem dX8_later_29 : decode cX8_later 29 = .ok (.invokevirtual 200, 3) := by decide +kernel
theorem dX8_later_32 : decode cX8_later 32 = .ok (.goto 11, 3) := by decide +kernel
theorem dX8_later_35 : decode cX8_later 35 = .ok (.aload_n 0, 1) := by decide +kernel
theorem dX8_later_36 : decode cX8_later 36 = .ok (.getfield 74, 3) := by decide +kernel
theorem dX8_later_39 : decode cX8_later 39 = .ok (.iload_n 1, 1) := by decide +kernel
theorem dX8_later_40 : decode cX8_later 40 = .ok (.invokevirtual 203, 3) := by decide +kernel
theorem dX8_later_43 : decode cX8_later 43 = .ok (.ireturn, 1) := by decide +kernel
theorem dX8_out_0 : decode cX8_out 0 = .ok (.aload_n 0, 1) := by decide +kernel
theorem dX8_out_1 : decode cX8_out 1 = .ok (.getfield 74, 3) := by decide +kernel
theorem dX8_out_4 : decode cX8_out 4 = .ok (.invokevirtual 206, 3) := by decide +kernel
theorem dX8_out_7 : decode cX8_out 7 = .ok (.ireturn, 1) := by decide +kernel
theorem dX8_swap_0 : decode cX8_swap 0 = .ok (.iload_n 1, 1) := by decide +kernel
theorem dX8_swap_1 : decode cX8_swap 1 = .ok (.iconst 1, 1) := by decide +kernel
theorem dX8_swap_2 : decode cX8_swap 2 = .ok (.if_icmp .lt 16, 3) := by decide +kernel
theorem dX8_swap_5 : decode cX8_swap 5 = .ok (.iload_n 1, 1) := by decide +kernel
theorem dX8_swap_6 : decode cX8_swap 6 = .ok (.bipush 20, 2) := by decide +kernel
theorem dX8_swap_8 : decode cX8_swap 8 = .ok (.if_icmp .gt 10, 3) := by decide +kernel
theorem dX8_swap_11 : decode cX8_swap 11 = .ok (.iload_n 2, 1) := by decide +kernel
theorem dX8_swap_12 : decode cX8_swap 12 = .ok (.invokestatic 197, 3) := by decide +kernel
theorem dX8_swap_15 : decode cX8_swap 15 = .ok (.ifCond .ne 6, 3) := by decide +kernel
theorem dX8_swap_18 : decode cX8_swap 18 = .ok (.bipush (-2), 2) := by decide +kernel
theorem dX8_swap_20 : decode cX8_swap 20 = .ok (.ireturn, 1) := by decide +kernel
theorem dX8_swap_21 : decode cX8_swap 21 = .ok (.aload_n 0, 1) := by decide +kernel
theorem dX8_swap_22 : decode cX8_swap 22 = .ok (.getfield 67, 3) := by decide +kernel
theorem dX8_swap_25 : decode cX8_swap 25 = .ok (.iload_n 1, 1) := by decide +kernel
theorem dX8_swap_26 : decode cX8_swap 26 = .ok (.invokevirtual 209, 3) := by decide +kernel
theorem dX8_swap_29 : decode cX8_swap 29 = .ok (.iload_n 2, 1) := by decide +kernel
theorem dX8_swap_30 : decode cX8_swap 30 = .ok (.ifCond .ne 13, 3) := by decide +kernel
theorem dX8_swap_33 : decode cX8_swap 33 = .ok (.aload_n 0, 1) := by decide +kernel
theorem dX8_swap_34 : decode cX8_swap 34 = .ok (.getfield 67, 3) := by decide +kernel
theorem dX8_swap_37 : decode cX8_swap 37 = .ok (.getfield 212, 3) := by decide +kernel
theorem dX8_swap_40 : decode cX8_swap 40 = .ok (.goto 10, 3) := by decide +kernel
theorem dX8_swap_43 : decode cX8_swap 43 = .ok (.aload_n 0, 1) := by decide +kernel
theorem dX8_swap_44 : decode cX8_swap 44 = .ok (.getfield 67, 3) := by decide +kernel
theorem dX8_swap_47 : decode cX8_swap 47 = .ok (.getfield 215, 3) := by decide +kernel
theorem dX8_swap_50 : decode cX8_swap 50 = .ok (.ireturn, 1) := by decide +kernel
theorem dX8_line_0 : decode cX8_line 0 = .ok (.iload_n 1, 1) := by decide +kernel
theorem dX8_line_1 : decode cX8_line 1 = .ok (.iconst 1, 1) := by decide +kernel
theorem dX8_line_2 : decode cX8_line 2 = .ok (.if_icmp .lt 16, 3) := by decide +kernel
theorem dX8_line_5 : decode cX8_line 5 = .ok (.iload_n 1, 1) := by decide +kernel
theorem dX8_line_6 : decode cX8_line 6 = .ok (.bipush 20, 2) := by decide +kernel
theorem dX8_line_8 : decode cX8_line 8 = .ok (.if_icmp .gt 10, 3) := by decide +kernel
theorem dX8_line_11 : decode cX8_line 11 = .ok (.iload_n 2, 1) := by decide +kernel
theorem dX8_line_12 : decode cX8_line 12 = .ok (.invokestatic 197, 3) := by decide +kernel
theorem dX8_line_15 : decode cX8_line 15 = .ok (.ifCond .ne 6, 3) := by decide +kernel
theorem dX8_line_18 : decode cX8_line 18 = .ok (.bipush (-2), 2) := by decide +kernel
theorem dX8_line_20 : decode cX8_line 20 = .ok (.ireturn, 1) := by decide +kernel
theorem dX8_line_21 : decode cX8_line 21 = .ok (.aload_n 0, 1) := by decide +kernel
theorem dX8_line_22 : decode cX8_line 22 = .ok (.getfield 67, 3) := by decide +kernel
theorem dX8_line_25 : decode cX8_line 25 = .ok (.iload_n 1, 1) := by decide +kernel
theorem dX8_line_26 : decode cX8_line 26 = .ok (.invokevirtual 218, 3) := by decide +kernel
theorem dX8_line_29 : decode cX8_line 29 = .ok (.iload_n 2, 1) := by decide +kernel
theorem dX8_line_30 : decode cX8_line 30 = .ok (.ifCond .ne 13, 3) := by decide +kernel
theorem dX8_line_33 : decode cX8_line 33 = .ok (.aload_n 0, 1) := by decide +kernel
theorem dX8_line_34 : decode cX8_line 34 = .ok (.getfield 67, 3) := by decide +kernel
theorem dX8_line_37 : decode cX8_line 37 = .ok (.getfield 212, 3) := by decide +kernel
theorem dX8_line_40 : decode cX8_line 40 = .ok (.goto 10, 3) := by decide +kernel
theorem dX8_line_43 : decode cX8_line 43 = .ok (.aload_n 0, 1) := by decide +kernel
theorem dX8_line_44 : decode cX8_line 44 = .ok (.getfield 67, 3) := by decide +kernel
theorem dX8_line_47 : decode cX8_line 47 = .ok (.getfield 215, 3) := by decide +kernel
theorem dX8_line_50 : decode cX8_line 50 = .ok (.ireturn, 1) := by decide +kernel
theorem dX8_judge_0 : decode cX8_judge 0 = .ok (.iload_n 1, 1) := by decide +kernel
theorem dX8_judge_1 : decode cX8_judge 1 = .ok (.iconst 1, 1) := by decide +kernel
theorem dX8_judge_2 : decode cX8_judge 2 = .ok (.if_icmp .lt 14, 3) := by decide +kernel
theorem dX8_judge_5 : decode cX8_judge 5 = .ok (.iload_n 1, 1) := by decide +kernel
theorem dX8_judge_6 : decode cX8_judge 6 = .ok (.iconst 4, 1) := by decide +kernel
theorem dX8_judge_7 : decode cX8_judge 7 = .ok (.if_icmp .gt 9, 3) := by decide +kernel
theorem dX8_judge_10 : decode cX8_judge 10 = .ok (.lload_n 2, 1) := by decide +kernel
theorem dX8_judge_11 : decode cX8_judge 11 = .ok (.lconst 0, 1) := by decide +kernel
theorem dX8_judge_12 : decode cX8_judge 12 = .ok (.lcmp, 1) := by decide +kernel
theorem dX8_judge_13 : decode cX8_judge 13 = .ok (.ifCond .ge 6, 3) := by decide +kernel
theorem dX8_judge_16 : decode cX8_judge 16 = .ok (.bipush (-2), 2) := by decide +kernel
theorem dX8_judge_18 : decode cX8_judge 18 = .ok (.ireturn, 1) := by decide +kernel
theorem dX8_judge_19 : decode cX8_judge 19 = .ok (.lconst 1, 1) := by decide +kernel
theorem dX8_judge_20 : decode cX8_judge 20 = .ok (.lstore 4, 2) := by decide +kernel
theorem dX8_judge_22 : decode cX8_judge 22 = .ok (.iconst 0, 1) := by decide +kernel
theorem dX8_judge_23 : decode cX8_judge 23 = .ok (.istore 6, 2) := by decide +kernel
theorem dX8_judge_25 : decode cX8_judge 25 = .ok (.iload 6, 2) := by decide +kernel
theorem dX8_judge_27 : decode cX8_judge 27 = .ok (.iload_n 1, 1) := by decide +kernel
theorem dX8_judge_28 : decode cX8_judge 28 = .ok (.if_icmp .ge 17, 3) := by decide +kernel
theorem dX8_judge_31 : decode cX8_judge 31 = .ok (.lload 4, 2) := by decide +kernel
theorem dX8_judge_33 : decode cX8_judge 33 = .ok (.ldc2_w 221, 3) := by decide +kernel
theorem dX8_judge_36 : decode cX8_judge 36 = .ok (.lmul, 1) := by decide +kernel
theorem dX8_judge_37 : decode cX8_judge 37 = .ok (.lstore 4, 2) := by decide +kernel
theorem dX8_judge_39 : decode cX8_judge 39 = .ok (.iinc 6 1, 3) := by decide +kernel
theorem dX8_judge_42 : decode cX8_judge 42 = .ok (.goto (-17), 3) := by decide +kernel
theorem dX8_judge_45 : decode cX8_judge 45 = .ok (.lload_n 2, 1) := by decide +kernel
theorem dX8_judge_46 : decode cX8_judge 46 = .ok (.lload 4, 2) := by decide +kernel
theorem dX8_judge_48 : decode cX8_judge 48 = .ok (.lcmp, 1) := by decide +kernel
theorem dX8_judge_49 : decode cX8_judge 49 = .ok (.ifCond .ge 15, 3) := by decide +kernel
theorem dX8_judge_52 : decode cX8_judge 52 = .ok (.aload_n 0, 1) := by decide +kernel
theorem dX8_judge_53 : decode cX8_judge 53 = .ok (.getfield 74, 3) := by decide +kernel
theorem dX8_judge_56 : decode cX8_judge 56 = .ok (.iload_n 1, 1) := by decide +kernel
theorem dX8_judge_57 : decode cX8_judge 57 = .ok (.lload_n 2, 1) := by decide +kernel
theorem dX8_judge_58 : decode cX8_judge 58 = .ok (.invokevirtual 223, 3) := by decide +kernel
theorem dX8_judge_61 : decode cX8_judge 61 = .ok (.goto 5, 3) := by decide +kernel
theorem dX8_judge_64 : decode cX8_judge 64 = .ok (.bipush (-2), 2) := by decide +kernel
theorem dX8_judge_66 : decode cX8_judge 66 = .ok (.ireturn, 1) := by decide +kernel
theorem dX8_share_0 : decode cX8_share 0 = .ok (.aload_n 0, 1) := by decide +kernel
theorem dX8_share_1 : decode cX8_share 1 = .ok (.getfield 23, 3) := by decide +kernel
theorem dX8_share_4 : decode cX8_share 4 = .ok (.iload_n 1, 1) := by decide +kernel
theorem dX8_share_5 : decode cX8_share 5 = .ok (.invokevirtual 151, 3) := by decide +kernel
theorem dX8_share_8 : decode cX8_share 8 = .ok (.ifCond .ne 5, 3) := by decide +kernel
theorem dX8_share_11 : decode cX8_share 11 = .ok (.iconst (-1), 1) := by decide +kernel
theorem dX8_share_12 : decode cX8_share 12 = .ok (.ireturn, 1) := by decide +kernel
theorem dX8_share_13 : decode cX8_share 13 = .ok (.aload_n 0, 1) := by decide +kernel
theorem dX8_share_14 : decode cX8_share 14 = .ok (.getfield 74, 3) := by decide +kernel
theorem dX8_share_17 : decode cX8_share 17 = .ok (.iload_n 1, 1) := by decide +kernel
theorem dX8_share_18 : decode cX8_share 18 = .ok (.invokevirtual 227, 3) := by decide +kernel
theorem dX8_share_21 : decode cX8_share 21 = .ok (.aload_n 0, 1) := by decide +kernel
theorem dX8_share_22 : decode cX8_share 22 = .ok (.getfield 23, 3) := by decide +kernel
theorem dX8_share_25 : decode cX8_share 25 = .ok (.getfield 102, 3) := by decide +kernel
theorem dX8_share_28 : decode cX8_share 28 = .ok (.invokestatic 230, 3) := by decide +kernel
theorem dX8_share_31 : decode cX8_share 31 = .ok (.iload_n 2, 1) := by decide +kernel
theorem dX8_share_32 : decode cX8_share 32 = .ok (.invokestatic 233, 3) := by decide +kernel
theorem dX8_share_35 : decode cX8_share 35 = .ok (.ireturn, 1) := by decide +kernel
theorem dX8_see_0 : decode cX8_see 0 = .ok (.iload_n 1, 1) := by decide +kernel
theorem dX8_see_1 : decode cX8_see 1 = .ok (.ifCond .lt 26, 3) := by decide +kernel
theorem dX8_see_4 : decode cX8_see 4 = .ok (.iload_n 1, 1) := by decide +kernel
theorem dX8_see_5 : decode cX8_see 5 = .ok (.bipush 9, 2) := by decide +kernel
theorem dX8_see_7 : decode cX8_see 7 = .ok (.if_icmp .gt 20, 3) := by decide +kernel
theorem dX8_see_10 : decode cX8_see 10 = .ok (.iload_n 2, 1) := by decide +kernel
theorem dX8_see_11 : decode cX8_see 11 = .ok (.ifCond .lt 16, 3) := by decide +kernel
theorem dX8_see_14 : decode cX8_see 14 = .ok (.iload_n 2, 1) := by decide +kernel
theorem dX8_see_15 : decode cX8_see 15 = .ok (.bipush 99, 2) := by decide +kernel
theorem dX8_see_17 : decode cX8_see 17 = .ok (.if_icmp .gt 10, 3) := by decide +kernel
theorem dX8_see_20 : decode cX8_see 20 = .ok (.iload_n 3, 1) := by decide +kernel
theorem dX8_see_21 : decode cX8_see 21 = .ok (.invokestatic 197, 3) := by decide +kernel
theorem dX8_see_24 : decode cX8_see 24 = .ok (.ifCond .ne 6, 3) := by decide +kernel
theorem dX8_see_27 : decode cX8_see 27 = .ok (.bipush (-2), 2) := by decide +kernel
theorem dX8_see_29 : decode cX8_see 29 = .ok (.ireturn, 1) := by decide +kernel
theorem dX8_see_30 : decode cX8_see 30 = .ok (.aload_n 0, 1) := by decide +kernel
theorem dX8_see_31 : decode cX8_see 31 = .ok (.getfield 58, 3) := by decide +kernel
theorem dX8_see_34 : decode cX8_see 34 = .ok (.iload_n 1, 1) := by decide +kernel
theorem dX8_see_35 : decode cX8_see 35 = .ok (.iload_n 2, 1) := by decide +kernel
theorem dX8_see_36 : decode cX8_see 36 = .ok (.iload_n 3, 1) := by decide +kernel
theorem dX8_see_37 : decode cX8_see 37 = .ok (.invokevirtual 237, 3) := by decide +kernel
theorem dX8_see_40 : decode cX8_see 40 = .ok (.ifCond .eq 13, 3) := by decide +kernel
theorem dX8_see_43 : decode cX8_see 43 = .ok (.aload_n 0, 1) := by decide +kernel
theorem dX8_see_44 : decode cX8_see 44 = .ok (.getfield 58, 3) := by decide +kernel
theorem dX8_see_47 : decode cX8_see 47 = .ok (.getfield 134, 3) := by decide +kernel
theorem dX8_see_50 : decode cX8_see 50 = .ok (.goto 5, 3) := by decide +kernel
theorem dX8_see_53 : decode cX8_see 53 = .ok (.bipush (-4), 2) := by decide +kernel
theorem dX8_see_55 : decode cX8_see 55 = .ok (.ireturn, 1) := by decide +kernel
theorem dX8_unsee_0 : decode cX8_unsee 0 = .ok (.aload_n 0, 1) := by decide +kernel
theorem dX8_unsee_1 : decode cX8_unsee 1 = .ok (.getfield 58, 3) := by decide +kernel
theorem dX8_unsee_4 : decode cX8_unsee 4 = .ok (.getfield 134, 3) := by decide +kernel
theorem dX8_unsee_7 : decode cX8_unsee 7 = .ok (.istore_n 1, 1) := by decide +kernel
theorem dX8_unsee_8 : decode cX8_unsee 8 = .ok (.aload_n 0, 1) := by decide +kernel
theorem dX8_unsee_9 : decode cX8_unsee 9 = .ok (.getfield 58, 3) := by decide +kernel
theorem dX8_unsee_12 : decode cX8_unsee 12 = .ok (.iconst 0, 1) := by decide +kernel
theorem dX8_unsee_13 : decode cX8_unsee 13 = .ok (.putfield 134, 3) := by decide +kernel
theorem dX8_unsee_16 : decode cX8_unsee 16 = .ok (.iload_n 1, 1) := by decide +kernel
theorem dX8_unsee_17 : decode cX8_unsee 17 = .ok (.ireturn, 1) := by decide +kernel
theorem dX8_fires_0 : decode cX8_fires 0 = .ok (.iload_n 1, 1) := by decide +kernel
theorem dX8_fires_1 : decode cX8_fires 1 = .ok (.invokestatic 197, 3) := by decide +kernel
theorem dX8_fires_4 : decode cX8_fires 4 = .ok (.ifCond .ne 6, 3) := by decide +kernel
theorem dX8_fires_7 : decode cX8_fires 7 = .ok (.bipush (-2), 2) := by decide +kernel
theorem dX8_fires_9 : decode cX8_fires 9 = .ok (.ireturn, 1) := by decide +kernel
theorem dX8_fires_10 : decode cX8_fires 10 = .ok (.iload_n 1, 1) := by decide +kernel
theorem dX8_fires_11 : decode cX8_fires 11 = .ok (.ifCond .ne 13, 3) := by decide +kernel
theorem dX8_fires_14 : decode cX8_fires 14 = .ok (.aload_n 0, 1) := by decide +kernel
theorem dX8_fires_15 : decode cX8_fires 15 = .ok (.getfield 58, 3) := by decide +kernel
theorem dX8_fires_18 : decode cX8_fires 18 = .ok (.invokevirtual 241, 3) := by decide +kernel
theorem dX8_fires_21 : decode cX8_fires 21 = .ok (.goto 10, 3) := by decide +kernel
theorem dX8_fires_24 : decode cX8_fires 24 = .ok (.aload_n 0, 1) := by decide +kernel
theorem dX8_fires_25 : decode cX8_fires 25 = .ok (.getfield 58, 3) := by decide +kernel
theorem dX8_fires_28 : decode cX8_fires 28 = .ok (.invokevirtual 244, 3) := by decide +kernel
theorem dX8_fires_31 : decode cX8_fires 31 = .ok (.ireturn, 1) := by decide +kernel
theorem dX8_rests_0 : decode cX8_rests 0 = .ok (.aload_n 0, 1) := by decide +kernel
theorem dX8_rests_1 : decode cX8_rests 1 = .ok (.getfield 23, 3) := by decide +kernel
theorem dX8_rests_4 : decode cX8_rests 4 = .ok (.iload_n 1, 1) := by decide +kernel
theorem dX8_rests_5 : decode cX8_rests 5 = .ok (.invokevirtual 135, 3) := by decide +kernel
theorem dX8_rests_8 : decode cX8_rests 8 = .ok (.ifCond .eq 14, 3) := by decide +kernel
theorem dX8_rests_11 : decode cX8_rests 11 = .ok (.aload_n 0, 1) := by decide +kernel
theorem dX8_rests_12 : decode cX8_rests 12 = .ok (.getfield 23, 3) := by decide +kernel
theorem dX8_rests_15 : decode cX8_rests 15 = .ok (.iload_n 2, 1) := by decide +kernel
theorem dX8_rests_16 : decode cX8_rests 16 = .ok (.invokevirtual 135, 3) := by decide +kernel
theorem dX8_rests_19 : decode cX8_rests 19 = .ok (.ifCond .ne 5, 3) := by decide +kernel
theorem dX8_rests_22 : decode cX8_rests 22 = .ok (.iconst (-1), 1) := by decide +kernel
theorem dX8_rests_23 : decode cX8_rests 23 = .ok (.ireturn, 1) := by decide +kernel
theorem dX8_rests_24 : decode cX8_rests 24 = .ok (.iload_n 1, 1) := by decide +kernel
theorem dX8_rests_25 : decode cX8_rests 25 = .ok (.iload_n 2, 1) := by decide +kernel
theorem dX8_rests_26 : decode cX8_rests 26 = .ok (.if_icmp .eq 10, 3) := by decide +kernel
theorem dX8_rests_29 : decode cX8_rests 29 = .ok (.iload_n 3, 1) := by decide +kernel
theorem dX8_rests_30 : decode cX8_rests 30 = .ok (.invokestatic 197, 3) := by decide +kernel
theorem dX8_rests_33 : decode cX8_rests 33 = .ok (.ifCond .ne 6, 3) := by decide +kernel
theorem dX8_rests_36 : decode cX8_rests 36 = .ok (.bipush (-2), 2) := by decide +kernel
theorem dX8_rests_38 : decode cX8_rests 38 = .ok (.ireturn, 1) := by decide +kernel
theorem dX8_rests_39 : decode cX8_rests 39 = .ok (.aload_n 0, 1) := by decide +kernel
theorem dX8_rests_40 : decode cX8_rests 40 = .ok (.getfield 74, 3) := by decide +kernel
theorem dX8_rests_43 : decode cX8_rests 43 = .ok (.iload_n 1, 1) := by decide +kernel
theorem dX8_rests_44 : decode cX8_rests 44 = .ok (.iload_n 2, 1) := by decide +kernel
theorem dX8_rests_45 : decode cX8_rests 45 = .ok (.invokevirtual 247, 3) := by decide +kernel
theorem dX8_rests_48 : decode cX8_rests 48 = .ok (.istore 4, 2) := by decide +kernel
theorem dX8_rests_50 : decode cX8_rests 50 = .ok (.iload_n 3, 1) := by decide +kernel
theorem dX8_rests_51 : decode cX8_rests 51 = .ok (.ifCond .ne 9, 3) := by decide +kernel
theorem dX8_rests_54 : decode cX8_rests 54 = .ok (.iload 4, 2) := by decide +kernel
theorem dX8_rests_56 : decode cX8_rests 56 = .ok (.invokestatic 183, 3) := by decide +kernel
theorem dX8_rests_59 : decode cX8_rests 59 = .ok (.ireturn, 1) := by decide +kernel
theorem dX8_rests_60 : decode cX8_rests 60 = .ok (.iload 4, 2) := by decide +kernel
theorem dX8_rests_62 : decode cX8_rests 62 = .ok (.invokestatic 251, 3) := by decide +kernel
theorem dX8_rests_65 : decode cX8_rests 65 = .ok (.ireturn, 1) := by decide +kernel
theorem dX8_falls_0 : decode cX8_falls 0 = .ok (.iload_n 1, 1) := by decide +kernel
theorem dX8_falls_1 : decode cX8_falls 1 = .ok (.ifCond .lt 19, 3) := by decide +kernel
theorem dX8_falls_4 : decode cX8_falls 4 = .ok (.iload_n 1, 1) := by decide +kernel
theorem dX8_falls_5 : decode cX8_falls 5 = .ok (.bipush 99, 2) := by decide +kernel
theorem dX8_falls_7 : decode cX8_falls 7 = .ok (.if_icmp .gt 13, 3) := by decide +kernel
theorem dX8_falls_10 : decode cX8_falls 10 = .ok (.iload_n 2, 1) := by decide +kernel
theorem dX8_falls_11 : decode cX8_falls 11 = .ok (.ifCond .lt 9, 3) := by decide +kernel
theorem dX8_falls_14 : decode cX8_falls 14 = .ok (.iload_n 2, 1) := by decide +kernel
theorem dX8_falls_15 : decode cX8_falls 15 = .ok (.bipush 10, 2) := by decide +kernel
theorem dX8_falls_17 : decode cX8_falls 17 = .ok (.if_icmp .le 6, 3) := by decide +kernel
theorem dX8_falls_20 : decode cX8_falls 20 = .ok (.bipush (-2), 2) := by decide +kernel
theorem dX8_falls_22 : decode cX8_falls 22 = .ok (.ireturn, 1) := by decide +kernel
theorem dX8_falls_23 : decode cX8_falls 23 = .ok (.iconst 1, 1) := by decide +kernel
theorem dX8_falls_24 : decode cX8_falls 24 = .ok (.istore 4, 2) := by decide +kernel
theorem dX8_falls_26 : decode cX8_falls 26 = .ok (.iconst 0, 1) := by decide +kernel
theorem dX8_falls_27 : decode cX8_falls 27 = .ok (.istore 5, 2) := by decide +kernel
theorem dX8_falls_29 : decode cX8_falls 29 = .ok (.iload 5, 2) := by decide +kernel
theorem dX8_falls_31 : decode cX8_falls 31 = .ok (.iconst 4, 1) := by decide +kernel
theorem dX8_falls_32 : decode cX8_falls 32 = .ok (.if_icmp .ge 28, 3) := by decide +kernel
theorem dX8_falls_35 : decode cX8_falls 35 = .ok (.aload_n 0, 1) := by decide +kernel
theorem dX8_falls_36 : decode cX8_falls 36 = .ok (.getfield 31, 3) := by decide +kernel
theorem dX8_falls_39 : decode cX8_falls 39 = .ok (.iload 5, 2) := by decide +kernel
theorem dX8_falls_41 : decode cX8_falls 41 = .ok (.invokevirtual 188, 3) := by decide +kernel
theorem dX8_falls_44 : decode cX8_falls 44 = .ok (.ifCond .eq 10, 3) := by decide +kernel
theorem dX8_falls_47 : decode cX8_falls 47 = .ok (.iload 4, 2) := by decide +kernel
theorem dX8_falls_49 : decode cX8_falls 49 = .ok (.bipush 10, 2) := by decide +kernel
theorem dX8_falls_51 : decode cX8_falls 51 = .ok (.imul, 1) := by decide +kernel
theorem dX8_falls_52 : decode cX8_falls 52 = .ok (.istore 4, 2) := by decide +kernel
theorem dX8_falls_54 : decode cX8_falls 54 = .ok (.iinc 5 1, 3) := by decide +kernel
theorem dX8_falls_57 : decode cX8_falls 57 = .ok (.goto (-28), 3) := by decide +kernel
theorem dX8_falls_60 : decode cX8_falls 60 = .ok (.aload_n 0, 1) := by decide +kernel
theorem dX8_falls_61 : decode cX8_falls 61 = .ok (.getfield 74, 3) := by decide +kernel
theorem dX8_falls_64 : decode cX8_falls 64 = .ok (.iload_n 1, 1) := by decide +kernel
theorem dX8_falls_65 : decode cX8_falls 65 = .ok (.iload_n 2, 1) := by decide +kernel
theorem dX8_falls_66 : decode cX8_falls 66 = .ok (.invokevirtual 254, 3) := by decide +kernel
theorem dX8_falls_69 : decode cX8_falls 69 = .ok (.iload 4, 2) := by decide +kernel
theorem dX8_falls_71 : decode cX8_falls 71 = .ok (.iload_n 3, 1) := by decide +kernel
theorem dX8_falls_72 : decode cX8_falls 72 = .ok (.invokestatic 233, 3) := by decide +kernel
theorem dX8_falls_75 : decode cX8_falls 75 = .ok (.ireturn, 1) := by decide +kernel
theorem dX8_seed_0 : decode cX8_seed 0 = .ok (.aload_n 0, 1) := by decide +kernel
theorem dX8_seed_1 : decode cX8_seed 1 = .ok (.getfield 78, 3) := by decide +kernel
theorem dX8_seed_4 : decode cX8_seed 4 = .ok (.lstore_n 3, 1) := by decide +kernel
theorem dX8_seed_5 : decode cX8_seed 5 = .ok (.aload_n 0, 1) := by decide +kernel
theorem dX8_seed_6 : decode cX8_seed 6 = .ok (.lload_n 1, 1) := by decide +kernel
theorem dX8_seed_7 : decode cX8_seed 7 = .ok (.putfield 78, 3) := by decide +kernel
theorem dX8_seed_10 : decode cX8_seed 10 = .ok (.lload_n 3, 1) := by decide +kernel
theorem dX8_seed_11 : decode cX8_seed 11 = .ok (.lreturn, 1) := by decide +kernel
theorem dX8_nights_0 : decode cX8_nights 0 = .ok (.iload_n 1, 1) := by decide +kernel
theorem dX8_nights_1 : decode cX8_nights 1 = .ok (.iconst 1, 1) := by decide +kernel
theorem dX8_nights_2 : decode cX8_nights 2 = .ok (.if_icmp .lt 9, 3) := by decide +kernel
theorem dX8_nights_5 : decode cX8_nights 5 = .ok (.iload_n 1, 1) := by decide +kernel
theorem dX8_nights_6 : decode cX8_nights 6 = .ok (.bipush 30, 2) := by decide +kernel
theorem dX8_nights_8 : decode cX8_nights 8 = .ok (.if_icmp .le 6, 3) := by decide +kernel
theorem dX8_nights_11 : decode cX8_nights 11 = .ok (.bipush (-2), 2) := by decide +kernel
theorem dX8_nights_13 : decode cX8_nights 13 = .ok (.ireturn, 1) := by decide +kernel
theorem dX8_nights_14 : decode cX8_nights 14 = .ok (.iconst 0, 1) := by decide +kernel
theorem dX8_nights_15 : decode cX8_nights 15 = .ok (.istore_n 2, 1) := by decide +kernel
theorem dX8_nights_16 : decode cX8_nights 16 = .ok (.aload_n 0, 1) := by decide +kernel
theorem dX8_nights_17 : decode cX8_nights 17 = .ok (.getfield 74, 3) := by decide +kernel
theorem dX8_nights_20 : decode cX8_nights 20 = .ok (.invokevirtual 257, 3) := by decide +kernel
theorem dX8_nights_23 : decode cX8_nights 23 = .ok (.iconst 0, 1) := by decide +kernel
theorem dX8_nights_24 : decode cX8_nights 24 = .ok (.istore_n 3, 1) := by decide +kernel
theorem dX8_nights_25 : decode cX8_nights 25 = .ok (.iload_n 3, 1) := by decide +kernel
theorem dX8_nights_26 : decode cX8_nights 26 = .ok (.iload_n 1, 1) := by decide +kernel
theorem dX8_nights_27 : decode cX8_nights 27 = .ok (.if_icmp .ge 47, 3) := by decide +kernel
theorem dX8_nights_30 : decode cX8_nights 30 = .ok (.aload_n 0, 1) := by decide +kernel
theorem dX8_nights_31 : decode cX8_nights 31 = .ok (.aload_n 0, 1) := by decide +kernel
theorem dX8_nights_32 : decode cX8_nights 32 = .ok (.getfield 78, 3) := by decide +kernel
theorem dX8_nights_35 : decode cX8_nights 35 = .ok (.ldc2_w 260, 3) := by decide +kernel
theorem dX8_nights_38 : decode cX8_nights 38 = .ok (.lmul, 1) := by decide +kernel
theorem dX8_nights_39 : decode cX8_nights 39 = .ok (.ldc2_w 262, 3) := by decide +kernel
theorem dX8_nights_42 : decode cX8_nights 42 = .ok (.ladd, 1) := by decide +kernel
theorem dX8_nights_43 : decode cX8_nights 43 = .ok (.putfield 78, 3) := by decide +kernel
theorem dX8_nights_46 : decode cX8_nights 46 = .ok (.iload_n 2, 1) := by decide +kernel
theorem dX8_nights_47 : decode cX8_nights 47 = .ok (.aload_n 0, 1) := by decide +kernel
theorem dX8_nights_48 : decode cX8_nights 48 = .ok (.getfield 74, 3) := by decide +kernel
theorem dX8_nights_51 : decode cX8_nights 51 = .ok (.aload_n 0, 1) := by decide +kernel
theorem dX8_nights_52 : decode cX8_nights 52 = .ok (.getfield 78, 3) := by decide +kernel
theorem dX8_nights_55 : decode cX8_nights 55 = .ok (.bipush 33, 2) := by decide +kernel
theorem dX8_nights_57 : decode cX8_nights 57 = .ok (.lushr, 1) := by decide +kernel
theorem dX8_nights_58 : decode cX8_nights 58 = .ok (.ldc2_w 264, 3) := by decide +kernel
theorem dX8_nights_61 : decode cX8_nights 61 = .ok (.lrem, 1) := by decide +kernel
theorem dX8_nights_62 : decode cX8_nights 62 = .ok (.l2i, 1) := by decide +kernel
theorem dX8_nights_63 : decode cX8_nights 63 = .ok (.invokevirtual 266, 3) := by decide +kernel
theorem dX8_nights_66 : decode cX8_nights 66 = .ok (.iadd, 1) := by decide +kernel
theorem dX8_nights_67 : decode cX8_nights 67 = .ok (.istore_n 2, 1) := by decide +kernel
theorem dX8_nights_68 : decode cX8_nights 68 = .ok (.iinc 3 1, 3) := by decide +kernel
theorem dX8_nights_71 : decode cX8_nights 71 = .ok (.goto (-46), 3) := by decide +kernel
theorem dX8_nights_74 : decode cX8_nights 74 = .ok (.iload_n 2, 1) := by decide +kernel
theorem dX8_nights_75 : decode cX8_nights 75 = .ok (.ireturn, 1) := by decide +kernel
theorem dX8_keep_0 : decode cX8_keep 0 = .ok (.iload_n 1, 1) := by decide +kernel
theorem dX8_keep_1 : decode cX8_keep 1 = .ok (.ifCond .lt 8, 3) := by decide +kernel
theorem dX8_keep_4 : decode cX8_keep 4 = .ok (.iload_n 1, 1) := by decide +kernel
theorem dX8_keep_5 : decode cX8_keep 5 = .ok (.iconst 2, 1) := by decide +kernel
theorem dX8_keep_6 : decode cX8_keep 6 = .ok (.if_icmp .lt 5, 3) := by decide +kernel
theorem dX8_keep_9 : decode cX8_keep 9 = .ok (.iconst (-1), 1) := by decide +kernel
theorem dX8_keep_10 : decode cX8_keep 10 = .ok (.ireturn, 1) := by decide +kernel
theorem dX8_keep_11 : decode cX8_keep 11 = .ok (.aload_n 0, 1) := by decide +kernel
theorem dX8_keep_12 : decode cX8_keep 12 = .ok (.getfield 47, 3) := by decide +kernel
theorem dX8_keep_15 : decode cX8_keep 15 = .ok (.iload_n 1, 1) := by decide +kernel
theorem dX8_keep_16 : decode cX8_keep 16 = .ok (.aload_n 0, 1) := by decide +kernel
theorem dX8_keep_17 : decode cX8_keep 17 = .ok (.getfield 31, 3) := by decide +kernel
theorem dX8_keep_20 : decode cX8_keep 20 = .ok (.invokevirtual 269, 3) := by decide +kernel
theorem dX8_keep_23 : decode cX8_keep 23 = .ok (.aload_n 0, 1) := by decide +kernel
theorem dX8_keep_24 : decode cX8_keep 24 = .ok (.dup, 1) := by decide +kernel
theorem dX8_keep_25 : decode cX8_keep 25 = .ok (.getfield 51, 3) := by decide +kernel
theorem dX8_keep_28 : decode cX8_keep 28 = .ok (.iconst 1, 1) := by decide +kernel
theorem dX8_keep_29 : decode cX8_keep 29 = .ok (.iload_n 1, 1) := by decide +kernel
theorem dX8_keep_30 : decode cX8_keep 30 = .ok (.ishl, 1) := by decide +kernel
theorem dX8_keep_31 : decode cX8_keep 31 = .ok (.ior, 1) := by decide +kernel
theorem dX8_keep_32 : decode cX8_keep 32 = .ok (.putfield 51, 3) := by decide +kernel
theorem dX8_keep_35 : decode cX8_keep 35 = .ok (.aload_n 0, 1) := by decide +kernel
theorem dX8_keep_36 : decode cX8_keep 36 = .ok (.getfield 31, 3) := by decide +kernel
theorem dX8_keep_39 : decode cX8_keep 39 = .ok (.getfield 114, 3) := by decide +kernel
theorem dX8_keep_42 : decode cX8_keep 42 = .ok (.ireturn, 1) := by decide +kernel
theorem dX8_again_0 : decode cX8_again 0 = .ok (.iload_n 1, 1) := by decide +kernel
theorem dX8_again_1 : decode cX8_again 1 = .ok (.ifCond .lt 8, 3) := by decide +kernel
theorem dX8_again_4 : decode cX8_again 4 = .ok (.iload_n 1, 1) := by decide +kernel
theorem dX8_again_5 : decode cX8_again 5 = .ok (.iconst 2, 1) := by decide +kernel
theorem dX8_again_6 : decode cX8_again 6 = .ok (.if_icmp .lt 5, 3) := by decide +kernel
theorem dX8_again_9 : decode cX8_again 9 = .ok (.iconst (-1), 1) := by decide +kernel
theorem dX8_again_10 : decode cX8_again 10 = .ok (.ireturn, 1) := by decide +kernel
theorem dX8_again_11 : decode cX8_again 11 = .ok (.aload_n 0, 1) := by decide +kernel
theorem dX8_again_12 : decode cX8_again 12 = .ok (.getfield 51, 3) := by decide +kernel
theorem dX8_again_15 : decode cX8_again 15 = .ok (.iload_n 1, 1) := by decide +kernel
theorem dX8_again_16 : decode cX8_again 16 = .ok (.ishr, 1) := by decide +kernel
theorem dX8_again_17 : decode cX8_again 17 = .ok (.iconst 1, 1) := by decide +kernel
theorem dX8_again_18 : decode cX8_again 18 = .ok (.iand, 1) := by decide +kernel
theorem dX8_again_19 : decode cX8_again 19 = .ok (.ifCond .ne 6, 3) := by decide +kernel
theorem dX8_again_22 : decode cX8_again 22 = .ok (.bipush (-3), 2) := by decide +kernel
theorem dX8_again_24 : decode cX8_again 24 = .ok (.ireturn, 1) := by decide +kernel
theorem dX8_again_25 : decode cX8_again 25 = .ok (.aload_n 0, 1) := by decide +kernel
theorem dX8_again_26 : decode cX8_again 26 = .ok (.getfield 47, 3) := by decide +kernel
theorem dX8_again_29 : decode cX8_again 29 = .ok (.iload_n 1, 1) := by decide +kernel
theorem dX8_again_30 : decode cX8_again 30 = .ok (.aload_n 0, 1) := by decide +kernel
theorem dX8_again_31 : decode cX8_again 31 = .ok (.getfield 31, 3) := by decide +kernel
theorem dX8_again_34 : decode cX8_again 34 = .ok (.invokevirtual 273, 3) := by decide +kernel
theorem dX8_again_37 : decode cX8_again 37 = .ok (.aload_n 0, 1) := by decide +kernel
theorem dX8_again_38 : decode cX8_again 38 = .ok (.getfield 38, 3) := by decide +kernel
theorem dX8_again_41 : decode cX8_again 41 = .ok (.invokevirtual 96, 3) := by decide +kernel
theorem dX8_again_44 : decode cX8_again 44 = .ok (.aload_n 0, 1) := by decide +kernel
theorem dX8_again_45 : decode cX8_again 45 = .ok (.getfield 31, 3) := by decide +kernel
theorem dX8_again_48 : decode cX8_again 48 = .ok (.getfield 114, 3) := by decide +kernel
theorem dX8_again_51 : decode cX8_again 51 = .ok (.ireturn, 1) := by decide +kernel
theorem dX8_isZeroOrOne_0 : decode cX8_isZeroOrOne 0 = .ok (.iload_n 0, 1) := by decide +kernel
theorem dX8_isZeroOrOne_1 : decode cX8_isZeroOrOne 1 = .ok (.ifCond .eq 8, 3) := by decide +kernel
theorem dX8_isZeroOrOne_4 : decode cX8_isZeroOrOne 4 = .ok (.iload_n 0, 1) := by decide +kernel
theorem dX8_isZeroOrOne_5 : decode cX8_isZeroOrOne 5 = .ok (.iconst 1, 1) := by decide +kernel
theorem dX8_isZeroOrOne_6 : decode cX8_isZeroOrOne 6 = .ok (.if_icmp .ne 7, 3) := by decide +kernel
theorem dX8_isZeroOrOne_9 : decode cX8_isZeroOrOne 9 = .ok (.iconst 1, 1) := by decide +kernel
theorem dX8_isZeroOrOne_10 : decode cX8_isZeroOrOne 10 = .ok (.goto 4, 3) := by decide +kernel
theorem dX8_isZeroOrOne_13 : decode cX8_isZeroOrOne 13 = .ok (.iconst 0, 1) := by decide +kernel
theorem dX8_isZeroOrOne_14 : decode cX8_isZeroOrOne 14 = .ok (.ireturn, 1) := by decide +kernel
theorem dX8_factorial_0 : decode cX8_factorial 0 = .ok (.iconst 1, 1) := by decide +kernel
theorem dX8_factorial_1 : decode cX8_factorial 1 = .ok (.istore_n 1, 1) := by decide +kernel
theorem dX8_factorial_2 : decode cX8_factorial 2 = .ok (.iconst 2, 1) := by decide +kernel
theorem dX8_factorial_3 : decode cX8_factorial 3 = .ok (.istore_n 2, 1) := by decide +kernel
theorem dX8_factorial_4 : decode cX8_factorial 4 = .ok (.iload_n 2, 1) := by decide +kernel
theorem dX8_factorial_5 : decode cX8_factorial 5 = .ok (.iload_n 0, 1) := by decide +kernel
theorem dX8_factorial_6 : decode cX8_factorial 6 = .ok (.if_icmp .gt 18, 3) := by decide +kernel
theorem dX8_factorial_9 : decode cX8_factorial 9 = .ok (.iload_n 2, 1) := by decide +kernel
theorem dX8_factorial_10 : decode cX8_factorial 10 = .ok (.iconst 5, 1) := by decide +kernel
theorem dX8_factorial_11 : decode cX8_factorial 11 = .ok (.if_icmp .gt 13, 3) := by decide +kernel
theorem dX8_factorial_14 : decode cX8_factorial 14 = .ok (.iload_n 1, 1) := by decide +kernel
theorem dX8_factorial_15 : decode cX8_factorial 15 = .ok (.iload_n 2, 1) := by decide +kernel
theorem dX8_factorial_16 : decode cX8_factorial 16 = .ok (.imul, 1) := by decide +kernel
theorem dX8_factorial_17 : decode cX8_factorial 17 = .ok (.istore_n 1, 1) := by decide +kernel
theorem dX8_factorial_18 : decode cX8_factorial 18 = .ok (.iinc 2 1, 3) := by decide +kernel
theorem dX8_factorial_21 : decode cX8_factorial 21 = .ok (.goto (-17), 3) := by decide +kernel
theorem dX8_factorial_24 : decode cX8_factorial 24 = .ok (.iload_n 1, 1) := by decide +kernel
theorem dX8_factorial_25 : decode cX8_factorial 25 = .ok (.ireturn, 1) := by decide +kernel
theorem dX8_leastTerm_0 : decode cX8_leastTerm 0 = .ok (.iload_n 0, 1) := by decide +kernel
theorem dX8_leastTerm_1 : decode cX8_leastTerm 1 = .ok (.invokestatic 276, 3) := by decide +kernel
theorem dX8_leastTerm_4 : decode cX8_leastTerm 4 = .ok (.iload_n 1, 1) := by decide +kernel
theorem dX8_leastTerm_5 : decode cX8_leastTerm 5 = .ok (.invokestatic 281, 3) := by decide +kernel
theorem dX8_leastTerm_8 : decode cX8_leastTerm 8 = .ok (.istore_n 3, 1) := by decide +kernel
theorem dX8_leastTerm_9 : decode cX8_leastTerm 9 = .ok (.iload_n 3, 1) := by decide +kernel
theorem dX8_leastTerm_10 : decode cX8_leastTerm 10 = .ok (.ifCond .ne 5, 3) := by decide +kernel
theorem dX8_leastTerm_13 : decode cX8_leastTerm 13 = .ok (.iconst 0, 1) := by decide +kernel
theorem dX8_leastTerm_14 : decode cX8_leastTerm 14 = .ok (.ireturn, 1) := by decide +kernel
theorem dX8_leastTerm_15 : decode cX8_leastTerm 15 = .ok (.iload_n 2, 1) := by decide +kernel
theorem dX8_leastTerm_16 : decode cX8_leastTerm 16 = .ok (.ifCond .eq 9, 3) := by decide +kernel
theorem dX8_leastTerm_19 : decode cX8_leastTerm 19 = .ok (.iload_n 0, 1) := by decide +kernel
theorem dX8_leastTerm_20 : decode cX8_leastTerm 20 = .ok (.iload_n 3, 1) := by decide +kernel
theorem dX8_leastTerm_21 : decode cX8_leastTerm 21 = .ok (.idiv, 1) := by decide +kernel
theorem dX8_leastTerm_22 : decode cX8_leastTerm 22 = .ok (.goto 6, 3) := by decide +kernel
theorem dX8_leastTerm_25 : decode cX8_leastTerm 25 = .ok (.iload_n 1, 1) := by decide +kernel
theorem dX8_leastTerm_26 : decode cX8_leastTerm 26 = .ok (.iload_n 3, 1) := by decide +kernel
theorem dX8_leastTerm_27 : decode cX8_leastTerm 27 = .ok (.idiv, 1) := by decide +kernel
theorem dX8_leastTerm_28 : decode cX8_leastTerm 28 = .ok (.ireturn, 1) := by decide +kernel
theorem dX8_commonDivisor_0 : decode cX8_commonDivisor 0 = .ok (.iload_n 0, 1) := by decide +kernel
theorem dX8_commonDivisor_1 : decode cX8_commonDivisor 1 = .ok (.istore_n 2, 1) := by decide +kernel
theorem dX8_commonDivisor_2 : decode cX8_commonDivisor 2 = .ok (.iload_n 1, 1) := by decide +kernel
theorem dX8_commonDivisor_3 : decode cX8_commonDivisor 3 = .ok (.istore_n 3, 1) := by decide +kernel
theorem dX8_commonDivisor_4 : decode cX8_commonDivisor 4 = .ok (.iconst 0, 1) := by decide +kernel
theorem dX8_commonDivisor_5 : decode cX8_commonDivisor 5 = .ok (.istore 4, 2) := by decide +kernel
theorem dX8_commonDivisor_7 : decode cX8_commonDivisor 7 = .ok (.iload 4, 2) := by decide +kernel
theorem dX8_commonDivisor_9 : decode cX8_commonDivisor 9 = .ok (.bipush 64, 2) := by decide +kernel
theorem dX8_commonDivisor_11 : decode cX8_commonDivisor 11 = .ok (.if_icmp .ge 23, 3) := by decide +kernel
theorem dX8_commonDivisor_14 : decode cX8_commonDivisor 14 = .ok (.iload_n 3, 1) := by decide +kernel
theorem dX8_commonDivisor_15 : decode cX8_commonDivisor 15 = .ok (.ifCond .eq 19, 3) := by decide +kernel
theorem dX8_commonDivisor_18 : decode cX8_commonDivisor 18 = .ok (.iload_n 2, 1) := by decide +kernel
theorem dX8_commonDivisor_19 : decode cX8_commonDivisor 19 = .ok (.iload_n 3, 1) := by decide +kernel
theorem dX8_commonDivisor_20 : decode cX8_commonDivisor 20 = .ok (.irem, 1) := by decide +kernel
theorem dX8_commonDivisor_21 : decode cX8_commonDivisor 21 = .ok (.istore 5, 2) := by decide +kernel
theorem dX8_commonDivisor_23 : decode cX8_commonDivisor 23 = .ok (.iload_n 3, 1) := by decide +kernel
theorem dX8_commonDivisor_24 : decode cX8_commonDivisor 24 = .ok (.istore_n 2, 1) := by decide +kernel
theorem dX8_commonDivisor_25 : decode cX8_commonDivisor 25 = .ok (.iload 5, 2) := by decide +kernel
theorem dX8_commonDivisor_27 : decode cX8_commonDivisor 27 = .ok (.istore_n 3, 1) := by decide +kernel
theorem dX8_commonDivisor_28 : decode cX8_commonDivisor 28 = .ok (.iinc 4 1, 3) := by decide +kernel
theorem dX8_commonDivisor_31 : decode cX8_commonDivisor 31 = .ok (.goto (-24), 3) := by decide +kernel
theorem dX8_commonDivisor_34 : decode cX8_commonDivisor 34 = .ok (.iload_n 2, 1) := by decide +kernel
theorem dX8_commonDivisor_35 : decode cX8_commonDivisor 35 = .ok (.ireturn, 1) := by decide +kernel
theorem dX8_firstPair_0 : decode cX8_firstPair 0 = .ok (.iconst 0, 1) := by decide +kernel
theorem dX8_firstPair_1 : decode cX8_firstPair 1 = .ok (.istore_n 1, 1) := by decide +kernel
theorem dX8_firstPair_2 : decode cX8_firstPair 2 = .ok (.iload_n 1, 1) := by decide +kernel
theorem dX8_firstPair_3 : decode cX8_firstPair 3 = .ok (.iconst 4, 1) := by decide +kernel
theorem dX8_firstPair_4 : decode cX8_firstPair 4 = .ok (.if_icmp .ge 29, 3) := by decide +kernel
theorem dX8_firstPair_7 : decode cX8_firstPair 7 = .ok (.iload_n 0, 1) := by decide +kernel
theorem dX8_firstPair_8 : decode cX8_firstPair 8 = .ok (.iload_n 1, 1) := by decide +kernel
theorem dX8_firstPair_9 : decode cX8_firstPair 9 = .ok (.ishr, 1) := by decide +kernel
theorem dX8_firstPair_10 : decode cX8_firstPair 10 = .ok (.iconst 1, 1) := by decide +kernel
theorem dX8_firstPair_11 : decode cX8_firstPair 11 = .ok (.iand, 1) := by decide +kernel
theorem dX8_firstPair_12 : decode cX8_firstPair 12 = .ok (.iconst 1, 1) := by decide +kernel
theorem dX8_firstPair_13 : decode cX8_firstPair 13 = .ok (.if_icmp .ne 14, 3) := by decide +kernel
theorem dX8_firstPair_16 : decode cX8_firstPair 16 = .ok (.bipush 10, 2) := by decide +kernel
theorem dX8_firstPair_18 : decode cX8_firstPair 18 = .ok (.iload_n 1, 1) := by decide +kernel
theorem dX8_firstPair_19 : decode cX8_firstPair 19 = .ok (.iconst 1, 1) := by decide +kernel
theorem dX8_firstPair_20 : decode cX8_firstPair 20 = .ok (.ishr, 1) := by decide +kernel
theorem dX8_firstPair_21 : decode cX8_firstPair 21 = .ok (.imul, 1) := by decide +kernel
theorem dX8_firstPair_22 : decode cX8_firstPair 22 = .ok (.iload_n 1, 1) := by decide +kernel
theorem dX8_firstPair_23 : decode cX8_firstPair 23 = .ok (.iconst 1, 1) := by decide +kernel
theorem dX8_firstPair_24 : decode cX8_firstPair 24 = .ok (.iand, 1) := by decide +kernel
theorem dX8_firstPair_25 : decode cX8_firstPair 25 = .ok (.iadd, 1) := by decide +kernel
theorem dX8_firstPair_26 : decode cX8_firstPair 26 = .ok (.ireturn, 1) := by decide +kernel
theorem dX8_firstPair_27 : decode cX8_firstPair 27 = .ok (.iinc 1 1, 3) := by decide +kernel
theorem dX8_firstPair_30 : decode cX8_firstPair 30 = .ok (.goto (-28), 3) := by decide +kernel
theorem dX8_firstPair_33 : decode cX8_firstPair 33 = .ok (.bipush (-9), 2) := by decide +kernel
theorem dX8_firstPair_35 : decode cX8_firstPair 35 = .ok (.ireturn, 1) := by decide +kernel
end
section
theorem dX9_init_0 : decode cX9_init 0 = .ok (.aload_n 0, 1) := by decide +kernel
theorem dX9_init_1 : decode cX9_init 1 = .ok (.invokespecial 1, 3) := by decide +kernel
theorem dX9_init_4 : decode cX9_init 4 = .ok (.aload_n 0, 1) := by decide +kernel
theorem dX9_init_5 : decode cX9_init 5 = .ok (.bipush 36, 2) := by decide +kernel
theorem dX9_init_7 : decode cX9_init 7 = .ok (.newarray .int, 2) := by decide +kernel
theorem dX9_init_9 : decode cX9_init 9 = .ok (.putfield 7, 3) := by decide +kernel
theorem dX9_init_12 : decode cX9_init 12 = .ok (.aload_n 0, 1) := by decide +kernel
theorem dX9_init_13 : decode cX9_init 13 = .ok (.iconst 5, 1) := by decide +kernel
theorem dX9_init_14 : decode cX9_init 14 = .ok (.newarray .int, 2) := by decide +kernel
theorem dX9_init_16 : decode cX9_init 16 = .ok (.putfield 13, 3) := by decide +kernel
theorem dX9_init_19 : decode cX9_init 19 = .ok (.aload_n 0, 1) := by decide +kernel
theorem dX9_init_20 : decode cX9_init 20 = .ok (.iconst 4, 1) := by decide +kernel
theorem dX9_init_21 : decode cX9_init 21 = .ok (.newarray .int, 2) := by decide +kernel
theorem dX9_init_23 : decode cX9_init 23 = .ok (.putfield 16, 3) := by decide +kernel
theorem dX9_init_26 : decode cX9_init 26 = .ok (.aload_n 0, 1) := by decide +kernel
theorem dX9_init_27 : decode cX9_init 27 = .ok (.iconst 5, 1) := by decide +kernel
theorem dX9_init_28 : decode cX9_init 28 = .ok (.newarray .int, 2) := by decide +kernel
theorem dX9_init_30 : decode cX9_init 30 = .ok (.putfield 19, 3) := by decide +kernel
theorem dX9_init_33 : decode cX9_init 33 = .ok (.aload_n 0, 1) := by decide +kernel
theorem dX9_init_34 : decode cX9_init 34 = .ok (.iconst 4, 1) := by decide +kernel
theorem dX9_init_35 : decode cX9_init 35 = .ok (.newarray .int, 2) := by decide +kernel
theorem dX9_init_37 : decode cX9_init 37 = .ok (.putfield 22, 3) := by decide +kernel
theorem dX9_init_40 : decode cX9_init 40 = .ok (.aload_n 0, 1) := by decide +kernel
theorem dX9_init_41 : decode cX9_init 41 = .ok (.bipush 21, 2) := by decide +kernel
theorem dX9_init_43 : decode cX9_init 43 = .ok (.newarray .int, 2) := by decide +kernel
theorem dX9_init_45 : decode cX9_init 45 = .ok (.putfield 25, 3) := by decide +kernel
theorem dX9_init_48 : decode cX9_init 48 = .ok (.aload_n 0, 1) := by decide +kernel
theorem dX9_init_49 : decode cX9_init 49 = .ok (.bipush 21, 2) := by decide +kernel
theorem dX9_init_51 : decode cX9_init 51 = .ok (.newarray .int, 2) := by decide +kernel
theorem dX9_init_53 : decode cX9_init 53 = .ok (.putfield 28, 3) := by decide +kernel
theorem dX9_init_56 : decode cX9_init 56 = .ok (.aload_n 0, 1) := by decide +kernel
theorem dX9_init_57 : decode cX9_init 57 = .ok (.sipush 294, 3) := by decide +kernel
theorem dX9_init_60 : decode cX9_init 60 = .ok (.newarray .int, 2) := by decide +kernel
theorem dX9_init_62 : decode cX9_init 62 = .ok (.putfield 31, 3) := by decide +kernel
theorem dX9_init_65 : decode cX9_init 65 = .ok (.aload_n 0, 1) := by decide +kernel
theorem dX9_init_66 : decode cX9_init 66 = .ok (.bipush 42, 2) := by decide +kernel
theorem dX9_init_68 : decode cX9_init 68 = .ok (.newarray .int, 2) := by decide +kernel
theorem dX9_init_70 : decode cX9_init 70 = .ok (.putfield 34, 3) := by decide +kernel
theorem dX9_init_73 : decode cX9_init 73 = .ok (.aload_n 0, 1) := by decide +kernel
theorem dX9_init_74 : decode cX9_init 74 = .ok (.iconst 2, 1) := by decide +kernel
theorem dX9_init_75 : decode cX9_init 75 = .ok (.newarray .boolean, 2) := by decide +kernel
theorem dX9_init_77 : decode cX9_init 77 = .ok (.putfield 37, 3) := by decide +kernel
theorem dX9_init_80 : decode cX9_init 80 = .ok (.aload_n 0, 1) := by decide +kernel
theorem dX9_init_81 : decode cX9_init 81 = .ok (.bipush 6, 2) := by decide +kernel
theorem dX9_init_83 : decode cX9_init 83 = .ok (.newarray .int, 2) := by decide +kernel
theorem dX9_init_85 : decode cX9_init 85 = .ok (.putfield 41, 3) := by decide +kernel
theorem dX9_init_88 : decode cX9_init 88 = .ok (.aload_n 0, 1) := by decide +kernel
theorem dX9_init_89 : decode cX9_init 89 = .ok (.bipush 6, 2) := by decide +kernel
theorem dX9_init_91 : decode cX9_init 91 = .ok (.newarray .int, 2) := by decide +kernel
theorem dX9_init_93 : decode cX9_init 93 = .ok (.putfield 44, 3) := by decide +kernel
theorem dX9_init_96 : decode cX9_init 96 = .ok (.aload_n 0, 1) := by decide +kernel
theorem dX9_init_97 : decode cX9_init 97 = .ok (.bipush 6, 2) := by decide +kernel
theorem dX9_init_99 : decode cX9_init 99 = .ok (.newarray .int, 2) := by decide +kernel
theorem dX9_init_101 : decode cX9_init 101 = .ok (.putfield 47, 3) := by decide +kernel
theorem dX9_init_104 : decode cX9_init 104 = .ok (.aload_n 0, 1) := by decide +kernel
theorem dX9_init_105 : decode cX9_init 105 = .ok (.bipush 8, 2) := by decide +kernel
theorem dX9_init_107 : decode cX9_init 107 = .ok (.newarray .int, 2) := by decide +kernel
theorem dX9_init_109 : decode cX9_init 109 = .ok (.putfield 50, 3) := by decide +kernel
theorem dX9_init_112 : decode cX9_init 112 = .ok (.aload_n 0, 1) := by decide +kernel
theorem dX9_init_113 : decode cX9_init 113 = .ok (.bipush 16, 2) := by decide +kernel
theorem dX9_init_115 : decode cX9_init 115 = .ok (.newarray .int, 2) := by decide +kernel
theorem dX9_init_117 : decode cX9_init 117 = .ok (.putfield 53, 3) := by decide +kernel
theorem dX9_init_120 : decode cX9_init 120 = .ok (.aload_n 0, 1) := by decide +kernel
theorem dX9_init_121 : decode cX9_init 121 = .ok (.iconst 5, 1) := by decide +kernel
theorem dX9_init_122 : decode cX9_init 122 = .ok (.newarray .int, 2) := by decide +kernel
theorem dX9_init_124 : decode cX9_init 124 = .ok (.putfield 56, 3) := by decide +kernel
theorem dX9_init_127 : decode cX9_init 127 = .ok (.return_, 1) := by decide +kernel
theorem dX9_in_0 : decode cX9_in 0 = .ok (.lload_n 0, 1) := by decide +kernel
theorem dX9_in_1 : decode cX9_in 1 = .ok (.lload_n 2, 1) := by decide +kernel
theorem dX9_in_2 : decode cX9_in 2 = .ok (.lcmp, 1) := by decide +kernel
theorem dX9_in_3 : decode cX9_in 3 = .ok (.ifCond .lt 14, 3) := by decide +kernel
theorem dX9_in_6 : decode cX9_in 6 = .ok (.lload_n 0, 1) := by decide +kernel
theorem dX9_in_7 : decode cX9_in 7 = .ok (.lload 4, 2) := by decide +kernel
theorem dX9_in_9 : decode cX9_in 9 = .ok (.lcmp, 1) := by decide +kernel
theorem dX9_in_10 : decode cX9_in 10 = .ok (.ifCond .gt 7, 3) := by decide +kernel
theorem dX9_in_13 : decode cX9_in 13 = .ok (.iconst 1, 1) := by decide +kernel
theorem dX9_in_14 : decode cX9_in 14 = .ok (.goto 4, 3) := by decide +kernel
theorem dX9_in_17 : decode cX9_in 17 = .ok (.iconst 0, 1) := by decide +kernel
theorem dX9_in_18 : decode cX9_in 18 = .ok (.ireturn, 1) := by decide +kernel
theorem dX9_has_0 : decode cX9_has 0 = .ok (.iload_n 0, 1) := by decide +kernel
theorem dX9_has_1 : decode cX9_has 1 = .ok (.iload_n 1, 1) := by decide +kernel
theorem dX9_has_2 : decode cX9_has 2 = .ok (.ishr, 1) := by decide +kernel
theorem dX9_has_3 : decode cX9_has 3 = .ok (.iconst 1, 1) := by decide +kernel
theorem dX9_has_4 : decode cX9_has 4 = .ok (.iand, 1) := by decide +kernel
theorem dX9_has_5 : decode cX9_has 5 = .ok (.iconst 1, 1) := by decide +kernel
theorem dX9_has_6 : decode cX9_has 6 = .ok (.if_icmp .ne 7, 3) := by decide +kernel
theorem dX9_has_9 : decode cX9_has 9 = .ok (.iconst 1, 1) := by decide +kernel
theorem dX9_has_10 : decode cX9_has 10 = .ok (.goto 4, 3) := by decide +kernel
theorem dX9_has_13 : decode cX9_has 13 = .ok (.iconst 0, 1) := by decide +kernel
theorem dX9_has_14 : decode cX9_has 14 = .ok (.ireturn, 1) := by decide +kernel
theorem dX9_many_0 : decode cX9_many 0 = .ok (.iconst 0, 1) := by decide +kernel
theorem dX9_many_1 : decode cX9_many 1 = .ok (.istore_n 1, 1) := by decide +kernel
theorem dX9_many_2 : decode cX9_many 2 = .ok (.iconst 0, 1) := by decide +kernel
theorem dX9_many_3 : decode cX9_many 3 = .ok (.istore_n 2, 1) := by decide +kernel
theorem dX9_many_4 : decode cX9_many 4 = .ok (.iload_n 2, 1) := by decide +kernel
theorem dX9_many_5 : decode cX9_many 5 = .ok (.iconst 5, 1) := by decide +kernel
theorem dX9_many_6 : decode cX9_many 6 = .ok (.if_icmp .ge 17, 3) := by decide +kernel
theorem dX9_many_9 : decode cX9_many 9 = .ok (.iload_n 1, 1) := by decide +kernel
theorem dX9_many_10 : decode cX9_many 10 = .ok (.iload_n 0, 1) := by decide +kernel
theorem dX9_many_11 : decode cX9_many 11 = .ok (.iload_n 2, 1) := by decide +kernel
theorem dX9_many_12 : decode cX9_many 12 = .ok (.ishr, 1) := by decide +kernel
theorem dX9_many_13 : decode cX9_many 13 = .ok (.iconst 1, 1) := by decide +kernel
theorem dX9_many_14 : decode cX9_many 14 = .ok (.iand, 1) := by decide +kernel
theorem dX9_many_15 : decode cX9_many 15 = .ok (.iadd, 1) := by decide +kernel
theorem dX9_many_16 : decode cX9_many 16 = .ok (.istore_n 1, 1) := by decide +kernel
theorem dX9_many_17 : decode cX9_many 17 = .ok (.iinc 2 1, 3) := by decide +kernel
theorem dX9_many_20 : decode cX9_many 20 = .ok (.goto (-16), 3) := by decide +kernel
theorem dX9_many_23 : decode cX9_many 23 = .ok (.iload_n 1, 1) := by decide +kernel
theorem dX9_many_24 : decode cX9_many 24 = .ok (.ireturn, 1) := by decide +kernel
theorem dX9_power_0 : decode cX9_power 0 = .ok (.iconst 1, 1) := by decide +kernel
theorem dX9_power_1 : decode cX9_power 1 = .ok (.istore_n 2, 1) := by decide +kernel
theorem dX9_power_2 : decode cX9_power 2 = .ok (.iconst 0, 1) := by decide +kernel
theorem dX9_power_3 : decode cX9_power 3 = .ok (.istore_n 3, 1) := by decide +kernel
theorem dX9_power_4 : decode cX9_power 4 = .ok (.iload_n 3, 1) := by decide +kernel
theorem dX9_power_5 : decode cX9_power 5 = .ok (.iload_n 1, 1) := by decide +kernel
theorem dX9_power_6 : decode cX9_power 6 = .ok (.if_icmp .ge 13, 3) := by decide +kernel
theorem dX9_power_9 : decode cX9_power 9 = .ok (.iload_n 2, 1) := by decide +kernel
theorem dX9_power_10 : decode cX9_power 10 = .ok (.iload_n 0, 1) := by decide +kernel
theorem dX9_power_11 : decode cX9_power 11 = .ok (.imul, 1) := by decide +kernel
theorem dX9_power_12 : decode cX9_power 12 = .ok (.istore_n 2, 1) := by decide +kernel
theorem dX9_power_13 : decode cX9_power 13 = .ok (.iinc 3 1, 3) := by decide +kernel
theorem dX9_power_16 : decode cX9_power 16 = .ok (.goto (-12), 3) := by decide +kernel
theorem dX9_power_19 : decode cX9_power 19 = .ok (.iload_n 2, 1) := by decide +kernel
theorem dX9_power_20 : decode cX9_power 20 = .ok (.ireturn, 1) := by decide +kernel
theorem dX9_noOne_0 : decode cX9_noOne 0 = .ok (.iload_n 1, 1) := by decide +kernel
theorem dX9_noOne_1 : decode cX9_noOne 1 = .ok (.i2l, 1) := by decide +kernel
theorem dX9_noOne_2 : decode cX9_noOne 2 = .ok (.lconst 0, 1) := by decide +kernel
theorem dX9_noOne_3 : decode cX9_noOne 3 = .ok (.aload_n 0, 1) := by decide +kernel
theorem dX9_noOne_4 : decode cX9_noOne 4 = .ok (.getfield 63, 3) := by decide +kernel
theorem dX9_noOne_7 : decode cX9_noOne 7 = .ok (.iconst 1, 1) := by decide +kernel
theorem dX9_noOne_8 : decode cX9_noOne 8 = .ok (.isub, 1) := by decide +kernel
theorem dX9_noOne_9 : decode cX9_noOne 9 = .ok (.i2l, 1) := by decide +kernel
theorem dX9_noOne_10 : decode cX9_noOne 10 = .ok (.invokestatic 66, 3) := by decide +kernel
theorem dX9_noOne_13 : decode cX9_noOne 13 = .ok (.ifCond .ne 7, 3) := by decide +kernel
theorem dX9_noOne_16 : decode cX9_noOne 16 = .ok (.iconst 1, 1) := by decide +kernel
theorem dX9_noOne_17 : decode cX9_noOne 17 = .ok (.goto 4, 3) := by decide +kernel
theorem dX9_noOne_20 : decode cX9_noOne 20 = .ok (.iconst 0, 1) := by decide +kernel
theorem dX9_noOne_21 : decode cX9_noOne 21 = .ok (.ireturn, 1) := by decide +kernel
theorem dX9_noBucket_0 : decode cX9_noBucket 0 = .ok (.iload_n 1, 1) := by decide +kernel
theorem dX9_noBucket_1 : decode cX9_noBucket 1 = .ok (.i2l, 1) := by decide +kernel
theorem dX9_noBucket_2 : decode cX9_noBucket 2 = .ok (.lconst 0, 1) := by decide +kernel
theorem dX9_noBucket_3 : decode cX9_noBucket 3 = .ok (.aload_n 0, 1) := by decide +kernel
theorem dX9_noBucket_4 : decode cX9_noBucket 4 = .ok (.getfield 70, 3) := by decide +kernel
theorem dX9_noBucket_7 : decode cX9_noBucket 7 = .ok (.iconst 1, 1) := by decide +kernel
theorem dX9_noBucket_8 : decode cX9_noBucket 8 = .ok (.isub, 1) := by decide +kernel
theorem dX9_noBucket_9 : decode cX9_noBucket 9 = .ok (.i2l, 1) := by decide +kernel
theorem dX9_noBucket_10 : decode cX9_noBucket 10 = .ok (.invokestatic 66, 3) := by decide +kernel
theorem dX9_noBucket_13 : decode cX9_noBucket 13 = .ok (.ifCond .ne 7, 3) := by decide +kernel
theorem dX9_noBucket_16 : decode cX9_noBucket 16 = .ok (.iconst 1, 1) := by decide +kernel
theorem dX9_noBucket_17 : decode cX9_noBucket 17 = .ok (.goto 4, 3) := by decide +kernel
theorem dX9_noBucket_20 : decode cX9_noBucket 20 = .ok (.iconst 0, 1) := by decide +kernel
theorem dX9_noBucket_21 : decode cX9_noBucket 21 = .ok (.ireturn, 1) := by decide +kernel
theorem dX9_write_0 : decode cX9_write 0 = .ok (.aload_n 0, 1) := by decide +kernel
theorem dX9_write_1 : decode cX9_write 1 = .ok (.iconst 0, 1) := by decide +kernel
theorem dX9_write_2 : decode cX9_write 2 = .ok (.putfield 59, 3) := by decide +kernel
theorem dX9_write_5 : decode cX9_write 5 = .ok (.iload_n 1, 1) := by decide +kernel
theorem dX9_write_6 : decode cX9_write 6 = .ok (.i2l, 1) := by decide +kernel
theorem dX9_write_7 : decode cX9_write 7 = .ok (.lconst 0, 1) := by decide +kernel
theorem dX9_write_8 : decode cX9_write 8 = .ok (.ldc2_w 73, 3) := by decide +kernel
theorem dX9_write_11 : decode cX9_write 11 = .ok (.invokestatic 66, 3) := by decide +kernel
theorem dX9_write_14 : decode cX9_write 14 = .ok (.ifCond .ne 6, 3) := by decide +kernel
theorem dX9_write_17 : decode cX9_write 17 = .ok (.bipush (-2), 2) := by decide +kernel
theorem dX9_write_19 : decode cX9_write 19 = .ok (.ireturn, 1) := by decide +kernel
theorem dX9_write_20 : decode cX9_write 20 = .ok (.aload_n 0, 1) := by decide +kernel
theorem dX9_write_21 : decode cX9_write 21 = .ok (.getfield 75, 3) := by decide +kernel
theorem dX9_write_24 : decode cX9_write 24 = .ok (.bipush 36, 2) := by decide +kernel
theorem dX9_write_26 : decode cX9_write 26 = .ok (.if_icmp .ne 6, 3) := by decide +kernel
theorem dX9_write_29 : decode cX9_write 29 = .ok (.bipush (-4), 2) := by decide +kernel
theorem dX9_write_31 : decode cX9_write 31 = .ok (.ireturn, 1) := by decide +kernel
theorem dX9_write_32 : decode cX9_write 32 = .ok (.aload_n 0, 1) := by decide +kernel
theorem dX9_write_33 : decode cX9_write 33 = .ok (.getfield 7, 3) := by decide +kernel
theorem dX9_write_36 : decode cX9_write 36 = .ok (.aload_n 0, 1) := by decide +kernel
theorem dX9_write_37 : decode cX9_write 37 = .ok (.getfield 75, 3) := by decide +kernel
theorem dX9_write_40 : decode cX9_write 40 = .ok (.iload_n 1, 1) := by decide +kernel
theorem dX9_write_41 : decode cX9_write 41 = .ok (.iastore, 1) := by decide +kernel
theorem dX9_write_42 : decode cX9_write 42 = .ok (.aload_n 0, 1) := by decide +kernel
theorem dX9_write_43 : decode cX9_write 43 = .ok (.dup, 1) := by decide +kernel
theorem dX9_write_44 : decode cX9_write 44 = .ok (.getfield 75, 3) := by decide +kernel
theorem dX9_write_47 : decode cX9_write 47 = .ok (.iconst 1, 1) := by decide +kernel
theorem dX9_write_48 : decode cX9_write 48 = .ok (.iadd, 1) := by decide +kernel
theorem dX9_write_49 : decode cX9_write 49 = .ok (.putfield 75, 3) := by decide +kernel
theorem dX9_write_52 : decode cX9_write 52 = .ok (.aload_n 0, 1) := by decide +kernel
theorem dX9_write_53 : decode cX9_write 53 = .ok (.getfield 75, 3) := by decide +kernel
theorem dX9_write_56 : decode cX9_write 56 = .ok (.ireturn, 1) := by decide +kernel
theorem dX9_wipe_0 : decode cX9_wipe 0 = .ok (.aload_n 0, 1) := by decide +kernel
theorem dX9_wipe_1 : decode cX9_wipe 1 = .ok (.iconst 0, 1) := by decide +kernel
theorem dX9_wipe_2 : decode cX9_wipe 2 = .ok (.putfield 59, 3) := by decide +kernel
theorem dX9_wipe_5 : decode cX9_wipe 5 = .ok (.aload_n 0, 1) := by decide +kernel
theorem dX9_wipe_6 : decode cX9_wipe 6 = .ok (.getfield 75, 3) := by decide +kernel
theorem dX9_wipe_9 : decode cX9_wipe 9 = .ok (.istore_n 1, 1) := by decide +kernel
theorem dX9_wipe_10 : decode cX9_wipe 10 = .ok (.aload_n 0, 1) := by decide +kernel
theorem dX9_wipe_11 : decode cX9_wipe 11 = .ok (.iconst 0, 1) := by decide +kernel
theorem dX9_wipe_12 : decode cX9_wipe 12 = .ok (.putfield 75, 3) := by decide +kernel
theorem dX9_wipe_15 : decode cX9_wipe 15 = .ok (.iload_n 1, 1) := by decide +kernel
theorem dX9_wipe_16 : decode cX9_wipe 16 = .ok (.ireturn, 1) := by decide +kernel
theorem dX9_figure_0 : decode cX9_figure 0 = .ok (.aload_n 0, 1) := by decide +kernel
theorem dX9_figure_1 : decode cX9_figure 1 = .ok (.getfield 78, 3) := by decide +kernel
theorem dX9_figure_4 : decode cX9_figure 4 = .ok (.aload_n 0, 1) := by decide +kernel
theorem dX9_figure_5 : decode cX9_figure 5 = .ok (.getfield 75, 3) := by decide +kernel
theorem dX9_figure_8 : decode cX9_figure 8 = .ok (.if_icmp .eq 26, 3) := by decide +kernel
theorem dX9_figure_11 : decode cX9_figure 11 = .ok (.aload_n 0, 1) := by decide +kernel
theorem dX9_figure_12 : decode cX9_figure 12 = .ok (.getfield 7, 3) := by decide +kernel
theorem dX9_figure_15 : decode cX9_figure 15 = .ok (.aload_n 0, 1) := by decide +kernel
theorem dX9_figure_16 : decode cX9_figure 16 = .ok (.getfield 78, 3) := by decide +kernel
theorem dX9_figure_19 : decode cX9_figure 19 = .ok (.iaload, 1) := by decide +kernel
theorem dX9_figure_20 : decode cX9_figure 20 = .ok (.bipush 48, 2) := by decide +kernel
theorem dX9_figure_22 : decode cX9_figure 22 = .ok (.isub, 1) := by decide +kernel
theorem dX9_figure_23 : decode cX9_figure 23 = .ok (.i2l, 1) := by decide +kernel
theorem dX9_figure_24 : decode cX9_figure 24 = .ok (.iload_n 1, 1) := by decide +kernel
theorem dX9_figure_25 : decode cX9_figure 25 = .ok (.i2l, 1) := by decide +kernel
theorem dX9_figure_26 : decode cX9_figure 26 = .ok (.iload_n 2, 1) := by decide +kernel
theorem dX9_figure_27 : decode cX9_figure 27 = .ok (.i2l, 1) := by decide +kernel
theorem dX9_figure_28 : decode cX9_figure 28 = .ok (.invokestatic 66, 3) := by decide +kernel
theorem dX9_figure_31 : decode cX9_figure 31 = .ok (.ifCond .ne 6, 3) := by decide +kernel
theorem dX9_figure_34 : decode cX9_figure 34 = .ok (.bipush (-9), 2) := by decide +kernel
theorem dX9_figure_36 : decode cX9_figure 36 = .ok (.ireturn, 1) := by decide +kernel
theorem dX9_figure_37 : decode cX9_figure 37 = .ok (.aload_n 0, 1) := by decide +kernel
theorem dX9_figure_38 : decode cX9_figure 38 = .ok (.dup, 1) := by decide +kernel
theorem dX9_figure_39 : decode cX9_figure 39 = .ok (.getfield 78, 3) := by decide +kernel
theorem dX9_figure_42 : decode cX9_figure 42 = .ok (.iconst 1, 1) := by decide +kernel
theorem dX9_figure_43 : decode cX9_figure 43 = .ok (.iadd, 1) := by decide +kernel
theorem dX9_figure_44 : decode cX9_figure 44 = .ok (.putfield 78, 3) := by decide +kernel
theorem dX9_figure_47 : decode cX9_figure 47 = .ok (.aload_n 0, 1) := by decide +kernel
theorem dX9_figure_48 : decode cX9_figure 48 = .ok (.getfield 7, 3) := by decide +kernel
theorem dX9_figure_51 : decode cX9_figure 51 = .ok (.aload_n 0, 1) := by decide +kernel
theorem dX9_figure_52 : decode cX9_figure 52 = .ok (.getfield 78, 3) := by decide +kernel
theorem dX9_figure_55 : decode cX9_figure 55 = .ok (.iconst 1, 1) := by decide +kernel
theorem dX9_figure_56 : decode cX9_figure 56 = .ok (.isub, 1) := by decide +kernel
theorem dX9_figure_57 : decode cX9_figure 57 = .ok (.iaload, 1) := by decide +kernel
theorem dX9_figure_58 : decode cX9_figure 58 = .ok (.bipush 48, 2) := by decide +kernel
theorem dX9_figure_60 : decode cX9_figure 60 = .ok (.isub, 1) := by decide +kernel
theorem dX9_figure_61 : decode cX9_figure 61 = .ok (.ireturn, 1) := by decide +kernel
theorem dX9_readPerson_0 : decode cX9_readPerson 0 = .ok (.aload_n 0, 1) := by decide +kernel
theorem dX9_readPerson_1 : decode cX9_readPerson 1 = .ok (.iconst 0, 1) := by decide +kernel
theorem dX9_readPerson_2 : decode cX9_readPerson 2 = .ok (.iconst 3, 1) := by decide +kernel
theorem dX9_readPerson_3 : decode cX9_readPerson 3 = .ok (.invokevirtual 81, 3) := by decide +kernel
theorem dX9_readPerson_6 : decode cX9_readPerson 6 = .ok (.istore_n 1, 1) := by decide +kernel
theorem dX9_readPerson_7 : decode cX9_readPerson 7 = .ok (.iload_n 1, 1) := by decide +kernel
theorem dX9_readPerson_8 : decode cX9_readPerson 8 = .ok (.bipush (-9), 2) := by decide +kernel
theorem dX9_readPerson_10 : decode cX9_readPerson 10 = .ok (.if_icmp .ne 5, 3) := by decide +kernel
theorem dX9_readPerson_13 : decode cX9_readPerson 13 = .ok (.iconst 0, 1) := by decide +kernel
theorem dX9_readPerson_14 : decode cX9_readPerson 14 = .ok (.ireturn, 1) := by decide +kernel
theorem dX9_readPerson_15 : decode cX9_readPerson 15 = .ok (.aload_n 0, 1) := by decide +kernel
theorem dX9_readPerson_16 : decode cX9_readPerson 16 = .ok (.getfield 19, 3) := by decide +kernel
theorem dX9_readPerson_19 : decode cX9_readPerson 19 = .ok (.aload_n 0, 1) := by decide +kernel
theorem dX9_readPerson_20 : decode cX9_readPerson 20 = .ok (.getfield 85, 3) := by decide +kernel
theorem dX9_readPerson_23 : decode cX9_readPerson 23 = .ok (.iload_n 1, 1) := by decide +kernel
theorem dX9_readPerson_24 : decode cX9_readPerson 24 = .ok (.iastore, 1) := by decide +kernel
theorem dX9_readPerson_25 : decode cX9_readPerson 25 = .ok (.aload_n 0, 1) := by decide +kernel
theorem dX9_readPerson_26 : decode cX9_readPerson 26 = .ok (.dup, 1) := by decide +kernel
theorem dX9_readPerson_27 : decode cX9_readPerson 27 = .ok (.getfield 85, 3) := by decide +kernel
theorem dX9_readPerson_30 : decode cX9_readPerson 30 = .ok (.iconst 1, 1) := by decide +kernel
theorem dX9_readPerson_31 : decode cX9_readPerson 31 = .ok (.iadd, 1) := by decide +kernel
theorem dX9_readPerson_32 : decode cX9_readPerson 32 = .ok (.putfield 85, 3) := by decide +kernel
theorem dX9_readPerson_35 : decode cX9_readPerson 35 = .ok (.iconst 1, 1) := by decide +kernel
theorem dX9_readPerson_36 : decode cX9_readPerson 36 = .ok (.ireturn, 1) := by decide +kernel
theorem dX9_readBucket_0 : decode cX9_readBucket 0 = .ok (.aload_n 0, 1) := by decide +kernel
theorem dX9_readBucket_1 : decode cX9_readBucket 1 = .ok (.iconst 1, 1) := by decide +kernel
theorem dX9_readBucket_2 : decode cX9_readBucket 2 = .ok (.bipush 9, 2) := by decide +kernel
theorem dX9_readBucket_4 : decode cX9_readBucket 4 = .ok (.invokevirtual 81, 3) := by decide +kernel
theorem dX9_readBucket_7 : decode cX9_readBucket 7 = .ok (.istore_n 1, 1) := by decide +kernel
theorem dX9_readBucket_8 : decode cX9_readBucket 8 = .ok (.iload_n 1, 1) := by decide +kernel
theorem dX9_readBucket_9 : decode cX9_readBucket 9 = .ok (.bipush (-9), 2) := by decide +kernel
theorem dX9_readBucket_11 : decode cX9_readBucket 11 = .ok (.if_icmp .ne 8, 3) := by decide +kernel
theorem dX9_readBucket_14 : decode cX9_readBucket 14 = .ok (.bipush (-9), 2) := by decide +kernel
theorem dX9_readBucket_16 : decode cX9_readBucket 16 = .ok (.goto 9, 3) := by decide +kernel
theorem dX9_readBucket_19 : decode cX9_readBucket 19 = .ok (.aload_n 0, 1) := by decide +kernel
theorem dX9_readBucket_20 : decode cX9_readBucket 20 = .ok (.iconst 0, 1) := by decide +kernel
theorem dX9_readBucket_21 : decode cX9_readBucket 21 = .ok (.iconst 1, 1) := by decide +kernel
theorem dX9_readBucket_22 : decode cX9_readBucket 22 = .ok (.invokevirtual 81, 3) := by decide +kernel
theorem dX9_readBucket_25 : decode cX9_readBucket 25 = .ok (.istore_n 2, 1) := by decide +kernel
theorem dX9_readBucket_26 : decode cX9_readBucket 26 = .ok (.iload_n 2, 1) := by decide +kernel
theorem dX9_readBucket_27 : decode cX9_readBucket 27 = .ok (.bipush (-9), 2) := by decide +kernel
theorem dX9_readBucket_29 : decode cX9_readBucket 29 = .ok (.if_icmp .ne 5, 3) := by decide +kernel
theorem dX9_readBucket_32 : decode cX9_readBucket 32 = .ok (.iconst 0, 1) := by decide +kernel
theorem dX9_readBucket_33 : decode cX9_readBucket 33 = .ok (.ireturn, 1) := by decide +kernel
theorem dX9_readBucket_34 : decode cX9_readBucket 34 = .ok (.aload_n 0, 1) := by decide +kernel
theorem dX9_readBucket_35 : decode cX9_readBucket 35 = .ok (.getfield 22, 3) := by decide +kernel
theorem dX9_readBucket_38 : decode cX9_readBucket 38 = .ok (.aload_n 0, 1) := by decide +kernel
theorem dX9_readBucket_39 : decode cX9_readBucket 39 = .ok (.getfield 88, 3) := by decide +kernel
theorem dX9_readBucket_42 : decode cX9_readBucket 42 = .ok (.iload_n 1, 1) := by decide +kernel
theorem dX9_readBucket_43 : decode cX9_readBucket 43 = .ok (.iastore, 1) := by decide +kernel
theorem dX9_readBucket_44 : decode cX9_readBucket 44 = .ok (.aload_n 0, 1) := by decide +kernel
theorem dX9_readBucket_45 : decode cX9_readBucket 45 = .ok (.dup, 1) := by decide +kernel
theorem dX9_readBucket_46 : decode cX9_readBucket 46 = .ok (.getfield 91, 3) := by decide +kernel
theorem dX9_readBucket_49 : decode cX9_readBucket 49 = .ok (.iload_n 2, 1) := by decide +kernel
theorem dX9_readBucket_50 : decode cX9_readBucket 50 = .ok (.aload_n 0, 1) := by decide +kernel
theorem dX9_readBucket_51 : decode cX9_readBucket 51 = .ok (.getfield 88, 3) := by decide +kernel
theorem dX9_readBucket_54 : decode cX9_readBucket 54 = .ok (.ishl, 1) := by decide +kernel
theorem dX9_readBucket_55 : decode cX9_readBucket 55 = .ok (.ior, 1) := by decide +kernel
theorem dX9_readBucket_56 : decode cX9_readBucket 56 = .ok (.putfield 91, 3) := by decide +kernel
theorem dX9_readBucket_59 : decode cX9_readBucket 59 = .ok (.aload_n 0, 1) := by decide +kernel
theorem dX9_readBucket_60 : decode cX9_readBucket 60 = .ok (.dup, 1) := by decide +kernel
theorem dX9_readBucket_61 : decode cX9_readBucket 61 = .ok (.getfield 88, 3) := by decide +kernel
theorem dX9_readBucket_64 : decode cX9_readBucket 64 = .ok (.iconst 1, 1) := by decide +kernel
theorem dX9_readBucket_65 : decode cX9_readBucket 65 = .ok (.iadd, 1) := by decide +kernel
theorem dX9_readBucket_66 : decode cX9_readBucket 66 = .ok (.putfield 88, 3) := by decide +kernel
theorem dX9_readBucket_69 : decode cX9_readBucket 69 = .ok (.iconst 1, 1) := by decide +kernel
theorem dX9_readBucket_70 : decode cX9_readBucket 70 = .ok (.ireturn, 1) := by decide +kernel
theorem dX9_readPart_0 : decode cX9_readPart 0 = .ok (.aload_n 0, 1) := by decide +kernel
theorem dX9_readPart_1 : decode cX9_readPart 1 = .ok (.getfield 7, 3) := by decide +kernel
theorem dX9_readPart_4 : decode cX9_readPart 4 = .ok (.aload_n 0, 1) := by decide +kernel
theorem dX9_readPart_5 : decode cX9_readPart 5 = .ok (.getfield 78, 3) := by decide +kernel
theorem dX9_readPart_8 : decode cX9_readPart 8 = .ok (.iaload, 1) := by decide +kernel
theorem dX9_readPart_9 : decode cX9_readPart 9 = .ok (.istore_n 1, 1) := by decide +kernel
theorem dX9_readPart_10 : decode cX9_readPart 10 = .ok (.aload_n 0, 1) := by decide +kernel
theorem dX9_readPart_11 : decode cX9_readPart 11 = .ok (.dup, 1) := by decide +kernel
theorem dX9_readPart_12 : decode cX9_readPart 12 = .ok (.getfield 78, 3) := by decide +kernel
theorem dX9_readPart_15 : decode cX9_readPart 15 = .ok (.iconst 1, 1) := by decide +kernel
theorem dX9_readPart_16 : decode cX9_readPart 16 = .ok (.iadd, 1) := by decide +kernel
theorem dX9_readPart_17 : decode cX9_readPart 17 = .ok (.putfield 78, 3) := by decide +kernel
theorem dX9_readPart_20 : decode cX9_readPart 20 = .ok (.iload_n 1, 1) := by decide +kernel
theorem dX9_readPart_21 : decode cX9_readPart 21 = .ok (.bipush 80, 2) := by decide +kernel
theorem dX9_readPart_23 : decode cX9_readPart 23 = .ok (.if_icmp .ne 16, 3) := by decide +kernel
theorem dX9_readPart_26 : decode cX9_readPart 26 = .ok (.aload_n 0, 1) := by decide +kernel
theorem dX9_readPart_27 : decode cX9_readPart 27 = .ok (.getfield 85, 3) := by decide +kernel
theorem dX9_readPart_30 : decode cX9_readPart 30 = .ok (.iconst 5, 1) := by decide +kernel
theorem dX9_readPart_31 : decode cX9_readPart 31 = .ok (.if_icmp .ge 8, 3) := by decide +kernel
theorem dX9_readPart_34 : decode cX9_readPart 34 = .ok (.aload_n 0, 1) := by decide +kernel
theorem dX9_readPart_35 : decode cX9_readPart 35 = .ok (.invokevirtual 94, 3) := by decide +kernel
theorem dX9_readPart_38 : decode cX9_readPart 38 = .ok (.ireturn, 1) := by decide +kernel
theorem dX9_readPart_39 : decode cX9_readPart 39 = .ok (.iload_n 1, 1) := by decide +kernel
theorem dX9_readPart_40 : decode cX9_readPart 40 = .ok (.bipush 66, 2) := by decide +kernel
theorem dX9_readPart_42 : decode cX9_readPart 42 = .ok (.if_icmp .ne 16, 3) := by decide +kernel
theorem dX9_readPart_45 : decode cX9_readPart 45 = .ok (.aload_n 0, 1) := by decide +kernel
theorem dX9_readPart_46 : decode cX9_readPart 46 = .ok (.getfield 88, 3) := by decide +kernel
theorem dX9_readPart_49 : decode cX9_readPart 49 = .ok (.iconst 4, 1) := by decide +kernel
theorem dX9_readPart_50 : decode cX9_readPart 50 = .ok (.if_icmp .ge 8, 3) := by decide +kernel
theorem dX9_readPart_53 : decode cX9_readPart 53 = .ok (.aload_n 0, 1) := by decide +kernel
theorem dX9_readPart_54 : decode cX9_readPart 54 = .ok (.invokevirtual 98, 3) := by decide +kernel
theorem dX9_readPart_57 : decode cX9_readPart 57 = .ok (.ireturn, 1) := by decide +kernel
theorem dX9_readPart_58 : decode cX9_readPart 58 = .ok (.aload_n 0, 1) := by decide +kernel
theorem dX9_readPart_59 : decode cX9_readPart 59 = .ok (.dup, 1) := by decide +kernel
theorem dX9_readPart_60 : decode cX9_readPart 60 = .ok (.getfield 78, 3) := by decide +kernel
theorem dX9_readPart_63 : decode cX9_readPart 63 = .ok (.iconst 1, 1) := by decide +kernel
theorem dX9_readPart_64 : decode cX9_readPart 64 = .ok (.isub, 1) := by decide +kernel
theorem dX9_readPart_65 : decode cX9_readPart 65 = .ok (.putfield 78, 3) := by decide +kernel
theorem dX9_readPart_68 : decode cX9_readPart 68 = .ok (.iconst 0, 1) := by decide +kernel
theorem dX9_readPart_69 : decode cX9_readPart 69 = .ok (.ireturn, 1) := by decide +kernel
theorem dX9_readHead_0 : decode cX9_readHead 0 = .ok (.aload_n 0, 1) := by decide +kernel
theorem dX9_readHead_1 : decode cX9_readHead 1 = .ok (.iconst 0, 1) := by decide +kernel
theorem dX9_readHead_2 : decode cX9_readHead 2 = .ok (.bipush 9, 2) := by decide +kernel
theorem dX9_readHead_4 : decode cX9_readHead 4 = .ok (.invokevirtual 81, 3) := by decide +kernel
theorem dX9_readHead_7 : decode cX9_readHead 7 = .ok (.istore_n 1, 1) := by decide +kernel
theorem dX9_readHead_8 : decode cX9_readHead 8 = .ok (.iload_n 1, 1) := by decide +kernel
theorem dX9_readHead_9 : decode cX9_readHead 9 = .ok (.bipush (-9), 2) := by decide +kernel
theorem dX9_readHead_11 : decode cX9_readHead 11 = .ok (.if_icmp .ne 8, 3) := by decide +kernel
theorem dX9_readHead_14 : decode cX9_readHead 14 = .ok (.bipush (-9), 2) := by decide +kernel
theorem dX9_readHead_16 : decode cX9_readHead 16 = .ok (.goto 10, 3) := by decide +kernel
theorem dX9_readHead_19 : decode cX9_readHead 19 = .ok (.aload_n 0, 1) := by decide +kernel
theorem dX9_readHead_20 : decode cX9_readHead 20 = .ok (.iconst 0, 1) := by decide +kernel
theorem dX9_readHead_21 : decode cX9_readHead 21 = .ok (.bipush 9, 2) := by decide +kernel
theorem dX9_readHead_23 : decode cX9_readHead 23 = .ok (.invokevirtual 81, 3) := by decide +kernel
theorem dX9_readHead_26 : decode cX9_readHead 26 = .ok (.istore_n 2, 1) := by decide +kernel
theorem dX9_readHead_27 : decode cX9_readHead 27 = .ok (.aload_n 0, 1) := by decide +kernel
theorem dX9_readHead_28 : decode cX9_readHead 28 = .ok (.iload_n 2, 1) := by decide +kernel
theorem dX9_readHead_29 : decode cX9_readHead 29 = .ok (.bipush (-9), 2) := by decide +kernel
theorem dX9_readHead_31 : decode cX9_readHead 31 = .ok (.if_icmp .ne 8, 3) := by decide +kernel
theorem dX9_readHead_34 : decode cX9_readHead 34 = .ok (.bipush (-9), 2) := by decide +kernel
theorem dX9_readHead_36 : decode cX9_readHead 36 = .ok (.goto 10, 3) := by decide +kernel
theorem dX9_readHead_39 : decode cX9_readHead 39 = .ok (.aload_n 0, 1) := by decide +kernel
theorem dX9_readHead_40 : decode cX9_readHead 40 = .ok (.iconst 0, 1) := by decide +kernel
theorem dX9_readHead_41 : decode cX9_readHead 41 = .ok (.bipush 9, 2) := by decide +kernel
theorem dX9_readHead_43 : decode cX9_readHead 43 = .ok (.invokevirtual 81, 3) := by decide +kernel
theorem dX9_readHead_46 : decode cX9_readHead 46 = .ok (.putfield 101, 3) := by decide +kernel
theorem dX9_readHead_49 : decode cX9_readHead 49 = .ok (.aload_n 0, 1) := by decide +kernel
theorem dX9_readHead_50 : decode cX9_readHead 50 = .ok (.aload_n 0, 1) := by decide +kernel
theorem dX9_readHead_51 : decode cX9_readHead 51 = .ok (.getfield 101, 3) := by decide +kernel
theorem dX9_readHead_54 : decode cX9_readHead 54 = .ok (.bipush (-9), 2) := by decide +kernel
theorem dX9_readHead_56 : decode cX9_readHead 56 = .ok (.if_icmp .ne 8, 3) := by decide +kernel
theorem dX9_readHead_59 : decode cX9_readHead 59 = .ok (.bipush (-9), 2) := by decide +kernel
theorem dX9_readHead_61 : decode cX9_readHead 61 = .ok (.goto 10, 3) := by decide +kernel
theorem dX9_readHead_64 : decode cX9_readHead 64 = .ok (.aload_n 0, 1) := by decide +kernel
theorem dX9_readHead_65 : decode cX9_readHead 65 = .ok (.iconst 0, 1) := by decide +kernel
theorem dX9_readHead_66 : decode cX9_readHead 66 = .ok (.bipush 9, 2) := by decide +kernel
theorem dX9_readHead_68 : decode cX9_readHead 68 = .ok (.invokevirtual 81, 3) := by decide +kernel
theorem dX9_readHead_71 : decode cX9_readHead 71 = .ok (.putfield 104, 3) := by decide +kernel
theorem dX9_readHead_74 : decode cX9_readHead 74 = .ok (.aload_n 0, 1) := by decide +kernel
theorem dX9_readHead_75 : decode cX9_readHead 75 = .ok (.bipush 10, 2) := by decide +kernel
theorem dX9_readHead_77 : decode cX9_readHead 77 = .ok (.iload_n 1, 1) := by decide +kernel
theorem dX9_readHead_78 : decode cX9_readHead 78 = .ok (.imul, 1) := by decide +kernel
theorem dX9_readHead_79 : decode cX9_readHead 79 = .ok (.iload_n 2, 1) := by decide +kernel
theorem dX9_readHead_80 : decode cX9_readHead 80 = .ok (.iadd, 1) := by decide +kernel
theorem dX9_readHead_81 : decode cX9_readHead 81 = .ok (.putfield 107, 3) := by decide +kernel
theorem dX9_readHead_84 : decode cX9_readHead 84 = .ok (.aload_n 0, 1) := by decide +kernel
theorem dX9_readHead_85 : decode cX9_readHead 85 = .ok (.getfield 104, 3) := by decide +kernel
theorem dX9_readHead_88 : decode cX9_readHead 88 = .ok (.bipush (-9), 2) := by decide +kernel
theorem dX9_readHead_90 : decode cX9_readHead 90 = .ok (.if_icmp .eq 7, 3) := by decide +kernel
theorem dX9_readHead_93 : decode cX9_readHead 93 = .ok (.iconst 1, 1) := by decide +kernel
theorem dX9_readHead_94 : decode cX9_readHead 94 = .ok (.goto 4, 3) := by decide +kernel
theorem dX9_readHead_97 : decode cX9_readHead 97 = .ok (.iconst 0, 1) := by decide +kernel
theorem dX9_readHead_98 : decode cX9_readHead 98 = .ok (.ireturn, 1) := by decide +kernel
theorem dX9_readNight_0 : decode cX9_readNight 0 = .ok (.aload_n 0, 1) := by decide +kernel
theorem dX9_readNight_1 : decode cX9_readNight 1 = .ok (.iconst 0, 1) := by decide +kernel
theorem dX9_readNight_2 : decode cX9_readNight 2 = .ok (.putfield 78, 3) := by decide +kernel
theorem dX9_readNight_5 : decode cX9_readNight 5 = .ok (.aload_n 0, 1) := by decide +kernel
theorem dX9_readNight_6 : decode cX9_readNight 6 = .ok (.iconst 0, 1) := by decide +kernel
theorem dX9_readNight_7 : decode cX9_readNight 7 = .ok (.putfield 85, 3) := by decide +kernel
theorem dX9_readNight_10 : decode cX9_readNight 10 = .ok (.aload_n 0, 1) := by decide +kernel
theorem dX9_readNight_11 : decode cX9_readNight 11 = .ok (.iconst 0, 1) := by decide +kernel
theorem dX9_readNight_12 : decode cX9_readNight 12 = .ok (.putfield 88, 3) := by decide +kernel
theorem dX9_readNight_15 : decode cX9_readNight 15 = .ok (.aload_n 0, 1) := by decide +kernel
theorem dX9_readNight_16 : decode cX9_readNight 16 = .ok (.iconst 0, 1) := by decide +kernel
theorem dX9_readNight_17 : decode cX9_readNight 17 = .ok (.putfield 91, 3) := by decide +kernel
theorem dX9_readNight_20 : decode cX9_readNight 20 = .ok (.aload_n 0, 1) := by decide +kernel
theorem dX9_readNight_21 : decode cX9_readNight 21 = .ok (.getfield 75, 3) := by decide +kernel
theorem dX9_readNight_24 : decode cX9_readNight 24 = .ok (.ifCond .eq 14, 3) := by decide +kernel
theorem dX9_readNight_27 : decode cX9_readNight 27 = .ok (.aload_n 0, 1) := by decide +kernel
theorem dX9_readNight_28 : decode cX9_readNight 28 = .ok (.getfield 7, 3) := by decide +kernel
theorem dX9_readNight_31 : decode cX9_readNight 31 = .ok (.iconst 0, 1) := by decide +kernel
theorem dX9_readNight_32 : decode cX9_readNight 32 = .ok (.iaload, 1) := by decide +kernel
theorem dX9_readNight_33 : decode cX9_readNight 33 = .ok (.bipush 87, 2) := by decide +kernel
theorem dX9_readNight_35 : decode cX9_readNight 35 = .ok (.if_icmp .eq 5, 3) := by decide +kernel
theorem dX9_readNight_38 : decode cX9_readNight 38 = .ok (.iconst 0, 1) := by decide +kernel
theorem dX9_readNight_39 : decode cX9_readNight 39 = .ok (.ireturn, 1) := by decide +kernel
theorem dX9_readNight_40 : decode cX9_readNight 40 = .ok (.aload_n 0, 1) := by decide +kernel
theorem dX9_readNight_41 : decode cX9_readNight 41 = .ok (.iconst 1, 1) := by decide +kernel
theorem dX9_readNight_42 : decode cX9_readNight 42 = .ok (.putfield 78, 3) := by decide +kernel
theorem dX9_readNight_45 : decode cX9_readNight 45 = .ok (.aload_n 0, 1) := by decide +kernel
theorem dX9_readNight_46 : decode cX9_readNight 46 = .ok (.invokevirtual 110, 3) := by decide +kernel
theorem dX9_readNight_49 : decode cX9_readNight 49 = .ok (.ifCond .ne 8, 3) := by decide +kernel
theorem dX9_readNight_52 : decode cX9_readNight 52 = .ok (.aload_n 0, 1) := by decide +kernel
theorem dX9_readNight_53 : decode cX9_readNight 53 = .ok (.getfield 78, 3) := by decide +kernel
theorem dX9_readNight_56 : decode cX9_readNight 56 = .ok (.ireturn, 1) := by decide +kernel
theorem dX9_readNight_57 : decode cX9_readNight 57 = .ok (.aload_n 0, 1) := by decide +kernel
theorem dX9_readNight_58 : decode cX9_readNight 58 = .ok (.getfield 78, 3) := by decide +kernel
theorem dX9_readNight_61 : decode cX9_readNight 61 = .ok (.aload_n 0, 1) := by decide +kernel
theorem dX9_readNight_62 : decode cX9_readNight 62 = .ok (.getfield 75, 3) := by decide +kernel
theorem dX9_readNight_65 : decode cX9_readNight 65 = .ok (.if_icmp .ge 15, 3) := by decide +kernel
theorem dX9_readNight_68 : decode cX9_readNight 68 = .ok (.aload_n 0, 1) := by decide +kernel
theorem dX9_readNight_69 : decode cX9_readNight 69 = .ok (.invokevirtual 113, 3) := by decide +kernel
theorem dX9_readNight_72 : decode cX9_readNight 72 = .ok (.ifCond .ne (-15), 3) := by decide +kernel
theorem dX9_readNight_75 : decode cX9_readNight 75 = .ok (.aload_n 0, 1) := by decide +kernel
theorem dX9_readNight_76 : decode cX9_readNight 76 = .ok (.getfield 78, 3) := by decide +kernel
theorem dX9_readNight_79 : decode cX9_readNight 79 = .ok (.ireturn, 1) := by decide +kernel
theorem dX9_readNight_80 : decode cX9_readNight 80 = .ok (.bipush (-9), 2) := by decide +kernel
theorem dX9_readNight_82 : decode cX9_readNight 82 = .ok (.ireturn, 1) := by decide +kernel
theorem dX9_fault_0 : decode cX9_fault 0 = .ok (.aload_n 0, 1) := by decide +kernel
theorem dX9_fault_1 : decode cX9_fault 1 = .ok (.iconst 0, 1) := by decide +kernel
theorem dX9_fault_2 : decode cX9_fault 2 = .ok (.putfield 59, 3) := by decide +kernel
theorem dX9_fault_5 : decode cX9_fault 5 = .ok (.aload_n 0, 1) := by decide +kernel
theorem dX9_fault_6 : decode cX9_fault 6 = .ok (.invokevirtual 116, 3) := by decide +kernel
theorem dX9_fault_9 : decode cX9_fault 9 = .ok (.ireturn, 1) := by decide +kernel
theorem dX9_night_0 : decode cX9_night 0 = .ok (.aload_n 0, 1) := by decide +kernel
theorem dX9_night_1 : decode cX9_night 1 = .ok (.iconst 0, 1) := by decide +kernel
theorem dX9_night_2 : decode cX9_night 2 = .ok (.putfield 59, 3) := by decide +kernel
theorem dX9_night_5 : decode cX9_night 5 = .ok (.aload_n 0, 1) := by decide +kernel
theorem dX9_night_6 : decode cX9_night 6 = .ok (.invokevirtual 116, 3) := by decide +kernel
theorem dX9_night_9 : decode cX9_night 9 = .ok (.bipush (-9), 2) := by decide +kernel
theorem dX9_night_11 : decode cX9_night 11 = .ok (.if_icmp .eq 6, 3) := by decide +kernel
theorem dX9_night_14 : decode cX9_night 14 = .ok (.bipush (-3), 2) := by decide +kernel
theorem dX9_night_16 : decode cX9_night 16 = .ok (.ireturn, 1) := by decide +kernel
theorem dX9_night_17 : decode cX9_night 17 = .ok (.aload_n 0, 1) := by decide +kernel
theorem dX9_night_18 : decode cX9_night 18 = .ok (.aload_n 0, 1) := by decide +kernel
theorem dX9_night_19 : decode cX9_night 19 = .ok (.getfield 101, 3) := by decide +kernel
theorem dX9_night_22 : decode cX9_night 22 = .ok (.putfield 120, 3) := by decide +kernel
theorem dX9_night_25 : decode cX9_night 25 = .ok (.aload_n 0, 1) := by decide +kernel
theorem dX9_night_26 : decode cX9_night 26 = .ok (.aload_n 0, 1) := by decide +kernel
theorem dX9_night_27 : decode cX9_night 27 = .ok (.getfield 104, 3) := by decide +kernel
theorem dX9_night_30 : decode cX9_night 30 = .ok (.putfield 123, 3) := by decide +kernel
theorem dX9_night_33 : decode cX9_night 33 = .ok (.aload_n 0, 1) := by decide +kernel
theorem dX9_night_34 : decode cX9_night 34 = .ok (.aload_n 0, 1) := by decide +kernel
theorem dX9_night_35 : decode cX9_night 35 = .ok (.getfield 85, 3) := by decide +kernel
theorem dX9_night_38 : decode cX9_night 38 = .ok (.putfield 63, 3) := by decide +kernel
theorem dX9_night_41 : decode cX9_night 41 = .ok (.aload_n 0, 1) := by decide +kernel
theorem dX9_night_42 : decode cX9_night 42 = .ok (.aload_n 0, 1) := by decide +kernel
theorem dX9_night_43 : decode cX9_night 43 = .ok (.getfield 88, 3) := by decide +kernel
theorem dX9_night_46 : decode cX9_night 46 = .ok (.putfield 70, 3) := by decide +kernel
theorem dX9_night_49 : decode cX9_night 49 = .ok (.iconst 0, 1) := by decide +kernel
theorem dX9_night_50 : decode cX9_night 50 = .ok (.istore_n 1, 1) := by decide +kernel
theorem dX9_night_51 : decode cX9_night 51 = .ok (.iload_n 1, 1) := by decide +kernel
theorem dX9_night_52 : decode cX9_night 52 = .ok (.bipush 21, 2) := by decide +kernel
theorem dX9_night_54 : decode cX9_night 54 = .ok (.if_icmp .ge 16, 3) := by decide +kernel
theorem dX9_night_57 : decode cX9_night 57 = .ok (.aload_n 0, 1) := by decide +kernel
theorem dX9_night_58 : decode cX9_night 58 = .ok (.getfield 25, 3) := by decide +kernel
theorem dX9_night_61 : decode cX9_night 61 = .ok (.iload_n 1, 1) := by decide +kernel
theorem dX9_night_62 : decode cX9_night 62 = .ok (.iconst 0, 1) := by decide +kernel
theorem dX9_night_63 : decode cX9_night 63 = .ok (.iastore, 1) := by decide +kernel
theorem dX9_night_64 : decode cX9_night 64 = .ok (.iinc 1 1, 3) := by decide +kernel
theorem dX9_night_67 : decode cX9_night 67 = .ok (.goto (-16), 3) := by decide +kernel
theorem dX9_night_70 : decode cX9_night 70 = .ok (.iconst 0, 1) := by decide +kernel
theorem dX9_night_71 : decode cX9_night 71 = .ok (.istore_n 1, 1) := by decide +kernel
theorem dX9_night_72 : decode cX9_night 72 = .ok (.iload_n 1, 1) := by decide +kernel
theorem dX9_night_73 : decode cX9_night 73 = .ok (.aload_n 0, 1) := by decide +kernel
theorem dX9_night_74 : decode cX9_night 74 = .ok (.getfield 63, 3) := by decide +kernel
theorem dX9_night_77 : decode cX9_night 77 = .ok (.if_icmp .ge 28, 3) := by decide +kernel
theorem dX9_night_80 : decode cX9_night 80 = .ok (.aload_n 0, 1) := by decide +kernel
theorem dX9_night_81 : decode cX9_night 81 = .ok (.getfield 13, 3) := by decide +kernel
theorem dX9_night_84 : decode cX9_night 84 = .ok (.iload_n 1, 1) := by decide +kernel
theorem dX9_night_85 : decode cX9_night 85 = .ok (.aload_n 0, 1) := by decide +kernel
theorem dX9_night_86 : decode cX9_night 86 = .ok (.getfield 19, 3) := by decide +kernel
theorem dX9_night_89 : decode cX9_night 89 = .ok (.iload_n 1, 1) := by decide +kernel
theorem dX9_night_90 : decode cX9_night 90 = .ok (.iaload, 1) := by decide +kernel
theorem dX9_night_91 : decode cX9_night 91 = .ok (.iastore, 1) := by decide +kernel
theorem dX9_night_92 : decode cX9_night 92 = .ok (.aload_n 0, 1) := by decide +kernel
theorem dX9_night_93 : decode cX9_night 93 = .ok (.getfield 25, 3) := by decide +kernel
theorem dX9_night_96 : decode cX9_night 96 = .ok (.iload_n 1, 1) := by decide +kernel
theorem dX9_night_97 : decode cX9_night 97 = .ok (.iload_n 1, 1) := by decide +kernel
theorem dX9_night_98 : decode cX9_night 98 = .ok (.iastore, 1) := by decide +kernel
theorem dX9_night_99 : decode cX9_night 99 = .ok (.iinc 1 1, 3) := by decide +kernel
theorem dX9_night_102 : decode cX9_night 102 = .ok (.goto (-30), 3) := by decide +kernel
theorem dX9_night_105 : decode cX9_night 105 = .ok (.iconst 0, 1) := by decide +kernel
theorem dX9_night_106 : decode cX9_night 106 = .ok (.istore_n 1, 1) := by decide +kernel
theorem dX9_night_107 : decode cX9_night 107 = .ok (.iload_n 1, 1) := by decide +kernel
theorem dX9_night_108 : decode cX9_night 108 = .ok (.aload_n 0, 1) := by decide +kernel
theorem dX9_night_109 : decode cX9_night 109 = .ok (.getfield 70, 3) := by decide +kernel
theorem dX9_night_112 : decode cX9_night 112 = .ok (.if_icmp .ge 31, 3) := by decide +kernel
theorem dX9_night_115 : decode cX9_night 115 = .ok (.aload_n 0, 1) := by decide +kernel
theorem dX9_night_116 : decode cX9_night 116 = .ok (.getfield 16, 3) := by decide +kernel
theorem dX9_night_119 : decode cX9_night 119 = .ok (.iload_n 1, 1) := by decide +kernel
theorem dX9_night_120 : decode cX9_night 120 = .ok (.aload_n 0, 1) := by decide +kernel
theorem dX9_night_121 : decode cX9_night 121 = .ok (.getfield 22, 3) := by decide +kernel
theorem dX9_night_124 : decode cX9_night 124 = .ok (.iload_n 1, 1) := by decide +kernel
theorem dX9_night_125 : decode cX9_night 125 = .ok (.iaload, 1) := by decide +kernel
theorem dX9_night_126 : decode cX9_night 126 = .ok (.iastore, 1) := by decide +kernel
theorem dX9_night_127 : decode cX9_night 127 = .ok (.aload_n 0, 1) := by decide +kernel
theorem dX9_night_128 : decode cX9_night 128 = .ok (.getfield 25, 3) := by decide +kernel
theorem dX9_night_131 : decode cX9_night 131 = .ok (.iconst 5, 1) := by decide +kernel
theorem dX9_night_132 : decode cX9_night 132 = .ok (.iload_n 1, 1) := by decide +kernel
theorem dX9_night_133 : decode cX9_night 133 = .ok (.iadd, 1) := by decide +kernel
theorem dX9_night_134 : decode cX9_night 134 = .ok (.bipush 8, 2) := by decide +kernel
theorem dX9_night_136 : decode cX9_night 136 = .ok (.iastore, 1) := by decide +kernel
theorem dX9_night_137 : decode cX9_night 137 = .ok (.iinc 1 1, 3) := by decide +kernel
theorem dX9_night_140 : decode cX9_night 140 = .ok (.goto (-33), 3) := by decide +kernel
theorem dX9_night_143 : decode cX9_night 143 = .ok (.aload_n 0, 1) := by decide +kernel
theorem dX9_night_144 : decode cX9_night 144 = .ok (.getfield 25, 3) := by decide +kernel
theorem dX9_night_147 : decode cX9_night 147 = .ok (.bipush 17, 2) := by decide +kernel
theorem dX9_night_149 : decode cX9_night 149 = .ok (.aload_n 0, 1) := by decide +kernel
theorem dX9_night_150 : decode cX9_night 150 = .ok (.getfield 91, 3) := by decide +kernel
theorem dX9_night_153 : decode cX9_night 153 = .ok (.iastore, 1) := by decide +kernel
theorem dX9_night_154 : decode cX9_night 154 = .ok (.aload_n 0, 1) := by decide +kernel
theorem dX9_night_155 : decode cX9_night 155 = .ok (.getfield 25, 3) := by decide +kernel
theorem dX9_night_158 : decode cX9_night 158 = .ok (.bipush 18, 2) := by decide +kernel
theorem dX9_night_160 : decode cX9_night 160 = .ok (.aload_n 0, 1) := by decide +kernel
theorem dX9_night_161 : decode cX9_night 161 = .ok (.getfield 107, 3) := by decide +kernel
theorem dX9_night_164 : decode cX9_night 164 = .ok (.iastore, 1) := by decide +kernel
theorem dX9_night_165 : decode cX9_night 165 = .ok (.aload_n 0, 1) := by decide +kernel
theorem dX9_night_166 : decode cX9_night 166 = .ok (.iconst 0, 1) := by decide +kernel
theorem dX9_night_167 : decode cX9_night 167 = .ok (.putfield 126, 3) := by decide +kernel
theorem dX9_night_170 : decode cX9_night 170 = .ok (.aload_n 0, 1) := by decide +kernel
theorem dX9_night_171 : decode cX9_night 171 = .ok (.getfield 37, 3) := by decide +kernel
theorem dX9_night_174 : decode cX9_night 174 = .ok (.iconst 0, 1) := by decide +kernel
theorem dX9_night_175 : decode cX9_night 175 = .ok (.iconst 0, 1) := by decide +kernel
theorem dX9_night_176 : decode cX9_night 176 = .ok (.bastore, 1) := by decide +kernel
theorem dX9_night_177 : decode cX9_night 177 = .ok (.aload_n 0, 1) := by decide +kernel
theorem dX9_night_178 : decode cX9_night 178 = .ok (.getfield 37, 3) := by decide +kernel
theorem dX9_night_181 : decode cX9_night 181 = .ok (.iconst 1, 1) := by decide +kernel
theorem dX9_night_182 : decode cX9_night 182 = .ok (.iconst 0, 1) := by decide +kernel
theorem dX9_night_183 : decode cX9_night 183 = .ok (.bastore, 1) := by decide +kernel
theorem dX9_night_184 : decode cX9_night 184 = .ok (.bipush 10, 2) := by decide +kernel
theorem dX9_night_186 : decode cX9_night 186 = .ok (.aload_n 0, 1) := by decide +kernel
theorem dX9_night_187 : decode cX9_night 187 = .ok (.getfield 63, 3) := by decide +kernel
theorem dX9_night_190 : decode cX9_night 190 = .ok (.imul, 1) := by decide +kernel
theorem dX9_night_191 : decode cX9_night 191 = .ok (.aload_n 0, 1) := by decide +kernel
theorem dX9_night_192 : decode cX9_night 192 = .ok (.getfield 70, 3) := by decide +kernel
theorem dX9_night_195 : decode cX9_night 195 = .ok (.iadd, 1) := by decide +kernel
theorem dX9_night_196 : decode cX9_night 196 = .ok (.ireturn, 1) := by decide +kernel
theorem dX9_heldAt_0 : decode cX9_heldAt 0 = .ok (.bipush (-9), 2) := by decide +kernel
theorem dX9_heldAt_2 : decode cX9_heldAt 2 = .ok (.istore_n 3, 1) := by decide +kernel
theorem dX9_heldAt_3 : decode cX9_heldAt 3 = .ok (.iconst 0, 1) := by decide +kernel
theorem dX9_heldAt_4 : decode cX9_heldAt 4 = .ok (.istore 4, 2) := by decide +kernel
theorem dX9_heldAt_6 : decode cX9_heldAt 6 = .ok (.iload 4, 2) := by decide +kernel
theorem dX9_heldAt_8 : decode cX9_heldAt 8 = .ok (.aload_n 0, 1) := by decide +kernel
theorem dX9_heldAt_9 : decode cX9_heldAt 9 = .ok (.getfield 70, 3) := by decide +kernel
theorem dX9_heldAt_12 : decode cX9_heldAt 12 = .ok (.if_icmp .ge 26, 3) := by decide +kernel
theorem dX9_heldAt_15 : decode cX9_heldAt 15 = .ok (.aload_n 1, 1) := by decide +kernel
theorem dX9_heldAt_16 : decode cX9_heldAt 16 = .ok (.iconst 5, 1) := by decide +kernel
theorem dX9_heldAt_17 : decode cX9_heldAt 17 = .ok (.iload 4, 2) := by decide +kernel
theorem dX9_heldAt_19 : decode cX9_heldAt 19 = .ok (.iadd, 1) := by decide +kernel
theorem dX9_heldAt_20 : decode cX9_heldAt 20 = .ok (.iaload, 1) := by decide +kernel
theorem dX9_heldAt_21 : decode cX9_heldAt 21 = .ok (.iload_n 2, 1) := by decide +kernel
theorem dX9_heldAt_22 : decode cX9_heldAt 22 = .ok (.if_icmp .ne 8, 3) := by decide +kernel
theorem dX9_heldAt_25 : decode cX9_heldAt 25 = .ok (.iload 4, 2) := by decide +kernel
theorem dX9_heldAt_27 : decode cX9_heldAt 27 = .ok (.goto 4, 3) := by decide +kernel
theorem dX9_heldAt_30 : decode cX9_heldAt 30 = .ok (.iload_n 3, 1) := by decide +kernel
theorem dX9_heldAt_31 : decode cX9_heldAt 31 = .ok (.istore_n 3, 1) := by decide +kernel
theorem dX9_heldAt_32 : decode cX9_heldAt 32 = .ok (.iinc 4 1, 3) := by decide +kernel
theorem dX9_heldAt_35 : decode cX9_heldAt 35 = .ok (.goto (-29), 3) := by decide +kernel
theorem dX9_heldAt_38 : decode cX9_heldAt 38 = .ok (.iload_n 3, 1) := by decide +kernel
theorem dX9_heldAt_39 : decode cX9_heldAt 39 = .ok (.ireturn, 1) := by decide +kernel
theorem dX9_works_0 : decode cX9_works 0 = .ok (.aload_n 1, 1) := by decide +kernel
theorem dX9_works_1 : decode cX9_works 1 = .ok (.iload_n 2, 1) := by decide +kernel
theorem dX9_works_2 : decode cX9_works 2 = .ok (.iaload, 1) := by decide +kernel
theorem dX9_works_3 : decode cX9_works 3 = .ok (.istore 4, 2) := by decide +kernel
theorem dX9_works_5 : decode cX9_works 5 = .ok (.iload_n 3, 1) := by decide +kernel
theorem dX9_works_6 : decode cX9_works 6 = .ok (.iload 4, 2) := by decide +kernel
theorem dX9_works_8 : decode cX9_works 8 = .ok (.invokestatic 129, 3) := by decide +kernel
theorem dX9_works_11 : decode cX9_works 11 = .ok (.ifCond .eq 27, 3) := by decide +kernel
theorem dX9_works_14 : decode cX9_works 14 = .ok (.aload_n 0, 1) := by decide +kernel
theorem dX9_works_15 : decode cX9_works 15 = .ok (.getfield 13, 3) := by decide +kernel
theorem dX9_works_18 : decode cX9_works 18 = .ok (.iload 4, 2) := by decide +kernel
theorem dX9_works_20 : decode cX9_works 20 = .ok (.iaload, 1) := by decide +kernel
theorem dX9_works_21 : decode cX9_works 21 = .ok (.iconst 2, 1) := by decide +kernel
theorem dX9_works_22 : decode cX9_works 22 = .ok (.if_icmp .ne 12, 3) := by decide +kernel
theorem dX9_works_25 : decode cX9_works 25 = .ok (.aload_n 1, 1) := by decide +kernel
theorem dX9_works_26 : decode cX9_works 26 = .ok (.bipush 20, 2) := by decide +kernel
theorem dX9_works_28 : decode cX9_works 28 = .ok (.iaload, 1) := by decide +kernel
theorem dX9_works_29 : decode cX9_works 29 = .ok (.iconst 2, 1) := by decide +kernel
theorem dX9_works_30 : decode cX9_works 30 = .ok (.irem, 1) := by decide +kernel
theorem dX9_works_31 : decode cX9_works 31 = .ok (.ifCond .ne 7, 3) := by decide +kernel
theorem dX9_works_34 : decode cX9_works 34 = .ok (.iconst 1, 1) := by decide +kernel
theorem dX9_works_35 : decode cX9_works 35 = .ok (.goto 4, 3) := by decide +kernel
theorem dX9_works_38 : decode cX9_works 38 = .ok (.iconst 0, 1) := by decide +kernel
theorem dX9_works_39 : decode cX9_works 39 = .ok (.ireturn, 1) := by decide +kernel
theorem dX9_isChild_0 : decode cX9_isChild 0 = .ok (.aload_n 0, 1) := by decide +kernel
theorem dX9_isChild_1 : decode cX9_isChild 1 = .ok (.getfield 13, 3) := by decide +kernel
theorem dX9_isChild_4 : decode cX9_isChild 4 = .ok (.aload_n 1, 1) := by decide +kernel
theorem dX9_isChild_5 : decode cX9_isChild 5 = .ok (.iload_n 2, 1) := by decide +kernel
theorem dX9_isChild_6 : decode cX9_isChild 6 = .ok (.iaload, 1) := by decide +kernel
theorem dX9_isChild_7 : decode cX9_isChild 7 = .ok (.iaload, 1) := by decide +kernel
theorem dX9_isChild_8 : decode cX9_isChild 8 = .ok (.iconst 3, 1) := by decide +kernel
theorem dX9_isChild_9 : decode cX9_isChild 9 = .ok (.if_icmp .ne 7, 3) := by decide +kernel
theorem dX9_isChild_12 : decode cX9_isChild 12 = .ok (.iconst 1, 1) := by decide +kernel
theorem dX9_isChild_13 : decode cX9_isChild 13 = .ok (.goto 4, 3) := by decide +kernel
theorem dX9_isChild_16 : decode cX9_isChild 16 = .ok (.iconst 0, 1) := by decide +kernel
theorem dX9_isChild_17 : decode cX9_isChild 17 = .ok (.ireturn, 1) := by decide +kernel
theorem dX9_sendBack_0 : decode cX9_sendBack 0 = .ok (.aload_n 1, 1) := by decide +kernel
theorem dX9_sendBack_1 : decode cX9_sendBack 1 = .ok (.bipush 9, 2) := by decide +kernel
theorem dX9_sendBack_3 : decode cX9_sendBack 3 = .ok (.iload_n 2, 1) := by decide +kernel
theorem dX9_sendBack_4 : decode cX9_sendBack 4 = .ok (.iadd, 1) := by decide +kernel
theorem dX9_sendBack_5 : decode cX9_sendBack 5 = .ok (.iconst 0, 1) := by decide +kernel
theorem dX9_sendBack_6 : decode cX9_sendBack 6 = .ok (.iastore, 1) := by decide +kernel
theorem dX9_sendBack_7 : decode cX9_sendBack 7 = .ok (.aload_n 1, 1) := by decide +kernel
theorem dX9_sendBack_8 : decode cX9_sendBack 8 = .ok (.bipush 13, 2) := by decide +kernel
theorem dX9_sendBack_10 : decode cX9_sendBack 10 = .ok (.iload_n 2, 1) := by decide +kernel
theorem dX9_sendBack_11 : decode cX9_sendBack 11 = .ok (.iadd, 1) := by decide +kernel
theorem dX9_sendBack_12 : decode cX9_sendBack 12 = .ok (.aload_n 0, 1) := by decide +kernel
theorem dX9_sendBack_13 : decode cX9_sendBack 13 = .ok (.getfield 123, 3) := by decide +kernel
theorem dX9_sendBack_16 : decode cX9_sendBack 16 = .ok (.iastore, 1) := by decide +kernel
theorem dX9_sendBack_17 : decode cX9_sendBack 17 = .ok (.aload_n 1, 1) := by decide +kernel
theorem dX9_sendBack_18 : decode cX9_sendBack 18 = .ok (.iconst 5, 1) := by decide +kernel
theorem dX9_sendBack_19 : decode cX9_sendBack 19 = .ok (.iload_n 2, 1) := by decide +kernel
theorem dX9_sendBack_20 : decode cX9_sendBack 20 = .ok (.iadd, 1) := by decide +kernel
theorem dX9_sendBack_21 : decode cX9_sendBack 21 = .ok (.aload_n 0, 1) := by decide +kernel
theorem dX9_sendBack_22 : decode cX9_sendBack 22 = .ok (.getfield 123, 3) := by decide +kernel
theorem dX9_sendBack_25 : decode cX9_sendBack 25 = .ok (.ifCond .ne 8, 3) := by decide +kernel
theorem dX9_sendBack_28 : decode cX9_sendBack 28 = .ok (.bipush 8, 2) := by decide +kernel
theorem dX9_sendBack_30 : decode cX9_sendBack 30 = .ok (.goto 5, 3) := by decide +kernel
theorem dX9_sendBack_33 : decode cX9_sendBack 33 = .ok (.bipush 9, 2) := by decide +kernel
theorem dX9_sendBack_35 : decode cX9_sendBack 35 = .ok (.iastore, 1) := by decide +kernel
theorem dX9_sendBack_36 : decode cX9_sendBack 36 = .ok (.return_, 1) := by decide +kernel
theorem dX9_throwsIt_0 : decode cX9_throwsIt 0 = .ok (.aload_n 0, 1) := by decide +kernel
theorem dX9_throwsIt_1 : decode cX9_throwsIt 1 = .ok (.getfield 63, 3) := by decide +kernel
theorem dX9_throwsIt_4 : decode cX9_throwsIt 4 = .ok (.ifCond .ne 8, 3) := by decide +kernel
theorem dX9_throwsIt_7 : decode cX9_throwsIt 7 = .ok (.bipush (-9), 2) := by decide +kernel
theorem dX9_throwsIt_9 : decode cX9_throwsIt 9 = .ok (.goto 14, 3) := by decide +kernel
theorem dX9_throwsIt_12 : decode cX9_throwsIt 12 = .ok (.aload_n 0, 1) := by decide +kernel
theorem dX9_throwsIt_13 : decode cX9_throwsIt 13 = .ok (.aload_n 1, 1) := by decide +kernel
theorem dX9_throwsIt_14 : decode cX9_throwsIt 14 = .ok (.aload_n 0, 1) := by decide +kernel
theorem dX9_throwsIt_15 : decode cX9_throwsIt 15 = .ok (.getfield 63, 3) := by decide +kernel
theorem dX9_throwsIt_18 : decode cX9_throwsIt 18 = .ok (.iconst 1, 1) := by decide +kernel
theorem dX9_throwsIt_19 : decode cX9_throwsIt 19 = .ok (.isub, 1) := by decide +kernel
theorem dX9_throwsIt_20 : decode cX9_throwsIt 20 = .ok (.invokevirtual 133, 3) := by decide +kernel
theorem dX9_throwsIt_23 : decode cX9_throwsIt 23 = .ok (.istore_n 3, 1) := by decide +kernel
theorem dX9_throwsIt_24 : decode cX9_throwsIt 24 = .ok (.iload_n 3, 1) := by decide +kernel
theorem dX9_throwsIt_25 : decode cX9_throwsIt 25 = .ok (.bipush (-9), 2) := by decide +kernel
theorem dX9_throwsIt_27 : decode cX9_throwsIt 27 = .ok (.if_icmp .eq 18, 3) := by decide +kernel
theorem dX9_throwsIt_30 : decode cX9_throwsIt 30 = .ok (.aload_n 0, 1) := by decide +kernel
theorem dX9_throwsIt_31 : decode cX9_throwsIt 31 = .ok (.aload_n 1, 1) := by decide +kernel
theorem dX9_throwsIt_32 : decode cX9_throwsIt 32 = .ok (.aload_n 0, 1) := by decide +kernel
theorem dX9_throwsIt_33 : decode cX9_throwsIt 33 = .ok (.getfield 63, 3) := by decide +kernel
theorem dX9_throwsIt_36 : decode cX9_throwsIt 36 = .ok (.iconst 1, 1) := by decide +kernel
theorem dX9_throwsIt_37 : decode cX9_throwsIt 37 = .ok (.isub, 1) := by decide +kernel
theorem dX9_throwsIt_38 : decode cX9_throwsIt 38 = .ok (.iload_n 2, 1) := by decide +kernel
theorem dX9_throwsIt_39 : decode cX9_throwsIt 39 = .ok (.invokevirtual 137, 3) := by decide +kernel
theorem dX9_throwsIt_42 : decode cX9_throwsIt 42 = .ok (.ifCond .ne 6, 3) := by decide +kernel
theorem dX9_throwsIt_45 : decode cX9_throwsIt 45 = .ok (.bipush (-9), 2) := by decide +kernel
theorem dX9_throwsIt_47 : decode cX9_throwsIt 47 = .ok (.ireturn, 1) := by decide +kernel
theorem dX9_throwsIt_48 : decode cX9_throwsIt 48 = .ok (.aload_n 1, 1) := by decide +kernel
theorem dX9_throwsIt_49 : decode cX9_throwsIt 49 = .ok (.bipush 9, 2) := by decide +kernel
theorem dX9_throwsIt_51 : decode cX9_throwsIt 51 = .ok (.iload_n 3, 1) := by decide +kernel
theorem dX9_throwsIt_52 : decode cX9_throwsIt 52 = .ok (.iadd, 1) := by decide +kernel
theorem dX9_throwsIt_53 : decode cX9_throwsIt 53 = .ok (.iaload, 1) := by decide +kernel
theorem dX9_throwsIt_54 : decode cX9_throwsIt 54 = .ok (.istore 4, 2) := by decide +kernel
theorem dX9_throwsIt_56 : decode cX9_throwsIt 56 = .ok (.aload_n 1, 1) := by decide +kernel
theorem dX9_throwsIt_57 : decode cX9_throwsIt 57 = .ok (.bipush 18, 2) := by decide +kernel
theorem dX9_throwsIt_59 : decode cX9_throwsIt 59 = .ok (.aload_n 1, 1) := by decide +kernel
theorem dX9_throwsIt_60 : decode cX9_throwsIt 60 = .ok (.bipush 18, 2) := by decide +kernel
theorem dX9_throwsIt_62 : decode cX9_throwsIt 62 = .ok (.iaload, 1) := by decide +kernel
theorem dX9_throwsIt_63 : decode cX9_throwsIt 63 = .ok (.iload 4, 2) := by decide +kernel
theorem dX9_throwsIt_65 : decode cX9_throwsIt 65 = .ok (.if_icmp .le 13, 3) := by decide +kernel
theorem dX9_throwsIt_68 : decode cX9_throwsIt 68 = .ok (.aload_n 1, 1) := by decide +kernel
theorem dX9_throwsIt_69 : decode cX9_throwsIt 69 = .ok (.bipush 18, 2) := by decide +kernel
theorem dX9_throwsIt_71 : decode cX9_throwsIt 71 = .ok (.iaload, 1) := by decide +kernel
theorem dX9_throwsIt_72 : decode cX9_throwsIt 72 = .ok (.iload 4, 2) := by decide +kernel
theorem dX9_throwsIt_74 : decode cX9_throwsIt 74 = .ok (.isub, 1) := by decide +kernel
theorem dX9_throwsIt_75 : decode cX9_throwsIt 75 = .ok (.goto 4, 3) := by decide +kernel
theorem dX9_throwsIt_78 : decode cX9_throwsIt 78 = .ok (.iconst 0, 1) := by decide +kernel
theorem dX9_throwsIt_79 : decode cX9_throwsIt 79 = .ok (.iastore, 1) := by decide +kernel
theorem dX9_throwsIt_80 : decode cX9_throwsIt 80 = .ok (.aload_n 1, 1) := by decide +kernel
theorem dX9_throwsIt_81 : decode cX9_throwsIt 81 = .ok (.bipush 19, 2) := by decide +kernel
theorem dX9_throwsIt_83 : decode cX9_throwsIt 83 = .ok (.dup2, 1) := by decide +kernel
theorem dX9_throwsIt_84 : decode cX9_throwsIt 84 = .ok (.iaload, 1) := by decide +kernel
theorem dX9_throwsIt_85 : decode cX9_throwsIt 85 = .ok (.iload 4, 2) := by decide +kernel
theorem dX9_throwsIt_87 : decode cX9_throwsIt 87 = .ok (.iadd, 1) := by decide +kernel
theorem dX9_throwsIt_88 : decode cX9_throwsIt 88 = .ok (.iastore, 1) := by decide +kernel
theorem dX9_throwsIt_89 : decode cX9_throwsIt 89 = .ok (.aload_n 1, 1) := by decide +kernel
theorem dX9_throwsIt_90 : decode cX9_throwsIt 90 = .ok (.iconst 5, 1) := by decide +kernel
theorem dX9_throwsIt_91 : decode cX9_throwsIt 91 = .ok (.iload_n 3, 1) := by decide +kernel
theorem dX9_throwsIt_92 : decode cX9_throwsIt 92 = .ok (.iadd, 1) := by decide +kernel
theorem dX9_throwsIt_93 : decode cX9_throwsIt 93 = .ok (.bipush 7, 2) := by decide +kernel
theorem dX9_throwsIt_95 : decode cX9_throwsIt 95 = .ok (.iastore, 1) := by decide +kernel
theorem dX9_throwsIt_96 : decode cX9_throwsIt 96 = .ok (.iload_n 3, 1) := by decide +kernel
theorem dX9_throwsIt_97 : decode cX9_throwsIt 97 = .ok (.ireturn, 1) := by decide +kernel
theorem dX9_handOn_0 : decode cX9_handOn 0 = .ok (.aload_n 0, 1) := by decide +kernel
theorem dX9_handOn_1 : decode cX9_handOn 1 = .ok (.aload_n 1, 1) := by decide +kernel
theorem dX9_handOn_2 : decode cX9_handOn 2 = .ok (.iload_n 2, 1) := by decide +kernel
theorem dX9_handOn_3 : decode cX9_handOn 3 = .ok (.invokevirtual 133, 3) := by decide +kernel
theorem dX9_handOn_6 : decode cX9_handOn 6 = .ok (.istore 4, 2) := by decide +kernel
theorem dX9_handOn_8 : decode cX9_handOn 8 = .ok (.iload 4, 2) := by decide +kernel
theorem dX9_handOn_10 : decode cX9_handOn 10 = .ok (.bipush (-9), 2) := by decide +kernel
theorem dX9_handOn_12 : decode cX9_handOn 12 = .ok (.if_icmp .eq 26, 3) := by decide +kernel
theorem dX9_handOn_15 : decode cX9_handOn 15 = .ok (.aload_n 0, 1) := by decide +kernel
theorem dX9_handOn_16 : decode cX9_handOn 16 = .ok (.aload_n 1, 1) := by decide +kernel
theorem dX9_handOn_17 : decode cX9_handOn 17 = .ok (.iload_n 2, 1) := by decide +kernel
theorem dX9_handOn_18 : decode cX9_handOn 18 = .ok (.iconst 1, 1) := by decide +kernel
theorem dX9_handOn_19 : decode cX9_handOn 19 = .ok (.iadd, 1) := by decide +kernel
theorem dX9_handOn_20 : decode cX9_handOn 20 = .ok (.invokevirtual 133, 3) := by decide +kernel
theorem dX9_handOn_23 : decode cX9_handOn 23 = .ok (.bipush (-9), 2) := by decide +kernel
theorem dX9_handOn_25 : decode cX9_handOn 25 = .ok (.if_icmp .ne 13, 3) := by decide +kernel
theorem dX9_handOn_28 : decode cX9_handOn 28 = .ok (.aload_n 0, 1) := by decide +kernel
theorem dX9_handOn_29 : decode cX9_handOn 29 = .ok (.aload_n 1, 1) := by decide +kernel
theorem dX9_handOn_30 : decode cX9_handOn 30 = .ok (.iload_n 2, 1) := by decide +kernel
theorem dX9_handOn_31 : decode cX9_handOn 31 = .ok (.iload_n 3, 1) := by decide +kernel
theorem dX9_handOn_32 : decode cX9_handOn 32 = .ok (.invokevirtual 137, 3) := by decide +kernel
theorem dX9_handOn_35 : decode cX9_handOn 35 = .ok (.ifCond .ne 4, 3) := by decide +kernel
theorem dX9_handOn_38 : decode cX9_handOn 38 = .ok (.return_, 1) := by decide +kernel
theorem dX9_handOn_39 : decode cX9_handOn 39 = .ok (.aload_n 1, 1) := by decide +kernel
theorem dX9_handOn_40 : decode cX9_handOn 40 = .ok (.bipush 9, 2) := by decide +kernel
theorem dX9_handOn_42 : decode cX9_handOn 42 = .ok (.iload 4, 2) := by decide +kernel
theorem dX9_handOn_44 : decode cX9_handOn 44 = .ok (.iadd, 1) := by decide +kernel
theorem dX9_handOn_45 : decode cX9_handOn 45 = .ok (.iaload, 1) := by decide +kernel
theorem dX9_handOn_46 : decode cX9_handOn 46 = .ok (.istore 5, 2) := by decide +kernel
theorem dX9_handOn_48 : decode cX9_handOn 48 = .ok (.iload 5, 2) := by decide +kernel
theorem dX9_handOn_50 : decode cX9_handOn 50 = .ok (.aload_n 0, 1) := by decide +kernel
theorem dX9_handOn_51 : decode cX9_handOn 51 = .ok (.getfield 13, 3) := by decide +kernel
theorem dX9_handOn_54 : decode cX9_handOn 54 = .ok (.aload_n 1, 1) := by decide +kernel
theorem dX9_handOn_55 : decode cX9_handOn 55 = .ok (.iload_n 2, 1) := by decide +kernel
theorem dX9_handOn_56 : decode cX9_handOn 56 = .ok (.iaload, 1) := by decide +kernel
theorem dX9_handOn_57 : decode cX9_handOn 57 = .ok (.iaload, 1) := by decide +kernel
theorem dX9_handOn_58 : decode cX9_handOn 58 = .ok (.iconst 1, 1) := by decide +kernel
theorem dX9_handOn_59 : decode cX9_handOn 59 = .ok (.if_icmp .ne 12, 3) := by decide +kernel
theorem dX9_handOn_62 : decode cX9_handOn 62 = .ok (.iload 5, 2) := by decide +kernel
theorem dX9_handOn_64 : decode cX9_handOn 64 = .ok (.ifCond .le 7, 3) := by decide +kernel
theorem dX9_handOn_67 : decode cX9_handOn 67 = .ok (.iconst 1, 1) := by decide +kernel
theorem dX9_handOn_68 : decode cX9_handOn 68 = .ok (.goto 4, 3) := by decide +kernel
theorem dX9_handOn_71 : decode cX9_handOn 71 = .ok (.iconst 0, 1) := by decide +kernel
theorem dX9_handOn_72 : decode cX9_handOn 72 = .ok (.isub, 1) := by decide +kernel
theorem dX9_handOn_73 : decode cX9_handOn 73 = .ok (.istore 5, 2) := by decide +kernel
theorem dX9_handOn_75 : decode cX9_handOn 75 = .ok (.aload_n 1, 1) := by decide +kernel
theorem dX9_handOn_76 : decode cX9_handOn 76 = .ok (.bipush 9, 2) := by decide +kernel
theorem dX9_handOn_78 : decode cX9_handOn 78 = .ok (.iload 4, 2) := by decide +kernel
theorem dX9_handOn_80 : decode cX9_handOn 80 = .ok (.iadd, 1) := by decide +kernel
theorem dX9_handOn_81 : decode cX9_handOn 81 = .ok (.aload_n 0, 1) := by decide +kernel
theorem dX9_handOn_82 : decode cX9_handOn 82 = .ok (.aload_n 1, 1) := by decide +kernel
theorem dX9_handOn_83 : decode cX9_handOn 83 = .ok (.iload_n 2, 1) := by decide +kernel
theorem dX9_handOn_84 : decode cX9_handOn 84 = .ok (.iconst 1, 1) := by decide +kernel
theorem dX9_handOn_85 : decode cX9_handOn 85 = .ok (.iadd, 1) := by decide +kernel
theorem dX9_handOn_86 : decode cX9_handOn 86 = .ok (.invokevirtual 141, 3) := by decide +kernel
theorem dX9_handOn_89 : decode cX9_handOn 89 = .ok (.ifCond .eq 13, 3) := by decide +kernel
theorem dX9_handOn_92 : decode cX9_handOn 92 = .ok (.iload 5, 2) := by decide +kernel
theorem dX9_handOn_94 : decode cX9_handOn 94 = .ok (.iconst 2, 1) := by decide +kernel
theorem dX9_handOn_95 : decode cX9_handOn 95 = .ok (.if_icmp .le 7, 3) := by decide +kernel
theorem dX9_handOn_98 : decode cX9_handOn 98 = .ok (.iconst 2, 1) := by decide +kernel
theorem dX9_handOn_99 : decode cX9_handOn 99 = .ok (.goto 5, 3) := by decide +kernel
theorem dX9_handOn_102 : decode cX9_handOn 102 = .ok (.iload 5, 2) := by decide +kernel
theorem dX9_handOn_104 : decode cX9_handOn 104 = .ok (.iastore, 1) := by decide +kernel
theorem dX9_handOn_105 : decode cX9_handOn 105 = .ok (.aload_n 1, 1) := by decide +kernel
theorem dX9_handOn_106 : decode cX9_handOn 106 = .ok (.iconst 5, 1) := by decide +kernel
theorem dX9_handOn_107 : decode cX9_handOn 107 = .ok (.iload 4, 2) := by decide +kernel
theorem dX9_handOn_109 : decode cX9_handOn 109 = .ok (.iadd, 1) := by decide +kernel
theorem dX9_handOn_110 : decode cX9_handOn 110 = .ok (.iload_n 2, 1) := by decide +kernel
theorem dX9_handOn_111 : decode cX9_handOn 111 = .ok (.iconst 1, 1) := by decide +kernel
theorem dX9_handOn_112 : decode cX9_handOn 112 = .ok (.iadd, 1) := by decide +kernel
theorem dX9_handOn_113 : decode cX9_handOn 113 = .ok (.iastore, 1) := by decide +kernel
theorem dX9_handOn_114 : decode cX9_handOn 114 = .ok (.return_, 1) := by decide +kernel
theorem dX9_fill_0 : decode cX9_fill 0 = .ok (.aload_n 0, 1) := by decide +kernel
theorem dX9_fill_1 : decode cX9_fill 1 = .ok (.aload_n 1, 1) := by decide +kernel
theorem dX9_fill_2 : decode cX9_fill 2 = .ok (.bipush 8, 2) := by decide +kernel
theorem dX9_fill_4 : decode cX9_fill 4 = .ok (.invokevirtual 133, 3) := by decide +kernel
theorem dX9_fill_7 : decode cX9_fill 7 = .ok (.istore_n 2, 1) := by decide +kernel
theorem dX9_fill_8 : decode cX9_fill 8 = .ok (.aload_n 0, 1) := by decide +kernel
theorem dX9_fill_9 : decode cX9_fill 9 = .ok (.getfield 70, 3) := by decide +kernel
theorem dX9_fill_12 : decode cX9_fill 12 = .ok (.iconst 1, 1) := by decide +kernel
theorem dX9_fill_13 : decode cX9_fill 13 = .ok (.isub, 1) := by decide +kernel
theorem dX9_fill_14 : decode cX9_fill 14 = .ok (.istore_n 3, 1) := by decide +kernel
theorem dX9_fill_15 : decode cX9_fill 15 = .ok (.iload_n 3, 1) := by decide +kernel
theorem dX9_fill_16 : decode cX9_fill 16 = .ok (.ifCond .lt 25, 3) := by decide +kernel
theorem dX9_fill_19 : decode cX9_fill 19 = .ok (.aload_n 1, 1) := by decide +kernel
theorem dX9_fill_20 : decode cX9_fill 20 = .ok (.iconst 5, 1) := by decide +kernel
theorem dX9_fill_21 : decode cX9_fill 21 = .ok (.iload_n 3, 1) := by decide +kernel
theorem dX9_fill_22 : decode cX9_fill 22 = .ok (.iadd, 1) := by decide +kernel
theorem dX9_fill_23 : decode cX9_fill 23 = .ok (.iaload, 1) := by decide +kernel
theorem dX9_fill_24 : decode cX9_fill 24 = .ok (.bipush 8, 2) := by decide +kernel
theorem dX9_fill_26 : decode cX9_fill 26 = .ok (.if_icmp .ne 7, 3) := by decide +kernel
theorem dX9_fill_29 : decode cX9_fill 29 = .ok (.iload_n 3, 1) := by decide +kernel
theorem dX9_fill_30 : decode cX9_fill 30 = .ok (.goto 4, 3) := by decide +kernel
theorem dX9_fill_33 : decode cX9_fill 33 = .ok (.iload_n 2, 1) := by decide +kernel
theorem dX9_fill_34 : decode cX9_fill 34 = .ok (.istore_n 2, 1) := by decide +kernel
theorem dX9_fill_35 : decode cX9_fill 35 = .ok (.iinc 3 (-1), 3) := by decide +kernel
theorem dX9_fill_38 : decode cX9_fill 38 = .ok (.goto (-23), 3) := by decide +kernel
theorem dX9_fill_41 : decode cX9_fill 41 = .ok (.aload_n 0, 1) := by decide +kernel
theorem dX9_fill_42 : decode cX9_fill 42 = .ok (.getfield 63, 3) := by decide +kernel
theorem dX9_fill_45 : decode cX9_fill 45 = .ok (.ifCond .eq 20, 3) := by decide +kernel
theorem dX9_fill_48 : decode cX9_fill 48 = .ok (.iload_n 2, 1) := by decide +kernel
theorem dX9_fill_49 : decode cX9_fill 49 = .ok (.bipush (-9), 2) := by decide +kernel
theorem dX9_fill_51 : decode cX9_fill 51 = .ok (.if_icmp .eq 14, 3) := by decide +kernel
theorem dX9_fill_54 : decode cX9_fill 54 = .ok (.aload_n 0, 1) := by decide +kernel
theorem dX9_fill_55 : decode cX9_fill 55 = .ok (.aload_n 1, 1) := by decide +kernel
theorem dX9_fill_56 : decode cX9_fill 56 = .ok (.iconst 0, 1) := by decide +kernel
theorem dX9_fill_57 : decode cX9_fill 57 = .ok (.invokevirtual 133, 3) := by decide +kernel
theorem dX9_fill_60 : decode cX9_fill 60 = .ok (.bipush (-9), 2) := by decide +kernel
theorem dX9_fill_62 : decode cX9_fill 62 = .ok (.if_icmp .eq 4, 3) := by decide +kernel
theorem dX9_fill_65 : decode cX9_fill 65 = .ok (.return_, 1) := by decide +kernel
theorem dX9_fill_66 : decode cX9_fill 66 = .ok (.aload_n 1, 1) := by decide +kernel
theorem dX9_fill_67 : decode cX9_fill 67 = .ok (.iconst 5, 1) := by decide +kernel
theorem dX9_fill_68 : decode cX9_fill 68 = .ok (.iload_n 2, 1) := by decide +kernel
theorem dX9_fill_69 : decode cX9_fill 69 = .ok (.iadd, 1) := by decide +kernel
theorem dX9_fill_70 : decode cX9_fill 70 = .ok (.iconst 0, 1) := by decide +kernel
theorem dX9_fill_71 : decode cX9_fill 71 = .ok (.iastore, 1) := by decide +kernel
theorem dX9_fill_72 : decode cX9_fill 72 = .ok (.aload_n 1, 1) := by decide +kernel
theorem dX9_fill_73 : decode cX9_fill 73 = .ok (.bipush 9, 2) := by decide +kernel
theorem dX9_fill_75 : decode cX9_fill 75 = .ok (.iload_n 2, 1) := by decide +kernel
theorem dX9_fill_76 : decode cX9_fill 76 = .ok (.iadd, 1) := by decide +kernel
theorem dX9_fill_77 : decode cX9_fill 77 = .ok (.aload_n 0, 1) := by decide +kernel
theorem dX9_fill_78 : decode cX9_fill 78 = .ok (.aload_n 1, 1) := by decide +kernel
theorem dX9_fill_79 : decode cX9_fill 79 = .ok (.iconst 0, 1) := by decide +kernel
theorem dX9_fill_80 : decode cX9_fill 80 = .ok (.invokevirtual 141, 3) := by decide +kernel
theorem dX9_fill_83 : decode cX9_fill 83 = .ok (.ifCond .eq 17, 3) := by decide +kernel
theorem dX9_fill_86 : decode cX9_fill 86 = .ok (.aload_n 0, 1) := by decide +kernel
theorem dX9_fill_87 : decode cX9_fill 87 = .ok (.getfield 16, 3) := by decide +kernel
theorem dX9_fill_90 : decode cX9_fill 90 = .ok (.iload_n 2, 1) := by decide +kernel
theorem dX9_fill_91 : decode cX9_fill 91 = .ok (.iaload, 1) := by decide +kernel
theorem dX9_fill_92 : decode cX9_fill 92 = .ok (.iconst 2, 1) := by decide +kernel
theorem dX9_fill_93 : decode cX9_fill 93 = .ok (.if_icmp .le 7, 3) := by decide +kernel
theorem dX9_fill_96 : decode cX9_fill 96 = .ok (.iconst 2, 1) := by decide +kernel
theorem dX9_fill_97 : decode cX9_fill 97 = .ok (.goto 9, 3) := by decide +kernel
theorem dX9_fill_100 : decode cX9_fill 100 = .ok (.aload_n 0, 1) := by decide +kernel
theorem dX9_fill_101 : decode cX9_fill 101 = .ok (.getfield 16, 3) := by decide +kernel
theorem dX9_fill_104 : decode cX9_fill 104 = .ok (.iload_n 2, 1) := by decide +kernel
theorem dX9_fill_105 : decode cX9_fill 105 = .ok (.iaload, 1) := by decide +kernel
theorem dX9_fill_106 : decode cX9_fill 106 = .ok (.iastore, 1) := by decide +kernel
theorem dX9_fill_107 : decode cX9_fill 107 = .ok (.return_, 1) := by decide +kernel
theorem dX9_leak_0 : decode cX9_leak 0 = .ok (.iconst 0, 1) := by decide +kernel
theorem dX9_leak_1 : decode cX9_leak 1 = .ok (.istore_n 2, 1) := by decide +kernel
theorem dX9_leak_2 : decode cX9_leak 2 = .ok (.iload_n 2, 1) := by decide +kernel
theorem dX9_leak_3 : decode cX9_leak 3 = .ok (.aload_n 0, 1) := by decide +kernel
theorem dX9_leak_4 : decode cX9_leak 4 = .ok (.getfield 70, 3) := by decide +kernel
theorem dX9_leak_7 : decode cX9_leak 7 = .ok (.if_icmp .ge 52, 3) := by decide +kernel
theorem dX9_leak_10 : decode cX9_leak 10 = .ok (.aload_n 1, 1) := by decide +kernel
theorem dX9_leak_11 : decode cX9_leak 11 = .ok (.bipush 9, 2) := by decide +kernel
theorem dX9_leak_13 : decode cX9_leak 13 = .ok (.iload_n 2, 1) := by decide +kernel
theorem dX9_leak_14 : decode cX9_leak 14 = .ok (.iadd, 1) := by decide +kernel
theorem dX9_leak_15 : decode cX9_leak 15 = .ok (.dup2, 1) := by decide +kernel
theorem dX9_leak_16 : decode cX9_leak 16 = .ok (.iaload, 1) := by decide +kernel
theorem dX9_leak_17 : decode cX9_leak 17 = .ok (.aload_n 1, 1) := by decide +kernel
theorem dX9_leak_18 : decode cX9_leak 18 = .ok (.iconst 5, 1) := by decide +kernel
theorem dX9_leak_19 : decode cX9_leak 19 = .ok (.iload_n 2, 1) := by decide +kernel
theorem dX9_leak_20 : decode cX9_leak 20 = .ok (.iadd, 1) := by decide +kernel
theorem dX9_leak_21 : decode cX9_leak 21 = .ok (.iaload, 1) := by decide +kernel
theorem dX9_leak_22 : decode cX9_leak 22 = .ok (.iconst 5, 1) := by decide +kernel
theorem dX9_leak_23 : decode cX9_leak 23 = .ok (.if_icmp .ge 27, 3) := by decide +kernel
theorem dX9_leak_26 : decode cX9_leak 26 = .ok (.aload_n 1, 1) := by decide +kernel
theorem dX9_leak_27 : decode cX9_leak 27 = .ok (.bipush 17, 2) := by decide +kernel
theorem dX9_leak_29 : decode cX9_leak 29 = .ok (.iaload, 1) := by decide +kernel
theorem dX9_leak_30 : decode cX9_leak 30 = .ok (.iload_n 2, 1) := by decide +kernel
theorem dX9_leak_31 : decode cX9_leak 31 = .ok (.invokestatic 129, 3) := by decide +kernel
theorem dX9_leak_34 : decode cX9_leak 34 = .ok (.ifCond .eq 16, 3) := by decide +kernel
theorem dX9_leak_37 : decode cX9_leak 37 = .ok (.aload_n 1, 1) := by decide +kernel
theorem dX9_leak_38 : decode cX9_leak 38 = .ok (.bipush 9, 2) := by decide +kernel
theorem dX9_leak_40 : decode cX9_leak 40 = .ok (.iload_n 2, 1) := by decide +kernel
theorem dX9_leak_41 : decode cX9_leak 41 = .ok (.iadd, 1) := by decide +kernel
theorem dX9_leak_42 : decode cX9_leak 42 = .ok (.iaload, 1) := by decide +kernel
theorem dX9_leak_43 : decode cX9_leak 43 = .ok (.ifCond .le 7, 3) := by decide +kernel
theorem dX9_leak_46 : decode cX9_leak 46 = .ok (.iconst 1, 1) := by decide +kernel
theorem dX9_leak_47 : decode cX9_leak 47 = .ok (.goto 4, 3) := by decide +kernel
theorem dX9_leak_50 : decode cX9_leak 50 = .ok (.iconst 0, 1) := by decide +kernel
theorem dX9_leak_51 : decode cX9_leak 51 = .ok (.isub, 1) := by decide +kernel
theorem dX9_leak_52 : decode cX9_leak 52 = .ok (.iastore, 1) := by decide +kernel
theorem dX9_leak_53 : decode cX9_leak 53 = .ok (.iinc 2 1, 3) := by decide +kernel
theorem dX9_leak_56 : decode cX9_leak 56 = .ok (.goto (-54), 3) := by decide +kernel
theorem dX9_leak_59 : decode cX9_leak 59 = .ok (.return_, 1) := by decide +kernel
theorem dX9_comeBack_0 : decode cX9_comeBack 0 = .ok (.iconst 0, 1) := by decide +kernel
theorem dX9_comeBack_1 : decode cX9_comeBack 1 = .ok (.istore_n 2, 1) := by decide +kernel
theorem dX9_comeBack_2 : decode cX9_comeBack 2 = .ok (.iload_n 2, 1) := by decide +kernel
theorem dX9_comeBack_3 : decode cX9_comeBack 3 = .ok (.aload_n 0, 1) := by decide +kernel
theorem dX9_comeBack_4 : decode cX9_comeBack 4 = .ok (.getfield 70, 3) := by decide +kernel
theorem dX9_comeBack_7 : decode cX9_comeBack 7 = .ok (.if_icmp .ge 50, 3) := by decide +kernel
theorem dX9_comeBack_10 : decode cX9_comeBack 10 = .ok (.aload_n 1, 1) := by decide +kernel
theorem dX9_comeBack_11 : decode cX9_comeBack 11 = .ok (.iconst 5, 1) := by decide +kernel
theorem dX9_comeBack_12 : decode cX9_comeBack 12 = .ok (.iload_n 2, 1) := by decide +kernel
theorem dX9_comeBack_13 : decode cX9_comeBack 13 = .ok (.iadd, 1) := by decide +kernel
theorem dX9_comeBack_14 : decode cX9_comeBack 14 = .ok (.iaload, 1) := by decide +kernel
theorem dX9_comeBack_15 : decode cX9_comeBack 15 = .ok (.bipush 9, 2) := by decide +kernel
theorem dX9_comeBack_17 : decode cX9_comeBack 17 = .ok (.if_icmp .ne 34, 3) := by decide +kernel
theorem dX9_comeBack_20 : decode cX9_comeBack 20 = .ok (.aload_n 1, 1) := by decide +kernel
theorem dX9_comeBack_21 : decode cX9_comeBack 21 = .ok (.bipush 13, 2) := by decide +kernel
theorem dX9_comeBack_23 : decode cX9_comeBack 23 = .ok (.iload_n 2, 1) := by decide +kernel
theorem dX9_comeBack_24 : decode cX9_comeBack 24 = .ok (.iadd, 1) := by decide +kernel
theorem dX9_comeBack_25 : decode cX9_comeBack 25 = .ok (.dup2, 1) := by decide +kernel
end
section
theorem dX9_comeBack_26 : decode cX9_comeBack 26 = .ok (.iaload, 1) := by decide +kernel
theorem dX9_comeBack_27 : decode cX9_comeBack 27 = .ok (.iconst 1, 1) := by decide +kernel
theorem dX9_comeBack_28 : decode cX9_comeBack 28 = .ok (.isub, 1) := by decide +kernel
theorem dX9_comeBack_29 : decode cX9_comeBack 29 = .ok (.iastore, 1) := by decide +kernel
theorem dX9_comeBack_30 : decode cX9_comeBack 30 = .ok (.aload_n 1, 1) := by decide +kernel
theorem dX9_comeBack_31 : decode cX9_comeBack 31 = .ok (.iconst 5, 1) := by decide +kernel
theorem dX9_comeBack_32 : decode cX9_comeBack 32 = .ok (.iload_n 2, 1) := by decide +kernel
theorem dX9_comeBack_33 : decode cX9_comeBack 33 = .ok (.iadd, 1) := by decide +kernel
theorem dX9_comeBack_34 : decode cX9_comeBack 34 = .ok (.aload_n 1, 1) := by decide +kernel
theorem dX9_comeBack_35 : decode cX9_comeBack 35 = .ok (.bipush 13, 2) := by decide +kernel
theorem dX9_comeBack_37 : decode cX9_comeBack 37 = .ok (.iload_n 2, 1) := by decide +kernel
theorem dX9_comeBack_38 : decode cX9_comeBack 38 = .ok (.iadd, 1) := by decide +kernel
theorem dX9_comeBack_39 : decode cX9_comeBack 39 = .ok (.iaload, 1) := by decide +kernel
theorem dX9_comeBack_40 : decode cX9_comeBack 40 = .ok (.ifCond .ne 8, 3) := by decide +kernel
theorem dX9_comeBack_43 : decode cX9_comeBack 43 = .ok (.bipush 8, 2) := by decide +kernel
theorem dX9_comeBack_45 : decode cX9_comeBack 45 = .ok (.goto 5, 3) := by decide +kernel
theorem dX9_comeBack_48 : decode cX9_comeBack 48 = .ok (.bipush 9, 2) := by decide +kernel
theorem dX9_comeBack_50 : decode cX9_comeBack 50 = .ok (.iastore, 1) := by decide +kernel
theorem dX9_comeBack_51 : decode cX9_comeBack 51 = .ok (.iinc 2 1, 3) := by decide +kernel
theorem dX9_comeBack_54 : decode cX9_comeBack 54 = .ok (.goto (-52), 3) := by decide +kernel
theorem dX9_comeBack_57 : decode cX9_comeBack 57 = .ok (.return_, 1) := by decide +kernel
theorem dX9_goBeat_0 : decode cX9_goBeat 0 = .ok (.aload_n 1, 1) := by decide +kernel
theorem dX9_goBeat_1 : decode cX9_goBeat 1 = .ok (.bipush 19, 2) := by decide +kernel
theorem dX9_goBeat_3 : decode cX9_goBeat 3 = .ok (.iaload, 1) := by decide +kernel
theorem dX9_goBeat_4 : decode cX9_goBeat 4 = .ok (.istore_n 3, 1) := by decide +kernel
theorem dX9_goBeat_5 : decode cX9_goBeat 5 = .ok (.aload_n 0, 1) := by decide +kernel
theorem dX9_goBeat_6 : decode cX9_goBeat 6 = .ok (.aload_n 1, 1) := by decide +kernel
theorem dX9_goBeat_7 : decode cX9_goBeat 7 = .ok (.iload_n 2, 1) := by decide +kernel
theorem dX9_goBeat_8 : decode cX9_goBeat 8 = .ok (.invokevirtual 145, 3) := by decide +kernel
theorem dX9_goBeat_11 : decode cX9_goBeat 11 = .ok (.istore 4, 2) := by decide +kernel
theorem dX9_goBeat_13 : decode cX9_goBeat 13 = .ok (.aload_n 0, 1) := by decide +kernel
theorem dX9_goBeat_14 : decode cX9_goBeat 14 = .ok (.getfield 63, 3) := by decide +kernel
theorem dX9_goBeat_17 : decode cX9_goBeat 17 = .ok (.iconst 2, 1) := by decide +kernel
theorem dX9_goBeat_18 : decode cX9_goBeat 18 = .ok (.isub, 1) := by decide +kernel
theorem dX9_goBeat_19 : decode cX9_goBeat 19 = .ok (.istore 5, 2) := by decide +kernel
theorem dX9_goBeat_21 : decode cX9_goBeat 21 = .ok (.iload 5, 2) := by decide +kernel
theorem dX9_goBeat_23 : decode cX9_goBeat 23 = .ok (.ifCond .lt 17, 3) := by decide +kernel
theorem dX9_goBeat_26 : decode cX9_goBeat 26 = .ok (.aload_n 0, 1) := by decide +kernel
theorem dX9_goBeat_27 : decode cX9_goBeat 27 = .ok (.aload_n 1, 1) := by decide +kernel
theorem dX9_goBeat_28 : decode cX9_goBeat 28 = .ok (.iload 5, 2) := by decide +kernel
theorem dX9_goBeat_30 : decode cX9_goBeat 30 = .ok (.iload_n 2, 1) := by decide +kernel
theorem dX9_goBeat_31 : decode cX9_goBeat 31 = .ok (.invokevirtual 148, 3) := by decide +kernel
theorem dX9_goBeat_34 : decode cX9_goBeat 34 = .ok (.iinc 5 (-1), 3) := by decide +kernel
theorem dX9_goBeat_37 : decode cX9_goBeat 37 = .ok (.goto (-16), 3) := by decide +kernel
theorem dX9_goBeat_40 : decode cX9_goBeat 40 = .ok (.aload_n 0, 1) := by decide +kernel
theorem dX9_goBeat_41 : decode cX9_goBeat 41 = .ok (.aload_n 1, 1) := by decide +kernel
theorem dX9_goBeat_42 : decode cX9_goBeat 42 = .ok (.invokevirtual 152, 3) := by decide +kernel
theorem dX9_goBeat_45 : decode cX9_goBeat 45 = .ok (.aload_n 0, 1) := by decide +kernel
theorem dX9_goBeat_46 : decode cX9_goBeat 46 = .ok (.aload_n 1, 1) := by decide +kernel
theorem dX9_goBeat_47 : decode cX9_goBeat 47 = .ok (.invokevirtual 156, 3) := by decide +kernel
theorem dX9_goBeat_50 : decode cX9_goBeat 50 = .ok (.aload_n 0, 1) := by decide +kernel
theorem dX9_goBeat_51 : decode cX9_goBeat 51 = .ok (.aload_n 1, 1) := by decide +kernel
theorem dX9_goBeat_52 : decode cX9_goBeat 52 = .ok (.invokevirtual 159, 3) := by decide +kernel
theorem dX9_goBeat_55 : decode cX9_goBeat 55 = .ok (.iload 4, 2) := by decide +kernel
theorem dX9_goBeat_57 : decode cX9_goBeat 57 = .ok (.bipush (-9), 2) := by decide +kernel
theorem dX9_goBeat_59 : decode cX9_goBeat 59 = .ok (.if_icmp .eq 10, 3) := by decide +kernel
theorem dX9_goBeat_62 : decode cX9_goBeat 62 = .ok (.aload_n 0, 1) := by decide +kernel
theorem dX9_goBeat_63 : decode cX9_goBeat 63 = .ok (.aload_n 1, 1) := by decide +kernel
theorem dX9_goBeat_64 : decode cX9_goBeat 64 = .ok (.iload 4, 2) := by decide +kernel
theorem dX9_goBeat_66 : decode cX9_goBeat 66 = .ok (.invokevirtual 162, 3) := by decide +kernel
theorem dX9_goBeat_69 : decode cX9_goBeat 69 = .ok (.aload_n 1, 1) := by decide +kernel
theorem dX9_goBeat_70 : decode cX9_goBeat 70 = .ok (.bipush 18, 2) := by decide +kernel
theorem dX9_goBeat_72 : decode cX9_goBeat 72 = .ok (.iaload, 1) := by decide +kernel
theorem dX9_goBeat_73 : decode cX9_goBeat 73 = .ok (.ifCond .ne 7, 3) := by decide +kernel
theorem dX9_goBeat_76 : decode cX9_goBeat 76 = .ok (.iconst 0, 1) := by decide +kernel
theorem dX9_goBeat_77 : decode cX9_goBeat 77 = .ok (.goto 12, 3) := by decide +kernel
theorem dX9_goBeat_80 : decode cX9_goBeat 80 = .ok (.aload_n 1, 1) := by decide +kernel
theorem dX9_goBeat_81 : decode cX9_goBeat 81 = .ok (.bipush 18, 2) := by decide +kernel
theorem dX9_goBeat_83 : decode cX9_goBeat 83 = .ok (.iaload, 1) := by decide +kernel
theorem dX9_goBeat_84 : decode cX9_goBeat 84 = .ok (.aload_n 0, 1) := by decide +kernel
theorem dX9_goBeat_85 : decode cX9_goBeat 85 = .ok (.getfield 120, 3) := by decide +kernel
theorem dX9_goBeat_88 : decode cX9_goBeat 88 = .ok (.iadd, 1) := by decide +kernel
theorem dX9_goBeat_89 : decode cX9_goBeat 89 = .ok (.istore 5, 2) := by decide +kernel
theorem dX9_goBeat_91 : decode cX9_goBeat 91 = .ok (.aload_n 1, 1) := by decide +kernel
theorem dX9_goBeat_92 : decode cX9_goBeat 92 = .ok (.bipush 18, 2) := by decide +kernel
theorem dX9_goBeat_94 : decode cX9_goBeat 94 = .ok (.iload 5, 2) := by decide +kernel
theorem dX9_goBeat_96 : decode cX9_goBeat 96 = .ok (.bipush 99, 2) := by decide +kernel
theorem dX9_goBeat_98 : decode cX9_goBeat 98 = .ok (.if_icmp .le 8, 3) := by decide +kernel
theorem dX9_goBeat_101 : decode cX9_goBeat 101 = .ok (.bipush 99, 2) := by decide +kernel
theorem dX9_goBeat_103 : decode cX9_goBeat 103 = .ok (.goto 5, 3) := by decide +kernel
theorem dX9_goBeat_106 : decode cX9_goBeat 106 = .ok (.iload 5, 2) := by decide +kernel
theorem dX9_goBeat_108 : decode cX9_goBeat 108 = .ok (.iastore, 1) := by decide +kernel
theorem dX9_goBeat_109 : decode cX9_goBeat 109 = .ok (.aload_n 1, 1) := by decide +kernel
theorem dX9_goBeat_110 : decode cX9_goBeat 110 = .ok (.bipush 20, 2) := by decide +kernel
theorem dX9_goBeat_112 : decode cX9_goBeat 112 = .ok (.dup2, 1) := by decide +kernel
theorem dX9_goBeat_113 : decode cX9_goBeat 113 = .ok (.iaload, 1) := by decide +kernel
theorem dX9_goBeat_114 : decode cX9_goBeat 114 = .ok (.iconst 1, 1) := by decide +kernel
theorem dX9_goBeat_115 : decode cX9_goBeat 115 = .ok (.iadd, 1) := by decide +kernel
theorem dX9_goBeat_116 : decode cX9_goBeat 116 = .ok (.iastore, 1) := by decide +kernel
theorem dX9_goBeat_117 : decode cX9_goBeat 117 = .ok (.aload_n 1, 1) := by decide +kernel
theorem dX9_goBeat_118 : decode cX9_goBeat 118 = .ok (.bipush 19, 2) := by decide +kernel
theorem dX9_goBeat_120 : decode cX9_goBeat 120 = .ok (.iaload, 1) := by decide +kernel
theorem dX9_goBeat_121 : decode cX9_goBeat 121 = .ok (.iload_n 3, 1) := by decide +kernel
theorem dX9_goBeat_122 : decode cX9_goBeat 122 = .ok (.isub, 1) := by decide +kernel
theorem dX9_goBeat_123 : decode cX9_goBeat 123 = .ok (.ireturn, 1) := by decide +kernel
theorem dX9_bucketsAt_0 : decode cX9_bucketsAt 0 = .ok (.iconst 0, 1) := by decide +kernel
theorem dX9_bucketsAt_1 : decode cX9_bucketsAt 1 = .ok (.istore 4, 2) := by decide +kernel
theorem dX9_bucketsAt_3 : decode cX9_bucketsAt 3 = .ok (.iconst 0, 1) := by decide +kernel
theorem dX9_bucketsAt_4 : decode cX9_bucketsAt 4 = .ok (.istore 5, 2) := by decide +kernel
theorem dX9_bucketsAt_6 : decode cX9_bucketsAt 6 = .ok (.iload 5, 2) := by decide +kernel
theorem dX9_bucketsAt_8 : decode cX9_bucketsAt 8 = .ok (.aload_n 0, 1) := by decide +kernel
theorem dX9_bucketsAt_9 : decode cX9_bucketsAt 9 = .ok (.getfield 70, 3) := by decide +kernel
theorem dX9_bucketsAt_12 : decode cX9_bucketsAt 12 = .ok (.if_icmp .ge 39, 3) := by decide +kernel
theorem dX9_bucketsAt_15 : decode cX9_bucketsAt 15 = .ok (.iload 4, 2) := by decide +kernel
theorem dX9_bucketsAt_17 : decode cX9_bucketsAt 17 = .ok (.aload_n 1, 1) := by decide +kernel
theorem dX9_bucketsAt_18 : decode cX9_bucketsAt 18 = .ok (.iconst 5, 1) := by decide +kernel
theorem dX9_bucketsAt_19 : decode cX9_bucketsAt 19 = .ok (.iload 5, 2) := by decide +kernel
theorem dX9_bucketsAt_21 : decode cX9_bucketsAt 21 = .ok (.iadd, 1) := by decide +kernel
theorem dX9_bucketsAt_22 : decode cX9_bucketsAt 22 = .ok (.iaload, 1) := by decide +kernel
theorem dX9_bucketsAt_23 : decode cX9_bucketsAt 23 = .ok (.i2l, 1) := by decide +kernel
theorem dX9_bucketsAt_24 : decode cX9_bucketsAt 24 = .ok (.iload_n 2, 1) := by decide +kernel
theorem dX9_bucketsAt_25 : decode cX9_bucketsAt 25 = .ok (.i2l, 1) := by decide +kernel
theorem dX9_bucketsAt_26 : decode cX9_bucketsAt 26 = .ok (.iload_n 3, 1) := by decide +kernel
theorem dX9_bucketsAt_27 : decode cX9_bucketsAt 27 = .ok (.i2l, 1) := by decide +kernel
theorem dX9_bucketsAt_28 : decode cX9_bucketsAt 28 = .ok (.invokestatic 66, 3) := by decide +kernel
theorem dX9_bucketsAt_31 : decode cX9_bucketsAt 31 = .ok (.ifCond .eq 10, 3) := by decide +kernel
theorem dX9_bucketsAt_34 : decode cX9_bucketsAt 34 = .ok (.iconst 1, 1) := by decide +kernel
theorem dX9_bucketsAt_35 : decode cX9_bucketsAt 35 = .ok (.iload 5, 2) := by decide +kernel
theorem dX9_bucketsAt_37 : decode cX9_bucketsAt 37 = .ok (.ishl, 1) := by decide +kernel
theorem dX9_bucketsAt_38 : decode cX9_bucketsAt 38 = .ok (.goto 4, 3) := by decide +kernel
theorem dX9_bucketsAt_41 : decode cX9_bucketsAt 41 = .ok (.iconst 0, 1) := by decide +kernel
theorem dX9_bucketsAt_42 : decode cX9_bucketsAt 42 = .ok (.ior, 1) := by decide +kernel
theorem dX9_bucketsAt_43 : decode cX9_bucketsAt 43 = .ok (.istore 4, 2) := by decide +kernel
theorem dX9_bucketsAt_45 : decode cX9_bucketsAt 45 = .ok (.iinc 5 1, 3) := by decide +kernel
theorem dX9_bucketsAt_48 : decode cX9_bucketsAt 48 = .ok (.goto (-42), 3) := by decide +kernel
theorem dX9_bucketsAt_51 : decode cX9_bucketsAt 51 = .ok (.iload 4, 2) := by decide +kernel
theorem dX9_bucketsAt_53 : decode cX9_bucketsAt 53 = .ok (.ireturn, 1) := by decide +kernel
theorem dX9_standsWith_0 : decode cX9_standsWith 0 = .ok (.iconst 0, 1) := by decide +kernel
theorem dX9_standsWith_1 : decode cX9_standsWith 1 = .ok (.istore_n 2, 1) := by decide +kernel
theorem dX9_standsWith_2 : decode cX9_standsWith 2 = .ok (.iconst 0, 1) := by decide +kernel
theorem dX9_standsWith_3 : decode cX9_standsWith 3 = .ok (.istore_n 3, 1) := by decide +kernel
theorem dX9_standsWith_4 : decode cX9_standsWith 4 = .ok (.iload_n 3, 1) := by decide +kernel
theorem dX9_standsWith_5 : decode cX9_standsWith 5 = .ok (.aload_n 0, 1) := by decide +kernel
theorem dX9_standsWith_6 : decode cX9_standsWith 6 = .ok (.getfield 70, 3) := by decide +kernel
theorem dX9_standsWith_9 : decode cX9_standsWith 9 = .ok (.if_icmp .ge 32, 3) := by decide +kernel
theorem dX9_standsWith_12 : decode cX9_standsWith 12 = .ok (.iload_n 2, 1) := by decide +kernel
theorem dX9_standsWith_13 : decode cX9_standsWith 13 = .ok (.aload_n 1, 1) := by decide +kernel
theorem dX9_standsWith_14 : decode cX9_standsWith 14 = .ok (.iconst 5, 1) := by decide +kernel
theorem dX9_standsWith_15 : decode cX9_standsWith 15 = .ok (.iload_n 3, 1) := by decide +kernel
theorem dX9_standsWith_16 : decode cX9_standsWith 16 = .ok (.iadd, 1) := by decide +kernel
theorem dX9_standsWith_17 : decode cX9_standsWith 17 = .ok (.iaload, 1) := by decide +kernel
theorem dX9_standsWith_18 : decode cX9_standsWith 18 = .ok (.iconst 5, 1) := by decide +kernel
theorem dX9_standsWith_19 : decode cX9_standsWith 19 = .ok (.if_icmp .ge 13, 3) := by decide +kernel
theorem dX9_standsWith_22 : decode cX9_standsWith 22 = .ok (.iconst 1, 1) := by decide +kernel
theorem dX9_standsWith_23 : decode cX9_standsWith 23 = .ok (.aload_n 1, 1) := by decide +kernel
theorem dX9_standsWith_24 : decode cX9_standsWith 24 = .ok (.iconst 5, 1) := by decide +kernel
theorem dX9_standsWith_25 : decode cX9_standsWith 25 = .ok (.iload_n 3, 1) := by decide +kernel
theorem dX9_standsWith_26 : decode cX9_standsWith 26 = .ok (.iadd, 1) := by decide +kernel
theorem dX9_standsWith_27 : decode cX9_standsWith 27 = .ok (.iaload, 1) := by decide +kernel
theorem dX9_standsWith_28 : decode cX9_standsWith 28 = .ok (.ishl, 1) := by decide +kernel
theorem dX9_standsWith_29 : decode cX9_standsWith 29 = .ok (.goto 4, 3) := by decide +kernel
theorem dX9_standsWith_32 : decode cX9_standsWith 32 = .ok (.iconst 0, 1) := by decide +kernel
theorem dX9_standsWith_33 : decode cX9_standsWith 33 = .ok (.ior, 1) := by decide +kernel
theorem dX9_standsWith_34 : decode cX9_standsWith 34 = .ok (.istore_n 2, 1) := by decide +kernel
theorem dX9_standsWith_35 : decode cX9_standsWith 35 = .ok (.iinc 3 1, 3) := by decide +kernel
theorem dX9_standsWith_38 : decode cX9_standsWith 38 = .ok (.goto (-34), 3) := by decide +kernel
theorem dX9_standsWith_41 : decode cX9_standsWith 41 = .ok (.iload_n 2, 1) := by decide +kernel
theorem dX9_standsWith_42 : decode cX9_standsWith 42 = .ok (.ireturn, 1) := by decide +kernel
theorem dX9_about_0 : decode cX9_about 0 = .ok (.aload_n 0, 1) := by decide +kernel
theorem dX9_about_1 : decode cX9_about 1 = .ok (.iconst 0, 1) := by decide +kernel
theorem dX9_about_2 : decode cX9_about 2 = .ok (.putfield 59, 3) := by decide +kernel
theorem dX9_about_5 : decode cX9_about 5 = .ok (.iload_n 1, 1) := by decide +kernel
theorem dX9_about_6 : decode cX9_about 6 = .ok (.tableswitch 172 0 13 #[70, 75, 80, 88, 93, 98, 106, 114, 123, 136, 149, 157, 162, 167], 70) := by decide +kernel
theorem dX9_about_76 : decode cX9_about 76 = .ok (.aload_n 0, 1) := by decide +kernel
theorem dX9_about_77 : decode cX9_about 77 = .ok (.getfield 63, 3) := by decide +kernel
theorem dX9_about_80 : decode cX9_about 80 = .ok (.ireturn, 1) := by decide +kernel
theorem dX9_about_81 : decode cX9_about 81 = .ok (.aload_n 0, 1) := by decide +kernel
theorem dX9_about_82 : decode cX9_about 82 = .ok (.getfield 70, 3) := by decide +kernel
theorem dX9_about_85 : decode cX9_about 85 = .ok (.ireturn, 1) := by decide +kernel
theorem dX9_about_86 : decode cX9_about 86 = .ok (.aload_n 0, 1) := by decide +kernel
theorem dX9_about_87 : decode cX9_about 87 = .ok (.getfield 25, 3) := by decide +kernel
theorem dX9_about_90 : decode cX9_about 90 = .ok (.bipush 18, 2) := by decide +kernel
theorem dX9_about_92 : decode cX9_about 92 = .ok (.iaload, 1) := by decide +kernel
theorem dX9_about_93 : decode cX9_about 93 = .ok (.ireturn, 1) := by decide +kernel
theorem dX9_about_94 : decode cX9_about 94 = .ok (.aload_n 0, 1) := by decide +kernel
theorem dX9_about_95 : decode cX9_about 95 = .ok (.getfield 120, 3) := by decide +kernel
theorem dX9_about_98 : decode cX9_about 98 = .ok (.ireturn, 1) := by decide +kernel
theorem dX9_about_99 : decode cX9_about 99 = .ok (.aload_n 0, 1) := by decide +kernel
theorem dX9_about_100 : decode cX9_about 100 = .ok (.getfield 123, 3) := by decide +kernel
theorem dX9_about_103 : decode cX9_about 103 = .ok (.ireturn, 1) := by decide +kernel
theorem dX9_about_104 : decode cX9_about 104 = .ok (.aload_n 0, 1) := by decide +kernel
theorem dX9_about_105 : decode cX9_about 105 = .ok (.getfield 25, 3) := by decide +kernel
theorem dX9_about_108 : decode cX9_about 108 = .ok (.bipush 20, 2) := by decide +kernel
theorem dX9_about_110 : decode cX9_about 110 = .ok (.iaload, 1) := by decide +kernel
theorem dX9_about_111 : decode cX9_about 111 = .ok (.ireturn, 1) := by decide +kernel
theorem dX9_about_112 : decode cX9_about 112 = .ok (.aload_n 0, 1) := by decide +kernel
theorem dX9_about_113 : decode cX9_about 113 = .ok (.getfield 25, 3) := by decide +kernel
theorem dX9_about_116 : decode cX9_about 116 = .ok (.bipush 19, 2) := by decide +kernel
theorem dX9_about_118 : decode cX9_about 118 = .ok (.iaload, 1) := by decide +kernel
theorem dX9_about_119 : decode cX9_about 119 = .ok (.ireturn, 1) := by decide +kernel
theorem dX9_about_120 : decode cX9_about 120 = .ok (.aload_n 0, 1) := by decide +kernel
theorem dX9_about_121 : decode cX9_about 121 = .ok (.aload_n 0, 1) := by decide +kernel
theorem dX9_about_122 : decode cX9_about 122 = .ok (.getfield 25, 3) := by decide +kernel
theorem dX9_about_125 : decode cX9_about 125 = .ok (.invokevirtual 166, 3) := by decide +kernel
theorem dX9_about_128 : decode cX9_about 128 = .ok (.ireturn, 1) := by decide +kernel
theorem dX9_about_129 : decode cX9_about 129 = .ok (.aload_n 0, 1) := by decide +kernel
theorem dX9_about_130 : decode cX9_about 130 = .ok (.aload_n 0, 1) := by decide +kernel
theorem dX9_about_131 : decode cX9_about 131 = .ok (.getfield 25, 3) := by decide +kernel
theorem dX9_about_134 : decode cX9_about 134 = .ok (.bipush 8, 2) := by decide +kernel
theorem dX9_about_136 : decode cX9_about 136 = .ok (.bipush 8, 2) := by decide +kernel
theorem dX9_about_138 : decode cX9_about 138 = .ok (.invokevirtual 170, 3) := by decide +kernel
theorem dX9_about_141 : decode cX9_about 141 = .ok (.ireturn, 1) := by decide +kernel
theorem dX9_about_142 : decode cX9_about 142 = .ok (.aload_n 0, 1) := by decide +kernel
theorem dX9_about_143 : decode cX9_about 143 = .ok (.aload_n 0, 1) := by decide +kernel
theorem dX9_about_144 : decode cX9_about 144 = .ok (.getfield 25, 3) := by decide +kernel
theorem dX9_about_147 : decode cX9_about 147 = .ok (.bipush 9, 2) := by decide +kernel
theorem dX9_about_149 : decode cX9_about 149 = .ok (.bipush 9, 2) := by decide +kernel
theorem dX9_about_151 : decode cX9_about 151 = .ok (.invokevirtual 170, 3) := by decide +kernel
theorem dX9_about_154 : decode cX9_about 154 = .ok (.ireturn, 1) := by decide +kernel
theorem dX9_about_155 : decode cX9_about 155 = .ok (.aload_n 0, 1) := by decide +kernel
theorem dX9_about_156 : decode cX9_about 156 = .ok (.getfield 25, 3) := by decide +kernel
theorem dX9_about_159 : decode cX9_about 159 = .ok (.bipush 17, 2) := by decide +kernel
theorem dX9_about_161 : decode cX9_about 161 = .ok (.iaload, 1) := by decide +kernel
theorem dX9_about_162 : decode cX9_about 162 = .ok (.ireturn, 1) := by decide +kernel
theorem dX9_about_163 : decode cX9_about 163 = .ok (.aload_n 0, 1) := by decide +kernel
theorem dX9_about_164 : decode cX9_about 164 = .ok (.getfield 126, 3) := by decide +kernel
theorem dX9_about_167 : decode cX9_about 167 = .ok (.ireturn, 1) := by decide +kernel
theorem dX9_about_168 : decode cX9_about 168 = .ok (.aload_n 0, 1) := by decide +kernel
theorem dX9_about_169 : decode cX9_about 169 = .ok (.getfield 174, 3) := by decide +kernel
theorem dX9_about_172 : decode cX9_about 172 = .ok (.ireturn, 1) := by decide +kernel
theorem dX9_about_173 : decode cX9_about 173 = .ok (.aload_n 0, 1) := by decide +kernel
theorem dX9_about_174 : decode cX9_about 174 = .ok (.getfield 75, 3) := by decide +kernel
theorem dX9_about_177 : decode cX9_about 177 = .ok (.ireturn, 1) := by decide +kernel
theorem dX9_about_178 : decode cX9_about 178 = .ok (.bipush (-2), 2) := by decide +kernel
theorem dX9_about_180 : decode cX9_about 180 = .ok (.ireturn, 1) := by decide +kernel
theorem dX9_standOf_0 : decode cX9_standOf 0 = .ok (.bipush (-9), 2) := by decide +kernel
theorem dX9_standOf_2 : decode cX9_standOf 2 = .ok (.istore_n 3, 1) := by decide +kernel
theorem dX9_standOf_3 : decode cX9_standOf 3 = .ok (.iconst 0, 1) := by decide +kernel
theorem dX9_standOf_4 : decode cX9_standOf 4 = .ok (.istore 4, 2) := by decide +kernel
theorem dX9_standOf_6 : decode cX9_standOf 6 = .ok (.iload 4, 2) := by decide +kernel
theorem dX9_standOf_8 : decode cX9_standOf 8 = .ok (.iload_n 2, 1) := by decide +kernel
theorem dX9_standOf_9 : decode cX9_standOf 9 = .ok (.if_icmp .ge 24, 3) := by decide +kernel
theorem dX9_standOf_12 : decode cX9_standOf 12 = .ok (.aload_n 0, 1) := by decide +kernel
theorem dX9_standOf_13 : decode cX9_standOf 13 = .ok (.iload 4, 2) := by decide +kernel
theorem dX9_standOf_15 : decode cX9_standOf 15 = .ok (.iaload, 1) := by decide +kernel
theorem dX9_standOf_16 : decode cX9_standOf 16 = .ok (.iload_n 1, 1) := by decide +kernel
theorem dX9_standOf_17 : decode cX9_standOf 17 = .ok (.if_icmp .ne 8, 3) := by decide +kernel
theorem dX9_standOf_20 : decode cX9_standOf 20 = .ok (.iload 4, 2) := by decide +kernel
theorem dX9_standOf_22 : decode cX9_standOf 22 = .ok (.goto 4, 3) := by decide +kernel
theorem dX9_standOf_25 : decode cX9_standOf 25 = .ok (.iload_n 3, 1) := by decide +kernel
theorem dX9_standOf_26 : decode cX9_standOf 26 = .ok (.istore_n 3, 1) := by decide +kernel
theorem dX9_standOf_27 : decode cX9_standOf 27 = .ok (.iinc 4 1, 3) := by decide +kernel
theorem dX9_standOf_30 : decode cX9_standOf 30 = .ok (.goto (-24), 3) := by decide +kernel
theorem dX9_standOf_33 : decode cX9_standOf 33 = .ok (.iload_n 3, 1) := by decide +kernel
theorem dX9_standOf_34 : decode cX9_standOf 34 = .ok (.ireturn, 1) := by decide +kernel
theorem dX9_person_0 : decode cX9_person 0 = .ok (.aload_n 0, 1) := by decide +kernel
theorem dX9_person_1 : decode cX9_person 1 = .ok (.iconst 0, 1) := by decide +kernel
theorem dX9_person_2 : decode cX9_person 2 = .ok (.putfield 59, 3) := by decide +kernel
theorem dX9_person_5 : decode cX9_person 5 = .ok (.aload_n 0, 1) := by decide +kernel
theorem dX9_person_6 : decode cX9_person 6 = .ok (.iload_n 1, 1) := by decide +kernel
theorem dX9_person_7 : decode cX9_person 7 = .ok (.invokevirtual 177, 3) := by decide +kernel
theorem dX9_person_10 : decode cX9_person 10 = .ok (.ifCond .eq 5, 3) := by decide +kernel
theorem dX9_person_13 : decode cX9_person 13 = .ok (.iconst (-1), 1) := by decide +kernel
theorem dX9_person_14 : decode cX9_person 14 = .ok (.ireturn, 1) := by decide +kernel
theorem dX9_person_15 : decode cX9_person 15 = .ok (.iload_n 2, 1) := by decide +kernel
theorem dX9_person_16 : decode cX9_person 16 = .ok (.lookupswitch 48 #[(0, 28), (1, 35)], 28) := by decide +kernel
theorem dX9_person_44 : decode cX9_person 44 = .ok (.aload_n 0, 1) := by decide +kernel
theorem dX9_person_45 : decode cX9_person 45 = .ok (.getfield 13, 3) := by decide +kernel
theorem dX9_person_48 : decode cX9_person 48 = .ok (.iload_n 1, 1) := by decide +kernel
theorem dX9_person_49 : decode cX9_person 49 = .ok (.iaload, 1) := by decide +kernel
theorem dX9_person_50 : decode cX9_person 50 = .ok (.ireturn, 1) := by decide +kernel
theorem dX9_person_51 : decode cX9_person 51 = .ok (.aload_n 0, 1) := by decide +kernel
theorem dX9_person_52 : decode cX9_person 52 = .ok (.getfield 25, 3) := by decide +kernel
theorem dX9_person_55 : decode cX9_person 55 = .ok (.iload_n 1, 1) := by decide +kernel
theorem dX9_person_56 : decode cX9_person 56 = .ok (.aload_n 0, 1) := by decide +kernel
theorem dX9_person_57 : decode cX9_person 57 = .ok (.getfield 63, 3) := by decide +kernel
theorem dX9_person_60 : decode cX9_person 60 = .ok (.invokestatic 181, 3) := by decide +kernel
theorem dX9_person_63 : decode cX9_person 63 = .ok (.ireturn, 1) := by decide +kernel
theorem dX9_person_64 : decode cX9_person 64 = .ok (.bipush (-2), 2) := by decide +kernel
theorem dX9_person_66 : decode cX9_person 66 = .ok (.ireturn, 1) := by decide +kernel
theorem dX9_stand_0 : decode cX9_stand 0 = .ok (.aload_n 0, 1) := by decide +kernel
theorem dX9_stand_1 : decode cX9_stand 1 = .ok (.iconst 0, 1) := by decide +kernel
theorem dX9_stand_2 : decode cX9_stand 2 = .ok (.putfield 59, 3) := by decide +kernel
theorem dX9_stand_5 : decode cX9_stand 5 = .ok (.aload_n 0, 1) := by decide +kernel
theorem dX9_stand_6 : decode cX9_stand 6 = .ok (.iload_n 1, 1) := by decide +kernel
theorem dX9_stand_7 : decode cX9_stand 7 = .ok (.invokevirtual 177, 3) := by decide +kernel
theorem dX9_stand_10 : decode cX9_stand 10 = .ok (.ifCond .eq 5, 3) := by decide +kernel
theorem dX9_stand_13 : decode cX9_stand 13 = .ok (.iconst (-1), 1) := by decide +kernel
theorem dX9_stand_14 : decode cX9_stand 14 = .ok (.ireturn, 1) := by decide +kernel
theorem dX9_stand_15 : decode cX9_stand 15 = .ok (.iload_n 2, 1) := by decide +kernel
theorem dX9_stand_16 : decode cX9_stand 16 = .ok (.lookupswitch 45 #[(0, 28), (1, 35)], 28) := by decide +kernel
theorem dX9_stand_44 : decode cX9_stand 44 = .ok (.aload_n 0, 1) := by decide +kernel
theorem dX9_stand_45 : decode cX9_stand 45 = .ok (.getfield 25, 3) := by decide +kernel
theorem dX9_stand_48 : decode cX9_stand 48 = .ok (.iload_n 1, 1) := by decide +kernel
theorem dX9_stand_49 : decode cX9_stand 49 = .ok (.iaload, 1) := by decide +kernel
theorem dX9_stand_50 : decode cX9_stand 50 = .ok (.ireturn, 1) := by decide +kernel
theorem dX9_stand_51 : decode cX9_stand 51 = .ok (.aload_n 0, 1) := by decide +kernel
theorem dX9_stand_52 : decode cX9_stand 52 = .ok (.aload_n 0, 1) := by decide +kernel
theorem dX9_stand_53 : decode cX9_stand 53 = .ok (.getfield 25, 3) := by decide +kernel
theorem dX9_stand_56 : decode cX9_stand 56 = .ok (.iload_n 1, 1) := by decide +kernel
theorem dX9_stand_57 : decode cX9_stand 57 = .ok (.invokevirtual 133, 3) := by decide +kernel
theorem dX9_stand_60 : decode cX9_stand 60 = .ok (.ireturn, 1) := by decide +kernel
theorem dX9_stand_61 : decode cX9_stand 61 = .ok (.bipush (-2), 2) := by decide +kernel
theorem dX9_stand_63 : decode cX9_stand 63 = .ok (.ireturn, 1) := by decide +kernel
theorem dX9_bucket_0 : decode cX9_bucket 0 = .ok (.aload_n 0, 1) := by decide +kernel
theorem dX9_bucket_1 : decode cX9_bucket 1 = .ok (.iconst 0, 1) := by decide +kernel
theorem dX9_bucket_2 : decode cX9_bucket 2 = .ok (.putfield 59, 3) := by decide +kernel
theorem dX9_bucket_5 : decode cX9_bucket 5 = .ok (.aload_n 0, 1) := by decide +kernel
theorem dX9_bucket_6 : decode cX9_bucket 6 = .ok (.iload_n 1, 1) := by decide +kernel
theorem dX9_bucket_7 : decode cX9_bucket 7 = .ok (.invokevirtual 184, 3) := by decide +kernel
theorem dX9_bucket_10 : decode cX9_bucket 10 = .ok (.ifCond .eq 5, 3) := by decide +kernel
theorem dX9_bucket_13 : decode cX9_bucket 13 = .ok (.iconst (-1), 1) := by decide +kernel
theorem dX9_bucket_14 : decode cX9_bucket 14 = .ok (.ireturn, 1) := by decide +kernel
theorem dX9_bucket_15 : decode cX9_bucket 15 = .ok (.iload_n 2, 1) := by decide +kernel
theorem dX9_bucket_16 : decode cX9_bucket 16 = .ok (.tableswitch 117 0 4 #[36, 43, 55, 64, 90], 36) := by decide +kernel
theorem dX9_bucket_52 : decode cX9_bucket 52 = .ok (.aload_n 0, 1) := by decide +kernel
theorem dX9_bucket_53 : decode cX9_bucket 53 = .ok (.getfield 16, 3) := by decide +kernel
theorem dX9_bucket_56 : decode cX9_bucket 56 = .ok (.iload_n 1, 1) := by decide +kernel
theorem dX9_bucket_57 : decode cX9_bucket 57 = .ok (.iaload, 1) := by decide +kernel
theorem dX9_bucket_58 : decode cX9_bucket 58 = .ok (.ireturn, 1) := by decide +kernel
theorem dX9_bucket_59 : decode cX9_bucket 59 = .ok (.aload_n 0, 1) := by decide +kernel
theorem dX9_bucket_60 : decode cX9_bucket 60 = .ok (.getfield 25, 3) := by decide +kernel
theorem dX9_bucket_63 : decode cX9_bucket 63 = .ok (.bipush 17, 2) := by decide +kernel
theorem dX9_bucket_65 : decode cX9_bucket 65 = .ok (.iaload, 1) := by decide +kernel
theorem dX9_bucket_66 : decode cX9_bucket 66 = .ok (.iload_n 1, 1) := by decide +kernel
theorem dX9_bucket_67 : decode cX9_bucket 67 = .ok (.ishr, 1) := by decide +kernel
theorem dX9_bucket_68 : decode cX9_bucket 68 = .ok (.iconst 1, 1) := by decide +kernel
theorem dX9_bucket_69 : decode cX9_bucket 69 = .ok (.iand, 1) := by decide +kernel
theorem dX9_bucket_70 : decode cX9_bucket 70 = .ok (.ireturn, 1) := by decide +kernel
theorem dX9_bucket_71 : decode cX9_bucket 71 = .ok (.aload_n 0, 1) := by decide +kernel
theorem dX9_bucket_72 : decode cX9_bucket 72 = .ok (.getfield 25, 3) := by decide +kernel
theorem dX9_bucket_75 : decode cX9_bucket 75 = .ok (.iconst 5, 1) := by decide +kernel
theorem dX9_bucket_76 : decode cX9_bucket 76 = .ok (.iload_n 1, 1) := by decide +kernel
theorem dX9_bucket_77 : decode cX9_bucket 77 = .ok (.iadd, 1) := by decide +kernel
theorem dX9_bucket_78 : decode cX9_bucket 78 = .ok (.iaload, 1) := by decide +kernel
theorem dX9_bucket_79 : decode cX9_bucket 79 = .ok (.ireturn, 1) := by decide +kernel
theorem dX9_bucket_80 : decode cX9_bucket 80 = .ok (.aload_n 0, 1) := by decide +kernel
theorem dX9_bucket_81 : decode cX9_bucket 81 = .ok (.getfield 25, 3) := by decide +kernel
theorem dX9_bucket_84 : decode cX9_bucket 84 = .ok (.iconst 5, 1) := by decide +kernel
theorem dX9_bucket_85 : decode cX9_bucket 85 = .ok (.iload_n 1, 1) := by decide +kernel
theorem dX9_bucket_86 : decode cX9_bucket 86 = .ok (.iadd, 1) := by decide +kernel
theorem dX9_bucket_87 : decode cX9_bucket 87 = .ok (.iaload, 1) := by decide +kernel
theorem dX9_bucket_88 : decode cX9_bucket 88 = .ok (.iconst 5, 1) := by decide +kernel
theorem dX9_bucket_89 : decode cX9_bucket 89 = .ok (.if_icmp .ge 15, 3) := by decide +kernel
theorem dX9_bucket_92 : decode cX9_bucket 92 = .ok (.aload_n 0, 1) := by decide +kernel
theorem dX9_bucket_93 : decode cX9_bucket 93 = .ok (.getfield 25, 3) := by decide +kernel
theorem dX9_bucket_96 : decode cX9_bucket 96 = .ok (.bipush 9, 2) := by decide +kernel
theorem dX9_bucket_98 : decode cX9_bucket 98 = .ok (.iload_n 1, 1) := by decide +kernel
theorem dX9_bucket_99 : decode cX9_bucket 99 = .ok (.iadd, 1) := by decide +kernel
theorem dX9_bucket_100 : decode cX9_bucket 100 = .ok (.iaload, 1) := by decide +kernel
theorem dX9_bucket_101 : decode cX9_bucket 101 = .ok (.goto 4, 3) := by decide +kernel
theorem dX9_bucket_104 : decode cX9_bucket 104 = .ok (.iconst 0, 1) := by decide +kernel
theorem dX9_bucket_105 : decode cX9_bucket 105 = .ok (.ireturn, 1) := by decide +kernel
theorem dX9_bucket_106 : decode cX9_bucket 106 = .ok (.aload_n 0, 1) := by decide +kernel
theorem dX9_bucket_107 : decode cX9_bucket 107 = .ok (.getfield 25, 3) := by decide +kernel
theorem dX9_bucket_110 : decode cX9_bucket 110 = .ok (.iconst 5, 1) := by decide +kernel
theorem dX9_bucket_111 : decode cX9_bucket 111 = .ok (.iload_n 1, 1) := by decide +kernel
theorem dX9_bucket_112 : decode cX9_bucket 112 = .ok (.iadd, 1) := by decide +kernel
theorem dX9_bucket_113 : decode cX9_bucket 113 = .ok (.iaload, 1) := by decide +kernel
theorem dX9_bucket_114 : decode cX9_bucket 114 = .ok (.bipush 9, 2) := by decide +kernel
theorem dX9_bucket_116 : decode cX9_bucket 116 = .ok (.if_icmp .ne 15, 3) := by decide +kernel
theorem dX9_bucket_119 : decode cX9_bucket 119 = .ok (.aload_n 0, 1) := by decide +kernel
theorem dX9_bucket_120 : decode cX9_bucket 120 = .ok (.getfield 25, 3) := by decide +kernel
theorem dX9_bucket_123 : decode cX9_bucket 123 = .ok (.bipush 13, 2) := by decide +kernel
theorem dX9_bucket_125 : decode cX9_bucket 125 = .ok (.iload_n 1, 1) := by decide +kernel
theorem dX9_bucket_126 : decode cX9_bucket 126 = .ok (.iadd, 1) := by decide +kernel
theorem dX9_bucket_127 : decode cX9_bucket 127 = .ok (.iaload, 1) := by decide +kernel
theorem dX9_bucket_128 : decode cX9_bucket 128 = .ok (.goto 4, 3) := by decide +kernel
theorem dX9_bucket_131 : decode cX9_bucket 131 = .ok (.iconst 0, 1) := by decide +kernel
theorem dX9_bucket_132 : decode cX9_bucket 132 = .ok (.ireturn, 1) := by decide +kernel
theorem dX9_bucket_133 : decode cX9_bucket 133 = .ok (.bipush (-2), 2) := by decide +kernel
theorem dX9_bucket_135 : decode cX9_bucket 135 = .ok (.ireturn, 1) := by decide +kernel
theorem dX9_note_0 : decode cX9_note 0 = .ok (.aload_n 0, 1) := by decide +kernel
theorem dX9_note_1 : decode cX9_note 1 = .ok (.getfield 126, 3) := by decide +kernel
theorem dX9_note_4 : decode cX9_note 4 = .ok (.bipush 14, 2) := by decide +kernel
theorem dX9_note_6 : decode cX9_note 6 = .ok (.if_icmp .ne 43, 3) := by decide +kernel
theorem dX9_note_9 : decode cX9_note 9 = .ok (.iconst 0, 1) := by decide +kernel
theorem dX9_note_10 : decode cX9_note 10 = .ok (.istore_n 1, 1) := by decide +kernel
theorem dX9_note_11 : decode cX9_note 11 = .ok (.iload_n 1, 1) := by decide +kernel
theorem dX9_note_12 : decode cX9_note 12 = .ok (.sipush 273, 3) := by decide +kernel
theorem dX9_note_15 : decode cX9_note 15 = .ok (.if_icmp .ge 24, 3) := by decide +kernel
theorem dX9_note_18 : decode cX9_note 18 = .ok (.aload_n 0, 1) := by decide +kernel
theorem dX9_note_19 : decode cX9_note 19 = .ok (.getfield 31, 3) := by decide +kernel
theorem dX9_note_22 : decode cX9_note 22 = .ok (.iload_n 1, 1) := by decide +kernel
theorem dX9_note_23 : decode cX9_note 23 = .ok (.aload_n 0, 1) := by decide +kernel
theorem dX9_note_24 : decode cX9_note 24 = .ok (.getfield 31, 3) := by decide +kernel
theorem dX9_note_27 : decode cX9_note 27 = .ok (.iload_n 1, 1) := by decide +kernel
theorem dX9_note_28 : decode cX9_note 28 = .ok (.bipush 21, 2) := by decide +kernel
theorem dX9_note_30 : decode cX9_note 30 = .ok (.iadd, 1) := by decide +kernel
theorem dX9_note_31 : decode cX9_note 31 = .ok (.iaload, 1) := by decide +kernel
theorem dX9_note_32 : decode cX9_note 32 = .ok (.iastore, 1) := by decide +kernel
theorem dX9_note_33 : decode cX9_note 33 = .ok (.iinc 1 1, 3) := by decide +kernel
theorem dX9_note_36 : decode cX9_note 36 = .ok (.goto (-25), 3) := by decide +kernel
theorem dX9_note_39 : decode cX9_note 39 = .ok (.aload_n 0, 1) := by decide +kernel
theorem dX9_note_40 : decode cX9_note 40 = .ok (.dup, 1) := by decide +kernel
theorem dX9_note_41 : decode cX9_note 41 = .ok (.getfield 126, 3) := by decide +kernel
theorem dX9_note_44 : decode cX9_note 44 = .ok (.iconst 1, 1) := by decide +kernel
theorem dX9_note_45 : decode cX9_note 45 = .ok (.isub, 1) := by decide +kernel
theorem dX9_note_46 : decode cX9_note 46 = .ok (.putfield 126, 3) := by decide +kernel
theorem dX9_note_49 : decode cX9_note 49 = .ok (.iconst 0, 1) := by decide +kernel
theorem dX9_note_50 : decode cX9_note 50 = .ok (.istore_n 1, 1) := by decide +kernel
theorem dX9_note_51 : decode cX9_note 51 = .ok (.iload_n 1, 1) := by decide +kernel
theorem dX9_note_52 : decode cX9_note 52 = .ok (.bipush 21, 2) := by decide +kernel
theorem dX9_note_54 : decode cX9_note 54 = .ok (.if_icmp .ge 29, 3) := by decide +kernel
theorem dX9_note_57 : decode cX9_note 57 = .ok (.aload_n 0, 1) := by decide +kernel
theorem dX9_note_58 : decode cX9_note 58 = .ok (.getfield 31, 3) := by decide +kernel
theorem dX9_note_61 : decode cX9_note 61 = .ok (.bipush 21, 2) := by decide +kernel
theorem dX9_note_63 : decode cX9_note 63 = .ok (.aload_n 0, 1) := by decide +kernel
theorem dX9_note_64 : decode cX9_note 64 = .ok (.getfield 126, 3) := by decide +kernel
theorem dX9_note_67 : decode cX9_note 67 = .ok (.imul, 1) := by decide +kernel
theorem dX9_note_68 : decode cX9_note 68 = .ok (.iload_n 1, 1) := by decide +kernel
theorem dX9_note_69 : decode cX9_note 69 = .ok (.iadd, 1) := by decide +kernel
theorem dX9_note_70 : decode cX9_note 70 = .ok (.aload_n 0, 1) := by decide +kernel
theorem dX9_note_71 : decode cX9_note 71 = .ok (.getfield 25, 3) := by decide +kernel
theorem dX9_note_74 : decode cX9_note 74 = .ok (.iload_n 1, 1) := by decide +kernel
theorem dX9_note_75 : decode cX9_note 75 = .ok (.iaload, 1) := by decide +kernel
theorem dX9_note_76 : decode cX9_note 76 = .ok (.iastore, 1) := by decide +kernel
theorem dX9_note_77 : decode cX9_note 77 = .ok (.iinc 1 1, 3) := by decide +kernel
theorem dX9_note_80 : decode cX9_note 80 = .ok (.goto (-29), 3) := by decide +kernel
theorem dX9_note_83 : decode cX9_note 83 = .ok (.aload_n 0, 1) := by decide +kernel
theorem dX9_note_84 : decode cX9_note 84 = .ok (.dup, 1) := by decide +kernel
theorem dX9_note_85 : decode cX9_note 85 = .ok (.getfield 126, 3) := by decide +kernel
theorem dX9_note_88 : decode cX9_note 88 = .ok (.iconst 1, 1) := by decide +kernel
theorem dX9_note_89 : decode cX9_note 89 = .ok (.iadd, 1) := by decide +kernel
theorem dX9_note_90 : decode cX9_note 90 = .ok (.putfield 126, 3) := by decide +kernel
theorem dX9_note_93 : decode cX9_note 93 = .ok (.return_, 1) := by decide +kernel
theorem dX9_beat_0 : decode cX9_beat 0 = .ok (.aload_n 0, 1) := by decide +kernel
theorem dX9_beat_1 : decode cX9_beat 1 = .ok (.iconst 0, 1) := by decide +kernel
theorem dX9_beat_2 : decode cX9_beat 2 = .ok (.putfield 59, 3) := by decide +kernel
theorem dX9_beat_5 : decode cX9_beat 5 = .ok (.aload_n 0, 1) := by decide +kernel
theorem dX9_beat_6 : decode cX9_beat 6 = .ok (.invokevirtual 187, 3) := by decide +kernel
theorem dX9_beat_9 : decode cX9_beat 9 = .ok (.aload_n 0, 1) := by decide +kernel
theorem dX9_beat_10 : decode cX9_beat 10 = .ok (.aload_n 0, 1) := by decide +kernel
theorem dX9_beat_11 : decode cX9_beat 11 = .ok (.getfield 25, 3) := by decide +kernel
theorem dX9_beat_14 : decode cX9_beat 14 = .ok (.bipush 31, 2) := by decide +kernel
theorem dX9_beat_16 : decode cX9_beat 16 = .ok (.invokevirtual 190, 3) := by decide +kernel
theorem dX9_beat_19 : decode cX9_beat 19 = .ok (.ireturn, 1) := by decide +kernel
theorem dX9_goChange_0 : decode cX9_goChange 0 = .ok (.aload_n 1, 1) := by decide +kernel
theorem dX9_goChange_1 : decode cX9_goChange 1 = .ok (.iload_n 2, 1) := by decide +kernel
theorem dX9_goChange_2 : decode cX9_goChange 2 = .ok (.aload_n 0, 1) := by decide +kernel
theorem dX9_goChange_3 : decode cX9_goChange 3 = .ok (.getfield 63, 3) := by decide +kernel
theorem dX9_goChange_6 : decode cX9_goChange 6 = .ok (.invokestatic 181, 3) := by decide +kernel
theorem dX9_goChange_9 : decode cX9_goChange 9 = .ok (.istore 4, 2) := by decide +kernel
theorem dX9_goChange_11 : decode cX9_goChange 11 = .ok (.aload_n 1, 1) := by decide +kernel
theorem dX9_goChange_12 : decode cX9_goChange 12 = .ok (.iload_n 3, 1) := by decide +kernel
theorem dX9_goChange_13 : decode cX9_goChange 13 = .ok (.aload_n 0, 1) := by decide +kernel
theorem dX9_goChange_14 : decode cX9_goChange 14 = .ok (.getfield 63, 3) := by decide +kernel
theorem dX9_goChange_17 : decode cX9_goChange 17 = .ok (.invokestatic 181, 3) := by decide +kernel
theorem dX9_goChange_20 : decode cX9_goChange 20 = .ok (.istore 5, 2) := by decide +kernel
theorem dX9_goChange_22 : decode cX9_goChange 22 = .ok (.aload_n 1, 1) := by decide +kernel
theorem dX9_goChange_23 : decode cX9_goChange 23 = .ok (.iload 4, 2) := by decide +kernel
theorem dX9_goChange_25 : decode cX9_goChange 25 = .ok (.iload_n 3, 1) := by decide +kernel
theorem dX9_goChange_26 : decode cX9_goChange 26 = .ok (.iastore, 1) := by decide +kernel
theorem dX9_goChange_27 : decode cX9_goChange 27 = .ok (.aload_n 1, 1) := by decide +kernel
theorem dX9_goChange_28 : decode cX9_goChange 28 = .ok (.iload 5, 2) := by decide +kernel
theorem dX9_goChange_30 : decode cX9_goChange 30 = .ok (.iload_n 2, 1) := by decide +kernel
theorem dX9_goChange_31 : decode cX9_goChange 31 = .ok (.iastore, 1) := by decide +kernel
theorem dX9_goChange_32 : decode cX9_goChange 32 = .ok (.return_, 1) := by decide +kernel
theorem dX9_change_0 : decode cX9_change 0 = .ok (.aload_n 0, 1) := by decide +kernel
theorem dX9_change_1 : decode cX9_change 1 = .ok (.iconst 0, 1) := by decide +kernel
theorem dX9_change_2 : decode cX9_change 2 = .ok (.putfield 59, 3) := by decide +kernel
theorem dX9_change_5 : decode cX9_change 5 = .ok (.aload_n 0, 1) := by decide +kernel
theorem dX9_change_6 : decode cX9_change 6 = .ok (.iload_n 1, 1) := by decide +kernel
theorem dX9_change_7 : decode cX9_change 7 = .ok (.invokevirtual 177, 3) := by decide +kernel
theorem dX9_change_10 : decode cX9_change 10 = .ok (.ifCond .ne 11, 3) := by decide +kernel
theorem dX9_change_13 : decode cX9_change 13 = .ok (.aload_n 0, 1) := by decide +kernel
theorem dX9_change_14 : decode cX9_change 14 = .ok (.iload_n 2, 1) := by decide +kernel
theorem dX9_change_15 : decode cX9_change 15 = .ok (.invokevirtual 177, 3) := by decide +kernel
theorem dX9_change_18 : decode cX9_change 18 = .ok (.ifCond .eq 5, 3) := by decide +kernel
theorem dX9_change_21 : decode cX9_change 21 = .ok (.iconst (-1), 1) := by decide +kernel
theorem dX9_change_22 : decode cX9_change 22 = .ok (.ireturn, 1) := by decide +kernel
theorem dX9_change_23 : decode cX9_change 23 = .ok (.iload_n 1, 1) := by decide +kernel
theorem dX9_change_24 : decode cX9_change 24 = .ok (.iload_n 2, 1) := by decide +kernel
theorem dX9_change_25 : decode cX9_change 25 = .ok (.if_icmp .ne 6, 3) := by decide +kernel
theorem dX9_change_28 : decode cX9_change 28 = .ok (.bipush (-2), 2) := by decide +kernel
theorem dX9_change_30 : decode cX9_change 30 = .ok (.ireturn, 1) := by decide +kernel
theorem dX9_change_31 : decode cX9_change 31 = .ok (.aload_n 0, 1) := by decide +kernel
theorem dX9_change_32 : decode cX9_change 32 = .ok (.invokevirtual 187, 3) := by decide +kernel
theorem dX9_change_35 : decode cX9_change 35 = .ok (.aload_n 0, 1) := by decide +kernel
theorem dX9_change_36 : decode cX9_change 36 = .ok (.aload_n 0, 1) := by decide +kernel
theorem dX9_change_37 : decode cX9_change 37 = .ok (.getfield 25, 3) := by decide +kernel
theorem dX9_change_40 : decode cX9_change 40 = .ok (.iload_n 1, 1) := by decide +kernel
theorem dX9_change_41 : decode cX9_change 41 = .ok (.iload_n 2, 1) := by decide +kernel
theorem dX9_change_42 : decode cX9_change 42 = .ok (.invokevirtual 193, 3) := by decide +kernel
theorem dX9_change_45 : decode cX9_change 45 = .ok (.aload_n 0, 1) := by decide +kernel
theorem dX9_change_46 : decode cX9_change 46 = .ok (.getfield 25, 3) := by decide +kernel
theorem dX9_change_49 : decode cX9_change 49 = .ok (.iload_n 1, 1) := by decide +kernel
theorem dX9_change_50 : decode cX9_change 50 = .ok (.aload_n 0, 1) := by decide +kernel
theorem dX9_change_51 : decode cX9_change 51 = .ok (.getfield 63, 3) := by decide +kernel
theorem dX9_change_54 : decode cX9_change 54 = .ok (.invokestatic 181, 3) := by decide +kernel
theorem dX9_change_57 : decode cX9_change 57 = .ok (.ireturn, 1) := by decide +kernel
theorem dX9_mend_0 : decode cX9_mend 0 = .ok (.aload_n 0, 1) := by decide +kernel
theorem dX9_mend_1 : decode cX9_mend 1 = .ok (.iconst 0, 1) := by decide +kernel
theorem dX9_mend_2 : decode cX9_mend 2 = .ok (.putfield 59, 3) := by decide +kernel
theorem dX9_mend_5 : decode cX9_mend 5 = .ok (.aload_n 0, 1) := by decide +kernel
theorem dX9_mend_6 : decode cX9_mend 6 = .ok (.iload_n 1, 1) := by decide +kernel
theorem dX9_mend_7 : decode cX9_mend 7 = .ok (.invokevirtual 184, 3) := by decide +kernel
theorem dX9_mend_10 : decode cX9_mend 10 = .ok (.ifCond .eq 5, 3) := by decide +kernel
theorem dX9_mend_13 : decode cX9_mend 13 = .ok (.iconst (-1), 1) := by decide +kernel
theorem dX9_mend_14 : decode cX9_mend 14 = .ok (.ireturn, 1) := by decide +kernel
theorem dX9_mend_15 : decode cX9_mend 15 = .ok (.aload_n 0, 1) := by decide +kernel
theorem dX9_mend_16 : decode cX9_mend 16 = .ok (.getfield 25, 3) := by decide +kernel
theorem dX9_mend_19 : decode cX9_mend 19 = .ok (.bipush 17, 2) := by decide +kernel
theorem dX9_mend_21 : decode cX9_mend 21 = .ok (.iaload, 1) := by decide +kernel
theorem dX9_mend_22 : decode cX9_mend 22 = .ok (.iload_n 1, 1) := by decide +kernel
theorem dX9_mend_23 : decode cX9_mend 23 = .ok (.invokestatic 129, 3) := by decide +kernel
theorem dX9_mend_26 : decode cX9_mend 26 = .ok (.ifCond .ne 6, 3) := by decide +kernel
theorem dX9_mend_29 : decode cX9_mend 29 = .ok (.bipush (-3), 2) := by decide +kernel
theorem dX9_mend_31 : decode cX9_mend 31 = .ok (.ireturn, 1) := by decide +kernel
theorem dX9_mend_32 : decode cX9_mend 32 = .ok (.aload_n 0, 1) := by decide +kernel
theorem dX9_mend_33 : decode cX9_mend 33 = .ok (.invokevirtual 187, 3) := by decide +kernel
theorem dX9_mend_36 : decode cX9_mend 36 = .ok (.aload_n 0, 1) := by decide +kernel
theorem dX9_mend_37 : decode cX9_mend 37 = .ok (.getfield 25, 3) := by decide +kernel
theorem dX9_mend_40 : decode cX9_mend 40 = .ok (.bipush 17, 2) := by decide +kernel
theorem dX9_mend_42 : decode cX9_mend 42 = .ok (.dup2, 1) := by decide +kernel
theorem dX9_mend_43 : decode cX9_mend 43 = .ok (.iaload, 1) := by decide +kernel
theorem dX9_mend_44 : decode cX9_mend 44 = .ok (.iconst 1, 1) := by decide +kernel
theorem dX9_mend_45 : decode cX9_mend 45 = .ok (.iload_n 1, 1) := by decide +kernel
theorem dX9_mend_46 : decode cX9_mend 46 = .ok (.ishl, 1) := by decide +kernel
theorem dX9_mend_47 : decode cX9_mend 47 = .ok (.iconst (-1), 1) := by decide +kernel
theorem dX9_mend_48 : decode cX9_mend 48 = .ok (.ixor, 1) := by decide +kernel
theorem dX9_mend_49 : decode cX9_mend 49 = .ok (.iand, 1) := by decide +kernel
theorem dX9_mend_50 : decode cX9_mend 50 = .ok (.iastore, 1) := by decide +kernel
theorem dX9_mend_51 : decode cX9_mend 51 = .ok (.aload_n 0, 1) := by decide +kernel
theorem dX9_mend_52 : decode cX9_mend 52 = .ok (.getfield 25, 3) := by decide +kernel
theorem dX9_mend_55 : decode cX9_mend 55 = .ok (.bipush 17, 2) := by decide +kernel
theorem dX9_mend_57 : decode cX9_mend 57 = .ok (.iaload, 1) := by decide +kernel
theorem dX9_mend_58 : decode cX9_mend 58 = .ok (.invokestatic 196, 3) := by decide +kernel
theorem dX9_mend_61 : decode cX9_mend 61 = .ok (.ireturn, 1) := by decide +kernel
theorem dX9_drop_0 : decode cX9_drop 0 = .ok (.aload_n 0, 1) := by decide +kernel
theorem dX9_drop_1 : decode cX9_drop 1 = .ok (.iconst 0, 1) := by decide +kernel
theorem dX9_drop_2 : decode cX9_drop 2 = .ok (.putfield 59, 3) := by decide +kernel
theorem dX9_drop_5 : decode cX9_drop 5 = .ok (.aload_n 0, 1) := by decide +kernel
theorem dX9_drop_6 : decode cX9_drop 6 = .ok (.iload_n 1, 1) := by decide +kernel
theorem dX9_drop_7 : decode cX9_drop 7 = .ok (.invokevirtual 184, 3) := by decide +kernel
theorem dX9_drop_10 : decode cX9_drop 10 = .ok (.ifCond .eq 5, 3) := by decide +kernel
theorem dX9_drop_13 : decode cX9_drop 13 = .ok (.iconst (-1), 1) := by decide +kernel
theorem dX9_drop_14 : decode cX9_drop 14 = .ok (.ireturn, 1) := by decide +kernel
theorem dX9_drop_15 : decode cX9_drop 15 = .ok (.aload_n 0, 1) := by decide +kernel
theorem dX9_drop_16 : decode cX9_drop 16 = .ok (.getfield 25, 3) := by decide +kernel
theorem dX9_drop_19 : decode cX9_drop 19 = .ok (.iconst 5, 1) := by decide +kernel
theorem dX9_drop_20 : decode cX9_drop 20 = .ok (.iload_n 1, 1) := by decide +kernel
theorem dX9_drop_21 : decode cX9_drop 21 = .ok (.iadd, 1) := by decide +kernel
theorem dX9_drop_22 : decode cX9_drop 22 = .ok (.iaload, 1) := by decide +kernel
theorem dX9_drop_23 : decode cX9_drop 23 = .ok (.iconst 5, 1) := by decide +kernel
theorem dX9_drop_24 : decode cX9_drop 24 = .ok (.if_icmp .lt 6, 3) := by decide +kernel
theorem dX9_drop_27 : decode cX9_drop 27 = .ok (.bipush (-3), 2) := by decide +kernel
theorem dX9_drop_29 : decode cX9_drop 29 = .ok (.ireturn, 1) := by decide +kernel
theorem dX9_drop_30 : decode cX9_drop 30 = .ok (.aload_n 0, 1) := by decide +kernel
theorem dX9_drop_31 : decode cX9_drop 31 = .ok (.invokevirtual 187, 3) := by decide +kernel
theorem dX9_drop_34 : decode cX9_drop 34 = .ok (.aload_n 0, 1) := by decide +kernel
theorem dX9_drop_35 : decode cX9_drop 35 = .ok (.getfield 25, 3) := by decide +kernel
theorem dX9_drop_38 : decode cX9_drop 38 = .ok (.bipush 9, 2) := by decide +kernel
theorem dX9_drop_40 : decode cX9_drop 40 = .ok (.iload_n 1, 1) := by decide +kernel
theorem dX9_drop_41 : decode cX9_drop 41 = .ok (.iadd, 1) := by decide +kernel
theorem dX9_drop_42 : decode cX9_drop 42 = .ok (.iaload, 1) := by decide +kernel
theorem dX9_drop_43 : decode cX9_drop 43 = .ok (.istore_n 2, 1) := by decide +kernel
theorem dX9_drop_44 : decode cX9_drop 44 = .ok (.aload_n 0, 1) := by decide +kernel
theorem dX9_drop_45 : decode cX9_drop 45 = .ok (.aload_n 0, 1) := by decide +kernel
theorem dX9_drop_46 : decode cX9_drop 46 = .ok (.getfield 25, 3) := by decide +kernel
theorem dX9_drop_49 : decode cX9_drop 49 = .ok (.iload_n 1, 1) := by decide +kernel
theorem dX9_drop_50 : decode cX9_drop 50 = .ok (.invokevirtual 162, 3) := by decide +kernel
theorem dX9_drop_53 : decode cX9_drop 53 = .ok (.iload_n 2, 1) := by decide +kernel
theorem dX9_drop_54 : decode cX9_drop 54 = .ok (.ireturn, 1) := by decide +kernel
theorem dX9_undo_0 : decode cX9_undo 0 = .ok (.aload_n 0, 1) := by decide +kernel
theorem dX9_undo_1 : decode cX9_undo 1 = .ok (.iconst 0, 1) := by decide +kernel
theorem dX9_undo_2 : decode cX9_undo 2 = .ok (.putfield 59, 3) := by decide +kernel
theorem dX9_undo_5 : decode cX9_undo 5 = .ok (.aload_n 0, 1) := by decide +kernel
theorem dX9_undo_6 : decode cX9_undo 6 = .ok (.getfield 126, 3) := by decide +kernel
theorem dX9_undo_9 : decode cX9_undo 9 = .ok (.ifCond .ne 6, 3) := by decide +kernel
theorem dX9_undo_12 : decode cX9_undo 12 = .ok (.bipush (-3), 2) := by decide +kernel
theorem dX9_undo_14 : decode cX9_undo 14 = .ok (.ireturn, 1) := by decide +kernel
theorem dX9_undo_15 : decode cX9_undo 15 = .ok (.aload_n 0, 1) := by decide +kernel
theorem dX9_undo_16 : decode cX9_undo 16 = .ok (.dup, 1) := by decide +kernel
theorem dX9_undo_17 : decode cX9_undo 17 = .ok (.getfield 126, 3) := by decide +kernel
theorem dX9_undo_20 : decode cX9_undo 20 = .ok (.iconst 1, 1) := by decide +kernel
theorem dX9_undo_21 : decode cX9_undo 21 = .ok (.isub, 1) := by decide +kernel
theorem dX9_undo_22 : decode cX9_undo 22 = .ok (.putfield 126, 3) := by decide +kernel
theorem dX9_undo_25 : decode cX9_undo 25 = .ok (.iconst 0, 1) := by decide +kernel
theorem dX9_undo_26 : decode cX9_undo 26 = .ok (.istore_n 1, 1) := by decide +kernel
theorem dX9_undo_27 : decode cX9_undo 27 = .ok (.iload_n 1, 1) := by decide +kernel
theorem dX9_undo_28 : decode cX9_undo 28 = .ok (.bipush 21, 2) := by decide +kernel
theorem dX9_undo_30 : decode cX9_undo 30 = .ok (.if_icmp .ge 29, 3) := by decide +kernel
theorem dX9_undo_33 : decode cX9_undo 33 = .ok (.aload_n 0, 1) := by decide +kernel
theorem dX9_undo_34 : decode cX9_undo 34 = .ok (.getfield 25, 3) := by decide +kernel
theorem dX9_undo_37 : decode cX9_undo 37 = .ok (.iload_n 1, 1) := by decide +kernel
theorem dX9_undo_38 : decode cX9_undo 38 = .ok (.aload_n 0, 1) := by decide +kernel
theorem dX9_undo_39 : decode cX9_undo 39 = .ok (.getfield 31, 3) := by decide +kernel
theorem dX9_undo_42 : decode cX9_undo 42 = .ok (.bipush 21, 2) := by decide +kernel
theorem dX9_undo_44 : decode cX9_undo 44 = .ok (.aload_n 0, 1) := by decide +kernel
theorem dX9_undo_45 : decode cX9_undo 45 = .ok (.getfield 126, 3) := by decide +kernel
theorem dX9_undo_48 : decode cX9_undo 48 = .ok (.imul, 1) := by decide +kernel
theorem dX9_undo_49 : decode cX9_undo 49 = .ok (.iload_n 1, 1) := by decide +kernel
theorem dX9_undo_50 : decode cX9_undo 50 = .ok (.iadd, 1) := by decide +kernel
theorem dX9_undo_51 : decode cX9_undo 51 = .ok (.iaload, 1) := by decide +kernel
theorem dX9_undo_52 : decode cX9_undo 52 = .ok (.iastore, 1) := by decide +kernel
theorem dX9_undo_53 : decode cX9_undo 53 = .ok (.iinc 1 1, 3) := by decide +kernel
theorem dX9_undo_56 : decode cX9_undo 56 = .ok (.goto (-29), 3) := by decide +kernel
theorem dX9_undo_59 : decode cX9_undo 59 = .ok (.aload_n 0, 1) := by decide +kernel
theorem dX9_undo_60 : decode cX9_undo 60 = .ok (.getfield 126, 3) := by decide +kernel
theorem dX9_undo_63 : decode cX9_undo 63 = .ok (.ireturn, 1) := by decide +kernel
theorem dX9_begin_0 : decode cX9_begin 0 = .ok (.iconst 0, 1) := by decide +kernel
theorem dX9_begin_1 : decode cX9_begin 1 = .ok (.istore_n 1, 1) := by decide +kernel
theorem dX9_begin_2 : decode cX9_begin 2 = .ok (.iload_n 1, 1) := by decide +kernel
theorem dX9_begin_3 : decode cX9_begin 3 = .ok (.bipush 21, 2) := by decide +kernel
theorem dX9_begin_5 : decode cX9_begin 5 = .ok (.if_icmp .ge 21, 3) := by decide +kernel
theorem dX9_begin_8 : decode cX9_begin 8 = .ok (.aload_n 0, 1) := by decide +kernel
theorem dX9_begin_9 : decode cX9_begin 9 = .ok (.getfield 28, 3) := by decide +kernel
theorem dX9_begin_12 : decode cX9_begin 12 = .ok (.iload_n 1, 1) := by decide +kernel
theorem dX9_begin_13 : decode cX9_begin 13 = .ok (.aload_n 0, 1) := by decide +kernel
theorem dX9_begin_14 : decode cX9_begin 14 = .ok (.getfield 25, 3) := by decide +kernel
theorem dX9_begin_17 : decode cX9_begin 17 = .ok (.iload_n 1, 1) := by decide +kernel
theorem dX9_begin_18 : decode cX9_begin 18 = .ok (.iaload, 1) := by decide +kernel
theorem dX9_begin_19 : decode cX9_begin 19 = .ok (.iastore, 1) := by decide +kernel
theorem dX9_begin_20 : decode cX9_begin 20 = .ok (.iinc 1 1, 3) := by decide +kernel
theorem dX9_begin_23 : decode cX9_begin 23 = .ok (.goto (-21), 3) := by decide +kernel
theorem dX9_begin_26 : decode cX9_begin 26 = .ok (.return_, 1) := by decide +kernel
theorem dX9_goBeats_0 : decode cX9_goBeats 0 = .ok (.iconst 0, 1) := by decide +kernel
theorem dX9_goBeats_1 : decode cX9_goBeats 1 = .ok (.istore_n 3, 1) := by decide +kernel
theorem dX9_goBeats_2 : decode cX9_goBeats 2 = .ok (.iload_n 3, 1) := by decide +kernel
theorem dX9_goBeats_3 : decode cX9_goBeats 3 = .ok (.iload_n 1, 1) := by decide +kernel
theorem dX9_goBeats_4 : decode cX9_goBeats 4 = .ok (.if_icmp .ge 19, 3) := by decide +kernel
theorem dX9_goBeats_7 : decode cX9_goBeats 7 = .ok (.aload_n 0, 1) := by decide +kernel
theorem dX9_goBeats_8 : decode cX9_goBeats 8 = .ok (.aload_n 0, 1) := by decide +kernel
theorem dX9_goBeats_9 : decode cX9_goBeats 9 = .ok (.getfield 28, 3) := by decide +kernel
theorem dX9_goBeats_12 : decode cX9_goBeats 12 = .ok (.iload_n 2, 1) := by decide +kernel
theorem dX9_goBeats_13 : decode cX9_goBeats 13 = .ok (.invokevirtual 190, 3) := by decide +kernel
theorem dX9_goBeats_16 : decode cX9_goBeats 16 = .ok (.pop, 1) := by decide +kernel
theorem dX9_goBeats_17 : decode cX9_goBeats 17 = .ok (.iinc 3 1, 3) := by decide +kernel
theorem dX9_goBeats_20 : decode cX9_goBeats 20 = .ok (.goto (-18), 3) := by decide +kernel
theorem dX9_goBeats_23 : decode cX9_goBeats 23 = .ok (.return_, 1) := by decide +kernel
theorem dX9_later_0 : decode cX9_later 0 = .ok (.aload_n 0, 1) := by decide +kernel
theorem dX9_later_1 : decode cX9_later 1 = .ok (.iconst 0, 1) := by decide +kernel
theorem dX9_later_2 : decode cX9_later 2 = .ok (.putfield 59, 3) := by decide +kernel
theorem dX9_later_5 : decode cX9_later 5 = .ok (.iload_n 1, 1) := by decide +kernel
theorem dX9_later_6 : decode cX9_later 6 = .ok (.i2l, 1) := by decide +kernel
theorem dX9_later_7 : decode cX9_later 7 = .ok (.lconst 0, 1) := by decide +kernel
theorem dX9_later_8 : decode cX9_later 8 = .ok (.ldc2_w 200, 3) := by decide +kernel
theorem dX9_later_11 : decode cX9_later 11 = .ok (.invokestatic 66, 3) := by decide +kernel
theorem dX9_later_14 : decode cX9_later 14 = .ok (.ifCond .eq 13, 3) := by decide +kernel
theorem dX9_later_17 : decode cX9_later 17 = .ok (.iload_n 2, 1) := by decide +kernel
theorem dX9_later_18 : decode cX9_later 18 = .ok (.i2l, 1) := by decide +kernel
theorem dX9_later_19 : decode cX9_later 19 = .ok (.lconst 0, 1) := by decide +kernel
theorem dX9_later_20 : decode cX9_later 20 = .ok (.lconst 1, 1) := by decide +kernel
theorem dX9_later_21 : decode cX9_later 21 = .ok (.invokestatic 66, 3) := by decide +kernel
theorem dX9_later_24 : decode cX9_later 24 = .ok (.ifCond .ne 6, 3) := by decide +kernel
theorem dX9_later_27 : decode cX9_later 27 = .ok (.bipush (-2), 2) := by decide +kernel
theorem dX9_later_29 : decode cX9_later 29 = .ok (.ireturn, 1) := by decide +kernel
theorem dX9_later_30 : decode cX9_later 30 = .ok (.aload_n 0, 1) := by decide +kernel
theorem dX9_later_31 : decode cX9_later 31 = .ok (.invokevirtual 202, 3) := by decide +kernel
theorem dX9_later_34 : decode cX9_later 34 = .ok (.aload_n 0, 1) := by decide +kernel
theorem dX9_later_35 : decode cX9_later 35 = .ok (.iload_n 1, 1) := by decide +kernel
theorem dX9_later_36 : decode cX9_later 36 = .ok (.bipush 31, 2) := by decide +kernel
theorem dX9_later_38 : decode cX9_later 38 = .ok (.invokevirtual 205, 3) := by decide +kernel
theorem dX9_later_41 : decode cX9_later 41 = .ok (.aload_n 0, 1) := by decide +kernel
theorem dX9_later_42 : decode cX9_later 42 = .ok (.getfield 28, 3) := by decide +kernel
theorem dX9_later_45 : decode cX9_later 45 = .ok (.iload_n 2, 1) := by decide +kernel
theorem dX9_later_46 : decode cX9_later 46 = .ok (.ifCond .ne 8, 3) := by decide +kernel
theorem dX9_later_49 : decode cX9_later 49 = .ok (.bipush 18, 2) := by decide +kernel
theorem dX9_later_51 : decode cX9_later 51 = .ok (.goto 5, 3) := by decide +kernel
theorem dX9_later_54 : decode cX9_later 54 = .ok (.bipush 19, 2) := by decide +kernel
theorem dX9_later_56 : decode cX9_later 56 = .ok (.iaload, 1) := by decide +kernel
theorem dX9_later_57 : decode cX9_later 57 = .ok (.ireturn, 1) := by decide +kernel
theorem dX9_out_0 : decode cX9_out 0 = .ok (.aload_n 0, 1) := by decide +kernel
theorem dX9_out_1 : decode cX9_out 1 = .ok (.iconst 0, 1) := by decide +kernel
theorem dX9_out_2 : decode cX9_out 2 = .ok (.putfield 59, 3) := by decide +kernel
theorem dX9_out_5 : decode cX9_out 5 = .ok (.aload_n 0, 1) := by decide +kernel
theorem dX9_out_6 : decode cX9_out 6 = .ok (.invokevirtual 202, 3) := by decide +kernel
theorem dX9_out_9 : decode cX9_out 9 = .ok (.iconst 0, 1) := by decide +kernel
theorem dX9_out_10 : decode cX9_out 10 = .ok (.istore_n 1, 1) := by decide +kernel
theorem dX9_out_11 : decode cX9_out 11 = .ok (.iload_n 1, 1) := by decide +kernel
theorem dX9_out_12 : decode cX9_out 12 = .ok (.bipush 60, 2) := by decide +kernel
theorem dX9_out_14 : decode cX9_out 14 = .ok (.if_icmp .gt 32, 3) := by decide +kernel
theorem dX9_out_17 : decode cX9_out 17 = .ok (.aload_n 0, 1) := by decide +kernel
theorem dX9_out_18 : decode cX9_out 18 = .ok (.getfield 28, 3) := by decide +kernel
theorem dX9_out_21 : decode cX9_out 21 = .ok (.bipush 18, 2) := by decide +kernel
theorem dX9_out_23 : decode cX9_out 23 = .ok (.iaload, 1) := by decide +kernel
theorem dX9_out_24 : decode cX9_out 24 = .ok (.ifCond .ne 5, 3) := by decide +kernel
theorem dX9_out_27 : decode cX9_out 27 = .ok (.iload_n 1, 1) := by decide +kernel
theorem dX9_out_28 : decode cX9_out 28 = .ok (.ireturn, 1) := by decide +kernel
theorem dX9_out_29 : decode cX9_out 29 = .ok (.aload_n 0, 1) := by decide +kernel
theorem dX9_out_30 : decode cX9_out 30 = .ok (.aload_n 0, 1) := by decide +kernel
theorem dX9_out_31 : decode cX9_out 31 = .ok (.getfield 28, 3) := by decide +kernel
theorem dX9_out_34 : decode cX9_out 34 = .ok (.bipush 31, 2) := by decide +kernel
theorem dX9_out_36 : decode cX9_out 36 = .ok (.invokevirtual 190, 3) := by decide +kernel
theorem dX9_out_39 : decode cX9_out 39 = .ok (.pop, 1) := by decide +kernel
theorem dX9_out_40 : decode cX9_out 40 = .ok (.iinc 1 1, 3) := by decide +kernel
theorem dX9_out_43 : decode cX9_out 43 = .ok (.goto (-32), 3) := by decide +kernel
theorem dX9_out_46 : decode cX9_out 46 = .ok (.bipush (-9), 2) := by decide +kernel
theorem dX9_out_48 : decode cX9_out 48 = .ok (.ireturn, 1) := by decide +kernel
theorem dX9_swap_0 : decode cX9_swap 0 = .ok (.aload_n 0, 1) := by decide +kernel
theorem dX9_swap_1 : decode cX9_swap 1 = .ok (.iconst 0, 1) := by decide +kernel
theorem dX9_swap_2 : decode cX9_swap 2 = .ok (.putfield 59, 3) := by decide +kernel
theorem dX9_swap_5 : decode cX9_swap 5 = .ok (.iload_n 1, 1) := by decide +kernel
theorem dX9_swap_6 : decode cX9_swap 6 = .ok (.i2l, 1) := by decide +kernel
theorem dX9_swap_7 : decode cX9_swap 7 = .ok (.lconst 1, 1) := by decide +kernel
theorem dX9_swap_8 : decode cX9_swap 8 = .ok (.ldc2_w 209, 3) := by decide +kernel
theorem dX9_swap_11 : decode cX9_swap 11 = .ok (.invokestatic 66, 3) := by decide +kernel
theorem dX9_swap_14 : decode cX9_swap 14 = .ok (.ifCond .eq 13, 3) := by decide +kernel
theorem dX9_swap_17 : decode cX9_swap 17 = .ok (.iload_n 2, 1) := by decide +kernel
theorem dX9_swap_18 : decode cX9_swap 18 = .ok (.i2l, 1) := by decide +kernel
theorem dX9_swap_19 : decode cX9_swap 19 = .ok (.lconst 0, 1) := by decide +kernel
theorem dX9_swap_20 : decode cX9_swap 20 = .ok (.lconst 1, 1) := by decide +kernel
theorem dX9_swap_21 : decode cX9_swap 21 = .ok (.invokestatic 66, 3) := by decide +kernel
theorem dX9_swap_24 : decode cX9_swap 24 = .ok (.ifCond .ne 6, 3) := by decide +kernel
theorem dX9_swap_27 : decode cX9_swap 27 = .ok (.bipush (-2), 2) := by decide +kernel
theorem dX9_swap_29 : decode cX9_swap 29 = .ok (.ireturn, 1) := by decide +kernel
theorem dX9_swap_30 : decode cX9_swap 30 = .ok (.aload_n 0, 1) := by decide +kernel
theorem dX9_swap_31 : decode cX9_swap 31 = .ok (.invokevirtual 202, 3) := by decide +kernel
theorem dX9_swap_34 : decode cX9_swap 34 = .ok (.aload_n 0, 1) := by decide +kernel
theorem dX9_swap_35 : decode cX9_swap 35 = .ok (.iload_n 1, 1) := by decide +kernel
theorem dX9_swap_36 : decode cX9_swap 36 = .ok (.bipush 31, 2) := by decide +kernel
theorem dX9_swap_38 : decode cX9_swap 38 = .ok (.invokevirtual 205, 3) := by decide +kernel
theorem dX9_swap_41 : decode cX9_swap 41 = .ok (.aload_n 0, 1) := by decide +kernel
theorem dX9_swap_42 : decode cX9_swap 42 = .ok (.aload_n 0, 1) := by decide +kernel
theorem dX9_swap_43 : decode cX9_swap 43 = .ok (.getfield 28, 3) := by decide +kernel
theorem dX9_swap_46 : decode cX9_swap 46 = .ok (.bipush 19, 2) := by decide +kernel
theorem dX9_swap_48 : decode cX9_swap 48 = .ok (.iaload, 1) := by decide +kernel
theorem dX9_swap_49 : decode cX9_swap 49 = .ok (.putfield 211, 3) := by decide +kernel
theorem dX9_swap_52 : decode cX9_swap 52 = .ok (.aload_n 0, 1) := by decide +kernel
theorem dX9_swap_53 : decode cX9_swap 53 = .ok (.bipush 99, 2) := by decide +kernel
theorem dX9_swap_55 : decode cX9_swap 55 = .ok (.putfield 214, 3) := by decide +kernel
theorem dX9_swap_58 : decode cX9_swap 58 = .ok (.iconst 0, 1) := by decide +kernel
theorem dX9_swap_59 : decode cX9_swap 59 = .ok (.istore_n 3, 1) := by decide +kernel
theorem dX9_swap_60 : decode cX9_swap 60 = .ok (.iload_n 3, 1) := by decide +kernel
theorem dX9_swap_61 : decode cX9_swap 61 = .ok (.aload_n 0, 1) := by decide +kernel
theorem dX9_swap_62 : decode cX9_swap 62 = .ok (.getfield 63, 3) := by decide +kernel
theorem dX9_swap_65 : decode cX9_swap 65 = .ok (.if_icmp .ge 87, 3) := by decide +kernel
theorem dX9_swap_68 : decode cX9_swap 68 = .ok (.iload_n 3, 1) := by decide +kernel
theorem dX9_swap_69 : decode cX9_swap 69 = .ok (.iconst 1, 1) := by decide +kernel
theorem dX9_swap_70 : decode cX9_swap 70 = .ok (.iadd, 1) := by decide +kernel
theorem dX9_swap_71 : decode cX9_swap 71 = .ok (.istore 4, 2) := by decide +kernel
theorem dX9_swap_73 : decode cX9_swap 73 = .ok (.iload 4, 2) := by decide +kernel
theorem dX9_swap_75 : decode cX9_swap 75 = .ok (.aload_n 0, 1) := by decide +kernel
theorem dX9_swap_76 : decode cX9_swap 76 = .ok (.getfield 63, 3) := by decide +kernel
theorem dX9_swap_79 : decode cX9_swap 79 = .ok (.if_icmp .ge 67, 3) := by decide +kernel
theorem dX9_swap_82 : decode cX9_swap 82 = .ok (.aload_n 0, 1) := by decide +kernel
theorem dX9_swap_83 : decode cX9_swap 83 = .ok (.invokevirtual 202, 3) := by decide +kernel
theorem dX9_swap_86 : decode cX9_swap 86 = .ok (.aload_n 0, 1) := by decide +kernel
theorem dX9_swap_87 : decode cX9_swap 87 = .ok (.aload_n 0, 1) := by decide +kernel
theorem dX9_swap_88 : decode cX9_swap 88 = .ok (.getfield 28, 3) := by decide +kernel
theorem dX9_swap_91 : decode cX9_swap 91 = .ok (.iload_n 3, 1) := by decide +kernel
theorem dX9_swap_92 : decode cX9_swap 92 = .ok (.iload 4, 2) := by decide +kernel
theorem dX9_swap_94 : decode cX9_swap 94 = .ok (.invokevirtual 193, 3) := by decide +kernel
theorem dX9_swap_97 : decode cX9_swap 97 = .ok (.aload_n 0, 1) := by decide +kernel
theorem dX9_swap_98 : decode cX9_swap 98 = .ok (.iload_n 1, 1) := by decide +kernel
theorem dX9_swap_99 : decode cX9_swap 99 = .ok (.bipush 31, 2) := by decide +kernel
theorem dX9_swap_101 : decode cX9_swap 101 = .ok (.invokevirtual 205, 3) := by decide +kernel
theorem dX9_swap_104 : decode cX9_swap 104 = .ok (.aload_n 0, 1) := by decide +kernel
theorem dX9_swap_105 : decode cX9_swap 105 = .ok (.getfield 28, 3) := by decide +kernel
theorem dX9_swap_108 : decode cX9_swap 108 = .ok (.bipush 19, 2) := by decide +kernel
theorem dX9_swap_110 : decode cX9_swap 110 = .ok (.iaload, 1) := by decide +kernel
theorem dX9_swap_111 : decode cX9_swap 111 = .ok (.aload_n 0, 1) := by decide +kernel
theorem dX9_swap_112 : decode cX9_swap 112 = .ok (.getfield 211, 3) := by decide +kernel
theorem dX9_swap_115 : decode cX9_swap 115 = .ok (.if_icmp .le 25, 3) := by decide +kernel
theorem dX9_swap_118 : decode cX9_swap 118 = .ok (.aload_n 0, 1) := by decide +kernel
theorem dX9_swap_119 : decode cX9_swap 119 = .ok (.aload_n 0, 1) := by decide +kernel
theorem dX9_swap_120 : decode cX9_swap 120 = .ok (.getfield 28, 3) := by decide +kernel
theorem dX9_swap_123 : decode cX9_swap 123 = .ok (.bipush 19, 2) := by decide +kernel
theorem dX9_swap_125 : decode cX9_swap 125 = .ok (.iaload, 1) := by decide +kernel
theorem dX9_swap_126 : decode cX9_swap 126 = .ok (.putfield 211, 3) := by decide +kernel
theorem dX9_swap_129 : decode cX9_swap 129 = .ok (.aload_n 0, 1) := by decide +kernel
theorem dX9_swap_130 : decode cX9_swap 130 = .ok (.bipush 10, 2) := by decide +kernel
theorem dX9_swap_132 : decode cX9_swap 132 = .ok (.iload_n 3, 1) := by decide +kernel
theorem dX9_swap_133 : decode cX9_swap 133 = .ok (.imul, 1) := by decide +kernel
theorem dX9_swap_134 : decode cX9_swap 134 = .ok (.iload 4, 2) := by decide +kernel
theorem dX9_swap_136 : decode cX9_swap 136 = .ok (.iadd, 1) := by decide +kernel
theorem dX9_swap_137 : decode cX9_swap 137 = .ok (.putfield 214, 3) := by decide +kernel
theorem dX9_swap_140 : decode cX9_swap 140 = .ok (.iinc 4 1, 3) := by decide +kernel
theorem dX9_swap_143 : decode cX9_swap 143 = .ok (.goto (-70), 3) := by decide +kernel
theorem dX9_swap_146 : decode cX9_swap 146 = .ok (.iinc 3 1, 3) := by decide +kernel
theorem dX9_swap_149 : decode cX9_swap 149 = .ok (.goto (-89), 3) := by decide +kernel
theorem dX9_swap_152 : decode cX9_swap 152 = .ok (.iload_n 2, 1) := by decide +kernel
theorem dX9_swap_153 : decode cX9_swap 153 = .ok (.ifCond .ne 10, 3) := by decide +kernel
theorem dX9_swap_156 : decode cX9_swap 156 = .ok (.aload_n 0, 1) := by decide +kernel
theorem dX9_swap_157 : decode cX9_swap 157 = .ok (.getfield 211, 3) := by decide +kernel
theorem dX9_swap_160 : decode cX9_swap 160 = .ok (.goto 7, 3) := by decide +kernel
theorem dX9_swap_163 : decode cX9_swap 163 = .ok (.aload_n 0, 1) := by decide +kernel
theorem dX9_swap_164 : decode cX9_swap 164 = .ok (.getfield 214, 3) := by decide +kernel
theorem dX9_swap_167 : decode cX9_swap 167 = .ok (.ireturn, 1) := by decide +kernel
theorem dX9_nextLine_0 : decode cX9_nextLine 0 = .ok (.aload_n 0, 1) := by decide +kernel
theorem dX9_nextLine_1 : decode cX9_nextLine 1 = .ok (.getfield 63, 3) := by decide +kernel
theorem dX9_nextLine_4 : decode cX9_nextLine 4 = .ok (.iconst 2, 1) := by decide +kernel
theorem dX9_nextLine_5 : decode cX9_nextLine 5 = .ok (.isub, 1) := by decide +kernel
theorem dX9_nextLine_6 : decode cX9_nextLine 6 = .ok (.istore_n 1, 1) := by decide +kernel
theorem dX9_nextLine_7 : decode cX9_nextLine 7 = .ok (.iload_n 1, 1) := by decide +kernel
theorem dX9_nextLine_8 : decode cX9_nextLine 8 = .ok (.ifCond .lt 26, 3) := by decide +kernel
theorem dX9_nextLine_11 : decode cX9_nextLine 11 = .ok (.aload_n 0, 1) := by decide +kernel
theorem dX9_nextLine_12 : decode cX9_nextLine 12 = .ok (.getfield 56, 3) := by decide +kernel
theorem dX9_nextLine_15 : decode cX9_nextLine 15 = .ok (.iload_n 1, 1) := by decide +kernel
theorem dX9_nextLine_16 : decode cX9_nextLine 16 = .ok (.iaload, 1) := by decide +kernel
theorem dX9_nextLine_17 : decode cX9_nextLine 17 = .ok (.aload_n 0, 1) := by decide +kernel
theorem dX9_nextLine_18 : decode cX9_nextLine 18 = .ok (.getfield 56, 3) := by decide +kernel
theorem dX9_nextLine_21 : decode cX9_nextLine 21 = .ok (.iload_n 1, 1) := by decide +kernel
theorem dX9_nextLine_22 : decode cX9_nextLine 22 = .ok (.iconst 1, 1) := by decide +kernel
theorem dX9_nextLine_23 : decode cX9_nextLine 23 = .ok (.iadd, 1) := by decide +kernel
theorem dX9_nextLine_24 : decode cX9_nextLine 24 = .ok (.iaload, 1) := by decide +kernel
theorem dX9_nextLine_25 : decode cX9_nextLine 25 = .ok (.if_icmp .le 9, 3) := by decide +kernel
theorem dX9_nextLine_28 : decode cX9_nextLine 28 = .ok (.iinc 1 (-1), 3) := by decide +kernel
theorem dX9_nextLine_31 : decode cX9_nextLine 31 = .ok (.goto (-24), 3) := by decide +kernel
theorem dX9_nextLine_34 : decode cX9_nextLine 34 = .ok (.iload_n 1, 1) := by decide +kernel
theorem dX9_nextLine_35 : decode cX9_nextLine 35 = .ok (.ifCond .ge 5, 3) := by decide +kernel
theorem dX9_nextLine_38 : decode cX9_nextLine 38 = .ok (.iconst 0, 1) := by decide +kernel
theorem dX9_nextLine_39 : decode cX9_nextLine 39 = .ok (.ireturn, 1) := by decide +kernel
theorem dX9_nextLine_40 : decode cX9_nextLine 40 = .ok (.aload_n 0, 1) := by decide +kernel
theorem dX9_nextLine_41 : decode cX9_nextLine 41 = .ok (.getfield 63, 3) := by decide +kernel
theorem dX9_nextLine_44 : decode cX9_nextLine 44 = .ok (.iconst 1, 1) := by decide +kernel
theorem dX9_nextLine_45 : decode cX9_nextLine 45 = .ok (.isub, 1) := by decide +kernel
theorem dX9_nextLine_46 : decode cX9_nextLine 46 = .ok (.istore_n 2, 1) := by decide +kernel
theorem dX9_nextLine_47 : decode cX9_nextLine 47 = .ok (.aload_n 0, 1) := by decide +kernel
theorem dX9_nextLine_48 : decode cX9_nextLine 48 = .ok (.getfield 56, 3) := by decide +kernel
theorem dX9_nextLine_51 : decode cX9_nextLine 51 = .ok (.iload_n 2, 1) := by decide +kernel
theorem dX9_nextLine_52 : decode cX9_nextLine 52 = .ok (.iaload, 1) := by decide +kernel
theorem dX9_nextLine_53 : decode cX9_nextLine 53 = .ok (.aload_n 0, 1) := by decide +kernel
theorem dX9_nextLine_54 : decode cX9_nextLine 54 = .ok (.getfield 56, 3) := by decide +kernel
theorem dX9_nextLine_57 : decode cX9_nextLine 57 = .ok (.iload_n 1, 1) := by decide +kernel
theorem dX9_nextLine_58 : decode cX9_nextLine 58 = .ok (.iaload, 1) := by decide +kernel
theorem dX9_nextLine_59 : decode cX9_nextLine 59 = .ok (.if_icmp .ge 9, 3) := by decide +kernel
theorem dX9_nextLine_62 : decode cX9_nextLine 62 = .ok (.iinc 2 (-1), 3) := by decide +kernel
theorem dX9_nextLine_65 : decode cX9_nextLine 65 = .ok (.goto (-18), 3) := by decide +kernel
theorem dX9_nextLine_68 : decode cX9_nextLine 68 = .ok (.aload_n 0, 1) := by decide +kernel
theorem dX9_nextLine_69 : decode cX9_nextLine 69 = .ok (.iload_n 1, 1) := by decide +kernel
theorem dX9_nextLine_70 : decode cX9_nextLine 70 = .ok (.iload_n 2, 1) := by decide +kernel
theorem dX9_nextLine_71 : decode cX9_nextLine 71 = .ok (.invokevirtual 217, 3) := by decide +kernel
theorem dX9_nextLine_74 : decode cX9_nextLine 74 = .ok (.iload_n 1, 1) := by decide +kernel
theorem dX9_nextLine_75 : decode cX9_nextLine 75 = .ok (.iconst 1, 1) := by decide +kernel
theorem dX9_nextLine_76 : decode cX9_nextLine 76 = .ok (.iadd, 1) := by decide +kernel
theorem dX9_nextLine_77 : decode cX9_nextLine 77 = .ok (.istore_n 3, 1) := by decide +kernel
theorem dX9_nextLine_78 : decode cX9_nextLine 78 = .ok (.aload_n 0, 1) := by decide +kernel
theorem dX9_nextLine_79 : decode cX9_nextLine 79 = .ok (.getfield 63, 3) := by decide +kernel
theorem dX9_nextLine_82 : decode cX9_nextLine 82 = .ok (.iconst 1, 1) := by decide +kernel
theorem dX9_nextLine_83 : decode cX9_nextLine 83 = .ok (.isub, 1) := by decide +kernel
theorem dX9_nextLine_84 : decode cX9_nextLine 84 = .ok (.istore 4, 2) := by decide +kernel
theorem dX9_nextLine_86 : decode cX9_nextLine 86 = .ok (.iload_n 3, 1) := by decide +kernel
theorem dX9_nextLine_87 : decode cX9_nextLine 87 = .ok (.iload 4, 2) := by decide +kernel
theorem dX9_nextLine_89 : decode cX9_nextLine 89 = .ok (.if_icmp .ge 19, 3) := by decide +kernel
theorem dX9_nextLine_92 : decode cX9_nextLine 92 = .ok (.aload_n 0, 1) := by decide +kernel
theorem dX9_nextLine_93 : decode cX9_nextLine 93 = .ok (.iload_n 3, 1) := by decide +kernel
theorem dX9_nextLine_94 : decode cX9_nextLine 94 = .ok (.iload 4, 2) := by decide +kernel
theorem dX9_nextLine_96 : decode cX9_nextLine 96 = .ok (.invokevirtual 217, 3) := by decide +kernel
theorem dX9_nextLine_99 : decode cX9_nextLine 99 = .ok (.iinc 3 1, 3) := by decide +kernel
theorem dX9_nextLine_102 : decode cX9_nextLine 102 = .ok (.iinc 4 (-1), 3) := by decide +kernel
theorem dX9_nextLine_105 : decode cX9_nextLine 105 = .ok (.goto (-19), 3) := by decide +kernel
theorem dX9_nextLine_108 : decode cX9_nextLine 108 = .ok (.iconst 1, 1) := by decide +kernel
theorem dX9_nextLine_109 : decode cX9_nextLine 109 = .ok (.ireturn, 1) := by decide +kernel
theorem dX9_turnLine_0 : decode cX9_turnLine 0 = .ok (.aload_n 0, 1) := by decide +kernel
theorem dX9_turnLine_1 : decode cX9_turnLine 1 = .ok (.getfield 56, 3) := by decide +kernel
theorem dX9_turnLine_4 : decode cX9_turnLine 4 = .ok (.iload_n 1, 1) := by decide +kernel
theorem dX9_turnLine_5 : decode cX9_turnLine 5 = .ok (.iaload, 1) := by decide +kernel
theorem dX9_turnLine_6 : decode cX9_turnLine 6 = .ok (.istore_n 3, 1) := by decide +kernel
theorem dX9_turnLine_7 : decode cX9_turnLine 7 = .ok (.aload_n 0, 1) := by decide +kernel
theorem dX9_turnLine_8 : decode cX9_turnLine 8 = .ok (.getfield 56, 3) := by decide +kernel
theorem dX9_turnLine_11 : decode cX9_turnLine 11 = .ok (.iload_n 1, 1) := by decide +kernel
theorem dX9_turnLine_12 : decode cX9_turnLine 12 = .ok (.aload_n 0, 1) := by decide +kernel
theorem dX9_turnLine_13 : decode cX9_turnLine 13 = .ok (.getfield 56, 3) := by decide +kernel
theorem dX9_turnLine_16 : decode cX9_turnLine 16 = .ok (.iload_n 2, 1) := by decide +kernel
theorem dX9_turnLine_17 : decode cX9_turnLine 17 = .ok (.iaload, 1) := by decide +kernel
theorem dX9_turnLine_18 : decode cX9_turnLine 18 = .ok (.iastore, 1) := by decide +kernel
theorem dX9_turnLine_19 : decode cX9_turnLine 19 = .ok (.aload_n 0, 1) := by decide +kernel
theorem dX9_turnLine_20 : decode cX9_turnLine 20 = .ok (.getfield 56, 3) := by decide +kernel
theorem dX9_turnLine_23 : decode cX9_turnLine 23 = .ok (.iload_n 2, 1) := by decide +kernel
theorem dX9_turnLine_24 : decode cX9_turnLine 24 = .ok (.iload_n 3, 1) := by decide +kernel
theorem dX9_turnLine_25 : decode cX9_turnLine 25 = .ok (.iastore, 1) := by decide +kernel
theorem dX9_turnLine_26 : decode cX9_turnLine 26 = .ok (.return_, 1) := by decide +kernel
theorem dX9_lineFigures_0 : decode cX9_lineFigures 0 = .ok (.iconst 0, 1) := by decide +kernel
theorem dX9_lineFigures_1 : decode cX9_lineFigures 1 = .ok (.istore_n 1, 1) := by decide +kernel
theorem dX9_lineFigures_2 : decode cX9_lineFigures 2 = .ok (.iconst 0, 1) := by decide +kernel
theorem dX9_lineFigures_3 : decode cX9_lineFigures 3 = .ok (.istore_n 2, 1) := by decide +kernel
theorem dX9_lineFigures_4 : decode cX9_lineFigures 4 = .ok (.iload_n 2, 1) := by decide +kernel
theorem dX9_lineFigures_5 : decode cX9_lineFigures 5 = .ok (.aload_n 0, 1) := by decide +kernel
theorem dX9_lineFigures_6 : decode cX9_lineFigures 6 = .ok (.getfield 63, 3) := by decide +kernel
theorem dX9_lineFigures_9 : decode cX9_lineFigures 9 = .ok (.if_icmp .ge 23, 3) := by decide +kernel
theorem dX9_lineFigures_12 : decode cX9_lineFigures 12 = .ok (.bipush 10, 2) := by decide +kernel
theorem dX9_lineFigures_14 : decode cX9_lineFigures 14 = .ok (.iload_n 1, 1) := by decide +kernel
theorem dX9_lineFigures_15 : decode cX9_lineFigures 15 = .ok (.imul, 1) := by decide +kernel
theorem dX9_lineFigures_16 : decode cX9_lineFigures 16 = .ok (.aload_n 0, 1) := by decide +kernel
theorem dX9_lineFigures_17 : decode cX9_lineFigures 17 = .ok (.getfield 56, 3) := by decide +kernel
theorem dX9_lineFigures_20 : decode cX9_lineFigures 20 = .ok (.iload_n 2, 1) := by decide +kernel
theorem dX9_lineFigures_21 : decode cX9_lineFigures 21 = .ok (.iaload, 1) := by decide +kernel
theorem dX9_lineFigures_22 : decode cX9_lineFigures 22 = .ok (.iadd, 1) := by decide +kernel
theorem dX9_lineFigures_23 : decode cX9_lineFigures 23 = .ok (.iconst 1, 1) := by decide +kernel
theorem dX9_lineFigures_24 : decode cX9_lineFigures 24 = .ok (.iadd, 1) := by decide +kernel
theorem dX9_lineFigures_25 : decode cX9_lineFigures 25 = .ok (.istore_n 1, 1) := by decide +kernel
theorem dX9_lineFigures_26 : decode cX9_lineFigures 26 = .ok (.iinc 2 1, 3) := by decide +kernel
theorem dX9_lineFigures_29 : decode cX9_lineFigures 29 = .ok (.goto (-25), 3) := by decide +kernel
theorem dX9_lineFigures_32 : decode cX9_lineFigures 32 = .ok (.iload_n 1, 1) := by decide +kernel
theorem dX9_lineFigures_33 : decode cX9_lineFigures 33 = .ok (.ireturn, 1) := by decide +kernel
theorem dX9_line_0 : decode cX9_line 0 = .ok (.aload_n 0, 1) := by decide +kernel
theorem dX9_line_1 : decode cX9_line 1 = .ok (.iconst 0, 1) := by decide +kernel
theorem dX9_line_2 : decode cX9_line 2 = .ok (.putfield 59, 3) := by decide +kernel
theorem dX9_line_5 : decode cX9_line 5 = .ok (.iload_n 1, 1) := by decide +kernel
theorem dX9_line_6 : decode cX9_line 6 = .ok (.i2l, 1) := by decide +kernel
theorem dX9_line_7 : decode cX9_line 7 = .ok (.lconst 1, 1) := by decide +kernel
theorem dX9_line_8 : decode cX9_line 8 = .ok (.ldc2_w 209, 3) := by decide +kernel
theorem dX9_line_11 : decode cX9_line 11 = .ok (.invokestatic 66, 3) := by decide +kernel
theorem dX9_line_14 : decode cX9_line 14 = .ok (.ifCond .eq 13, 3) := by decide +kernel
theorem dX9_line_17 : decode cX9_line 17 = .ok (.iload_n 2, 1) := by decide +kernel
theorem dX9_line_18 : decode cX9_line 18 = .ok (.i2l, 1) := by decide +kernel
theorem dX9_line_19 : decode cX9_line 19 = .ok (.lconst 0, 1) := by decide +kernel
theorem dX9_line_20 : decode cX9_line 20 = .ok (.lconst 1, 1) := by decide +kernel
theorem dX9_line_21 : decode cX9_line 21 = .ok (.invokestatic 66, 3) := by decide +kernel
theorem dX9_line_24 : decode cX9_line 24 = .ok (.ifCond .ne 6, 3) := by decide +kernel
theorem dX9_line_27 : decode cX9_line 27 = .ok (.bipush (-2), 2) := by decide +kernel
theorem dX9_line_29 : decode cX9_line 29 = .ok (.ireturn, 1) := by decide +kernel
theorem dX9_line_30 : decode cX9_line 30 = .ok (.iconst 0, 1) := by decide +kernel
theorem dX9_line_31 : decode cX9_line 31 = .ok (.istore_n 3, 1) := by decide +kernel
theorem dX9_line_32 : decode cX9_line 32 = .ok (.iload_n 3, 1) := by decide +kernel
theorem dX9_line_33 : decode cX9_line 33 = .ok (.aload_n 0, 1) := by decide +kernel
theorem dX9_line_34 : decode cX9_line 34 = .ok (.getfield 63, 3) := by decide +kernel
theorem dX9_line_37 : decode cX9_line 37 = .ok (.if_icmp .ge 16, 3) := by decide +kernel
end
section
theorem dX9_line_40 : decode cX9_line 40 = .ok (.aload_n 0, 1) := by decide +kernel
theorem dX9_line_41 : decode cX9_line 41 = .ok (.getfield 56, 3) := by decide +kernel
theorem dX9_line_44 : decode cX9_line 44 = .ok (.iload_n 3, 1) := by decide +kernel
theorem dX9_line_45 : decode cX9_line 45 = .ok (.iload_n 3, 1) := by decide +kernel
theorem dX9_line_46 : decode cX9_line 46 = .ok (.iastore, 1) := by decide +kernel
theorem dX9_line_47 : decode cX9_line 47 = .ok (.iinc 3 1, 3) := by decide +kernel
theorem dX9_line_50 : decode cX9_line 50 = .ok (.goto (-18), 3) := by decide +kernel
theorem dX9_line_53 : decode cX9_line 53 = .ok (.aload_n 0, 1) := by decide +kernel
theorem dX9_line_54 : decode cX9_line 54 = .ok (.bipush (-9), 2) := by decide +kernel
theorem dX9_line_56 : decode cX9_line 56 = .ok (.putfield 211, 3) := by decide +kernel
theorem dX9_line_59 : decode cX9_line 59 = .ok (.aload_n 0, 1) := by decide +kernel
theorem dX9_line_60 : decode cX9_line 60 = .ok (.bipush (-9), 2) := by decide +kernel
theorem dX9_line_62 : decode cX9_line 62 = .ok (.putfield 214, 3) := by decide +kernel
theorem dX9_line_65 : decode cX9_line 65 = .ok (.iconst 1, 1) := by decide +kernel
theorem dX9_line_66 : decode cX9_line 66 = .ok (.istore_n 3, 1) := by decide +kernel
theorem dX9_line_67 : decode cX9_line 67 = .ok (.iload_n 3, 1) := by decide +kernel
theorem dX9_line_68 : decode cX9_line 68 = .ok (.ifCond .eq 87, 3) := by decide +kernel
theorem dX9_line_71 : decode cX9_line 71 = .ok (.aload_n 0, 1) := by decide +kernel
theorem dX9_line_72 : decode cX9_line 72 = .ok (.invokevirtual 202, 3) := by decide +kernel
theorem dX9_line_75 : decode cX9_line 75 = .ok (.iconst 0, 1) := by decide +kernel
theorem dX9_line_76 : decode cX9_line 76 = .ok (.istore 4, 2) := by decide +kernel
theorem dX9_line_78 : decode cX9_line 78 = .ok (.iload 4, 2) := by decide +kernel
theorem dX9_line_80 : decode cX9_line 80 = .ok (.aload_n 0, 1) := by decide +kernel
theorem dX9_line_81 : decode cX9_line 81 = .ok (.getfield 63, 3) := by decide +kernel
theorem dX9_line_84 : decode cX9_line 84 = .ok (.if_icmp .ge 23, 3) := by decide +kernel
theorem dX9_line_87 : decode cX9_line 87 = .ok (.aload_n 0, 1) := by decide +kernel
theorem dX9_line_88 : decode cX9_line 88 = .ok (.getfield 28, 3) := by decide +kernel
theorem dX9_line_91 : decode cX9_line 91 = .ok (.iload 4, 2) := by decide +kernel
theorem dX9_line_93 : decode cX9_line 93 = .ok (.aload_n 0, 1) := by decide +kernel
theorem dX9_line_94 : decode cX9_line 94 = .ok (.getfield 56, 3) := by decide +kernel
theorem dX9_line_97 : decode cX9_line 97 = .ok (.iload 4, 2) := by decide +kernel
theorem dX9_line_99 : decode cX9_line 99 = .ok (.iaload, 1) := by decide +kernel
theorem dX9_line_100 : decode cX9_line 100 = .ok (.iastore, 1) := by decide +kernel
theorem dX9_line_101 : decode cX9_line 101 = .ok (.iinc 4 1, 3) := by decide +kernel
theorem dX9_line_104 : decode cX9_line 104 = .ok (.goto (-26), 3) := by decide +kernel
theorem dX9_line_107 : decode cX9_line 107 = .ok (.aload_n 0, 1) := by decide +kernel
theorem dX9_line_108 : decode cX9_line 108 = .ok (.iload_n 1, 1) := by decide +kernel
theorem dX9_line_109 : decode cX9_line 109 = .ok (.bipush 31, 2) := by decide +kernel
theorem dX9_line_111 : decode cX9_line 111 = .ok (.invokevirtual 205, 3) := by decide +kernel
theorem dX9_line_114 : decode cX9_line 114 = .ok (.aload_n 0, 1) := by decide +kernel
theorem dX9_line_115 : decode cX9_line 115 = .ok (.getfield 28, 3) := by decide +kernel
theorem dX9_line_118 : decode cX9_line 118 = .ok (.bipush 19, 2) := by decide +kernel
theorem dX9_line_120 : decode cX9_line 120 = .ok (.iaload, 1) := by decide +kernel
theorem dX9_line_121 : decode cX9_line 121 = .ok (.aload_n 0, 1) := by decide +kernel
theorem dX9_line_122 : decode cX9_line 122 = .ok (.getfield 211, 3) := by decide +kernel
theorem dX9_line_125 : decode cX9_line 125 = .ok (.if_icmp .le 22, 3) := by decide +kernel
theorem dX9_line_128 : decode cX9_line 128 = .ok (.aload_n 0, 1) := by decide +kernel
theorem dX9_line_129 : decode cX9_line 129 = .ok (.aload_n 0, 1) := by decide +kernel
theorem dX9_line_130 : decode cX9_line 130 = .ok (.getfield 28, 3) := by decide +kernel
theorem dX9_line_133 : decode cX9_line 133 = .ok (.bipush 19, 2) := by decide +kernel
theorem dX9_line_135 : decode cX9_line 135 = .ok (.iaload, 1) := by decide +kernel
theorem dX9_line_136 : decode cX9_line 136 = .ok (.putfield 211, 3) := by decide +kernel
theorem dX9_line_139 : decode cX9_line 139 = .ok (.aload_n 0, 1) := by decide +kernel
theorem dX9_line_140 : decode cX9_line 140 = .ok (.aload_n 0, 1) := by decide +kernel
theorem dX9_line_141 : decode cX9_line 141 = .ok (.invokevirtual 220, 3) := by decide +kernel
theorem dX9_line_144 : decode cX9_line 144 = .ok (.putfield 214, 3) := by decide +kernel
theorem dX9_line_147 : decode cX9_line 147 = .ok (.aload_n 0, 1) := by decide +kernel
theorem dX9_line_148 : decode cX9_line 148 = .ok (.invokevirtual 223, 3) := by decide +kernel
theorem dX9_line_151 : decode cX9_line 151 = .ok (.istore_n 3, 1) := by decide +kernel
theorem dX9_line_152 : decode cX9_line 152 = .ok (.goto (-85), 3) := by decide +kernel
theorem dX9_line_155 : decode cX9_line 155 = .ok (.iload_n 2, 1) := by decide +kernel
theorem dX9_line_156 : decode cX9_line 156 = .ok (.ifCond .ne 10, 3) := by decide +kernel
theorem dX9_line_159 : decode cX9_line 159 = .ok (.aload_n 0, 1) := by decide +kernel
theorem dX9_line_160 : decode cX9_line 160 = .ok (.getfield 211, 3) := by decide +kernel
theorem dX9_line_163 : decode cX9_line 163 = .ok (.goto 7, 3) := by decide +kernel
theorem dX9_line_166 : decode cX9_line 166 = .ok (.aload_n 0, 1) := by decide +kernel
theorem dX9_line_167 : decode cX9_line 167 = .ok (.getfield 214, 3) := by decide +kernel
theorem dX9_line_170 : decode cX9_line 170 = .ok (.ireturn, 1) := by decide +kernel
theorem dX9_longPower_0 : decode cX9_longPower 0 = .ok (.lconst 1, 1) := by decide +kernel
theorem dX9_longPower_1 : decode cX9_longPower 1 = .ok (.lstore_n 3, 1) := by decide +kernel
theorem dX9_longPower_2 : decode cX9_longPower 2 = .ok (.iconst 0, 1) := by decide +kernel
theorem dX9_longPower_3 : decode cX9_longPower 3 = .ok (.istore 5, 2) := by decide +kernel
theorem dX9_longPower_5 : decode cX9_longPower 5 = .ok (.iload 5, 2) := by decide +kernel
theorem dX9_longPower_7 : decode cX9_longPower 7 = .ok (.iload_n 2, 1) := by decide +kernel
theorem dX9_longPower_8 : decode cX9_longPower 8 = .ok (.if_icmp .ge 13, 3) := by decide +kernel
theorem dX9_longPower_11 : decode cX9_longPower 11 = .ok (.lload_n 3, 1) := by decide +kernel
theorem dX9_longPower_12 : decode cX9_longPower 12 = .ok (.lload_n 0, 1) := by decide +kernel
theorem dX9_longPower_13 : decode cX9_longPower 13 = .ok (.lmul, 1) := by decide +kernel
theorem dX9_longPower_14 : decode cX9_longPower 14 = .ok (.lstore_n 3, 1) := by decide +kernel
theorem dX9_longPower_15 : decode cX9_longPower 15 = .ok (.iinc 5 1, 3) := by decide +kernel
theorem dX9_longPower_18 : decode cX9_longPower 18 = .ok (.goto (-13), 3) := by decide +kernel
theorem dX9_longPower_21 : decode cX9_longPower 21 = .ok (.lload_n 3, 1) := by decide +kernel
theorem dX9_longPower_22 : decode cX9_longPower 22 = .ok (.lreturn, 1) := by decide +kernel
theorem dX9_changes_0 : decode cX9_changes 0 = .ok (.aload_n 0, 1) := by decide +kernel
theorem dX9_changes_1 : decode cX9_changes 1 = .ok (.iload_n 1, 1) := by decide +kernel
theorem dX9_changes_2 : decode cX9_changes 2 = .ok (.invokevirtual 177, 3) := by decide +kernel
theorem dX9_changes_5 : decode cX9_changes 5 = .ok (.ifCond .ne 20, 3) := by decide +kernel
theorem dX9_changes_8 : decode cX9_changes 8 = .ok (.aload_n 0, 1) := by decide +kernel
theorem dX9_changes_9 : decode cX9_changes 9 = .ok (.iload_n 2, 1) := by decide +kernel
theorem dX9_changes_10 : decode cX9_changes 10 = .ok (.invokevirtual 177, 3) := by decide +kernel
theorem dX9_changes_13 : decode cX9_changes 13 = .ok (.ifCond .ne 12, 3) := by decide +kernel
theorem dX9_changes_16 : decode cX9_changes 16 = .ok (.iload_n 1, 1) := by decide +kernel
theorem dX9_changes_17 : decode cX9_changes 17 = .ok (.iload_n 2, 1) := by decide +kernel
theorem dX9_changes_18 : decode cX9_changes 18 = .ok (.if_icmp .eq 7, 3) := by decide +kernel
theorem dX9_changes_21 : decode cX9_changes 21 = .ok (.iconst 1, 1) := by decide +kernel
theorem dX9_changes_22 : decode cX9_changes 22 = .ok (.goto 4, 3) := by decide +kernel
theorem dX9_changes_25 : decode cX9_changes 25 = .ok (.iconst 0, 1) := by decide +kernel
theorem dX9_changes_26 : decode cX9_changes 26 = .ok (.istore_n 3, 1) := by decide +kernel
theorem dX9_changes_27 : decode cX9_changes 27 = .ok (.iload_n 3, 1) := by decide +kernel
theorem dX9_changes_28 : decode cX9_changes 28 = .ok (.ifCond .eq 13, 3) := by decide +kernel
theorem dX9_changes_31 : decode cX9_changes 31 = .ok (.aload_n 0, 1) := by decide +kernel
theorem dX9_changes_32 : decode cX9_changes 32 = .ok (.aload_n 0, 1) := by decide +kernel
theorem dX9_changes_33 : decode cX9_changes 33 = .ok (.getfield 28, 3) := by decide +kernel
theorem dX9_changes_36 : decode cX9_changes 36 = .ok (.iload_n 1, 1) := by decide +kernel
theorem dX9_changes_37 : decode cX9_changes 37 = .ok (.iload_n 2, 1) := by decide +kernel
theorem dX9_changes_38 : decode cX9_changes 38 = .ok (.invokevirtual 193, 3) := by decide +kernel
theorem dX9_changes_41 : decode cX9_changes 41 = .ok (.iload_n 3, 1) := by decide +kernel
theorem dX9_changes_42 : decode cX9_changes 42 = .ok (.ireturn, 1) := by decide +kernel
theorem dX9_mends_0 : decode cX9_mends 0 = .ok (.aload_n 0, 1) := by decide +kernel
theorem dX9_mends_1 : decode cX9_mends 1 = .ok (.iload_n 1, 1) := by decide +kernel
theorem dX9_mends_2 : decode cX9_mends 2 = .ok (.invokevirtual 184, 3) := by decide +kernel
theorem dX9_mends_5 : decode cX9_mends 5 = .ok (.ifCond .ne 21, 3) := by decide +kernel
theorem dX9_mends_8 : decode cX9_mends 8 = .ok (.aload_n 0, 1) := by decide +kernel
theorem dX9_mends_9 : decode cX9_mends 9 = .ok (.getfield 28, 3) := by decide +kernel
theorem dX9_mends_12 : decode cX9_mends 12 = .ok (.bipush 17, 2) := by decide +kernel
theorem dX9_mends_14 : decode cX9_mends 14 = .ok (.iaload, 1) := by decide +kernel
theorem dX9_mends_15 : decode cX9_mends 15 = .ok (.iload_n 1, 1) := by decide +kernel
theorem dX9_mends_16 : decode cX9_mends 16 = .ok (.invokestatic 129, 3) := by decide +kernel
theorem dX9_mends_19 : decode cX9_mends 19 = .ok (.ifCond .eq 7, 3) := by decide +kernel
theorem dX9_mends_22 : decode cX9_mends 22 = .ok (.iconst 1, 1) := by decide +kernel
theorem dX9_mends_23 : decode cX9_mends 23 = .ok (.goto 4, 3) := by decide +kernel
theorem dX9_mends_26 : decode cX9_mends 26 = .ok (.iconst 0, 1) := by decide +kernel
theorem dX9_mends_27 : decode cX9_mends 27 = .ok (.istore_n 2, 1) := by decide +kernel
theorem dX9_mends_28 : decode cX9_mends 28 = .ok (.iload_n 2, 1) := by decide +kernel
theorem dX9_mends_29 : decode cX9_mends 29 = .ok (.ifCond .eq 18, 3) := by decide +kernel
theorem dX9_mends_32 : decode cX9_mends 32 = .ok (.aload_n 0, 1) := by decide +kernel
theorem dX9_mends_33 : decode cX9_mends 33 = .ok (.getfield 28, 3) := by decide +kernel
theorem dX9_mends_36 : decode cX9_mends 36 = .ok (.bipush 17, 2) := by decide +kernel
theorem dX9_mends_38 : decode cX9_mends 38 = .ok (.dup2, 1) := by decide +kernel
theorem dX9_mends_39 : decode cX9_mends 39 = .ok (.iaload, 1) := by decide +kernel
theorem dX9_mends_40 : decode cX9_mends 40 = .ok (.iconst 1, 1) := by decide +kernel
theorem dX9_mends_41 : decode cX9_mends 41 = .ok (.iload_n 1, 1) := by decide +kernel
theorem dX9_mends_42 : decode cX9_mends 42 = .ok (.ishl, 1) := by decide +kernel
theorem dX9_mends_43 : decode cX9_mends 43 = .ok (.iconst (-1), 1) := by decide +kernel
theorem dX9_mends_44 : decode cX9_mends 44 = .ok (.ixor, 1) := by decide +kernel
theorem dX9_mends_45 : decode cX9_mends 45 = .ok (.iand, 1) := by decide +kernel
theorem dX9_mends_46 : decode cX9_mends 46 = .ok (.iastore, 1) := by decide +kernel
theorem dX9_mends_47 : decode cX9_mends 47 = .ok (.iload_n 2, 1) := by decide +kernel
theorem dX9_mends_48 : decode cX9_mends 48 = .ok (.ireturn, 1) := by decide +kernel
theorem dX9_drops_0 : decode cX9_drops 0 = .ok (.aload_n 0, 1) := by decide +kernel
theorem dX9_drops_1 : decode cX9_drops 1 = .ok (.iload_n 1, 1) := by decide +kernel
theorem dX9_drops_2 : decode cX9_drops 2 = .ok (.invokevirtual 184, 3) := by decide +kernel
theorem dX9_drops_5 : decode cX9_drops 5 = .ok (.ifCond .ne 19, 3) := by decide +kernel
theorem dX9_drops_8 : decode cX9_drops 8 = .ok (.aload_n 0, 1) := by decide +kernel
theorem dX9_drops_9 : decode cX9_drops 9 = .ok (.getfield 28, 3) := by decide +kernel
theorem dX9_drops_12 : decode cX9_drops 12 = .ok (.iconst 5, 1) := by decide +kernel
theorem dX9_drops_13 : decode cX9_drops 13 = .ok (.iload_n 1, 1) := by decide +kernel
theorem dX9_drops_14 : decode cX9_drops 14 = .ok (.iadd, 1) := by decide +kernel
theorem dX9_drops_15 : decode cX9_drops 15 = .ok (.iaload, 1) := by decide +kernel
theorem dX9_drops_16 : decode cX9_drops 16 = .ok (.iconst 5, 1) := by decide +kernel
theorem dX9_drops_17 : decode cX9_drops 17 = .ok (.if_icmp .ge 7, 3) := by decide +kernel
theorem dX9_drops_20 : decode cX9_drops 20 = .ok (.iconst 1, 1) := by decide +kernel
theorem dX9_drops_21 : decode cX9_drops 21 = .ok (.goto 4, 3) := by decide +kernel
theorem dX9_drops_24 : decode cX9_drops 24 = .ok (.iconst 0, 1) := by decide +kernel
theorem dX9_drops_25 : decode cX9_drops 25 = .ok (.istore_n 2, 1) := by decide +kernel
theorem dX9_drops_26 : decode cX9_drops 26 = .ok (.iload_n 2, 1) := by decide +kernel
theorem dX9_drops_27 : decode cX9_drops 27 = .ok (.ifCond .eq 12, 3) := by decide +kernel
theorem dX9_drops_30 : decode cX9_drops 30 = .ok (.aload_n 0, 1) := by decide +kernel
theorem dX9_drops_31 : decode cX9_drops 31 = .ok (.aload_n 0, 1) := by decide +kernel
theorem dX9_drops_32 : decode cX9_drops 32 = .ok (.getfield 28, 3) := by decide +kernel
theorem dX9_drops_35 : decode cX9_drops 35 = .ok (.iload_n 1, 1) := by decide +kernel
theorem dX9_drops_36 : decode cX9_drops 36 = .ok (.invokevirtual 162, 3) := by decide +kernel
theorem dX9_drops_39 : decode cX9_drops 39 = .ok (.iload_n 2, 1) := by decide +kernel
theorem dX9_drops_40 : decode cX9_drops 40 = .ok (.ireturn, 1) := by decide +kernel
theorem dX9_does_0 : decode cX9_does 0 = .ok (.iload_n 1, 1) := by decide +kernel
theorem dX9_does_1 : decode cX9_does 1 = .ok (.bipush 100, 2) := by decide +kernel
theorem dX9_does_3 : decode cX9_does 3 = .ok (.idiv, 1) := by decide +kernel
theorem dX9_does_4 : decode cX9_does 4 = .ok (.istore_n 2, 1) := by decide +kernel
theorem dX9_does_5 : decode cX9_does 5 = .ok (.iload_n 1, 1) := by decide +kernel
theorem dX9_does_6 : decode cX9_does 6 = .ok (.bipush 10, 2) := by decide +kernel
theorem dX9_does_8 : decode cX9_does 8 = .ok (.idiv, 1) := by decide +kernel
theorem dX9_does_9 : decode cX9_does 9 = .ok (.bipush 10, 2) := by decide +kernel
theorem dX9_does_11 : decode cX9_does 11 = .ok (.irem, 1) := by decide +kernel
theorem dX9_does_12 : decode cX9_does 12 = .ok (.istore_n 3, 1) := by decide +kernel
theorem dX9_does_13 : decode cX9_does 13 = .ok (.iload_n 1, 1) := by decide +kernel
theorem dX9_does_14 : decode cX9_does 14 = .ok (.bipush 10, 2) := by decide +kernel
theorem dX9_does_16 : decode cX9_does 16 = .ok (.irem, 1) := by decide +kernel
theorem dX9_does_17 : decode cX9_does 17 = .ok (.istore 4, 2) := by decide +kernel
theorem dX9_does_19 : decode cX9_does 19 = .ok (.iload_n 1, 1) := by decide +kernel
theorem dX9_does_20 : decode cX9_does 20 = .ok (.ifCond .ne 16, 3) := by decide +kernel
theorem dX9_does_23 : decode cX9_does 23 = .ok (.aload_n 0, 1) := by decide +kernel
theorem dX9_does_24 : decode cX9_does 24 = .ok (.aload_n 0, 1) := by decide +kernel
theorem dX9_does_25 : decode cX9_does 25 = .ok (.getfield 28, 3) := by decide +kernel
theorem dX9_does_28 : decode cX9_does 28 = .ok (.bipush 31, 2) := by decide +kernel
theorem dX9_does_30 : decode cX9_does 30 = .ok (.invokevirtual 190, 3) := by decide +kernel
theorem dX9_does_33 : decode cX9_does 33 = .ok (.pop, 1) := by decide +kernel
theorem dX9_does_34 : decode cX9_does 34 = .ok (.iconst 1, 1) := by decide +kernel
theorem dX9_does_35 : decode cX9_does 35 = .ok (.ireturn, 1) := by decide +kernel
theorem dX9_does_36 : decode cX9_does 36 = .ok (.iload_n 2, 1) := by decide +kernel
theorem dX9_does_37 : decode cX9_does 37 = .ok (.tableswitch 157 1 5 #[35, 43, 62, 81, 117], 35) := by decide +kernel
theorem dX9_does_72 : decode cX9_does 72 = .ok (.aload_n 0, 1) := by decide +kernel
theorem dX9_does_73 : decode cX9_does 73 = .ok (.iload_n 3, 1) := by decide +kernel
theorem dX9_does_74 : decode cX9_does 74 = .ok (.iload 4, 2) := by decide +kernel
theorem dX9_does_76 : decode cX9_does 76 = .ok (.invokevirtual 226, 3) := by decide +kernel
theorem dX9_does_79 : decode cX9_does 79 = .ok (.ireturn, 1) := by decide +kernel
theorem dX9_does_80 : decode cX9_does 80 = .ok (.iload_n 3, 1) := by decide +kernel
theorem dX9_does_81 : decode cX9_does 81 = .ok (.ifCond .ne 16, 3) := by decide +kernel
theorem dX9_does_84 : decode cX9_does 84 = .ok (.aload_n 0, 1) := by decide +kernel
theorem dX9_does_85 : decode cX9_does 85 = .ok (.iload 4, 2) := by decide +kernel
theorem dX9_does_87 : decode cX9_does 87 = .ok (.invokevirtual 229, 3) := by decide +kernel
theorem dX9_does_90 : decode cX9_does 90 = .ok (.ifCond .eq 7, 3) := by decide +kernel
theorem dX9_does_93 : decode cX9_does 93 = .ok (.iconst 1, 1) := by decide +kernel
theorem dX9_does_94 : decode cX9_does 94 = .ok (.goto 4, 3) := by decide +kernel
theorem dX9_does_97 : decode cX9_does 97 = .ok (.iconst 0, 1) := by decide +kernel
theorem dX9_does_98 : decode cX9_does 98 = .ok (.ireturn, 1) := by decide +kernel
theorem dX9_does_99 : decode cX9_does 99 = .ok (.iload_n 3, 1) := by decide +kernel
theorem dX9_does_100 : decode cX9_does 100 = .ok (.ifCond .ne 16, 3) := by decide +kernel
theorem dX9_does_103 : decode cX9_does 103 = .ok (.aload_n 0, 1) := by decide +kernel
theorem dX9_does_104 : decode cX9_does 104 = .ok (.iload 4, 2) := by decide +kernel
theorem dX9_does_106 : decode cX9_does 106 = .ok (.invokevirtual 232, 3) := by decide +kernel
theorem dX9_does_109 : decode cX9_does 109 = .ok (.ifCond .eq 7, 3) := by decide +kernel
theorem dX9_does_112 : decode cX9_does 112 = .ok (.iconst 1, 1) := by decide +kernel
theorem dX9_does_113 : decode cX9_does 113 = .ok (.goto 4, 3) := by decide +kernel
theorem dX9_does_116 : decode cX9_does 116 = .ok (.iconst 0, 1) := by decide +kernel
theorem dX9_does_117 : decode cX9_does 117 = .ok (.ireturn, 1) := by decide +kernel
theorem dX9_does_118 : decode cX9_does 118 = .ok (.aload_n 0, 1) := by decide +kernel
theorem dX9_does_119 : decode cX9_does 119 = .ok (.iload_n 3, 1) := by decide +kernel
theorem dX9_does_120 : decode cX9_does 120 = .ok (.invokevirtual 177, 3) := by decide +kernel
theorem dX9_does_123 : decode cX9_does 123 = .ok (.ifCond .ne 29, 3) := by decide +kernel
theorem dX9_does_126 : decode cX9_does 126 = .ok (.aload_n 0, 1) := by decide +kernel
theorem dX9_does_127 : decode cX9_does 127 = .ok (.iload 4, 2) := by decide +kernel
theorem dX9_does_129 : decode cX9_does 129 = .ok (.invokevirtual 184, 3) := by decide +kernel
theorem dX9_does_132 : decode cX9_does 132 = .ok (.ifCond .ne 20, 3) := by decide +kernel
theorem dX9_does_135 : decode cX9_does 135 = .ok (.aload_n 0, 1) := by decide +kernel
theorem dX9_does_136 : decode cX9_does 136 = .ok (.getfield 28, 3) := by decide +kernel
theorem dX9_does_139 : decode cX9_does 139 = .ok (.iconst 5, 1) := by decide +kernel
theorem dX9_does_140 : decode cX9_does 140 = .ok (.iload 4, 2) := by decide +kernel
theorem dX9_does_142 : decode cX9_does 142 = .ok (.iadd, 1) := by decide +kernel
theorem dX9_does_143 : decode cX9_does 143 = .ok (.iaload, 1) := by decide +kernel
theorem dX9_does_144 : decode cX9_does 144 = .ok (.iload_n 3, 1) := by decide +kernel
theorem dX9_does_145 : decode cX9_does 145 = .ok (.if_icmp .ne 7, 3) := by decide +kernel
theorem dX9_does_148 : decode cX9_does 148 = .ok (.iconst 1, 1) := by decide +kernel
theorem dX9_does_149 : decode cX9_does 149 = .ok (.goto 4, 3) := by decide +kernel
theorem dX9_does_152 : decode cX9_does 152 = .ok (.iconst 0, 1) := by decide +kernel
theorem dX9_does_153 : decode cX9_does 153 = .ok (.ireturn, 1) := by decide +kernel
theorem dX9_does_154 : decode cX9_does 154 = .ok (.aload_n 0, 1) := by decide +kernel
theorem dX9_does_155 : decode cX9_does 155 = .ok (.iload_n 3, 1) := by decide +kernel
theorem dX9_does_156 : decode cX9_does 156 = .ok (.invokevirtual 184, 3) := by decide +kernel
theorem dX9_does_159 : decode cX9_does 159 = .ok (.ifCond .ne 33, 3) := by decide +kernel
theorem dX9_does_162 : decode cX9_does 162 = .ok (.aload_n 0, 1) := by decide +kernel
theorem dX9_does_163 : decode cX9_does 163 = .ok (.getfield 28, 3) := by decide +kernel
theorem dX9_does_166 : decode cX9_does 166 = .ok (.iconst 5, 1) := by decide +kernel
theorem dX9_does_167 : decode cX9_does 167 = .ok (.iload_n 3, 1) := by decide +kernel
theorem dX9_does_168 : decode cX9_does 168 = .ok (.iadd, 1) := by decide +kernel
theorem dX9_does_169 : decode cX9_does 169 = .ok (.iaload, 1) := by decide +kernel
theorem dX9_does_170 : decode cX9_does 170 = .ok (.iconst 5, 1) := by decide +kernel
theorem dX9_does_171 : decode cX9_does 171 = .ok (.if_icmp .ge 21, 3) := by decide +kernel
theorem dX9_does_174 : decode cX9_does 174 = .ok (.aload_n 0, 1) := by decide +kernel
theorem dX9_does_175 : decode cX9_does 175 = .ok (.getfield 28, 3) := by decide +kernel
theorem dX9_does_178 : decode cX9_does 178 = .ok (.bipush 9, 2) := by decide +kernel
theorem dX9_does_180 : decode cX9_does 180 = .ok (.iload_n 3, 1) := by decide +kernel
theorem dX9_does_181 : decode cX9_does 181 = .ok (.iadd, 1) := by decide +kernel
theorem dX9_does_182 : decode cX9_does 182 = .ok (.iaload, 1) := by decide +kernel
theorem dX9_does_183 : decode cX9_does 183 = .ok (.iload 4, 2) := by decide +kernel
theorem dX9_does_185 : decode cX9_does 185 = .ok (.if_icmp .lt 7, 3) := by decide +kernel
theorem dX9_does_188 : decode cX9_does 188 = .ok (.iconst 1, 1) := by decide +kernel
theorem dX9_does_189 : decode cX9_does 189 = .ok (.goto 4, 3) := by decide +kernel
theorem dX9_does_192 : decode cX9_does 192 = .ok (.iconst 0, 1) := by decide +kernel
theorem dX9_does_193 : decode cX9_does 193 = .ok (.ireturn, 1) := by decide +kernel
theorem dX9_does_194 : decode cX9_does 194 = .ok (.iload_n 2, 1) := by decide +kernel
theorem dX9_does_195 : decode cX9_does 195 = .ok (.bipush 6, 2) := by decide +kernel
theorem dX9_does_197 : decode cX9_does 197 = .ok (.if_icmp .ne 24, 3) := by decide +kernel
theorem dX9_does_200 : decode cX9_does 200 = .ok (.aload_n 0, 1) := by decide +kernel
theorem dX9_does_201 : decode cX9_does 201 = .ok (.getfield 28, 3) := by decide +kernel
theorem dX9_does_204 : decode cX9_does 204 = .ok (.bipush 18, 2) := by decide +kernel
theorem dX9_does_206 : decode cX9_does 206 = .ok (.iaload, 1) := by decide +kernel
theorem dX9_does_207 : decode cX9_does 207 = .ok (.bipush 10, 2) := by decide +kernel
theorem dX9_does_209 : decode cX9_does 209 = .ok (.iload_n 3, 1) := by decide +kernel
theorem dX9_does_210 : decode cX9_does 210 = .ok (.imul, 1) := by decide +kernel
theorem dX9_does_211 : decode cX9_does 211 = .ok (.iload 4, 2) := by decide +kernel
theorem dX9_does_213 : decode cX9_does 213 = .ok (.iadd, 1) := by decide +kernel
theorem dX9_does_214 : decode cX9_does 214 = .ok (.if_icmp .gt 7, 3) := by decide +kernel
theorem dX9_does_217 : decode cX9_does 217 = .ok (.iconst 1, 1) := by decide +kernel
theorem dX9_does_218 : decode cX9_does 218 = .ok (.goto 4, 3) := by decide +kernel
theorem dX9_does_221 : decode cX9_does 221 = .ok (.iconst 0, 1) := by decide +kernel
theorem dX9_does_222 : decode cX9_does 222 = .ok (.ireturn, 1) := by decide +kernel
theorem dX9_judge_0 : decode cX9_judge 0 = .ok (.aload_n 0, 1) := by decide +kernel
theorem dX9_judge_1 : decode cX9_judge 1 = .ok (.iconst 0, 1) := by decide +kernel
theorem dX9_judge_2 : decode cX9_judge 2 = .ok (.putfield 59, 3) := by decide +kernel
theorem dX9_judge_5 : decode cX9_judge 5 = .ok (.iload_n 1, 1) := by decide +kernel
theorem dX9_judge_6 : decode cX9_judge 6 = .ok (.i2l, 1) := by decide +kernel
theorem dX9_judge_7 : decode cX9_judge 7 = .ok (.lconst 1, 1) := by decide +kernel
theorem dX9_judge_8 : decode cX9_judge 8 = .ok (.ldc2_w 235, 3) := by decide +kernel
theorem dX9_judge_11 : decode cX9_judge 11 = .ok (.invokestatic 66, 3) := by decide +kernel
theorem dX9_judge_14 : decode cX9_judge 14 = .ok (.ifCond .eq 20, 3) := by decide +kernel
theorem dX9_judge_17 : decode cX9_judge 17 = .ok (.lload_n 2, 1) := by decide +kernel
theorem dX9_judge_18 : decode cX9_judge 18 = .ok (.lconst 0, 1) := by decide +kernel
theorem dX9_judge_19 : decode cX9_judge 19 = .ok (.ldc2_w 237, 3) := by decide +kernel
theorem dX9_judge_22 : decode cX9_judge 22 = .ok (.iload_n 1, 1) := by decide +kernel
theorem dX9_judge_23 : decode cX9_judge 23 = .ok (.invokestatic 239, 3) := by decide +kernel
theorem dX9_judge_26 : decode cX9_judge 26 = .ok (.lconst 1, 1) := by decide +kernel
theorem dX9_judge_27 : decode cX9_judge 27 = .ok (.lsub, 1) := by decide +kernel
theorem dX9_judge_28 : decode cX9_judge 28 = .ok (.invokestatic 66, 3) := by decide +kernel
theorem dX9_judge_31 : decode cX9_judge 31 = .ok (.ifCond .ne 6, 3) := by decide +kernel
theorem dX9_judge_34 : decode cX9_judge 34 = .ok (.bipush (-2), 2) := by decide +kernel
theorem dX9_judge_36 : decode cX9_judge 36 = .ok (.ireturn, 1) := by decide +kernel
theorem dX9_judge_37 : decode cX9_judge 37 = .ok (.aload_n 0, 1) := by decide +kernel
theorem dX9_judge_38 : decode cX9_judge 38 = .ok (.invokevirtual 202, 3) := by decide +kernel
theorem dX9_judge_41 : decode cX9_judge 41 = .ok (.iconst 0, 1) := by decide +kernel
theorem dX9_judge_42 : decode cX9_judge 42 = .ok (.istore 4, 2) := by decide +kernel
theorem dX9_judge_44 : decode cX9_judge 44 = .ok (.iload 4, 2) := by decide +kernel
theorem dX9_judge_46 : decode cX9_judge 46 = .ok (.iload_n 1, 1) := by decide +kernel
theorem dX9_judge_47 : decode cX9_judge 47 = .ok (.if_icmp .ge 38, 3) := by decide +kernel
theorem dX9_judge_50 : decode cX9_judge 50 = .ok (.aload_n 0, 1) := by decide +kernel
theorem dX9_judge_51 : decode cX9_judge 51 = .ok (.lload_n 2, 1) := by decide +kernel
theorem dX9_judge_52 : decode cX9_judge 52 = .ok (.ldc2_w 237, 3) := by decide +kernel
theorem dX9_judge_55 : decode cX9_judge 55 = .ok (.iload_n 1, 1) := by decide +kernel
theorem dX9_judge_56 : decode cX9_judge 56 = .ok (.iconst 1, 1) := by decide +kernel
theorem dX9_judge_57 : decode cX9_judge 57 = .ok (.isub, 1) := by decide +kernel
theorem dX9_judge_58 : decode cX9_judge 58 = .ok (.iload 4, 2) := by decide +kernel
theorem dX9_judge_60 : decode cX9_judge 60 = .ok (.isub, 1) := by decide +kernel
theorem dX9_judge_61 : decode cX9_judge 61 = .ok (.invokestatic 239, 3) := by decide +kernel
theorem dX9_judge_64 : decode cX9_judge 64 = .ok (.ldiv, 1) := by decide +kernel
theorem dX9_judge_65 : decode cX9_judge 65 = .ok (.ldc2_w 237, 3) := by decide +kernel
theorem dX9_judge_68 : decode cX9_judge 68 = .ok (.lrem, 1) := by decide +kernel
theorem dX9_judge_69 : decode cX9_judge 69 = .ok (.l2i, 1) := by decide +kernel
theorem dX9_judge_70 : decode cX9_judge 70 = .ok (.invokevirtual 243, 3) := by decide +kernel
theorem dX9_judge_73 : decode cX9_judge 73 = .ok (.ifCond .ne 6, 3) := by decide +kernel
theorem dX9_judge_76 : decode cX9_judge 76 = .ok (.iload 4, 2) := by decide +kernel
theorem dX9_judge_78 : decode cX9_judge 78 = .ok (.ireturn, 1) := by decide +kernel
theorem dX9_judge_79 : decode cX9_judge 79 = .ok (.iinc 4 1, 3) := by decide +kernel
theorem dX9_judge_82 : decode cX9_judge 82 = .ok (.goto (-38), 3) := by decide +kernel
theorem dX9_judge_85 : decode cX9_judge 85 = .ok (.bipush (-9), 2) := by decide +kernel
theorem dX9_judge_87 : decode cX9_judge 87 = .ok (.ireturn, 1) := by decide +kernel
theorem dX9_ways_0 : decode cX9_ways 0 = .ok (.iconst 1, 1) := by decide +kernel
theorem dX9_ways_1 : decode cX9_ways 1 = .ok (.istore_n 1, 1) := by decide +kernel
theorem dX9_ways_2 : decode cX9_ways 2 = .ok (.iconst 2, 1) := by decide +kernel
theorem dX9_ways_3 : decode cX9_ways 3 = .ok (.istore_n 2, 1) := by decide +kernel
theorem dX9_ways_4 : decode cX9_ways 4 = .ok (.iload_n 2, 1) := by decide +kernel
theorem dX9_ways_5 : decode cX9_ways 5 = .ok (.iload_n 0, 1) := by decide +kernel
theorem dX9_ways_6 : decode cX9_ways 6 = .ok (.if_icmp .gt 13, 3) := by decide +kernel
theorem dX9_ways_9 : decode cX9_ways 9 = .ok (.iload_n 1, 1) := by decide +kernel
theorem dX9_ways_10 : decode cX9_ways 10 = .ok (.iload_n 2, 1) := by decide +kernel
theorem dX9_ways_11 : decode cX9_ways 11 = .ok (.imul, 1) := by decide +kernel
theorem dX9_ways_12 : decode cX9_ways 12 = .ok (.istore_n 1, 1) := by decide +kernel
theorem dX9_ways_13 : decode cX9_ways 13 = .ok (.iinc 2 1, 3) := by decide +kernel
theorem dX9_ways_16 : decode cX9_ways 16 = .ok (.goto (-12), 3) := by decide +kernel
theorem dX9_ways_19 : decode cX9_ways 19 = .ok (.iload_n 1, 1) := by decide +kernel
theorem dX9_ways_20 : decode cX9_ways 20 = .ok (.ireturn, 1) := by decide +kernel
theorem dX9_divisor_0 : decode cX9_divisor 0 = .ok (.iload_n 0, 1) := by decide +kernel
theorem dX9_divisor_1 : decode cX9_divisor 1 = .ok (.ifCond .ge 8, 3) := by decide +kernel
theorem dX9_divisor_4 : decode cX9_divisor 4 = .ok (.iload_n 0, 1) := by decide +kernel
theorem dX9_divisor_5 : decode cX9_divisor 5 = .ok (.ineg, 1) := by decide +kernel
theorem dX9_divisor_6 : decode cX9_divisor 6 = .ok (.goto 4, 3) := by decide +kernel
theorem dX9_divisor_9 : decode cX9_divisor 9 = .ok (.iload_n 0, 1) := by decide +kernel
theorem dX9_divisor_10 : decode cX9_divisor 10 = .ok (.istore_n 2, 1) := by decide +kernel
theorem dX9_divisor_11 : decode cX9_divisor 11 = .ok (.iload_n 1, 1) := by decide +kernel
theorem dX9_divisor_12 : decode cX9_divisor 12 = .ok (.istore_n 3, 1) := by decide +kernel
theorem dX9_divisor_13 : decode cX9_divisor 13 = .ok (.iload_n 3, 1) := by decide +kernel
theorem dX9_divisor_14 : decode cX9_divisor 14 = .ok (.ifCond .eq 16, 3) := by decide +kernel
theorem dX9_divisor_17 : decode cX9_divisor 17 = .ok (.iload_n 2, 1) := by decide +kernel
theorem dX9_divisor_18 : decode cX9_divisor 18 = .ok (.iload_n 3, 1) := by decide +kernel
theorem dX9_divisor_19 : decode cX9_divisor 19 = .ok (.irem, 1) := by decide +kernel
theorem dX9_divisor_20 : decode cX9_divisor 20 = .ok (.istore 4, 2) := by decide +kernel
theorem dX9_divisor_22 : decode cX9_divisor 22 = .ok (.iload_n 3, 1) := by decide +kernel
theorem dX9_divisor_23 : decode cX9_divisor 23 = .ok (.istore_n 2, 1) := by decide +kernel
theorem dX9_divisor_24 : decode cX9_divisor 24 = .ok (.iload 4, 2) := by decide +kernel
theorem dX9_divisor_26 : decode cX9_divisor 26 = .ok (.istore_n 3, 1) := by decide +kernel
theorem dX9_divisor_27 : decode cX9_divisor 27 = .ok (.goto (-14), 3) := by decide +kernel
theorem dX9_divisor_30 : decode cX9_divisor 30 = .ok (.iload_n 2, 1) := by decide +kernel
theorem dX9_divisor_31 : decode cX9_divisor 31 = .ok (.ireturn, 1) := by decide +kernel
theorem dX9_fraction_0 : decode cX9_fraction 0 = .ok (.iload_n 0, 1) := by decide +kernel
theorem dX9_fraction_1 : decode cX9_fraction 1 = .ok (.iload_n 1, 1) := by decide +kernel
theorem dX9_fraction_2 : decode cX9_fraction 2 = .ok (.invokestatic 246, 3) := by decide +kernel
theorem dX9_fraction_5 : decode cX9_fraction 5 = .ok (.istore_n 3, 1) := by decide +kernel
theorem dX9_fraction_6 : decode cX9_fraction 6 = .ok (.iload_n 2, 1) := by decide +kernel
theorem dX9_fraction_7 : decode cX9_fraction 7 = .ok (.ifCond .eq 9, 3) := by decide +kernel
theorem dX9_fraction_10 : decode cX9_fraction 10 = .ok (.iload_n 0, 1) := by decide +kernel
theorem dX9_fraction_11 : decode cX9_fraction 11 = .ok (.iload_n 3, 1) := by decide +kernel
theorem dX9_fraction_12 : decode cX9_fraction 12 = .ok (.idiv, 1) := by decide +kernel
theorem dX9_fraction_13 : decode cX9_fraction 13 = .ok (.goto 6, 3) := by decide +kernel
theorem dX9_fraction_16 : decode cX9_fraction 16 = .ok (.iload_n 1, 1) := by decide +kernel
theorem dX9_fraction_17 : decode cX9_fraction 17 = .ok (.iload_n 3, 1) := by decide +kernel
theorem dX9_fraction_18 : decode cX9_fraction 18 = .ok (.idiv, 1) := by decide +kernel
theorem dX9_fraction_19 : decode cX9_fraction 19 = .ok (.ireturn, 1) := by decide +kernel
theorem dX9_share_0 : decode cX9_share 0 = .ok (.aload_n 0, 1) := by decide +kernel
theorem dX9_share_1 : decode cX9_share 1 = .ok (.iconst 0, 1) := by decide +kernel
theorem dX9_share_2 : decode cX9_share 2 = .ok (.putfield 59, 3) := by decide +kernel
theorem dX9_share_5 : decode cX9_share 5 = .ok (.aload_n 0, 1) := by decide +kernel
theorem dX9_share_6 : decode cX9_share 6 = .ok (.iload_n 1, 1) := by decide +kernel
theorem dX9_share_7 : decode cX9_share 7 = .ok (.invokevirtual 184, 3) := by decide +kernel
theorem dX9_share_10 : decode cX9_share 10 = .ok (.ifCond .eq 5, 3) := by decide +kernel
theorem dX9_share_13 : decode cX9_share 13 = .ok (.iconst (-1), 1) := by decide +kernel
theorem dX9_share_14 : decode cX9_share 14 = .ok (.ireturn, 1) := by decide +kernel
theorem dX9_share_15 : decode cX9_share 15 = .ok (.iconst 0, 1) := by decide +kernel
theorem dX9_share_16 : decode cX9_share 16 = .ok (.istore_n 3, 1) := by decide +kernel
theorem dX9_share_17 : decode cX9_share 17 = .ok (.iload_n 3, 1) := by decide +kernel
theorem dX9_share_18 : decode cX9_share 18 = .ok (.iconst 1, 1) := by decide +kernel
theorem dX9_share_19 : decode cX9_share 19 = .ok (.aload_n 0, 1) := by decide +kernel
theorem dX9_share_20 : decode cX9_share 20 = .ok (.getfield 70, 3) := by decide +kernel
theorem dX9_share_23 : decode cX9_share 23 = .ok (.ishl, 1) := by decide +kernel
theorem dX9_share_24 : decode cX9_share 24 = .ok (.if_icmp .ge 92, 3) := by decide +kernel
theorem dX9_share_27 : decode cX9_share 27 = .ok (.aload_n 0, 1) := by decide +kernel
theorem dX9_share_28 : decode cX9_share 28 = .ok (.invokevirtual 202, 3) := by decide +kernel
theorem dX9_share_31 : decode cX9_share 31 = .ok (.iconst 0, 1) := by decide +kernel
theorem dX9_share_32 : decode cX9_share 32 = .ok (.istore 4, 2) := by decide +kernel
theorem dX9_share_34 : decode cX9_share 34 = .ok (.iload 4, 2) := by decide +kernel
theorem dX9_share_36 : decode cX9_share 36 = .ok (.aload_n 0, 1) := by decide +kernel
theorem dX9_share_37 : decode cX9_share 37 = .ok (.getfield 70, 3) := by decide +kernel
theorem dX9_share_40 : decode cX9_share 40 = .ok (.if_icmp .ge 41, 3) := by decide +kernel
theorem dX9_share_43 : decode cX9_share 43 = .ok (.aload_n 0, 1) := by decide +kernel
theorem dX9_share_44 : decode cX9_share 44 = .ok (.getfield 28, 3) := by decide +kernel
theorem dX9_share_47 : decode cX9_share 47 = .ok (.iconst 5, 1) := by decide +kernel
theorem dX9_share_48 : decode cX9_share 48 = .ok (.iload 4, 2) := by decide +kernel
theorem dX9_share_50 : decode cX9_share 50 = .ok (.iadd, 1) := by decide +kernel
theorem dX9_share_51 : decode cX9_share 51 = .ok (.iload_n 3, 1) := by decide +kernel
theorem dX9_share_52 : decode cX9_share 52 = .ok (.iload 4, 2) := by decide +kernel
theorem dX9_share_54 : decode cX9_share 54 = .ok (.invokestatic 129, 3) := by decide +kernel
theorem dX9_share_57 : decode cX9_share 57 = .ok (.ifCond .eq 15, 3) := by decide +kernel
theorem dX9_share_60 : decode cX9_share 60 = .ok (.aload_n 0, 1) := by decide +kernel
theorem dX9_share_61 : decode cX9_share 61 = .ok (.getfield 28, 3) := by decide +kernel
theorem dX9_share_64 : decode cX9_share 64 = .ok (.iconst 5, 1) := by decide +kernel
theorem dX9_share_65 : decode cX9_share 65 = .ok (.iload 4, 2) := by decide +kernel
theorem dX9_share_67 : decode cX9_share 67 = .ok (.iadd, 1) := by decide +kernel
theorem dX9_share_68 : decode cX9_share 68 = .ok (.iaload, 1) := by decide +kernel
theorem dX9_share_69 : decode cX9_share 69 = .ok (.goto 5, 3) := by decide +kernel
theorem dX9_share_72 : decode cX9_share 72 = .ok (.bipush 7, 2) := by decide +kernel
theorem dX9_share_74 : decode cX9_share 74 = .ok (.iastore, 1) := by decide +kernel
theorem dX9_share_75 : decode cX9_share 75 = .ok (.iinc 4 1, 3) := by decide +kernel
theorem dX9_share_78 : decode cX9_share 78 = .ok (.goto (-44), 3) := by decide +kernel
theorem dX9_share_81 : decode cX9_share 81 = .ok (.aload_n 0, 1) := by decide +kernel
theorem dX9_share_82 : decode cX9_share 82 = .ok (.bipush 12, 2) := by decide +kernel
theorem dX9_share_84 : decode cX9_share 84 = .ok (.bipush 31, 2) := by decide +kernel
theorem dX9_share_86 : decode cX9_share 86 = .ok (.invokevirtual 205, 3) := by decide +kernel
theorem dX9_share_89 : decode cX9_share 89 = .ok (.aload_n 0, 1) := by decide +kernel
theorem dX9_share_90 : decode cX9_share 90 = .ok (.getfield 53, 3) := by decide +kernel
theorem dX9_share_93 : decode cX9_share 93 = .ok (.iload_n 3, 1) := by decide +kernel
theorem dX9_share_94 : decode cX9_share 94 = .ok (.aload_n 0, 1) := by decide +kernel
theorem dX9_share_95 : decode cX9_share 95 = .ok (.getfield 28, 3) := by decide +kernel
theorem dX9_share_98 : decode cX9_share 98 = .ok (.bipush 19, 2) := by decide +kernel
theorem dX9_share_100 : decode cX9_share 100 = .ok (.iaload, 1) := by decide +kernel
theorem dX9_share_101 : decode cX9_share 101 = .ok (.aload_n 0, 1) := by decide +kernel
theorem dX9_share_102 : decode cX9_share 102 = .ok (.getfield 25, 3) := by decide +kernel
theorem dX9_share_105 : decode cX9_share 105 = .ok (.bipush 19, 2) := by decide +kernel
theorem dX9_share_107 : decode cX9_share 107 = .ok (.iaload, 1) := by decide +kernel
theorem dX9_share_108 : decode cX9_share 108 = .ok (.isub, 1) := by decide +kernel
theorem dX9_share_109 : decode cX9_share 109 = .ok (.iastore, 1) := by decide +kernel
theorem dX9_share_110 : decode cX9_share 110 = .ok (.iinc 3 1, 3) := by decide +kernel
theorem dX9_share_113 : decode cX9_share 113 = .ok (.goto (-96), 3) := by decide +kernel
theorem dX9_share_116 : decode cX9_share 116 = .ok (.iconst 0, 1) := by decide +kernel
theorem dX9_share_117 : decode cX9_share 117 = .ok (.istore_n 3, 1) := by decide +kernel
theorem dX9_share_118 : decode cX9_share 118 = .ok (.iconst 0, 1) := by decide +kernel
theorem dX9_share_119 : decode cX9_share 119 = .ok (.istore 4, 2) := by decide +kernel
theorem dX9_share_121 : decode cX9_share 121 = .ok (.iload 4, 2) := by decide +kernel
theorem dX9_share_123 : decode cX9_share 123 = .ok (.iconst 1, 1) := by decide +kernel
theorem dX9_share_124 : decode cX9_share 124 = .ok (.aload_n 0, 1) := by decide +kernel
theorem dX9_share_125 : decode cX9_share 125 = .ok (.getfield 70, 3) := by decide +kernel
theorem dX9_share_128 : decode cX9_share 128 = .ok (.ishl, 1) := by decide +kernel
theorem dX9_share_129 : decode cX9_share 129 = .ok (.if_icmp .ge 66, 3) := by decide +kernel
theorem dX9_share_132 : decode cX9_share 132 = .ok (.iload 4, 2) := by decide +kernel
theorem dX9_share_134 : decode cX9_share 134 = .ok (.iload_n 1, 1) := by decide +kernel
theorem dX9_share_135 : decode cX9_share 135 = .ok (.invokestatic 129, 3) := by decide +kernel
theorem dX9_share_138 : decode cX9_share 138 = .ok (.ifCond .ne 51, 3) := by decide +kernel
theorem dX9_share_141 : decode cX9_share 141 = .ok (.iload 4, 2) := by decide +kernel
theorem dX9_share_143 : decode cX9_share 143 = .ok (.invokestatic 196, 3) := by decide +kernel
theorem dX9_share_146 : decode cX9_share 146 = .ok (.istore 5, 2) := by decide +kernel
theorem dX9_share_148 : decode cX9_share 148 = .ok (.iload_n 3, 1) := by decide +kernel
theorem dX9_share_149 : decode cX9_share 149 = .ok (.iload 5, 2) := by decide +kernel
theorem dX9_share_151 : decode cX9_share 151 = .ok (.invokestatic 249, 3) := by decide +kernel
theorem dX9_share_154 : decode cX9_share 154 = .ok (.aload_n 0, 1) := by decide +kernel
theorem dX9_share_155 : decode cX9_share 155 = .ok (.getfield 70, 3) := by decide +kernel
theorem dX9_share_158 : decode cX9_share 158 = .ok (.iconst 1, 1) := by decide +kernel
theorem dX9_share_159 : decode cX9_share 159 = .ok (.isub, 1) := by decide +kernel
theorem dX9_share_160 : decode cX9_share 160 = .ok (.iload 5, 2) := by decide +kernel
theorem dX9_share_162 : decode cX9_share 162 = .ok (.isub, 1) := by decide +kernel
theorem dX9_share_163 : decode cX9_share 163 = .ok (.invokestatic 249, 3) := by decide +kernel
theorem dX9_share_166 : decode cX9_share 166 = .ok (.imul, 1) := by decide +kernel
theorem dX9_share_167 : decode cX9_share 167 = .ok (.aload_n 0, 1) := by decide +kernel
theorem dX9_share_168 : decode cX9_share 168 = .ok (.getfield 53, 3) := by decide +kernel
theorem dX9_share_171 : decode cX9_share 171 = .ok (.iload 4, 2) := by decide +kernel
theorem dX9_share_173 : decode cX9_share 173 = .ok (.iconst 1, 1) := by decide +kernel
theorem dX9_share_174 : decode cX9_share 174 = .ok (.iload_n 1, 1) := by decide +kernel
theorem dX9_share_175 : decode cX9_share 175 = .ok (.ishl, 1) := by decide +kernel
theorem dX9_share_176 : decode cX9_share 176 = .ok (.ior, 1) := by decide +kernel
theorem dX9_share_177 : decode cX9_share 177 = .ok (.iaload, 1) := by decide +kernel
theorem dX9_share_178 : decode cX9_share 178 = .ok (.aload_n 0, 1) := by decide +kernel
theorem dX9_share_179 : decode cX9_share 179 = .ok (.getfield 53, 3) := by decide +kernel
theorem dX9_share_182 : decode cX9_share 182 = .ok (.iload 4, 2) := by decide +kernel
theorem dX9_share_184 : decode cX9_share 184 = .ok (.iaload, 1) := by decide +kernel
theorem dX9_share_185 : decode cX9_share 185 = .ok (.isub, 1) := by decide +kernel
theorem dX9_share_186 : decode cX9_share 186 = .ok (.imul, 1) := by decide +kernel
theorem dX9_share_187 : decode cX9_share 187 = .ok (.iadd, 1) := by decide +kernel
theorem dX9_share_188 : decode cX9_share 188 = .ok (.istore_n 3, 1) := by decide +kernel
theorem dX9_share_189 : decode cX9_share 189 = .ok (.iinc 4 1, 3) := by decide +kernel
theorem dX9_share_192 : decode cX9_share 192 = .ok (.goto (-71), 3) := by decide +kernel
theorem dX9_share_195 : decode cX9_share 195 = .ok (.iload_n 3, 1) := by decide +kernel
theorem dX9_share_196 : decode cX9_share 196 = .ok (.aload_n 0, 1) := by decide +kernel
theorem dX9_share_197 : decode cX9_share 197 = .ok (.getfield 70, 3) := by decide +kernel
theorem dX9_share_200 : decode cX9_share 200 = .ok (.invokestatic 249, 3) := by decide +kernel
theorem dX9_share_203 : decode cX9_share 203 = .ok (.iload_n 2, 1) := by decide +kernel
theorem dX9_share_204 : decode cX9_share 204 = .ok (.invokestatic 252, 3) := by decide +kernel
theorem dX9_share_207 : decode cX9_share 207 = .ok (.ireturn, 1) := by decide +kernel
theorem dX9_see_0 : decode cX9_see 0 = .ok (.aload_n 0, 1) := by decide +kernel
theorem dX9_see_1 : decode cX9_see 1 = .ok (.iconst 0, 1) := by decide +kernel
theorem dX9_see_2 : decode cX9_see 2 = .ok (.putfield 59, 3) := by decide +kernel
theorem dX9_see_5 : decode cX9_see 5 = .ok (.iload_n 1, 1) := by decide +kernel
theorem dX9_see_6 : decode cX9_see 6 = .ok (.i2l, 1) := by decide +kernel
theorem dX9_see_7 : decode cX9_see 7 = .ok (.lconst 0, 1) := by decide +kernel
theorem dX9_see_8 : decode cX9_see 8 = .ok (.ldc2_w 256, 3) := by decide +kernel
theorem dX9_see_11 : decode cX9_see 11 = .ok (.invokestatic 66, 3) := by decide +kernel
theorem dX9_see_14 : decode cX9_see 14 = .ok (.ifCond .eq 25, 3) := by decide +kernel
theorem dX9_see_17 : decode cX9_see 17 = .ok (.iload_n 2, 1) := by decide +kernel
theorem dX9_see_18 : decode cX9_see 18 = .ok (.i2l, 1) := by decide +kernel
theorem dX9_see_19 : decode cX9_see 19 = .ok (.lconst 0, 1) := by decide +kernel
theorem dX9_see_20 : decode cX9_see 20 = .ok (.ldc2_w 258, 3) := by decide +kernel
theorem dX9_see_23 : decode cX9_see 23 = .ok (.invokestatic 66, 3) := by decide +kernel
theorem dX9_see_26 : decode cX9_see 26 = .ok (.ifCond .eq 13, 3) := by decide +kernel
theorem dX9_see_29 : decode cX9_see 29 = .ok (.iload_n 3, 1) := by decide +kernel
theorem dX9_see_30 : decode cX9_see 30 = .ok (.i2l, 1) := by decide +kernel
theorem dX9_see_31 : decode cX9_see 31 = .ok (.lconst 0, 1) := by decide +kernel
theorem dX9_see_32 : decode cX9_see 32 = .ok (.lconst 1, 1) := by decide +kernel
theorem dX9_see_33 : decode cX9_see 33 = .ok (.invokestatic 66, 3) := by decide +kernel
theorem dX9_see_36 : decode cX9_see 36 = .ok (.ifCond .ne 6, 3) := by decide +kernel
theorem dX9_see_39 : decode cX9_see 39 = .ok (.bipush (-2), 2) := by decide +kernel
theorem dX9_see_41 : decode cX9_see 41 = .ok (.ireturn, 1) := by decide +kernel
theorem dX9_see_42 : decode cX9_see 42 = .ok (.aload_n 0, 1) := by decide +kernel
theorem dX9_see_43 : decode cX9_see 43 = .ok (.getfield 174, 3) := by decide +kernel
theorem dX9_see_46 : decode cX9_see 46 = .ok (.bipush 6, 2) := by decide +kernel
theorem dX9_see_48 : decode cX9_see 48 = .ok (.if_icmp .ne 6, 3) := by decide +kernel
theorem dX9_see_51 : decode cX9_see 51 = .ok (.bipush (-4), 2) := by decide +kernel
theorem dX9_see_53 : decode cX9_see 53 = .ok (.ireturn, 1) := by decide +kernel
theorem dX9_see_54 : decode cX9_see 54 = .ok (.aload_n 0, 1) := by decide +kernel
theorem dX9_see_55 : decode cX9_see 55 = .ok (.getfield 41, 3) := by decide +kernel
theorem dX9_see_58 : decode cX9_see 58 = .ok (.aload_n 0, 1) := by decide +kernel
theorem dX9_see_59 : decode cX9_see 59 = .ok (.getfield 174, 3) := by decide +kernel
theorem dX9_see_62 : decode cX9_see 62 = .ok (.iload_n 1, 1) := by decide +kernel
theorem dX9_see_63 : decode cX9_see 63 = .ok (.iastore, 1) := by decide +kernel
theorem dX9_see_64 : decode cX9_see 64 = .ok (.aload_n 0, 1) := by decide +kernel
theorem dX9_see_65 : decode cX9_see 65 = .ok (.getfield 44, 3) := by decide +kernel
theorem dX9_see_68 : decode cX9_see 68 = .ok (.aload_n 0, 1) := by decide +kernel
theorem dX9_see_69 : decode cX9_see 69 = .ok (.getfield 174, 3) := by decide +kernel
theorem dX9_see_72 : decode cX9_see 72 = .ok (.iload_n 2, 1) := by decide +kernel
theorem dX9_see_73 : decode cX9_see 73 = .ok (.iastore, 1) := by decide +kernel
theorem dX9_see_74 : decode cX9_see 74 = .ok (.aload_n 0, 1) := by decide +kernel
theorem dX9_see_75 : decode cX9_see 75 = .ok (.getfield 47, 3) := by decide +kernel
theorem dX9_see_78 : decode cX9_see 78 = .ok (.aload_n 0, 1) := by decide +kernel
theorem dX9_see_79 : decode cX9_see 79 = .ok (.getfield 174, 3) := by decide +kernel
theorem dX9_see_82 : decode cX9_see 82 = .ok (.iload_n 3, 1) := by decide +kernel
theorem dX9_see_83 : decode cX9_see 83 = .ok (.iastore, 1) := by decide +kernel
theorem dX9_see_84 : decode cX9_see 84 = .ok (.aload_n 0, 1) := by decide +kernel
theorem dX9_see_85 : decode cX9_see 85 = .ok (.dup, 1) := by decide +kernel
theorem dX9_see_86 : decode cX9_see 86 = .ok (.getfield 174, 3) := by decide +kernel
theorem dX9_see_89 : decode cX9_see 89 = .ok (.iconst 1, 1) := by decide +kernel
theorem dX9_see_90 : decode cX9_see 90 = .ok (.iadd, 1) := by decide +kernel
theorem dX9_see_91 : decode cX9_see 91 = .ok (.putfield 174, 3) := by decide +kernel
theorem dX9_see_94 : decode cX9_see 94 = .ok (.aload_n 0, 1) := by decide +kernel
theorem dX9_see_95 : decode cX9_see 95 = .ok (.getfield 174, 3) := by decide +kernel
theorem dX9_see_98 : decode cX9_see 98 = .ok (.ireturn, 1) := by decide +kernel
theorem dX9_unsee_0 : decode cX9_unsee 0 = .ok (.aload_n 0, 1) := by decide +kernel
theorem dX9_unsee_1 : decode cX9_unsee 1 = .ok (.iconst 0, 1) := by decide +kernel
theorem dX9_unsee_2 : decode cX9_unsee 2 = .ok (.putfield 59, 3) := by decide +kernel
theorem dX9_unsee_5 : decode cX9_unsee 5 = .ok (.aload_n 0, 1) := by decide +kernel
theorem dX9_unsee_6 : decode cX9_unsee 6 = .ok (.getfield 174, 3) := by decide +kernel
theorem dX9_unsee_9 : decode cX9_unsee 9 = .ok (.istore_n 1, 1) := by decide +kernel
theorem dX9_unsee_10 : decode cX9_unsee 10 = .ok (.aload_n 0, 1) := by decide +kernel
theorem dX9_unsee_11 : decode cX9_unsee 11 = .ok (.iconst 0, 1) := by decide +kernel
theorem dX9_unsee_12 : decode cX9_unsee 12 = .ok (.putfield 174, 3) := by decide +kernel
theorem dX9_unsee_15 : decode cX9_unsee 15 = .ok (.iload_n 1, 1) := by decide +kernel
theorem dX9_unsee_16 : decode cX9_unsee 16 = .ok (.ireturn, 1) := by decide +kernel
theorem dX9_fireBy_0 : decode cX9_fireBy 0 = .ok (.iload_n 0, 1) := by decide +kernel
theorem dX9_fireBy_1 : decode cX9_fireBy 1 = .ok (.ifCond .ne 7, 3) := by decide +kernel
theorem dX9_fireBy_4 : decode cX9_fireBy 4 = .ok (.iconst 0, 1) := by decide +kernel
theorem dX9_fireBy_5 : decode cX9_fireBy 5 = .ok (.goto 8, 3) := by decide +kernel
theorem dX9_fireBy_8 : decode cX9_fireBy 8 = .ok (.iload_n 0, 1) := by decide +kernel
theorem dX9_fireBy_9 : decode cX9_fireBy 9 = .ok (.iload_n 1, 1) := by decide +kernel
theorem dX9_fireBy_10 : decode cX9_fireBy 10 = .ok (.iload_n 2, 1) := by decide +kernel
theorem dX9_fireBy_11 : decode cX9_fireBy 11 = .ok (.imul, 1) := by decide +kernel
theorem dX9_fireBy_12 : decode cX9_fireBy 12 = .ok (.iadd, 1) := by decide +kernel
theorem dX9_fireBy_13 : decode cX9_fireBy 13 = .ok (.istore_n 3, 1) := by decide +kernel
theorem dX9_fireBy_14 : decode cX9_fireBy 14 = .ok (.iload_n 3, 1) := by decide +kernel
theorem dX9_fireBy_15 : decode cX9_fireBy 15 = .ok (.bipush 99, 2) := by decide +kernel
theorem dX9_fireBy_17 : decode cX9_fireBy 17 = .ok (.if_icmp .le 8, 3) := by decide +kernel
theorem dX9_fireBy_20 : decode cX9_fireBy 20 = .ok (.bipush 99, 2) := by decide +kernel
theorem dX9_fireBy_22 : decode cX9_fireBy 22 = .ok (.goto 4, 3) := by decide +kernel
theorem dX9_fireBy_25 : decode cX9_fireBy 25 = .ok (.iload_n 3, 1) := by decide +kernel
theorem dX9_fireBy_26 : decode cX9_fireBy 26 = .ok (.ireturn, 1) := by decide +kernel
theorem dX9_fires_0 : decode cX9_fires 0 = .ok (.aload_n 0, 1) := by decide +kernel
theorem dX9_fires_1 : decode cX9_fires 1 = .ok (.iconst 0, 1) := by decide +kernel
theorem dX9_fires_2 : decode cX9_fires 2 = .ok (.putfield 59, 3) := by decide +kernel
theorem dX9_fires_5 : decode cX9_fires 5 = .ok (.iload_n 1, 1) := by decide +kernel
theorem dX9_fires_6 : decode cX9_fires 6 = .ok (.i2l, 1) := by decide +kernel
theorem dX9_fires_7 : decode cX9_fires 7 = .ok (.lconst 0, 1) := by decide +kernel
theorem dX9_fires_8 : decode cX9_fires 8 = .ok (.lconst 1, 1) := by decide +kernel
theorem dX9_fires_9 : decode cX9_fires 9 = .ok (.invokestatic 66, 3) := by decide +kernel
theorem dX9_fires_12 : decode cX9_fires 12 = .ok (.ifCond .ne 6, 3) := by decide +kernel
theorem dX9_fires_15 : decode cX9_fires 15 = .ok (.bipush (-2), 2) := by decide +kernel
theorem dX9_fires_17 : decode cX9_fires 17 = .ok (.ireturn, 1) := by decide +kernel
theorem dX9_fires_18 : decode cX9_fires 18 = .ok (.aload_n 0, 1) := by decide +kernel
theorem dX9_fires_19 : decode cX9_fires 19 = .ok (.iconst 0, 1) := by decide +kernel
theorem dX9_fires_20 : decode cX9_fires 20 = .ok (.putfield 260, 3) := by decide +kernel
theorem dX9_fires_23 : decode cX9_fires 23 = .ok (.aload_n 0, 1) := by decide +kernel
theorem dX9_fires_24 : decode cX9_fires 24 = .ok (.bipush (-9), 2) := by decide +kernel
theorem dX9_fires_26 : decode cX9_fires 26 = .ok (.putfield 263, 3) := by decide +kernel
theorem dX9_fires_29 : decode cX9_fires 29 = .ok (.iconst 0, 1) := by decide +kernel
theorem dX9_fires_30 : decode cX9_fires 30 = .ok (.istore_n 2, 1) := by decide +kernel
theorem dX9_fires_31 : decode cX9_fires 31 = .ok (.iload_n 2, 1) := by decide +kernel
theorem dX9_fires_32 : decode cX9_fires 32 = .ok (.bipush 100, 2) := by decide +kernel
theorem dX9_fires_34 : decode cX9_fires 34 = .ok (.if_icmp .ge 132, 3) := by decide +kernel
theorem dX9_fires_37 : decode cX9_fires 37 = .ok (.iconst 1, 1) := by decide +kernel
theorem dX9_fires_38 : decode cX9_fires 38 = .ok (.istore_n 3, 1) := by decide +kernel
theorem dX9_fires_39 : decode cX9_fires 39 = .ok (.iconst 0, 1) := by decide +kernel
theorem dX9_fires_40 : decode cX9_fires 40 = .ok (.istore 4, 2) := by decide +kernel
theorem dX9_fires_42 : decode cX9_fires 42 = .ok (.iload 4, 2) := by decide +kernel
theorem dX9_fires_44 : decode cX9_fires 44 = .ok (.aload_n 0, 1) := by decide +kernel
theorem dX9_fires_45 : decode cX9_fires 45 = .ok (.getfield 174, 3) := by decide +kernel
theorem dX9_fires_48 : decode cX9_fires 48 = .ok (.if_icmp .ge 71, 3) := by decide +kernel
theorem dX9_fires_51 : decode cX9_fires 51 = .ok (.iload_n 3, 1) := by decide +kernel
theorem dX9_fires_52 : decode cX9_fires 52 = .ok (.ifCond .eq 59, 3) := by decide +kernel
theorem dX9_fires_55 : decode cX9_fires 55 = .ok (.iload_n 2, 1) := by decide +kernel
theorem dX9_fires_56 : decode cX9_fires 56 = .ok (.bipush 10, 2) := by decide +kernel
theorem dX9_fires_58 : decode cX9_fires 58 = .ok (.idiv, 1) := by decide +kernel
theorem dX9_fires_59 : decode cX9_fires 59 = .ok (.iload_n 2, 1) := by decide +kernel
theorem dX9_fires_60 : decode cX9_fires 60 = .ok (.bipush 10, 2) := by decide +kernel
theorem dX9_fires_62 : decode cX9_fires 62 = .ok (.irem, 1) := by decide +kernel
theorem dX9_fires_63 : decode cX9_fires 63 = .ok (.aload_n 0, 1) := by decide +kernel
theorem dX9_fires_64 : decode cX9_fires 64 = .ok (.getfield 41, 3) := by decide +kernel
theorem dX9_fires_67 : decode cX9_fires 67 = .ok (.iload 4, 2) := by decide +kernel
theorem dX9_fires_69 : decode cX9_fires 69 = .ok (.iaload, 1) := by decide +kernel
theorem dX9_fires_70 : decode cX9_fires 70 = .ok (.invokestatic 266, 3) := by decide +kernel
theorem dX9_fires_73 : decode cX9_fires 73 = .ok (.aload_n 0, 1) := by decide +kernel
theorem dX9_fires_74 : decode cX9_fires 74 = .ok (.getfield 44, 3) := by decide +kernel
theorem dX9_fires_77 : decode cX9_fires 77 = .ok (.iload 4, 2) := by decide +kernel
theorem dX9_fires_79 : decode cX9_fires 79 = .ok (.iaload, 1) := by decide +kernel
theorem dX9_fires_80 : decode cX9_fires 80 = .ok (.if_icmp .lt 7, 3) := by decide +kernel
theorem dX9_fires_83 : decode cX9_fires 83 = .ok (.iconst 1, 1) := by decide +kernel
theorem dX9_fires_84 : decode cX9_fires 84 = .ok (.goto 4, 3) := by decide +kernel
theorem dX9_fires_87 : decode cX9_fires 87 = .ok (.iconst 0, 1) := by decide +kernel
theorem dX9_fires_88 : decode cX9_fires 88 = .ok (.aload_n 0, 1) := by decide +kernel
theorem dX9_fires_89 : decode cX9_fires 89 = .ok (.getfield 47, 3) := by decide +kernel
theorem dX9_fires_92 : decode cX9_fires 92 = .ok (.iload 4, 2) := by decide +kernel
theorem dX9_fires_94 : decode cX9_fires 94 = .ok (.iaload, 1) := by decide +kernel
theorem dX9_fires_95 : decode cX9_fires 95 = .ok (.iconst 1, 1) := by decide +kernel
theorem dX9_fires_96 : decode cX9_fires 96 = .ok (.if_icmp .ne 7, 3) := by decide +kernel
theorem dX9_fires_99 : decode cX9_fires 99 = .ok (.iconst 1, 1) := by decide +kernel
theorem dX9_fires_100 : decode cX9_fires 100 = .ok (.goto 4, 3) := by decide +kernel
theorem dX9_fires_103 : decode cX9_fires 103 = .ok (.iconst 0, 1) := by decide +kernel
theorem dX9_fires_104 : decode cX9_fires 104 = .ok (.if_icmp .ne 7, 3) := by decide +kernel
theorem dX9_fires_107 : decode cX9_fires 107 = .ok (.iconst 1, 1) := by decide +kernel
theorem dX9_fires_108 : decode cX9_fires 108 = .ok (.goto 4, 3) := by decide +kernel
theorem dX9_fires_111 : decode cX9_fires 111 = .ok (.iconst 0, 1) := by decide +kernel
theorem dX9_fires_112 : decode cX9_fires 112 = .ok (.istore_n 3, 1) := by decide +kernel
theorem dX9_fires_113 : decode cX9_fires 113 = .ok (.iinc 4 1, 3) := by decide +kernel
theorem dX9_fires_116 : decode cX9_fires 116 = .ok (.goto (-74), 3) := by decide +kernel
theorem dX9_fires_119 : decode cX9_fires 119 = .ok (.aload_n 0, 1) := by decide +kernel
theorem dX9_fires_120 : decode cX9_fires 120 = .ok (.iload_n 3, 1) := by decide +kernel
theorem dX9_fires_121 : decode cX9_fires 121 = .ok (.ifCond .eq 14, 3) := by decide +kernel
theorem dX9_fires_124 : decode cX9_fires 124 = .ok (.aload_n 0, 1) := by decide +kernel
theorem dX9_fires_125 : decode cX9_fires 125 = .ok (.getfield 260, 3) := by decide +kernel
theorem dX9_fires_128 : decode cX9_fires 128 = .ok (.ifCond .ne 7, 3) := by decide +kernel
theorem dX9_fires_131 : decode cX9_fires 131 = .ok (.iload_n 2, 1) := by decide +kernel
theorem dX9_fires_132 : decode cX9_fires 132 = .ok (.goto 7, 3) := by decide +kernel
theorem dX9_fires_135 : decode cX9_fires 135 = .ok (.aload_n 0, 1) := by decide +kernel
theorem dX9_fires_136 : decode cX9_fires 136 = .ok (.getfield 263, 3) := by decide +kernel
theorem dX9_fires_139 : decode cX9_fires 139 = .ok (.putfield 263, 3) := by decide +kernel
theorem dX9_fires_142 : decode cX9_fires 142 = .ok (.aload_n 0, 1) := by decide +kernel
theorem dX9_fires_143 : decode cX9_fires 143 = .ok (.dup, 1) := by decide +kernel
theorem dX9_fires_144 : decode cX9_fires 144 = .ok (.getfield 260, 3) := by decide +kernel
theorem dX9_fires_147 : decode cX9_fires 147 = .ok (.iload_n 3, 1) := by decide +kernel
theorem dX9_fires_148 : decode cX9_fires 148 = .ok (.ifCond .eq 7, 3) := by decide +kernel
theorem dX9_fires_151 : decode cX9_fires 151 = .ok (.iconst 1, 1) := by decide +kernel
theorem dX9_fires_152 : decode cX9_fires 152 = .ok (.goto 4, 3) := by decide +kernel
theorem dX9_fires_155 : decode cX9_fires 155 = .ok (.iconst 0, 1) := by decide +kernel
theorem dX9_fires_156 : decode cX9_fires 156 = .ok (.iadd, 1) := by decide +kernel
theorem dX9_fires_157 : decode cX9_fires 157 = .ok (.putfield 260, 3) := by decide +kernel
theorem dX9_fires_160 : decode cX9_fires 160 = .ok (.iinc 2 1, 3) := by decide +kernel
theorem dX9_fires_163 : decode cX9_fires 163 = .ok (.goto (-132), 3) := by decide +kernel
theorem dX9_fires_166 : decode cX9_fires 166 = .ok (.iload_n 1, 1) := by decide +kernel
theorem dX9_fires_167 : decode cX9_fires 167 = .ok (.ifCond .ne 10, 3) := by decide +kernel
theorem dX9_fires_170 : decode cX9_fires 170 = .ok (.aload_n 0, 1) := by decide +kernel
theorem dX9_fires_171 : decode cX9_fires 171 = .ok (.getfield 260, 3) := by decide +kernel
theorem dX9_fires_174 : decode cX9_fires 174 = .ok (.goto 7, 3) := by decide +kernel
theorem dX9_fires_177 : decode cX9_fires 177 = .ok (.aload_n 0, 1) := by decide +kernel
theorem dX9_fires_178 : decode cX9_fires 178 = .ok (.getfield 263, 3) := by decide +kernel
theorem dX9_fires_181 : decode cX9_fires 181 = .ok (.ireturn, 1) := by decide +kernel
theorem dX9_rests_0 : decode cX9_rests 0 = .ok (.aload_n 0, 1) := by decide +kernel
theorem dX9_rests_1 : decode cX9_rests 1 = .ok (.iconst 0, 1) := by decide +kernel
theorem dX9_rests_2 : decode cX9_rests 2 = .ok (.putfield 59, 3) := by decide +kernel
theorem dX9_rests_5 : decode cX9_rests 5 = .ok (.aload_n 0, 1) := by decide +kernel
theorem dX9_rests_6 : decode cX9_rests 6 = .ok (.iload_n 1, 1) := by decide +kernel
theorem dX9_rests_7 : decode cX9_rests 7 = .ok (.invokevirtual 177, 3) := by decide +kernel
theorem dX9_rests_10 : decode cX9_rests 10 = .ok (.ifCond .ne 11, 3) := by decide +kernel
theorem dX9_rests_13 : decode cX9_rests 13 = .ok (.aload_n 0, 1) := by decide +kernel
theorem dX9_rests_14 : decode cX9_rests 14 = .ok (.iload_n 2, 1) := by decide +kernel
theorem dX9_rests_15 : decode cX9_rests 15 = .ok (.invokevirtual 177, 3) := by decide +kernel
theorem dX9_rests_18 : decode cX9_rests 18 = .ok (.ifCond .eq 5, 3) := by decide +kernel
theorem dX9_rests_21 : decode cX9_rests 21 = .ok (.iconst (-1), 1) := by decide +kernel
theorem dX9_rests_22 : decode cX9_rests 22 = .ok (.ireturn, 1) := by decide +kernel
theorem dX9_rests_23 : decode cX9_rests 23 = .ok (.iload_n 1, 1) := by decide +kernel
theorem dX9_rests_24 : decode cX9_rests 24 = .ok (.iload_n 2, 1) := by decide +kernel
theorem dX9_rests_25 : decode cX9_rests 25 = .ok (.if_icmp .eq 13, 3) := by decide +kernel
theorem dX9_rests_28 : decode cX9_rests 28 = .ok (.iload_n 3, 1) := by decide +kernel
theorem dX9_rests_29 : decode cX9_rests 29 = .ok (.i2l, 1) := by decide +kernel
theorem dX9_rests_30 : decode cX9_rests 30 = .ok (.lconst 0, 1) := by decide +kernel
theorem dX9_rests_31 : decode cX9_rests 31 = .ok (.lconst 1, 1) := by decide +kernel
theorem dX9_rests_32 : decode cX9_rests 32 = .ok (.invokestatic 66, 3) := by decide +kernel
theorem dX9_rests_35 : decode cX9_rests 35 = .ok (.ifCond .ne 6, 3) := by decide +kernel
theorem dX9_rests_38 : decode cX9_rests 38 = .ok (.bipush (-2), 2) := by decide +kernel
theorem dX9_rests_40 : decode cX9_rests 40 = .ok (.ireturn, 1) := by decide +kernel
theorem dX9_rests_41 : decode cX9_rests 41 = .ok (.iconst 0, 1) := by decide +kernel
theorem dX9_rests_42 : decode cX9_rests 42 = .ok (.istore 4, 2) := by decide +kernel
theorem dX9_rests_44 : decode cX9_rests 44 = .ok (.iload 4, 2) := by decide +kernel
theorem dX9_rests_46 : decode cX9_rests 46 = .ok (.iconst 4, 1) := by decide +kernel
theorem dX9_rests_47 : decode cX9_rests 47 = .ok (.if_icmp .ge 112, 3) := by decide +kernel
theorem dX9_rests_50 : decode cX9_rests 50 = .ok (.aload_n 0, 1) := by decide +kernel
theorem dX9_rests_51 : decode cX9_rests 51 = .ok (.invokevirtual 202, 3) := by decide +kernel
theorem dX9_rests_54 : decode cX9_rests 54 = .ok (.aload_n 0, 1) := by decide +kernel
theorem dX9_rests_55 : decode cX9_rests 55 = .ok (.bipush 8, 2) := by decide +kernel
theorem dX9_rests_57 : decode cX9_rests 57 = .ok (.bipush 31, 2) := by decide +kernel
theorem dX9_rests_59 : decode cX9_rests 59 = .ok (.iload 4, 2) := by decide +kernel
theorem dX9_rests_61 : decode cX9_rests 61 = .ok (.iconst 1, 1) := by decide +kernel
theorem dX9_rests_62 : decode cX9_rests 62 = .ok (.if_icmp .le 7, 3) := by decide +kernel
theorem dX9_rests_65 : decode cX9_rests 65 = .ok (.iconst 0, 1) := by decide +kernel
theorem dX9_rests_66 : decode cX9_rests 66 = .ok (.goto 6, 3) := by decide +kernel
theorem dX9_rests_69 : decode cX9_rests 69 = .ok (.iconst 1, 1) := by decide +kernel
theorem dX9_rests_70 : decode cX9_rests 70 = .ok (.iload_n 1, 1) := by decide +kernel
theorem dX9_rests_71 : decode cX9_rests 71 = .ok (.ishl, 1) := by decide +kernel
theorem dX9_rests_72 : decode cX9_rests 72 = .ok (.iconst (-1), 1) := by decide +kernel
theorem dX9_rests_73 : decode cX9_rests 73 = .ok (.ixor, 1) := by decide +kernel
theorem dX9_rests_74 : decode cX9_rests 74 = .ok (.iand, 1) := by decide +kernel
theorem dX9_rests_75 : decode cX9_rests 75 = .ok (.iload 4, 2) := by decide +kernel
theorem dX9_rests_77 : decode cX9_rests 77 = .ok (.iconst 2, 1) := by decide +kernel
theorem dX9_rests_78 : decode cX9_rests 78 = .ok (.irem, 1) := by decide +kernel
theorem dX9_rests_79 : decode cX9_rests 79 = .ok (.iconst 1, 1) := by decide +kernel
theorem dX9_rests_80 : decode cX9_rests 80 = .ok (.if_icmp .ne 7, 3) := by decide +kernel
theorem dX9_rests_83 : decode cX9_rests 83 = .ok (.iconst 0, 1) := by decide +kernel
theorem dX9_rests_84 : decode cX9_rests 84 = .ok (.goto 6, 3) := by decide +kernel
theorem dX9_rests_87 : decode cX9_rests 87 = .ok (.iconst 1, 1) := by decide +kernel
theorem dX9_rests_88 : decode cX9_rests 88 = .ok (.iload_n 2, 1) := by decide +kernel
theorem dX9_rests_89 : decode cX9_rests 89 = .ok (.ishl, 1) := by decide +kernel
theorem dX9_rests_90 : decode cX9_rests 90 = .ok (.iconst (-1), 1) := by decide +kernel
theorem dX9_rests_91 : decode cX9_rests 91 = .ok (.ixor, 1) := by decide +kernel
theorem dX9_rests_92 : decode cX9_rests 92 = .ok (.iand, 1) := by decide +kernel
theorem dX9_rests_93 : decode cX9_rests 93 = .ok (.invokevirtual 205, 3) := by decide +kernel
theorem dX9_rests_96 : decode cX9_rests 96 = .ok (.aload_n 0, 1) := by decide +kernel
theorem dX9_rests_97 : decode cX9_rests 97 = .ok (.getfield 28, 3) := by decide +kernel
theorem dX9_rests_100 : decode cX9_rests 100 = .ok (.bipush 19, 2) := by decide +kernel
theorem dX9_rests_102 : decode cX9_rests 102 = .ok (.iaload, 1) := by decide +kernel
theorem dX9_rests_103 : decode cX9_rests 103 = .ok (.aload_n 0, 1) := by decide +kernel
theorem dX9_rests_104 : decode cX9_rests 104 = .ok (.getfield 25, 3) := by decide +kernel
theorem dX9_rests_107 : decode cX9_rests 107 = .ok (.bipush 19, 2) := by decide +kernel
theorem dX9_rests_109 : decode cX9_rests 109 = .ok (.iaload, 1) := by decide +kernel
theorem dX9_rests_110 : decode cX9_rests 110 = .ok (.isub, 1) := by decide +kernel
theorem dX9_rests_111 : decode cX9_rests 111 = .ok (.istore 5, 2) := by decide +kernel
theorem dX9_rests_113 : decode cX9_rests 113 = .ok (.aload_n 0, 1) := by decide +kernel
theorem dX9_rests_114 : decode cX9_rests 114 = .ok (.getfield 50, 3) := by decide +kernel
theorem dX9_rests_117 : decode cX9_rests 117 = .ok (.iconst 2, 1) := by decide +kernel
theorem dX9_rests_118 : decode cX9_rests 118 = .ok (.iload 4, 2) := by decide +kernel
theorem dX9_rests_120 : decode cX9_rests 120 = .ok (.imul, 1) := by decide +kernel
theorem dX9_rests_121 : decode cX9_rests 121 = .ok (.iload 5, 2) := by decide +kernel
theorem dX9_rests_123 : decode cX9_rests 123 = .ok (.bipush 6, 2) := by decide +kernel
theorem dX9_rests_125 : decode cX9_rests 125 = .ok (.iload 4, 2) := by decide +kernel
theorem dX9_rests_127 : decode cX9_rests 127 = .ok (.iconst 2, 1) := by decide +kernel
theorem dX9_rests_128 : decode cX9_rests 128 = .ok (.idiv, 1) := by decide +kernel
theorem dX9_rests_129 : decode cX9_rests 129 = .ok (.imul, 1) := by decide +kernel
theorem dX9_rests_130 : decode cX9_rests 130 = .ok (.isub, 1) := by decide +kernel
theorem dX9_rests_131 : decode cX9_rests 131 = .ok (.iastore, 1) := by decide +kernel
theorem dX9_rests_132 : decode cX9_rests 132 = .ok (.aload_n 0, 1) := by decide +kernel
theorem dX9_rests_133 : decode cX9_rests 133 = .ok (.getfield 50, 3) := by decide +kernel
theorem dX9_rests_136 : decode cX9_rests 136 = .ok (.iconst 2, 1) := by decide +kernel
theorem dX9_rests_137 : decode cX9_rests 137 = .ok (.iload 4, 2) := by decide +kernel
theorem dX9_rests_139 : decode cX9_rests 139 = .ok (.imul, 1) := by decide +kernel
theorem dX9_rests_140 : decode cX9_rests 140 = .ok (.iconst 1, 1) := by decide +kernel
theorem dX9_rests_141 : decode cX9_rests 141 = .ok (.iadd, 1) := by decide +kernel
theorem dX9_rests_142 : decode cX9_rests 142 = .ok (.iload 5, 2) := by decide +kernel
theorem dX9_rests_144 : decode cX9_rests 144 = .ok (.bipush 6, 2) := by decide +kernel
theorem dX9_rests_146 : decode cX9_rests 146 = .ok (.iload 4, 2) := by decide +kernel
theorem dX9_rests_148 : decode cX9_rests 148 = .ok (.iconst 2, 1) := by decide +kernel
theorem dX9_rests_149 : decode cX9_rests 149 = .ok (.irem, 1) := by decide +kernel
theorem dX9_rests_150 : decode cX9_rests 150 = .ok (.imul, 1) := by decide +kernel
theorem dX9_rests_151 : decode cX9_rests 151 = .ok (.isub, 1) := by decide +kernel
theorem dX9_rests_152 : decode cX9_rests 152 = .ok (.iastore, 1) := by decide +kernel
theorem dX9_rests_153 : decode cX9_rests 153 = .ok (.iinc 4 1, 3) := by decide +kernel
theorem dX9_rests_156 : decode cX9_rests 156 = .ok (.goto (-112), 3) := by decide +kernel
theorem dX9_rests_159 : decode cX9_rests 159 = .ok (.aload_n 0, 1) := by decide +kernel
theorem dX9_rests_160 : decode cX9_rests 160 = .ok (.iconst 0, 1) := by decide +kernel
theorem dX9_rests_161 : decode cX9_rests 161 = .ok (.putfield 270, 3) := by decide +kernel
theorem dX9_rests_164 : decode cX9_rests 164 = .ok (.aload_n 0, 1) := by decide +kernel
theorem dX9_rests_165 : decode cX9_rests 165 = .ok (.bipush (-9), 2) := by decide +kernel
theorem dX9_rests_167 : decode cX9_rests 167 = .ok (.putfield 273, 3) := by decide +kernel
theorem dX9_rests_170 : decode cX9_rests 170 = .ok (.iconst 0, 1) := by decide +kernel
theorem dX9_rests_171 : decode cX9_rests 171 = .ok (.istore 4, 2) := by decide +kernel
theorem dX9_rests_173 : decode cX9_rests 173 = .ok (.iload 4, 2) := by decide +kernel
theorem dX9_rests_175 : decode cX9_rests 175 = .ok (.iconst 4, 1) := by decide +kernel
theorem dX9_rests_176 : decode cX9_rests 176 = .ok (.if_icmp .ge 120, 3) := by decide +kernel
theorem dX9_rests_179 : decode cX9_rests 179 = .ok (.aload_n 0, 1) := by decide +kernel
theorem dX9_rests_180 : decode cX9_rests 180 = .ok (.getfield 50, 3) := by decide +kernel
theorem dX9_rests_183 : decode cX9_rests 183 = .ok (.iconst 2, 1) := by decide +kernel
theorem dX9_rests_184 : decode cX9_rests 184 = .ok (.iload 4, 2) := by decide +kernel
theorem dX9_rests_186 : decode cX9_rests 186 = .ok (.iconst 2, 1) := by decide +kernel
theorem dX9_rests_187 : decode cX9_rests 187 = .ok (.ixor, 1) := by decide +kernel
theorem dX9_rests_188 : decode cX9_rests 188 = .ok (.imul, 1) := by decide +kernel
theorem dX9_rests_189 : decode cX9_rests 189 = .ok (.iaload, 1) := by decide +kernel
theorem dX9_rests_190 : decode cX9_rests 190 = .ok (.aload_n 0, 1) := by decide +kernel
theorem dX9_rests_191 : decode cX9_rests 191 = .ok (.getfield 50, 3) := by decide +kernel
theorem dX9_rests_194 : decode cX9_rests 194 = .ok (.iconst 2, 1) := by decide +kernel
theorem dX9_rests_195 : decode cX9_rests 195 = .ok (.iload 4, 2) := by decide +kernel
theorem dX9_rests_197 : decode cX9_rests 197 = .ok (.imul, 1) := by decide +kernel
theorem dX9_rests_198 : decode cX9_rests 198 = .ok (.iaload, 1) := by decide +kernel
theorem dX9_rests_199 : decode cX9_rests 199 = .ok (.if_icmp .gt 34, 3) := by decide +kernel
theorem dX9_rests_202 : decode cX9_rests 202 = .ok (.aload_n 0, 1) := by decide +kernel
theorem dX9_rests_203 : decode cX9_rests 203 = .ok (.getfield 50, 3) := by decide +kernel
theorem dX9_rests_206 : decode cX9_rests 206 = .ok (.iconst 2, 1) := by decide +kernel
theorem dX9_rests_207 : decode cX9_rests 207 = .ok (.iload 4, 2) := by decide +kernel
theorem dX9_rests_209 : decode cX9_rests 209 = .ok (.iconst 1, 1) := by decide +kernel
theorem dX9_rests_210 : decode cX9_rests 210 = .ok (.ixor, 1) := by decide +kernel
theorem dX9_rests_211 : decode cX9_rests 211 = .ok (.imul, 1) := by decide +kernel
theorem dX9_rests_212 : decode cX9_rests 212 = .ok (.iconst 1, 1) := by decide +kernel
theorem dX9_rests_213 : decode cX9_rests 213 = .ok (.iadd, 1) := by decide +kernel
theorem dX9_rests_214 : decode cX9_rests 214 = .ok (.iaload, 1) := by decide +kernel
theorem dX9_rests_215 : decode cX9_rests 215 = .ok (.aload_n 0, 1) := by decide +kernel
theorem dX9_rests_216 : decode cX9_rests 216 = .ok (.getfield 50, 3) := by decide +kernel
theorem dX9_rests_219 : decode cX9_rests 219 = .ok (.iconst 2, 1) := by decide +kernel
theorem dX9_rests_220 : decode cX9_rests 220 = .ok (.iload 4, 2) := by decide +kernel
theorem dX9_rests_222 : decode cX9_rests 222 = .ok (.imul, 1) := by decide +kernel
theorem dX9_rests_223 : decode cX9_rests 223 = .ok (.iconst 1, 1) := by decide +kernel
theorem dX9_rests_224 : decode cX9_rests 224 = .ok (.iadd, 1) := by decide +kernel
theorem dX9_rests_225 : decode cX9_rests 225 = .ok (.iaload, 1) := by decide +kernel
theorem dX9_rests_226 : decode cX9_rests 226 = .ok (.if_icmp .gt 7, 3) := by decide +kernel
theorem dX9_rests_229 : decode cX9_rests 229 = .ok (.iconst 1, 1) := by decide +kernel
theorem dX9_rests_230 : decode cX9_rests 230 = .ok (.goto 4, 3) := by decide +kernel
theorem dX9_rests_233 : decode cX9_rests 233 = .ok (.iconst 0, 1) := by decide +kernel
theorem dX9_rests_234 : decode cX9_rests 234 = .ok (.istore 5, 2) := by decide +kernel
theorem dX9_rests_236 : decode cX9_rests 236 = .ok (.aload_n 0, 1) := by decide +kernel
theorem dX9_rests_237 : decode cX9_rests 237 = .ok (.iload 5, 2) := by decide +kernel
theorem dX9_rests_239 : decode cX9_rests 239 = .ok (.ifCond .eq 25, 3) := by decide +kernel
theorem dX9_rests_242 : decode cX9_rests 242 = .ok (.aload_n 0, 1) := by decide +kernel
theorem dX9_rests_243 : decode cX9_rests 243 = .ok (.getfield 270, 3) := by decide +kernel
theorem dX9_rests_246 : decode cX9_rests 246 = .ok (.ifCond .ne 18, 3) := by decide +kernel
theorem dX9_rests_249 : decode cX9_rests 249 = .ok (.bipush 10, 2) := by decide +kernel
theorem dX9_rests_251 : decode cX9_rests 251 = .ok (.iload 4, 2) := by decide +kernel
theorem dX9_rests_253 : decode cX9_rests 253 = .ok (.iconst 2, 1) := by decide +kernel
theorem dX9_rests_254 : decode cX9_rests 254 = .ok (.idiv, 1) := by decide +kernel
theorem dX9_rests_255 : decode cX9_rests 255 = .ok (.imul, 1) := by decide +kernel
theorem dX9_rests_256 : decode cX9_rests 256 = .ok (.iload 4, 2) := by decide +kernel
theorem dX9_rests_258 : decode cX9_rests 258 = .ok (.iconst 2, 1) := by decide +kernel
theorem dX9_rests_259 : decode cX9_rests 259 = .ok (.irem, 1) := by decide +kernel
theorem dX9_rests_260 : decode cX9_rests 260 = .ok (.iadd, 1) := by decide +kernel
theorem dX9_rests_261 : decode cX9_rests 261 = .ok (.goto 7, 3) := by decide +kernel
theorem dX9_rests_264 : decode cX9_rests 264 = .ok (.aload_n 0, 1) := by decide +kernel
theorem dX9_rests_265 : decode cX9_rests 265 = .ok (.getfield 273, 3) := by decide +kernel
theorem dX9_rests_268 : decode cX9_rests 268 = .ok (.putfield 273, 3) := by decide +kernel
theorem dX9_rests_271 : decode cX9_rests 271 = .ok (.aload_n 0, 1) := by decide +kernel
theorem dX9_rests_272 : decode cX9_rests 272 = .ok (.dup, 1) := by decide +kernel
theorem dX9_rests_273 : decode cX9_rests 273 = .ok (.getfield 270, 3) := by decide +kernel
theorem dX9_rests_276 : decode cX9_rests 276 = .ok (.iload 5, 2) := by decide +kernel
theorem dX9_rests_278 : decode cX9_rests 278 = .ok (.ifCond .eq 7, 3) := by decide +kernel
theorem dX9_rests_281 : decode cX9_rests 281 = .ok (.iconst 1, 1) := by decide +kernel
theorem dX9_rests_282 : decode cX9_rests 282 = .ok (.goto 4, 3) := by decide +kernel
theorem dX9_rests_285 : decode cX9_rests 285 = .ok (.iconst 0, 1) := by decide +kernel
theorem dX9_rests_286 : decode cX9_rests 286 = .ok (.iadd, 1) := by decide +kernel
theorem dX9_rests_287 : decode cX9_rests 287 = .ok (.putfield 270, 3) := by decide +kernel
theorem dX9_rests_290 : decode cX9_rests 290 = .ok (.iinc 4 1, 3) := by decide +kernel
theorem dX9_rests_293 : decode cX9_rests 293 = .ok (.goto (-120), 3) := by decide +kernel
theorem dX9_rests_296 : decode cX9_rests 296 = .ok (.iload_n 3, 1) := by decide +kernel
theorem dX9_rests_297 : decode cX9_rests 297 = .ok (.ifCond .ne 10, 3) := by decide +kernel
theorem dX9_rests_300 : decode cX9_rests 300 = .ok (.aload_n 0, 1) := by decide +kernel
theorem dX9_rests_301 : decode cX9_rests 301 = .ok (.getfield 270, 3) := by decide +kernel
theorem dX9_rests_304 : decode cX9_rests 304 = .ok (.goto 7, 3) := by decide +kernel
theorem dX9_rests_307 : decode cX9_rests 307 = .ok (.aload_n 0, 1) := by decide +kernel
theorem dX9_rests_308 : decode cX9_rests 308 = .ok (.getfield 273, 3) := by decide +kernel
theorem dX9_rests_311 : decode cX9_rests 311 = .ok (.ireturn, 1) := by decide +kernel
theorem dX9_falls_0 : decode cX9_falls 0 = .ok (.aload_n 0, 1) := by decide +kernel
theorem dX9_falls_1 : decode cX9_falls 1 = .ok (.iconst 0, 1) := by decide +kernel
theorem dX9_falls_2 : decode cX9_falls 2 = .ok (.putfield 59, 3) := by decide +kernel
theorem dX9_falls_5 : decode cX9_falls 5 = .ok (.iload_n 1, 1) := by decide +kernel
theorem dX9_falls_6 : decode cX9_falls 6 = .ok (.i2l, 1) := by decide +kernel
theorem dX9_falls_7 : decode cX9_falls 7 = .ok (.lconst 0, 1) := by decide +kernel
theorem dX9_falls_8 : decode cX9_falls 8 = .ok (.ldc2_w 258, 3) := by decide +kernel
theorem dX9_falls_11 : decode cX9_falls 11 = .ok (.invokestatic 66, 3) := by decide +kernel
theorem dX9_falls_14 : decode cX9_falls 14 = .ok (.ifCond .eq 15, 3) := by decide +kernel
theorem dX9_falls_17 : decode cX9_falls 17 = .ok (.iload_n 2, 1) := by decide +kernel
theorem dX9_falls_18 : decode cX9_falls 18 = .ok (.i2l, 1) := by decide +kernel
theorem dX9_falls_19 : decode cX9_falls 19 = .ok (.lconst 0, 1) := by decide +kernel
theorem dX9_falls_20 : decode cX9_falls 20 = .ok (.ldc2_w 276, 3) := by decide +kernel
theorem dX9_falls_23 : decode cX9_falls 23 = .ok (.invokestatic 66, 3) := by decide +kernel
theorem dX9_falls_26 : decode cX9_falls 26 = .ok (.ifCond .ne 6, 3) := by decide +kernel
theorem dX9_falls_29 : decode cX9_falls 29 = .ok (.bipush (-2), 2) := by decide +kernel
theorem dX9_falls_31 : decode cX9_falls 31 = .ok (.ireturn, 1) := by decide +kernel
theorem dX9_falls_32 : decode cX9_falls 32 = .ok (.aload_n 0, 1) := by decide +kernel
theorem dX9_falls_33 : decode cX9_falls 33 = .ok (.aload_n 0, 1) := by decide +kernel
theorem dX9_falls_34 : decode cX9_falls 34 = .ok (.getfield 25, 3) := by decide +kernel
theorem dX9_falls_37 : decode cX9_falls 37 = .ok (.iconst 0, 1) := by decide +kernel
theorem dX9_falls_38 : decode cX9_falls 38 = .ok (.iconst 4, 1) := by decide +kernel
theorem dX9_falls_39 : decode cX9_falls 39 = .ok (.invokevirtual 170, 3) := by decide +kernel
theorem dX9_falls_42 : decode cX9_falls 42 = .ok (.istore 4, 2) := by decide +kernel
theorem dX9_falls_44 : decode cX9_falls 44 = .ok (.iload 4, 2) := by decide +kernel
theorem dX9_falls_46 : decode cX9_falls 46 = .ok (.invokestatic 196, 3) := by decide +kernel
theorem dX9_falls_49 : decode cX9_falls 49 = .ok (.istore 5, 2) := by decide +kernel
theorem dX9_falls_51 : decode cX9_falls 51 = .ok (.iconst 0, 1) := by decide +kernel
theorem dX9_falls_52 : decode cX9_falls 52 = .ok (.istore 6, 2) := by decide +kernel
theorem dX9_falls_54 : decode cX9_falls 54 = .ok (.iconst 0, 1) := by decide +kernel
theorem dX9_falls_55 : decode cX9_falls 55 = .ok (.istore 7, 2) := by decide +kernel
theorem dX9_falls_57 : decode cX9_falls 57 = .ok (.iload 7, 2) := by decide +kernel
theorem dX9_falls_59 : decode cX9_falls 59 = .ok (.iconst 1, 1) := by decide +kernel
theorem dX9_falls_60 : decode cX9_falls 60 = .ok (.aload_n 0, 1) := by decide +kernel
theorem dX9_falls_61 : decode cX9_falls 61 = .ok (.getfield 70, 3) := by decide +kernel
theorem dX9_falls_64 : decode cX9_falls 64 = .ok (.ishl, 1) := by decide +kernel
theorem dX9_falls_65 : decode cX9_falls 65 = .ok (.if_icmp .ge 123, 3) := by decide +kernel
theorem dX9_falls_68 : decode cX9_falls 68 = .ok (.iload 7, 2) := by decide +kernel
theorem dX9_falls_70 : decode cX9_falls 70 = .ok (.iload 4, 2) := by decide +kernel
end
section
theorem dX9_falls_72 : decode cX9_falls 72 = .ok (.iconst (-1), 1) := by decide +kernel
theorem dX9_falls_73 : decode cX9_falls 73 = .ok (.ixor, 1) := by decide +kernel
theorem dX9_falls_74 : decode cX9_falls 74 = .ok (.iand, 1) := by decide +kernel
theorem dX9_falls_75 : decode cX9_falls 75 = .ok (.ifCond .ne 107, 3) := by decide +kernel
theorem dX9_falls_78 : decode cX9_falls 78 = .ok (.aload_n 0, 1) := by decide +kernel
theorem dX9_falls_79 : decode cX9_falls 79 = .ok (.invokevirtual 202, 3) := by decide +kernel
theorem dX9_falls_82 : decode cX9_falls 82 = .ok (.iconst 0, 1) := by decide +kernel
theorem dX9_falls_83 : decode cX9_falls 83 = .ok (.istore 8, 2) := by decide +kernel
theorem dX9_falls_85 : decode cX9_falls 85 = .ok (.iload 8, 2) := by decide +kernel
theorem dX9_falls_87 : decode cX9_falls 87 = .ok (.aload_n 0, 1) := by decide +kernel
theorem dX9_falls_88 : decode cX9_falls 88 = .ok (.getfield 70, 3) := by decide +kernel
theorem dX9_falls_91 : decode cX9_falls 91 = .ok (.if_icmp .ge 29, 3) := by decide +kernel
theorem dX9_falls_94 : decode cX9_falls 94 = .ok (.iload 7, 2) := by decide +kernel
theorem dX9_falls_96 : decode cX9_falls 96 = .ok (.iload 8, 2) := by decide +kernel
theorem dX9_falls_98 : decode cX9_falls 98 = .ok (.invokestatic 129, 3) := by decide +kernel
theorem dX9_falls_101 : decode cX9_falls 101 = .ok (.ifCond .eq 13, 3) := by decide +kernel
theorem dX9_falls_104 : decode cX9_falls 104 = .ok (.aload_n 0, 1) := by decide +kernel
theorem dX9_falls_105 : decode cX9_falls 105 = .ok (.aload_n 0, 1) := by decide +kernel
theorem dX9_falls_106 : decode cX9_falls 106 = .ok (.getfield 28, 3) := by decide +kernel
theorem dX9_falls_109 : decode cX9_falls 109 = .ok (.iload 8, 2) := by decide +kernel
theorem dX9_falls_111 : decode cX9_falls 111 = .ok (.invokevirtual 162, 3) := by decide +kernel
theorem dX9_falls_114 : decode cX9_falls 114 = .ok (.iinc 8 1, 3) := by decide +kernel
theorem dX9_falls_117 : decode cX9_falls 117 = .ok (.goto (-32), 3) := by decide +kernel
theorem dX9_falls_120 : decode cX9_falls 120 = .ok (.aload_n 0, 1) := by decide +kernel
theorem dX9_falls_121 : decode cX9_falls 121 = .ok (.bipush 10, 2) := by decide +kernel
theorem dX9_falls_123 : decode cX9_falls 123 = .ok (.bipush 31, 2) := by decide +kernel
theorem dX9_falls_125 : decode cX9_falls 125 = .ok (.invokevirtual 205, 3) := by decide +kernel
theorem dX9_falls_128 : decode cX9_falls 128 = .ok (.iload 7, 2) := by decide +kernel
theorem dX9_falls_130 : decode cX9_falls 130 = .ok (.invokestatic 196, 3) := by decide +kernel
theorem dX9_falls_133 : decode cX9_falls 133 = .ok (.istore 8, 2) := by decide +kernel
theorem dX9_falls_135 : decode cX9_falls 135 = .ok (.iload 6, 2) := by decide +kernel
theorem dX9_falls_137 : decode cX9_falls 137 = .ok (.aload_n 0, 1) := by decide +kernel
theorem dX9_falls_138 : decode cX9_falls 138 = .ok (.getfield 28, 3) := by decide +kernel
theorem dX9_falls_141 : decode cX9_falls 141 = .ok (.bipush 19, 2) := by decide +kernel
theorem dX9_falls_143 : decode cX9_falls 143 = .ok (.iaload, 1) := by decide +kernel
theorem dX9_falls_144 : decode cX9_falls 144 = .ok (.aload_n 0, 1) := by decide +kernel
theorem dX9_falls_145 : decode cX9_falls 145 = .ok (.getfield 25, 3) := by decide +kernel
theorem dX9_falls_148 : decode cX9_falls 148 = .ok (.bipush 19, 2) := by decide +kernel
theorem dX9_falls_150 : decode cX9_falls 150 = .ok (.iaload, 1) := by decide +kernel
theorem dX9_falls_151 : decode cX9_falls 151 = .ok (.isub, 1) := by decide +kernel
theorem dX9_falls_152 : decode cX9_falls 152 = .ok (.iload_n 1, 1) := by decide +kernel
theorem dX9_falls_153 : decode cX9_falls 153 = .ok (.if_icmp .lt 25, 3) := by decide +kernel
theorem dX9_falls_156 : decode cX9_falls 156 = .ok (.iload_n 2, 1) := by decide +kernel
theorem dX9_falls_157 : decode cX9_falls 157 = .ok (.iload 8, 2) := by decide +kernel
theorem dX9_falls_159 : decode cX9_falls 159 = .ok (.invokestatic 278, 3) := by decide +kernel
theorem dX9_falls_162 : decode cX9_falls 162 = .ok (.bipush 10, 2) := by decide +kernel
theorem dX9_falls_164 : decode cX9_falls 164 = .ok (.iload_n 2, 1) := by decide +kernel
theorem dX9_falls_165 : decode cX9_falls 165 = .ok (.isub, 1) := by decide +kernel
theorem dX9_falls_166 : decode cX9_falls 166 = .ok (.iload 5, 2) := by decide +kernel
theorem dX9_falls_168 : decode cX9_falls 168 = .ok (.iload 8, 2) := by decide +kernel
theorem dX9_falls_170 : decode cX9_falls 170 = .ok (.isub, 1) := by decide +kernel
theorem dX9_falls_171 : decode cX9_falls 171 = .ok (.invokestatic 278, 3) := by decide +kernel
theorem dX9_falls_174 : decode cX9_falls 174 = .ok (.imul, 1) := by decide +kernel
theorem dX9_falls_175 : decode cX9_falls 175 = .ok (.goto 4, 3) := by decide +kernel
theorem dX9_falls_178 : decode cX9_falls 178 = .ok (.iconst 0, 1) := by decide +kernel
theorem dX9_falls_179 : decode cX9_falls 179 = .ok (.iadd, 1) := by decide +kernel
theorem dX9_falls_180 : decode cX9_falls 180 = .ok (.istore 6, 2) := by decide +kernel
theorem dX9_falls_182 : decode cX9_falls 182 = .ok (.iinc 7 1, 3) := by decide +kernel
theorem dX9_falls_185 : decode cX9_falls 185 = .ok (.goto (-128), 3) := by decide +kernel
theorem dX9_falls_188 : decode cX9_falls 188 = .ok (.iload 6, 2) := by decide +kernel
theorem dX9_falls_190 : decode cX9_falls 190 = .ok (.bipush 10, 2) := by decide +kernel
theorem dX9_falls_192 : decode cX9_falls 192 = .ok (.iload 5, 2) := by decide +kernel
theorem dX9_falls_194 : decode cX9_falls 194 = .ok (.invokestatic 278, 3) := by decide +kernel
theorem dX9_falls_197 : decode cX9_falls 197 = .ok (.iload_n 3, 1) := by decide +kernel
theorem dX9_falls_198 : decode cX9_falls 198 = .ok (.invokestatic 252, 3) := by decide +kernel
theorem dX9_falls_201 : decode cX9_falls 201 = .ok (.ireturn, 1) := by decide +kernel
theorem dX9_seed_0 : decode cX9_seed 0 = .ok (.aload_n 0, 1) := by decide +kernel
theorem dX9_seed_1 : decode cX9_seed 1 = .ok (.iconst 0, 1) := by decide +kernel
theorem dX9_seed_2 : decode cX9_seed 2 = .ok (.putfield 59, 3) := by decide +kernel
theorem dX9_seed_5 : decode cX9_seed 5 = .ok (.aload_n 0, 1) := by decide +kernel
theorem dX9_seed_6 : decode cX9_seed 6 = .ok (.getfield 281, 3) := by decide +kernel
theorem dX9_seed_9 : decode cX9_seed 9 = .ok (.lstore_n 3, 1) := by decide +kernel
theorem dX9_seed_10 : decode cX9_seed 10 = .ok (.aload_n 0, 1) := by decide +kernel
theorem dX9_seed_11 : decode cX9_seed 11 = .ok (.lload_n 1, 1) := by decide +kernel
theorem dX9_seed_12 : decode cX9_seed 12 = .ok (.putfield 281, 3) := by decide +kernel
theorem dX9_seed_15 : decode cX9_seed 15 = .ok (.lload_n 3, 1) := by decide +kernel
theorem dX9_seed_16 : decode cX9_seed 16 = .ok (.lreturn, 1) := by decide +kernel
theorem dX9_nights_0 : decode cX9_nights 0 = .ok (.aload_n 0, 1) := by decide +kernel
theorem dX9_nights_1 : decode cX9_nights 1 = .ok (.iconst 0, 1) := by decide +kernel
theorem dX9_nights_2 : decode cX9_nights 2 = .ok (.putfield 59, 3) := by decide +kernel
theorem dX9_nights_5 : decode cX9_nights 5 = .ok (.iload_n 1, 1) := by decide +kernel
theorem dX9_nights_6 : decode cX9_nights 6 = .ok (.i2l, 1) := by decide +kernel
theorem dX9_nights_7 : decode cX9_nights 7 = .ok (.lconst 1, 1) := by decide +kernel
theorem dX9_nights_8 : decode cX9_nights 8 = .ok (.ldc2_w 285, 3) := by decide +kernel
theorem dX9_nights_11 : decode cX9_nights 11 = .ok (.invokestatic 66, 3) := by decide +kernel
theorem dX9_nights_14 : decode cX9_nights 14 = .ok (.ifCond .ne 6, 3) := by decide +kernel
theorem dX9_nights_17 : decode cX9_nights 17 = .ok (.bipush (-2), 2) := by decide +kernel
theorem dX9_nights_19 : decode cX9_nights 19 = .ok (.ireturn, 1) := by decide +kernel
theorem dX9_nights_20 : decode cX9_nights 20 = .ok (.aload_n 0, 1) := by decide +kernel
theorem dX9_nights_21 : decode cX9_nights 21 = .ok (.invokevirtual 202, 3) := by decide +kernel
theorem dX9_nights_24 : decode cX9_nights 24 = .ok (.iconst 0, 1) := by decide +kernel
theorem dX9_nights_25 : decode cX9_nights 25 = .ok (.istore_n 2, 1) := by decide +kernel
theorem dX9_nights_26 : decode cX9_nights 26 = .ok (.iconst 0, 1) := by decide +kernel
theorem dX9_nights_27 : decode cX9_nights 27 = .ok (.istore_n 3, 1) := by decide +kernel
theorem dX9_nights_28 : decode cX9_nights 28 = .ok (.iload_n 3, 1) := by decide +kernel
theorem dX9_nights_29 : decode cX9_nights 29 = .ok (.iload_n 1, 1) := by decide +kernel
theorem dX9_nights_30 : decode cX9_nights 30 = .ok (.if_icmp .ge 104, 3) := by decide +kernel
theorem dX9_nights_33 : decode cX9_nights 33 = .ok (.aload_n 0, 1) := by decide +kernel
theorem dX9_nights_34 : decode cX9_nights 34 = .ok (.aload_n 0, 1) := by decide +kernel
theorem dX9_nights_35 : decode cX9_nights 35 = .ok (.getfield 281, 3) := by decide +kernel
theorem dX9_nights_38 : decode cX9_nights 38 = .ok (.ldc2_w 287, 3) := by decide +kernel
theorem dX9_nights_41 : decode cX9_nights 41 = .ok (.lmul, 1) := by decide +kernel
theorem dX9_nights_42 : decode cX9_nights 42 = .ok (.ldc2_w 289, 3) := by decide +kernel
theorem dX9_nights_45 : decode cX9_nights 45 = .ok (.ladd, 1) := by decide +kernel
theorem dX9_nights_46 : decode cX9_nights 46 = .ok (.putfield 281, 3) := by decide +kernel
theorem dX9_nights_49 : decode cX9_nights 49 = .ok (.aload_n 0, 1) := by decide +kernel
theorem dX9_nights_50 : decode cX9_nights 50 = .ok (.getfield 281, 3) := by decide +kernel
theorem dX9_nights_53 : decode cX9_nights 53 = .ok (.bipush 33, 2) := by decide +kernel
theorem dX9_nights_55 : decode cX9_nights 55 = .ok (.lushr, 1) := by decide +kernel
theorem dX9_nights_56 : decode cX9_nights 56 = .ok (.ldc2_w 291, 3) := by decide +kernel
theorem dX9_nights_59 : decode cX9_nights 59 = .ok (.lrem, 1) := by decide +kernel
theorem dX9_nights_60 : decode cX9_nights 60 = .ok (.l2i, 1) := by decide +kernel
theorem dX9_nights_61 : decode cX9_nights 61 = .ok (.istore 4, 2) := by decide +kernel
theorem dX9_nights_63 : decode cX9_nights 63 = .ok (.aload_n 0, 1) := by decide +kernel
theorem dX9_nights_64 : decode cX9_nights 64 = .ok (.iload 4, 2) := by decide +kernel
theorem dX9_nights_66 : decode cX9_nights 66 = .ok (.iconst 4, 1) := by decide +kernel
theorem dX9_nights_67 : decode cX9_nights 67 = .ok (.if_icmp .ge 14, 3) := by decide +kernel
theorem dX9_nights_70 : decode cX9_nights 70 = .ok (.bipush 101, 2) := by decide +kernel
theorem dX9_nights_72 : decode cX9_nights 72 = .ok (.bipush 11, 2) := by decide +kernel
theorem dX9_nights_74 : decode cX9_nights 74 = .ok (.iload 4, 2) := by decide +kernel
theorem dX9_nights_76 : decode cX9_nights 76 = .ok (.imul, 1) := by decide +kernel
theorem dX9_nights_77 : decode cX9_nights 77 = .ok (.iadd, 1) := by decide +kernel
theorem dX9_nights_78 : decode cX9_nights 78 = .ok (.goto 36, 3) := by decide +kernel
theorem dX9_nights_81 : decode cX9_nights 81 = .ok (.iload 4, 2) := by decide +kernel
theorem dX9_nights_83 : decode cX9_nights 83 = .ok (.bipush 8, 2) := by decide +kernel
theorem dX9_nights_85 : decode cX9_nights 85 = .ok (.if_icmp .ge 12, 3) := by decide +kernel
theorem dX9_nights_88 : decode cX9_nights 88 = .ok (.sipush 296, 3) := by decide +kernel
theorem dX9_nights_91 : decode cX9_nights 91 = .ok (.iload 4, 2) := by decide +kernel
theorem dX9_nights_93 : decode cX9_nights 93 = .ok (.iadd, 1) := by decide +kernel
theorem dX9_nights_94 : decode cX9_nights 94 = .ok (.goto 20, 3) := by decide +kernel
theorem dX9_nights_97 : decode cX9_nights 97 = .ok (.iload 4, 2) := by decide +kernel
theorem dX9_nights_99 : decode cX9_nights 99 = .ok (.bipush 12, 2) := by decide +kernel
theorem dX9_nights_101 : decode cX9_nights 101 = .ok (.if_icmp .ge 12, 3) := by decide +kernel
theorem dX9_nights_104 : decode cX9_nights 104 = .ok (.sipush 192, 3) := by decide +kernel
theorem dX9_nights_107 : decode cX9_nights 107 = .ok (.iload 4, 2) := by decide +kernel
theorem dX9_nights_109 : decode cX9_nights 109 = .ok (.iadd, 1) := by decide +kernel
theorem dX9_nights_110 : decode cX9_nights 110 = .ok (.goto 4, 3) := by decide +kernel
theorem dX9_nights_113 : decode cX9_nights 113 = .ok (.iconst 0, 1) := by decide +kernel
theorem dX9_nights_114 : decode cX9_nights 114 = .ok (.invokevirtual 243, 3) := by decide +kernel
theorem dX9_nights_117 : decode cX9_nights 117 = .ok (.pop, 1) := by decide +kernel
theorem dX9_nights_118 : decode cX9_nights 118 = .ok (.iload_n 2, 1) := by decide +kernel
theorem dX9_nights_119 : decode cX9_nights 119 = .ok (.aload_n 0, 1) := by decide +kernel
theorem dX9_nights_120 : decode cX9_nights 120 = .ok (.getfield 28, 3) := by decide +kernel
theorem dX9_nights_123 : decode cX9_nights 123 = .ok (.bipush 18, 2) := by decide +kernel
theorem dX9_nights_125 : decode cX9_nights 125 = .ok (.iaload, 1) := by decide +kernel
theorem dX9_nights_126 : decode cX9_nights 126 = .ok (.iadd, 1) := by decide +kernel
theorem dX9_nights_127 : decode cX9_nights 127 = .ok (.istore_n 2, 1) := by decide +kernel
theorem dX9_nights_128 : decode cX9_nights 128 = .ok (.iinc 3 1, 3) := by decide +kernel
theorem dX9_nights_131 : decode cX9_nights 131 = .ok (.goto (-103), 3) := by decide +kernel
theorem dX9_nights_134 : decode cX9_nights 134 = .ok (.iload_n 2, 1) := by decide +kernel
theorem dX9_nights_135 : decode cX9_nights 135 = .ok (.ireturn, 1) := by decide +kernel
theorem dX9_keep_0 : decode cX9_keep 0 = .ok (.aload_n 0, 1) := by decide +kernel
theorem dX9_keep_1 : decode cX9_keep 1 = .ok (.iconst 0, 1) := by decide +kernel
theorem dX9_keep_2 : decode cX9_keep 2 = .ok (.putfield 59, 3) := by decide +kernel
theorem dX9_keep_5 : decode cX9_keep 5 = .ok (.iload_n 1, 1) := by decide +kernel
theorem dX9_keep_6 : decode cX9_keep 6 = .ok (.i2l, 1) := by decide +kernel
theorem dX9_keep_7 : decode cX9_keep 7 = .ok (.lconst 0, 1) := by decide +kernel
theorem dX9_keep_8 : decode cX9_keep 8 = .ok (.lconst 1, 1) := by decide +kernel
theorem dX9_keep_9 : decode cX9_keep 9 = .ok (.invokestatic 66, 3) := by decide +kernel
theorem dX9_keep_12 : decode cX9_keep 12 = .ok (.ifCond .ne 5, 3) := by decide +kernel
theorem dX9_keep_15 : decode cX9_keep 15 = .ok (.iconst (-1), 1) := by decide +kernel
theorem dX9_keep_16 : decode cX9_keep 16 = .ok (.ireturn, 1) := by decide +kernel
theorem dX9_keep_17 : decode cX9_keep 17 = .ok (.aload_n 0, 1) := by decide +kernel
theorem dX9_keep_18 : decode cX9_keep 18 = .ok (.getfield 37, 3) := by decide +kernel
theorem dX9_keep_21 : decode cX9_keep 21 = .ok (.iload_n 1, 1) := by decide +kernel
theorem dX9_keep_22 : decode cX9_keep 22 = .ok (.iconst 1, 1) := by decide +kernel
theorem dX9_keep_23 : decode cX9_keep 23 = .ok (.bastore, 1) := by decide +kernel
theorem dX9_keep_24 : decode cX9_keep 24 = .ok (.iconst 0, 1) := by decide +kernel
theorem dX9_keep_25 : decode cX9_keep 25 = .ok (.istore_n 2, 1) := by decide +kernel
theorem dX9_keep_26 : decode cX9_keep 26 = .ok (.iload_n 2, 1) := by decide +kernel
theorem dX9_keep_27 : decode cX9_keep 27 = .ok (.bipush 21, 2) := by decide +kernel
theorem dX9_keep_29 : decode cX9_keep 29 = .ok (.if_icmp .ge 26, 3) := by decide +kernel
theorem dX9_keep_32 : decode cX9_keep 32 = .ok (.aload_n 0, 1) := by decide +kernel
theorem dX9_keep_33 : decode cX9_keep 33 = .ok (.getfield 34, 3) := by decide +kernel
theorem dX9_keep_36 : decode cX9_keep 36 = .ok (.bipush 21, 2) := by decide +kernel
theorem dX9_keep_38 : decode cX9_keep 38 = .ok (.iload_n 1, 1) := by decide +kernel
theorem dX9_keep_39 : decode cX9_keep 39 = .ok (.imul, 1) := by decide +kernel
theorem dX9_keep_40 : decode cX9_keep 40 = .ok (.iload_n 2, 1) := by decide +kernel
theorem dX9_keep_41 : decode cX9_keep 41 = .ok (.iadd, 1) := by decide +kernel
theorem dX9_keep_42 : decode cX9_keep 42 = .ok (.aload_n 0, 1) := by decide +kernel
theorem dX9_keep_43 : decode cX9_keep 43 = .ok (.getfield 25, 3) := by decide +kernel
theorem dX9_keep_46 : decode cX9_keep 46 = .ok (.iload_n 2, 1) := by decide +kernel
theorem dX9_keep_47 : decode cX9_keep 47 = .ok (.iaload, 1) := by decide +kernel
theorem dX9_keep_48 : decode cX9_keep 48 = .ok (.iastore, 1) := by decide +kernel
theorem dX9_keep_49 : decode cX9_keep 49 = .ok (.iinc 2 1, 3) := by decide +kernel
theorem dX9_keep_52 : decode cX9_keep 52 = .ok (.goto (-26), 3) := by decide +kernel
theorem dX9_keep_55 : decode cX9_keep 55 = .ok (.aload_n 0, 1) := by decide +kernel
theorem dX9_keep_56 : decode cX9_keep 56 = .ok (.getfield 25, 3) := by decide +kernel
theorem dX9_keep_59 : decode cX9_keep 59 = .ok (.bipush 20, 2) := by decide +kernel
theorem dX9_keep_61 : decode cX9_keep 61 = .ok (.iaload, 1) := by decide +kernel
theorem dX9_keep_62 : decode cX9_keep 62 = .ok (.ireturn, 1) := by decide +kernel
theorem dX9_again_0 : decode cX9_again 0 = .ok (.aload_n 0, 1) := by decide +kernel
theorem dX9_again_1 : decode cX9_again 1 = .ok (.iconst 0, 1) := by decide +kernel
theorem dX9_again_2 : decode cX9_again 2 = .ok (.putfield 59, 3) := by decide +kernel
theorem dX9_again_5 : decode cX9_again 5 = .ok (.iload_n 1, 1) := by decide +kernel
theorem dX9_again_6 : decode cX9_again 6 = .ok (.i2l, 1) := by decide +kernel
theorem dX9_again_7 : decode cX9_again 7 = .ok (.lconst 0, 1) := by decide +kernel
theorem dX9_again_8 : decode cX9_again 8 = .ok (.lconst 1, 1) := by decide +kernel
theorem dX9_again_9 : decode cX9_again 9 = .ok (.invokestatic 66, 3) := by decide +kernel
theorem dX9_again_12 : decode cX9_again 12 = .ok (.ifCond .ne 5, 3) := by decide +kernel
theorem dX9_again_15 : decode cX9_again 15 = .ok (.iconst (-1), 1) := by decide +kernel
theorem dX9_again_16 : decode cX9_again 16 = .ok (.ireturn, 1) := by decide +kernel
theorem dX9_again_17 : decode cX9_again 17 = .ok (.aload_n 0, 1) := by decide +kernel
theorem dX9_again_18 : decode cX9_again 18 = .ok (.getfield 37, 3) := by decide +kernel
theorem dX9_again_21 : decode cX9_again 21 = .ok (.iload_n 1, 1) := by decide +kernel
theorem dX9_again_22 : decode cX9_again 22 = .ok (.baload, 1) := by decide +kernel
theorem dX9_again_23 : decode cX9_again 23 = .ok (.ifCond .ne 6, 3) := by decide +kernel
theorem dX9_again_26 : decode cX9_again 26 = .ok (.bipush (-3), 2) := by decide +kernel
theorem dX9_again_28 : decode cX9_again 28 = .ok (.ireturn, 1) := by decide +kernel
theorem dX9_again_29 : decode cX9_again 29 = .ok (.iconst 0, 1) := by decide +kernel
theorem dX9_again_30 : decode cX9_again 30 = .ok (.istore_n 2, 1) := by decide +kernel
theorem dX9_again_31 : decode cX9_again 31 = .ok (.iload_n 2, 1) := by decide +kernel
theorem dX9_again_32 : decode cX9_again 32 = .ok (.bipush 21, 2) := by decide +kernel
theorem dX9_again_34 : decode cX9_again 34 = .ok (.if_icmp .ge 26, 3) := by decide +kernel
theorem dX9_again_37 : decode cX9_again 37 = .ok (.aload_n 0, 1) := by decide +kernel
theorem dX9_again_38 : decode cX9_again 38 = .ok (.getfield 25, 3) := by decide +kernel
theorem dX9_again_41 : decode cX9_again 41 = .ok (.iload_n 2, 1) := by decide +kernel
theorem dX9_again_42 : decode cX9_again 42 = .ok (.aload_n 0, 1) := by decide +kernel
theorem dX9_again_43 : decode cX9_again 43 = .ok (.getfield 34, 3) := by decide +kernel
theorem dX9_again_46 : decode cX9_again 46 = .ok (.bipush 21, 2) := by decide +kernel
theorem dX9_again_48 : decode cX9_again 48 = .ok (.iload_n 1, 1) := by decide +kernel
theorem dX9_again_49 : decode cX9_again 49 = .ok (.imul, 1) := by decide +kernel
theorem dX9_again_50 : decode cX9_again 50 = .ok (.iload_n 2, 1) := by decide +kernel
theorem dX9_again_51 : decode cX9_again 51 = .ok (.iadd, 1) := by decide +kernel
theorem dX9_again_52 : decode cX9_again 52 = .ok (.iaload, 1) := by decide +kernel
theorem dX9_again_53 : decode cX9_again 53 = .ok (.iastore, 1) := by decide +kernel
theorem dX9_again_54 : decode cX9_again 54 = .ok (.iinc 2 1, 3) := by decide +kernel
theorem dX9_again_57 : decode cX9_again 57 = .ok (.goto (-26), 3) := by decide +kernel
theorem dX9_again_60 : decode cX9_again 60 = .ok (.aload_n 0, 1) := by decide +kernel
theorem dX9_again_61 : decode cX9_again 61 = .ok (.iconst 0, 1) := by decide +kernel
theorem dX9_again_62 : decode cX9_again 62 = .ok (.putfield 126, 3) := by decide +kernel
theorem dX9_again_65 : decode cX9_again 65 = .ok (.aload_n 0, 1) := by decide +kernel
theorem dX9_again_66 : decode cX9_again 66 = .ok (.getfield 25, 3) := by decide +kernel
theorem dX9_again_69 : decode cX9_again 69 = .ok (.bipush 20, 2) := by decide +kernel
theorem dX9_again_71 : decode cX9_again 71 = .ok (.iaload, 1) := by decide +kernel
theorem dX9_again_72 : decode cX9_again 72 = .ok (.ireturn, 1) := by decide +kernel
theorem dJ6_bitCount_0f7a4_0 : decode cJ6_bitCount_0f7a4 0 = .ok (.iload_n 0, 1) := by decide +kernel
theorem dJ6_bitCount_0f7a4_1 : decode cJ6_bitCount_0f7a4 1 = .ok (.iload_n 0, 1) := by decide +kernel
theorem dJ6_bitCount_0f7a4_2 : decode cJ6_bitCount_0f7a4 2 = .ok (.iconst 1, 1) := by decide +kernel
theorem dJ6_bitCount_0f7a4_3 : decode cJ6_bitCount_0f7a4 3 = .ok (.iushr, 1) := by decide +kernel
theorem dJ6_bitCount_0f7a4_4 : decode cJ6_bitCount_0f7a4 4 = .ok (.ldc_w 265, 3) := by decide +kernel
theorem dJ6_bitCount_0f7a4_7 : decode cJ6_bitCount_0f7a4 7 = .ok (.iand, 1) := by decide +kernel
theorem dJ6_bitCount_0f7a4_8 : decode cJ6_bitCount_0f7a4 8 = .ok (.isub, 1) := by decide +kernel
theorem dJ6_bitCount_0f7a4_9 : decode cJ6_bitCount_0f7a4 9 = .ok (.istore_n 0, 1) := by decide +kernel
theorem dJ6_bitCount_0f7a4_10 : decode cJ6_bitCount_0f7a4 10 = .ok (.iload_n 0, 1) := by decide +kernel
theorem dJ6_bitCount_0f7a4_11 : decode cJ6_bitCount_0f7a4 11 = .ok (.ldc_w 266, 3) := by decide +kernel
theorem dJ6_bitCount_0f7a4_14 : decode cJ6_bitCount_0f7a4 14 = .ok (.iand, 1) := by decide +kernel
theorem dJ6_bitCount_0f7a4_15 : decode cJ6_bitCount_0f7a4 15 = .ok (.iload_n 0, 1) := by decide +kernel
theorem dJ6_bitCount_0f7a4_16 : decode cJ6_bitCount_0f7a4 16 = .ok (.iconst 2, 1) := by decide +kernel
theorem dJ6_bitCount_0f7a4_17 : decode cJ6_bitCount_0f7a4 17 = .ok (.iushr, 1) := by decide +kernel
theorem dJ6_bitCount_0f7a4_18 : decode cJ6_bitCount_0f7a4 18 = .ok (.ldc_w 266, 3) := by decide +kernel
theorem dJ6_bitCount_0f7a4_21 : decode cJ6_bitCount_0f7a4 21 = .ok (.iand, 1) := by decide +kernel
theorem dJ6_bitCount_0f7a4_22 : decode cJ6_bitCount_0f7a4 22 = .ok (.iadd, 1) := by decide +kernel
theorem dJ6_bitCount_0f7a4_23 : decode cJ6_bitCount_0f7a4 23 = .ok (.istore_n 0, 1) := by decide +kernel
theorem dJ6_bitCount_0f7a4_24 : decode cJ6_bitCount_0f7a4 24 = .ok (.iload_n 0, 1) := by decide +kernel
theorem dJ6_bitCount_0f7a4_25 : decode cJ6_bitCount_0f7a4 25 = .ok (.iload_n 0, 1) := by decide +kernel
theorem dJ6_bitCount_0f7a4_26 : decode cJ6_bitCount_0f7a4 26 = .ok (.iconst 4, 1) := by decide +kernel
theorem dJ6_bitCount_0f7a4_27 : decode cJ6_bitCount_0f7a4 27 = .ok (.iushr, 1) := by decide +kernel
theorem dJ6_bitCount_0f7a4_28 : decode cJ6_bitCount_0f7a4 28 = .ok (.iadd, 1) := by decide +kernel
theorem dJ6_bitCount_0f7a4_29 : decode cJ6_bitCount_0f7a4 29 = .ok (.ldc_w 267, 3) := by decide +kernel
theorem dJ6_bitCount_0f7a4_32 : decode cJ6_bitCount_0f7a4 32 = .ok (.iand, 1) := by decide +kernel
theorem dJ6_bitCount_0f7a4_33 : decode cJ6_bitCount_0f7a4 33 = .ok (.istore_n 0, 1) := by decide +kernel
theorem dJ6_bitCount_0f7a4_34 : decode cJ6_bitCount_0f7a4 34 = .ok (.iload_n 0, 1) := by decide +kernel
theorem dJ6_bitCount_0f7a4_35 : decode cJ6_bitCount_0f7a4 35 = .ok (.iload_n 0, 1) := by decide +kernel
theorem dJ6_bitCount_0f7a4_36 : decode cJ6_bitCount_0f7a4 36 = .ok (.bipush 8, 2) := by decide +kernel
theorem dJ6_bitCount_0f7a4_38 : decode cJ6_bitCount_0f7a4 38 = .ok (.iushr, 1) := by decide +kernel
theorem dJ6_bitCount_0f7a4_39 : decode cJ6_bitCount_0f7a4 39 = .ok (.iadd, 1) := by decide +kernel
theorem dJ6_bitCount_0f7a4_40 : decode cJ6_bitCount_0f7a4 40 = .ok (.istore_n 0, 1) := by decide +kernel
theorem dJ6_bitCount_0f7a4_41 : decode cJ6_bitCount_0f7a4 41 = .ok (.iload_n 0, 1) := by decide +kernel
theorem dJ6_bitCount_0f7a4_42 : decode cJ6_bitCount_0f7a4 42 = .ok (.iload_n 0, 1) := by decide +kernel
theorem dJ6_bitCount_0f7a4_43 : decode cJ6_bitCount_0f7a4 43 = .ok (.bipush 16, 2) := by decide +kernel
theorem dJ6_bitCount_0f7a4_45 : decode cJ6_bitCount_0f7a4 45 = .ok (.iushr, 1) := by decide +kernel
theorem dJ6_bitCount_0f7a4_46 : decode cJ6_bitCount_0f7a4 46 = .ok (.iadd, 1) := by decide +kernel
theorem dJ6_bitCount_0f7a4_47 : decode cJ6_bitCount_0f7a4 47 = .ok (.istore_n 0, 1) := by decide +kernel
theorem dJ6_bitCount_0f7a4_48 : decode cJ6_bitCount_0f7a4 48 = .ok (.iload_n 0, 1) := by decide +kernel
theorem dJ6_bitCount_0f7a4_49 : decode cJ6_bitCount_0f7a4 49 = .ok (.bipush 63, 2) := by decide +kernel
theorem dJ6_bitCount_0f7a4_51 : decode cJ6_bitCount_0f7a4 51 = .ok (.iand, 1) := by decide +kernel
theorem dJ6_bitCount_0f7a4_52 : decode cJ6_bitCount_0f7a4 52 = .ok (.ireturn, 1) := by decide +kernel
theorem dJ9_abs_0f7a4_0 : decode cJ9_abs_0f7a4 0 = .ok (.iload_n 0, 1) := by decide +kernel
theorem dJ9_abs_0f7a4_1 : decode cJ9_abs_0f7a4 1 = .ok (.ifCond .ge 8, 3) := by decide +kernel
theorem dJ9_abs_0f7a4_4 : decode cJ9_abs_0f7a4 4 = .ok (.iload_n 0, 1) := by decide +kernel
theorem dJ9_abs_0f7a4_5 : decode cJ9_abs_0f7a4 5 = .ok (.ineg, 1) := by decide +kernel
theorem dJ9_abs_0f7a4_6 : decode cJ9_abs_0f7a4 6 = .ok (.goto 4, 3) := by decide +kernel
theorem dJ9_abs_0f7a4_9 : decode cJ9_abs_0f7a4 9 = .ok (.iload_n 0, 1) := by decide +kernel
theorem dJ9_abs_0f7a4_10 : decode cJ9_abs_0f7a4 10 = .ok (.ireturn, 1) := by decide +kernel
theorem dJ9_max_7cf53_0 : decode cJ9_max_7cf53 0 = .ok (.iload_n 0, 1) := by decide +kernel
theorem dJ9_max_7cf53_1 : decode cJ9_max_7cf53 1 = .ok (.iload_n 1, 1) := by decide +kernel
theorem dJ9_max_7cf53_2 : decode cJ9_max_7cf53 2 = .ok (.if_icmp .lt 7, 3) := by decide +kernel
theorem dJ9_max_7cf53_5 : decode cJ9_max_7cf53 5 = .ok (.iload_n 0, 1) := by decide +kernel
theorem dJ9_max_7cf53_6 : decode cJ9_max_7cf53 6 = .ok (.goto 4, 3) := by decide +kernel
theorem dJ9_max_7cf53_9 : decode cJ9_max_7cf53 9 = .ok (.iload_n 1, 1) := by decide +kernel
theorem dJ9_max_7cf53_10 : decode cJ9_max_7cf53 10 = .ok (.ireturn, 1) := by decide +kernel
theorem dJ9_min_7cf53_0 : decode cJ9_min_7cf53 0 = .ok (.iload_n 0, 1) := by decide +kernel
theorem dJ9_min_7cf53_1 : decode cJ9_min_7cf53 1 = .ok (.iload_n 1, 1) := by decide +kernel
theorem dJ9_min_7cf53_2 : decode cJ9_min_7cf53 2 = .ok (.if_icmp .gt 7, 3) := by decide +kernel
theorem dJ9_min_7cf53_5 : decode cJ9_min_7cf53 5 = .ok (.iload_n 0, 1) := by decide +kernel
theorem dJ9_min_7cf53_6 : decode cJ9_min_7cf53 6 = .ok (.goto 4, 3) := by decide +kernel
theorem dJ9_min_7cf53_9 : decode cJ9_min_7cf53 9 = .ok (.iload_n 1, 1) := by decide +kernel
theorem dJ9_min_7cf53_10 : decode cJ9_min_7cf53 10 = .ok (.ireturn, 1) := by decide +kernel
theorem dL_law_0 : decode cL_law 0 = .ok (.new 7, 3) := by decide +kernel
theorem dL_law_3 : decode cL_law 3 = .ok (.dup, 1) := by decide +kernel
theorem dL_law_4 : decode cL_law 4 = .ok (.invokespecial 9, 3) := by decide +kernel
theorem dL_law_7 : decode cL_law 7 = .ok (.astore_n 1, 1) := by decide +kernel
theorem dL_law_8 : decode cL_law 8 = .ok (.new 10, 3) := by decide +kernel
theorem dL_law_11 : decode cL_law 11 = .ok (.dup, 1) := by decide +kernel
theorem dL_law_12 : decode cL_law 12 = .ok (.invokespecial 12, 3) := by decide +kernel
theorem dL_law_15 : decode cL_law 15 = .ok (.astore_n 2, 1) := by decide +kernel
theorem dL_law_16 : decode cL_law 16 = .ok (.iconst 0, 1) := by decide +kernel
theorem dL_law_17 : decode cL_law 17 = .ok (.istore_n 3, 1) := by decide +kernel
theorem dL_law_18 : decode cL_law 18 = .ok (.iload_n 3, 1) := by decide +kernel
theorem dL_law_19 : decode cL_law 19 = .ok (.aload_n 0, 1) := by decide +kernel
theorem dL_law_20 : decode cL_law 20 = .ok (.arraylength, 1) := by decide +kernel
theorem dL_law_21 : decode cL_law 21 = .ok (.iconst 4, 1) := by decide +kernel
theorem dL_law_22 : decode cL_law 22 = .ok (.isub, 1) := by decide +kernel
theorem dL_law_23 : decode cL_law 23 = .ok (.if_icmp .gt 960, 3) := by decide +kernel
theorem dL_law_26 : decode cL_law 26 = .ok (.aload_n 0, 1) := by decide +kernel
theorem dL_law_27 : decode cL_law 27 = .ok (.iload_n 3, 1) := by decide +kernel
theorem dL_law_28 : decode cL_law 28 = .ok (.iaload, 1) := by decide +kernel
theorem dL_law_29 : decode cL_law 29 = .ok (.bipush 31, 2) := by decide +kernel
theorem dL_law_31 : decode cL_law 31 = .ok (.iand, 1) := by decide +kernel
theorem dL_law_32 : decode cL_law 32 = .ok (.tableswitch 945 0 27 #[128, 151, 164, 177, 190, 213, 246, 279, 312, 325, 358, 381, 404, 417, 450, 463, 496, 529, 592, 641, 684, 697, 720, 763, 822, 876, 899, 922], 128) := by decide +kernel
theorem dL_law_160 : decode cL_law 160 = .ok (.aload_n 1, 1) := by decide +kernel
theorem dL_law_161 : decode cL_law 161 = .ok (.aload_n 0, 1) := by decide +kernel
theorem dL_law_162 : decode cL_law 162 = .ok (.iload_n 3, 1) := by decide +kernel
theorem dL_law_163 : decode cL_law 163 = .ok (.iconst 1, 1) := by decide +kernel
theorem dL_law_164 : decode cL_law 164 = .ok (.iadd, 1) := by decide +kernel
theorem dL_law_165 : decode cL_law 165 = .ok (.iaload, 1) := by decide +kernel
theorem dL_law_166 : decode cL_law 166 = .ok (.invokevirtual 13, 3) := by decide +kernel
theorem dL_law_169 : decode cL_law 169 = .ok (.aload_n 2, 1) := by decide +kernel
theorem dL_law_170 : decode cL_law 170 = .ok (.aload_n 0, 1) := by decide +kernel
theorem dL_law_171 : decode cL_law 171 = .ok (.iload_n 3, 1) := by decide +kernel
theorem dL_law_172 : decode cL_law 172 = .ok (.iconst 1, 1) := by decide +kernel
theorem dL_law_173 : decode cL_law 173 = .ok (.iadd, 1) := by decide +kernel
theorem dL_law_174 : decode cL_law 174 = .ok (.iaload, 1) := by decide +kernel
theorem dL_law_175 : decode cL_law 175 = .ok (.invokevirtual 17, 3) := by decide +kernel
theorem dL_law_178 : decode cL_law 178 = .ok (.if_icmp .eq 799, 3) := by decide +kernel
theorem dL_law_181 : decode cL_law 181 = .ok (.iconst 0, 1) := by decide +kernel
theorem dL_law_182 : decode cL_law 182 = .ok (.ireturn, 1) := by decide +kernel
theorem dL_law_183 : decode cL_law 183 = .ok (.aload_n 1, 1) := by decide +kernel
theorem dL_law_184 : decode cL_law 184 = .ok (.invokevirtual 18, 3) := by decide +kernel
theorem dL_law_187 : decode cL_law 187 = .ok (.aload_n 2, 1) := by decide +kernel
theorem dL_law_188 : decode cL_law 188 = .ok (.invokevirtual 22, 3) := by decide +kernel
theorem dL_law_191 : decode cL_law 191 = .ok (.if_icmp .eq 786, 3) := by decide +kernel
theorem dL_law_194 : decode cL_law 194 = .ok (.iconst 0, 1) := by decide +kernel
theorem dL_law_195 : decode cL_law 195 = .ok (.ireturn, 1) := by decide +kernel
theorem dL_law_196 : decode cL_law 196 = .ok (.aload_n 1, 1) := by decide +kernel
theorem dL_law_197 : decode cL_law 197 = .ok (.invokevirtual 23, 3) := by decide +kernel
theorem dL_law_200 : decode cL_law 200 = .ok (.aload_n 2, 1) := by decide +kernel
theorem dL_law_201 : decode cL_law 201 = .ok (.invokevirtual 26, 3) := by decide +kernel
theorem dL_law_204 : decode cL_law 204 = .ok (.if_icmp .eq 773, 3) := by decide +kernel
theorem dL_law_207 : decode cL_law 207 = .ok (.iconst 0, 1) := by decide +kernel
theorem dL_law_208 : decode cL_law 208 = .ok (.ireturn, 1) := by decide +kernel
theorem dL_law_209 : decode cL_law 209 = .ok (.aload_n 1, 1) := by decide +kernel
theorem dL_law_210 : decode cL_law 210 = .ok (.invokevirtual 27, 3) := by decide +kernel
theorem dL_law_213 : decode cL_law 213 = .ok (.aload_n 2, 1) := by decide +kernel
theorem dL_law_214 : decode cL_law 214 = .ok (.invokevirtual 30, 3) := by decide +kernel
theorem dL_law_217 : decode cL_law 217 = .ok (.if_icmp .eq 760, 3) := by decide +kernel
theorem dL_law_220 : decode cL_law 220 = .ok (.iconst 0, 1) := by decide +kernel
theorem dL_law_221 : decode cL_law 221 = .ok (.ireturn, 1) := by decide +kernel
theorem dL_law_222 : decode cL_law 222 = .ok (.aload_n 1, 1) := by decide +kernel
theorem dL_law_223 : decode cL_law 223 = .ok (.aload_n 0, 1) := by decide +kernel
theorem dL_law_224 : decode cL_law 224 = .ok (.iload_n 3, 1) := by decide +kernel
theorem dL_law_225 : decode cL_law 225 = .ok (.iconst 1, 1) := by decide +kernel
theorem dL_law_226 : decode cL_law 226 = .ok (.iadd, 1) := by decide +kernel
theorem dL_law_227 : decode cL_law 227 = .ok (.iaload, 1) := by decide +kernel
theorem dL_law_228 : decode cL_law 228 = .ok (.invokevirtual 31, 3) := by decide +kernel
theorem dL_law_231 : decode cL_law 231 = .ok (.aload_n 2, 1) := by decide +kernel
theorem dL_law_232 : decode cL_law 232 = .ok (.aload_n 0, 1) := by decide +kernel
theorem dL_law_233 : decode cL_law 233 = .ok (.iload_n 3, 1) := by decide +kernel
theorem dL_law_234 : decode cL_law 234 = .ok (.iconst 1, 1) := by decide +kernel
theorem dL_law_235 : decode cL_law 235 = .ok (.iadd, 1) := by decide +kernel
theorem dL_law_236 : decode cL_law 236 = .ok (.iaload, 1) := by decide +kernel
theorem dL_law_237 : decode cL_law 237 = .ok (.invokevirtual 34, 3) := by decide +kernel
theorem dL_law_240 : decode cL_law 240 = .ok (.if_icmp .eq 737, 3) := by decide +kernel
theorem dL_law_243 : decode cL_law 243 = .ok (.iconst 0, 1) := by decide +kernel
theorem dL_law_244 : decode cL_law 244 = .ok (.ireturn, 1) := by decide +kernel
theorem dL_law_245 : decode cL_law 245 = .ok (.aload_n 1, 1) := by decide +kernel
theorem dL_law_246 : decode cL_law 246 = .ok (.aload_n 0, 1) := by decide +kernel
theorem dL_law_247 : decode cL_law 247 = .ok (.iload_n 3, 1) := by decide +kernel
theorem dL_law_248 : decode cL_law 248 = .ok (.iconst 1, 1) := by decide +kernel
theorem dL_law_249 : decode cL_law 249 = .ok (.iadd, 1) := by decide +kernel
theorem dL_law_250 : decode cL_law 250 = .ok (.iaload, 1) := by decide +kernel
theorem dL_law_251 : decode cL_law 251 = .ok (.aload_n 0, 1) := by decide +kernel
theorem dL_law_252 : decode cL_law 252 = .ok (.iload_n 3, 1) := by decide +kernel
theorem dL_law_253 : decode cL_law 253 = .ok (.iconst 2, 1) := by decide +kernel
theorem dL_law_254 : decode cL_law 254 = .ok (.iadd, 1) := by decide +kernel
theorem dL_law_255 : decode cL_law 255 = .ok (.iaload, 1) := by decide +kernel
theorem dL_law_256 : decode cL_law 256 = .ok (.invokevirtual 35, 3) := by decide +kernel
theorem dL_law_259 : decode cL_law 259 = .ok (.aload_n 2, 1) := by decide +kernel
theorem dL_law_260 : decode cL_law 260 = .ok (.aload_n 0, 1) := by decide +kernel
theorem dL_law_261 : decode cL_law 261 = .ok (.iload_n 3, 1) := by decide +kernel
theorem dL_law_262 : decode cL_law 262 = .ok (.iconst 1, 1) := by decide +kernel
theorem dL_law_263 : decode cL_law 263 = .ok (.iadd, 1) := by decide +kernel
theorem dL_law_264 : decode cL_law 264 = .ok (.iaload, 1) := by decide +kernel
theorem dL_law_265 : decode cL_law 265 = .ok (.aload_n 0, 1) := by decide +kernel
theorem dL_law_266 : decode cL_law 266 = .ok (.iload_n 3, 1) := by decide +kernel
theorem dL_law_267 : decode cL_law 267 = .ok (.iconst 2, 1) := by decide +kernel
theorem dL_law_268 : decode cL_law 268 = .ok (.iadd, 1) := by decide +kernel
theorem dL_law_269 : decode cL_law 269 = .ok (.iaload, 1) := by decide +kernel
theorem dL_law_270 : decode cL_law 270 = .ok (.invokevirtual 39, 3) := by decide +kernel
theorem dL_law_273 : decode cL_law 273 = .ok (.if_icmp .eq 704, 3) := by decide +kernel
theorem dL_law_276 : decode cL_law 276 = .ok (.iconst 0, 1) := by decide +kernel
theorem dL_law_277 : decode cL_law 277 = .ok (.ireturn, 1) := by decide +kernel
theorem dL_law_278 : decode cL_law 278 = .ok (.aload_n 1, 1) := by decide +kernel
theorem dL_law_279 : decode cL_law 279 = .ok (.aload_n 0, 1) := by decide +kernel
theorem dL_law_280 : decode cL_law 280 = .ok (.iload_n 3, 1) := by decide +kernel
theorem dL_law_281 : decode cL_law 281 = .ok (.iconst 1, 1) := by decide +kernel
theorem dL_law_282 : decode cL_law 282 = .ok (.iadd, 1) := by decide +kernel
theorem dL_law_283 : decode cL_law 283 = .ok (.iaload, 1) := by decide +kernel
theorem dL_law_284 : decode cL_law 284 = .ok (.aload_n 0, 1) := by decide +kernel
theorem dL_law_285 : decode cL_law 285 = .ok (.iload_n 3, 1) := by decide +kernel
theorem dL_law_286 : decode cL_law 286 = .ok (.iconst 2, 1) := by decide +kernel
theorem dL_law_287 : decode cL_law 287 = .ok (.iadd, 1) := by decide +kernel
theorem dL_law_288 : decode cL_law 288 = .ok (.iaload, 1) := by decide +kernel
theorem dL_law_289 : decode cL_law 289 = .ok (.invokevirtual 40, 3) := by decide +kernel
theorem dL_law_292 : decode cL_law 292 = .ok (.aload_n 2, 1) := by decide +kernel
theorem dL_law_293 : decode cL_law 293 = .ok (.aload_n 0, 1) := by decide +kernel
theorem dL_law_294 : decode cL_law 294 = .ok (.iload_n 3, 1) := by decide +kernel
theorem dL_law_295 : decode cL_law 295 = .ok (.iconst 1, 1) := by decide +kernel
theorem dL_law_296 : decode cL_law 296 = .ok (.iadd, 1) := by decide +kernel
theorem dL_law_297 : decode cL_law 297 = .ok (.iaload, 1) := by decide +kernel
theorem dL_law_298 : decode cL_law 298 = .ok (.aload_n 0, 1) := by decide +kernel
theorem dL_law_299 : decode cL_law 299 = .ok (.iload_n 3, 1) := by decide +kernel
theorem dL_law_300 : decode cL_law 300 = .ok (.iconst 2, 1) := by decide +kernel
theorem dL_law_301 : decode cL_law 301 = .ok (.iadd, 1) := by decide +kernel
theorem dL_law_302 : decode cL_law 302 = .ok (.iaload, 1) := by decide +kernel
theorem dL_law_303 : decode cL_law 303 = .ok (.invokevirtual 43, 3) := by decide +kernel
theorem dL_law_306 : decode cL_law 306 = .ok (.if_icmp .eq 671, 3) := by decide +kernel
theorem dL_law_309 : decode cL_law 309 = .ok (.iconst 0, 1) := by decide +kernel
theorem dL_law_310 : decode cL_law 310 = .ok (.ireturn, 1) := by decide +kernel
theorem dL_law_311 : decode cL_law 311 = .ok (.aload_n 1, 1) := by decide +kernel
theorem dL_law_312 : decode cL_law 312 = .ok (.aload_n 0, 1) := by decide +kernel
theorem dL_law_313 : decode cL_law 313 = .ok (.iload_n 3, 1) := by decide +kernel
theorem dL_law_314 : decode cL_law 314 = .ok (.iconst 1, 1) := by decide +kernel
theorem dL_law_315 : decode cL_law 315 = .ok (.iadd, 1) := by decide +kernel
theorem dL_law_316 : decode cL_law 316 = .ok (.iaload, 1) := by decide +kernel
theorem dL_law_317 : decode cL_law 317 = .ok (.aload_n 0, 1) := by decide +kernel
theorem dL_law_318 : decode cL_law 318 = .ok (.iload_n 3, 1) := by decide +kernel
theorem dL_law_319 : decode cL_law 319 = .ok (.iconst 2, 1) := by decide +kernel
theorem dL_law_320 : decode cL_law 320 = .ok (.iadd, 1) := by decide +kernel
theorem dL_law_321 : decode cL_law 321 = .ok (.iaload, 1) := by decide +kernel
theorem dL_law_322 : decode cL_law 322 = .ok (.invokevirtual 44, 3) := by decide +kernel
theorem dL_law_325 : decode cL_law 325 = .ok (.aload_n 2, 1) := by decide +kernel
theorem dL_law_326 : decode cL_law 326 = .ok (.aload_n 0, 1) := by decide +kernel
theorem dL_law_327 : decode cL_law 327 = .ok (.iload_n 3, 1) := by decide +kernel
theorem dL_law_328 : decode cL_law 328 = .ok (.iconst 1, 1) := by decide +kernel
theorem dL_law_329 : decode cL_law 329 = .ok (.iadd, 1) := by decide +kernel
theorem dL_law_330 : decode cL_law 330 = .ok (.iaload, 1) := by decide +kernel
theorem dL_law_331 : decode cL_law 331 = .ok (.aload_n 0, 1) := by decide +kernel
theorem dL_law_332 : decode cL_law 332 = .ok (.iload_n 3, 1) := by decide +kernel
theorem dL_law_333 : decode cL_law 333 = .ok (.iconst 2, 1) := by decide +kernel
theorem dL_law_334 : decode cL_law 334 = .ok (.iadd, 1) := by decide +kernel
theorem dL_law_335 : decode cL_law 335 = .ok (.iaload, 1) := by decide +kernel
theorem dL_law_336 : decode cL_law 336 = .ok (.invokevirtual 47, 3) := by decide +kernel
theorem dL_law_339 : decode cL_law 339 = .ok (.if_icmp .eq 638, 3) := by decide +kernel
theorem dL_law_342 : decode cL_law 342 = .ok (.iconst 0, 1) := by decide +kernel
theorem dL_law_343 : decode cL_law 343 = .ok (.ireturn, 1) := by decide +kernel
theorem dL_law_344 : decode cL_law 344 = .ok (.aload_n 1, 1) := by decide +kernel
theorem dL_law_345 : decode cL_law 345 = .ok (.invokevirtual 48, 3) := by decide +kernel
theorem dL_law_348 : decode cL_law 348 = .ok (.aload_n 2, 1) := by decide +kernel
theorem dL_law_349 : decode cL_law 349 = .ok (.invokevirtual 51, 3) := by decide +kernel
theorem dL_law_352 : decode cL_law 352 = .ok (.if_icmp .eq 625, 3) := by decide +kernel
theorem dL_law_355 : decode cL_law 355 = .ok (.iconst 0, 1) := by decide +kernel
theorem dL_law_356 : decode cL_law 356 = .ok (.ireturn, 1) := by decide +kernel
theorem dL_law_357 : decode cL_law 357 = .ok (.aload_n 1, 1) := by decide +kernel
theorem dL_law_358 : decode cL_law 358 = .ok (.aload_n 0, 1) := by decide +kernel
theorem dL_law_359 : decode cL_law 359 = .ok (.iload_n 3, 1) := by decide +kernel
theorem dL_law_360 : decode cL_law 360 = .ok (.iconst 1, 1) := by decide +kernel
theorem dL_law_361 : decode cL_law 361 = .ok (.iadd, 1) := by decide +kernel
theorem dL_law_362 : decode cL_law 362 = .ok (.iaload, 1) := by decide +kernel
theorem dL_law_363 : decode cL_law 363 = .ok (.aload_n 0, 1) := by decide +kernel
theorem dL_law_364 : decode cL_law 364 = .ok (.iload_n 3, 1) := by decide +kernel
theorem dL_law_365 : decode cL_law 365 = .ok (.iconst 2, 1) := by decide +kernel
theorem dL_law_366 : decode cL_law 366 = .ok (.iadd, 1) := by decide +kernel
theorem dL_law_367 : decode cL_law 367 = .ok (.iaload, 1) := by decide +kernel
theorem dL_law_368 : decode cL_law 368 = .ok (.invokevirtual 52, 3) := by decide +kernel
theorem dL_law_371 : decode cL_law 371 = .ok (.aload_n 2, 1) := by decide +kernel
theorem dL_law_372 : decode cL_law 372 = .ok (.aload_n 0, 1) := by decide +kernel
theorem dL_law_373 : decode cL_law 373 = .ok (.iload_n 3, 1) := by decide +kernel
theorem dL_law_374 : decode cL_law 374 = .ok (.iconst 1, 1) := by decide +kernel
theorem dL_law_375 : decode cL_law 375 = .ok (.iadd, 1) := by decide +kernel
theorem dL_law_376 : decode cL_law 376 = .ok (.iaload, 1) := by decide +kernel
theorem dL_law_377 : decode cL_law 377 = .ok (.aload_n 0, 1) := by decide +kernel
theorem dL_law_378 : decode cL_law 378 = .ok (.iload_n 3, 1) := by decide +kernel
theorem dL_law_379 : decode cL_law 379 = .ok (.iconst 2, 1) := by decide +kernel
theorem dL_law_380 : decode cL_law 380 = .ok (.iadd, 1) := by decide +kernel
theorem dL_law_381 : decode cL_law 381 = .ok (.iaload, 1) := by decide +kernel
theorem dL_law_382 : decode cL_law 382 = .ok (.invokevirtual 55, 3) := by decide +kernel
theorem dL_law_385 : decode cL_law 385 = .ok (.if_icmp .eq 592, 3) := by decide +kernel
theorem dL_law_388 : decode cL_law 388 = .ok (.iconst 0, 1) := by decide +kernel
theorem dL_law_389 : decode cL_law 389 = .ok (.ireturn, 1) := by decide +kernel
theorem dL_law_390 : decode cL_law 390 = .ok (.aload_n 1, 1) := by decide +kernel
theorem dL_law_391 : decode cL_law 391 = .ok (.aload_n 0, 1) := by decide +kernel
theorem dL_law_392 : decode cL_law 392 = .ok (.iload_n 3, 1) := by decide +kernel
theorem dL_law_393 : decode cL_law 393 = .ok (.iconst 1, 1) := by decide +kernel
theorem dL_law_394 : decode cL_law 394 = .ok (.iadd, 1) := by decide +kernel
theorem dL_law_395 : decode cL_law 395 = .ok (.iaload, 1) := by decide +kernel
theorem dL_law_396 : decode cL_law 396 = .ok (.invokevirtual 56, 3) := by decide +kernel
theorem dL_law_399 : decode cL_law 399 = .ok (.aload_n 2, 1) := by decide +kernel
theorem dL_law_400 : decode cL_law 400 = .ok (.aload_n 0, 1) := by decide +kernel
theorem dL_law_401 : decode cL_law 401 = .ok (.iload_n 3, 1) := by decide +kernel
theorem dL_law_402 : decode cL_law 402 = .ok (.iconst 1, 1) := by decide +kernel
theorem dL_law_403 : decode cL_law 403 = .ok (.iadd, 1) := by decide +kernel
theorem dL_law_404 : decode cL_law 404 = .ok (.iaload, 1) := by decide +kernel
theorem dL_law_405 : decode cL_law 405 = .ok (.invokevirtual 59, 3) := by decide +kernel
theorem dL_law_408 : decode cL_law 408 = .ok (.if_icmp .eq 569, 3) := by decide +kernel
theorem dL_law_411 : decode cL_law 411 = .ok (.iconst 0, 1) := by decide +kernel
theorem dL_law_412 : decode cL_law 412 = .ok (.ireturn, 1) := by decide +kernel
theorem dL_law_413 : decode cL_law 413 = .ok (.aload_n 1, 1) := by decide +kernel
theorem dL_law_414 : decode cL_law 414 = .ok (.aload_n 0, 1) := by decide +kernel
theorem dL_law_415 : decode cL_law 415 = .ok (.iload_n 3, 1) := by decide +kernel
theorem dL_law_416 : decode cL_law 416 = .ok (.iconst 1, 1) := by decide +kernel
theorem dL_law_417 : decode cL_law 417 = .ok (.iadd, 1) := by decide +kernel
theorem dL_law_418 : decode cL_law 418 = .ok (.iaload, 1) := by decide +kernel
theorem dL_law_419 : decode cL_law 419 = .ok (.invokevirtual 60, 3) := by decide +kernel
theorem dL_law_422 : decode cL_law 422 = .ok (.aload_n 2, 1) := by decide +kernel
theorem dL_law_423 : decode cL_law 423 = .ok (.aload_n 0, 1) := by decide +kernel
theorem dL_law_424 : decode cL_law 424 = .ok (.iload_n 3, 1) := by decide +kernel
theorem dL_law_425 : decode cL_law 425 = .ok (.iconst 1, 1) := by decide +kernel
theorem dL_law_426 : decode cL_law 426 = .ok (.iadd, 1) := by decide +kernel
theorem dL_law_427 : decode cL_law 427 = .ok (.iaload, 1) := by decide +kernel
theorem dL_law_428 : decode cL_law 428 = .ok (.invokevirtual 63, 3) := by decide +kernel
theorem dL_law_431 : decode cL_law 431 = .ok (.if_icmp .eq 546, 3) := by decide +kernel
theorem dL_law_434 : decode cL_law 434 = .ok (.iconst 0, 1) := by decide +kernel
theorem dL_law_435 : decode cL_law 435 = .ok (.ireturn, 1) := by decide +kernel
theorem dL_law_436 : decode cL_law 436 = .ok (.aload_n 1, 1) := by decide +kernel
theorem dL_law_437 : decode cL_law 437 = .ok (.invokevirtual 64, 3) := by decide +kernel
theorem dL_law_440 : decode cL_law 440 = .ok (.aload_n 2, 1) := by decide +kernel
theorem dL_law_441 : decode cL_law 441 = .ok (.invokevirtual 67, 3) := by decide +kernel
theorem dL_law_444 : decode cL_law 444 = .ok (.if_icmp .eq 533, 3) := by decide +kernel
theorem dL_law_447 : decode cL_law 447 = .ok (.iconst 0, 1) := by decide +kernel
theorem dL_law_448 : decode cL_law 448 = .ok (.ireturn, 1) := by decide +kernel
theorem dL_law_449 : decode cL_law 449 = .ok (.aload_n 1, 1) := by decide +kernel
theorem dL_law_450 : decode cL_law 450 = .ok (.aload_n 0, 1) := by decide +kernel
theorem dL_law_451 : decode cL_law 451 = .ok (.iload_n 3, 1) := by decide +kernel
theorem dL_law_452 : decode cL_law 452 = .ok (.iconst 1, 1) := by decide +kernel
theorem dL_law_453 : decode cL_law 453 = .ok (.iadd, 1) := by decide +kernel
theorem dL_law_454 : decode cL_law 454 = .ok (.iaload, 1) := by decide +kernel
theorem dL_law_455 : decode cL_law 455 = .ok (.aload_n 0, 1) := by decide +kernel
theorem dL_law_456 : decode cL_law 456 = .ok (.iload_n 3, 1) := by decide +kernel
theorem dL_law_457 : decode cL_law 457 = .ok (.iconst 2, 1) := by decide +kernel
theorem dL_law_458 : decode cL_law 458 = .ok (.iadd, 1) := by decide +kernel
theorem dL_law_459 : decode cL_law 459 = .ok (.iaload, 1) := by decide +kernel
theorem dL_law_460 : decode cL_law 460 = .ok (.invokevirtual 68, 3) := by decide +kernel
theorem dL_law_463 : decode cL_law 463 = .ok (.aload_n 2, 1) := by decide +kernel
theorem dL_law_464 : decode cL_law 464 = .ok (.aload_n 0, 1) := by decide +kernel
theorem dL_law_465 : decode cL_law 465 = .ok (.iload_n 3, 1) := by decide +kernel
theorem dL_law_466 : decode cL_law 466 = .ok (.iconst 1, 1) := by decide +kernel
theorem dL_law_467 : decode cL_law 467 = .ok (.iadd, 1) := by decide +kernel
theorem dL_law_468 : decode cL_law 468 = .ok (.iaload, 1) := by decide +kernel
theorem dL_law_469 : decode cL_law 469 = .ok (.aload_n 0, 1) := by decide +kernel
theorem dL_law_470 : decode cL_law 470 = .ok (.iload_n 3, 1) := by decide +kernel
theorem dL_law_471 : decode cL_law 471 = .ok (.iconst 2, 1) := by decide +kernel
theorem dL_law_472 : decode cL_law 472 = .ok (.iadd, 1) := by decide +kernel
theorem dL_law_473 : decode cL_law 473 = .ok (.iaload, 1) := by decide +kernel
theorem dL_law_474 : decode cL_law 474 = .ok (.invokevirtual 71, 3) := by decide +kernel
theorem dL_law_477 : decode cL_law 477 = .ok (.if_icmp .eq 500, 3) := by decide +kernel
theorem dL_law_480 : decode cL_law 480 = .ok (.iconst 0, 1) := by decide +kernel
theorem dL_law_481 : decode cL_law 481 = .ok (.ireturn, 1) := by decide +kernel
theorem dL_law_482 : decode cL_law 482 = .ok (.aload_n 1, 1) := by decide +kernel
theorem dL_law_483 : decode cL_law 483 = .ok (.invokevirtual 72, 3) := by decide +kernel
theorem dL_law_486 : decode cL_law 486 = .ok (.aload_n 2, 1) := by decide +kernel
theorem dL_law_487 : decode cL_law 487 = .ok (.invokevirtual 75, 3) := by decide +kernel
theorem dL_law_490 : decode cL_law 490 = .ok (.if_icmp .eq 487, 3) := by decide +kernel
theorem dL_law_493 : decode cL_law 493 = .ok (.iconst 0, 1) := by decide +kernel
theorem dL_law_494 : decode cL_law 494 = .ok (.ireturn, 1) := by decide +kernel
theorem dL_law_495 : decode cL_law 495 = .ok (.aload_n 1, 1) := by decide +kernel
theorem dL_law_496 : decode cL_law 496 = .ok (.aload_n 0, 1) := by decide +kernel
theorem dL_law_497 : decode cL_law 497 = .ok (.iload_n 3, 1) := by decide +kernel
theorem dL_law_498 : decode cL_law 498 = .ok (.iconst 1, 1) := by decide +kernel
theorem dL_law_499 : decode cL_law 499 = .ok (.iadd, 1) := by decide +kernel
theorem dL_law_500 : decode cL_law 500 = .ok (.iaload, 1) := by decide +kernel
theorem dL_law_501 : decode cL_law 501 = .ok (.aload_n 0, 1) := by decide +kernel
theorem dL_law_502 : decode cL_law 502 = .ok (.iload_n 3, 1) := by decide +kernel
theorem dL_law_503 : decode cL_law 503 = .ok (.iconst 2, 1) := by decide +kernel
theorem dL_law_504 : decode cL_law 504 = .ok (.iadd, 1) := by decide +kernel
theorem dL_law_505 : decode cL_law 505 = .ok (.iaload, 1) := by decide +kernel
theorem dL_law_506 : decode cL_law 506 = .ok (.invokevirtual 76, 3) := by decide +kernel
theorem dL_law_509 : decode cL_law 509 = .ok (.aload_n 2, 1) := by decide +kernel
theorem dL_law_510 : decode cL_law 510 = .ok (.aload_n 0, 1) := by decide +kernel
theorem dL_law_511 : decode cL_law 511 = .ok (.iload_n 3, 1) := by decide +kernel
theorem dL_law_512 : decode cL_law 512 = .ok (.iconst 1, 1) := by decide +kernel
theorem dL_law_513 : decode cL_law 513 = .ok (.iadd, 1) := by decide +kernel
theorem dL_law_514 : decode cL_law 514 = .ok (.iaload, 1) := by decide +kernel
theorem dL_law_515 : decode cL_law 515 = .ok (.aload_n 0, 1) := by decide +kernel
theorem dL_law_516 : decode cL_law 516 = .ok (.iload_n 3, 1) := by decide +kernel
theorem dL_law_517 : decode cL_law 517 = .ok (.iconst 2, 1) := by decide +kernel
theorem dL_law_518 : decode cL_law 518 = .ok (.iadd, 1) := by decide +kernel
theorem dL_law_519 : decode cL_law 519 = .ok (.iaload, 1) := by decide +kernel
theorem dL_law_520 : decode cL_law 520 = .ok (.invokevirtual 79, 3) := by decide +kernel
theorem dL_law_523 : decode cL_law 523 = .ok (.if_icmp .eq 454, 3) := by decide +kernel
theorem dL_law_526 : decode cL_law 526 = .ok (.iconst 0, 1) := by decide +kernel
theorem dL_law_527 : decode cL_law 527 = .ok (.ireturn, 1) := by decide +kernel
theorem dL_law_528 : decode cL_law 528 = .ok (.aload_n 1, 1) := by decide +kernel
theorem dL_law_529 : decode cL_law 529 = .ok (.aload_n 0, 1) := by decide +kernel
theorem dL_law_530 : decode cL_law 530 = .ok (.iload_n 3, 1) := by decide +kernel
theorem dL_law_531 : decode cL_law 531 = .ok (.iconst 1, 1) := by decide +kernel
theorem dL_law_532 : decode cL_law 532 = .ok (.iadd, 1) := by decide +kernel
theorem dL_law_533 : decode cL_law 533 = .ok (.iaload, 1) := by decide +kernel
theorem dL_law_534 : decode cL_law 534 = .ok (.aload_n 0, 1) := by decide +kernel
theorem dL_law_535 : decode cL_law 535 = .ok (.iload_n 3, 1) := by decide +kernel
theorem dL_law_536 : decode cL_law 536 = .ok (.iconst 2, 1) := by decide +kernel
theorem dL_law_537 : decode cL_law 537 = .ok (.iadd, 1) := by decide +kernel
theorem dL_law_538 : decode cL_law 538 = .ok (.iaload, 1) := by decide +kernel
theorem dL_law_539 : decode cL_law 539 = .ok (.invokevirtual 80, 3) := by decide +kernel
theorem dL_law_542 : decode cL_law 542 = .ok (.aload_n 2, 1) := by decide +kernel
theorem dL_law_543 : decode cL_law 543 = .ok (.aload_n 0, 1) := by decide +kernel
theorem dL_law_544 : decode cL_law 544 = .ok (.iload_n 3, 1) := by decide +kernel
theorem dL_law_545 : decode cL_law 545 = .ok (.iconst 1, 1) := by decide +kernel
theorem dL_law_546 : decode cL_law 546 = .ok (.iadd, 1) := by decide +kernel
theorem dL_law_547 : decode cL_law 547 = .ok (.iaload, 1) := by decide +kernel
theorem dL_law_548 : decode cL_law 548 = .ok (.aload_n 0, 1) := by decide +kernel
theorem dL_law_549 : decode cL_law 549 = .ok (.iload_n 3, 1) := by decide +kernel
theorem dL_law_550 : decode cL_law 550 = .ok (.iconst 2, 1) := by decide +kernel
theorem dL_law_551 : decode cL_law 551 = .ok (.iadd, 1) := by decide +kernel
theorem dL_law_552 : decode cL_law 552 = .ok (.iaload, 1) := by decide +kernel
theorem dL_law_553 : decode cL_law 553 = .ok (.invokevirtual 83, 3) := by decide +kernel
theorem dL_law_556 : decode cL_law 556 = .ok (.if_icmp .eq 421, 3) := by decide +kernel
theorem dL_law_559 : decode cL_law 559 = .ok (.iconst 0, 1) := by decide +kernel
theorem dL_law_560 : decode cL_law 560 = .ok (.ireturn, 1) := by decide +kernel
theorem dL_law_561 : decode cL_law 561 = .ok (.aload_n 1, 1) := by decide +kernel
theorem dL_law_562 : decode cL_law 562 = .ok (.aload_n 0, 1) := by decide +kernel
theorem dL_law_563 : decode cL_law 563 = .ok (.iload_n 3, 1) := by decide +kernel
theorem dL_law_564 : decode cL_law 564 = .ok (.iconst 1, 1) := by decide +kernel
theorem dL_law_565 : decode cL_law 565 = .ok (.iadd, 1) := by decide +kernel
theorem dL_law_566 : decode cL_law 566 = .ok (.iaload, 1) := by decide +kernel
theorem dL_law_567 : decode cL_law 567 = .ok (.aload_n 0, 1) := by decide +kernel
theorem dL_law_568 : decode cL_law 568 = .ok (.iload_n 3, 1) := by decide +kernel
theorem dL_law_569 : decode cL_law 569 = .ok (.iconst 2, 1) := by decide +kernel
theorem dL_law_570 : decode cL_law 570 = .ok (.iadd, 1) := by decide +kernel
theorem dL_law_571 : decode cL_law 571 = .ok (.iaload, 1) := by decide +kernel
theorem dL_law_572 : decode cL_law 572 = .ok (.i2l, 1) := by decide +kernel
theorem dL_law_573 : decode cL_law 573 = .ok (.bipush 32, 2) := by decide +kernel
theorem dL_law_575 : decode cL_law 575 = .ok (.lshl, 1) := by decide +kernel
theorem dL_law_576 : decode cL_law 576 = .ok (.aload_n 0, 1) := by decide +kernel
theorem dL_law_577 : decode cL_law 577 = .ok (.iload_n 3, 1) := by decide +kernel
theorem dL_law_578 : decode cL_law 578 = .ok (.iconst 3, 1) := by decide +kernel
theorem dL_law_579 : decode cL_law 579 = .ok (.iadd, 1) := by decide +kernel
theorem dL_law_580 : decode cL_law 580 = .ok (.iaload, 1) := by decide +kernel
theorem dL_law_581 : decode cL_law 581 = .ok (.i2l, 1) := by decide +kernel
theorem dL_law_582 : decode cL_law 582 = .ok (.ldc2_w 84, 3) := by decide +kernel
theorem dL_law_585 : decode cL_law 585 = .ok (.land, 1) := by decide +kernel
theorem dL_law_586 : decode cL_law 586 = .ok (.lor, 1) := by decide +kernel
theorem dL_law_587 : decode cL_law 587 = .ok (.invokevirtual 86, 3) := by decide +kernel
theorem dL_law_590 : decode cL_law 590 = .ok (.aload_n 2, 1) := by decide +kernel
theorem dL_law_591 : decode cL_law 591 = .ok (.aload_n 0, 1) := by decide +kernel
theorem dL_law_592 : decode cL_law 592 = .ok (.iload_n 3, 1) := by decide +kernel
theorem dL_law_593 : decode cL_law 593 = .ok (.iconst 1, 1) := by decide +kernel
theorem dL_law_594 : decode cL_law 594 = .ok (.iadd, 1) := by decide +kernel
theorem dL_law_595 : decode cL_law 595 = .ok (.iaload, 1) := by decide +kernel
theorem dL_law_596 : decode cL_law 596 = .ok (.aload_n 0, 1) := by decide +kernel
theorem dL_law_597 : decode cL_law 597 = .ok (.iload_n 3, 1) := by decide +kernel
theorem dL_law_598 : decode cL_law 598 = .ok (.iconst 2, 1) := by decide +kernel
theorem dL_law_599 : decode cL_law 599 = .ok (.iadd, 1) := by decide +kernel
theorem dL_law_600 : decode cL_law 600 = .ok (.iaload, 1) := by decide +kernel
theorem dL_law_601 : decode cL_law 601 = .ok (.i2l, 1) := by decide +kernel
theorem dL_law_602 : decode cL_law 602 = .ok (.bipush 32, 2) := by decide +kernel
theorem dL_law_604 : decode cL_law 604 = .ok (.lshl, 1) := by decide +kernel
theorem dL_law_605 : decode cL_law 605 = .ok (.aload_n 0, 1) := by decide +kernel
theorem dL_law_606 : decode cL_law 606 = .ok (.iload_n 3, 1) := by decide +kernel
theorem dL_law_607 : decode cL_law 607 = .ok (.iconst 3, 1) := by decide +kernel
theorem dL_law_608 : decode cL_law 608 = .ok (.iadd, 1) := by decide +kernel
theorem dL_law_609 : decode cL_law 609 = .ok (.iaload, 1) := by decide +kernel
theorem dL_law_610 : decode cL_law 610 = .ok (.i2l, 1) := by decide +kernel
theorem dL_law_611 : decode cL_law 611 = .ok (.ldc2_w 84, 3) := by decide +kernel
theorem dL_law_614 : decode cL_law 614 = .ok (.land, 1) := by decide +kernel
theorem dL_law_615 : decode cL_law 615 = .ok (.lor, 1) := by decide +kernel
theorem dL_law_616 : decode cL_law 616 = .ok (.invokevirtual 90, 3) := by decide +kernel
theorem dL_law_619 : decode cL_law 619 = .ok (.if_icmp .eq 358, 3) := by decide +kernel
theorem dL_law_622 : decode cL_law 622 = .ok (.iconst 0, 1) := by decide +kernel
theorem dL_law_623 : decode cL_law 623 = .ok (.ireturn, 1) := by decide +kernel
theorem dL_law_624 : decode cL_law 624 = .ok (.aload_n 1, 1) := by decide +kernel
theorem dL_law_625 : decode cL_law 625 = .ok (.aload_n 0, 1) := by decide +kernel
theorem dL_law_626 : decode cL_law 626 = .ok (.iload_n 3, 1) := by decide +kernel
theorem dL_law_627 : decode cL_law 627 = .ok (.iconst 1, 1) := by decide +kernel
theorem dL_law_628 : decode cL_law 628 = .ok (.iadd, 1) := by decide +kernel
theorem dL_law_629 : decode cL_law 629 = .ok (.iaload, 1) := by decide +kernel
theorem dL_law_630 : decode cL_law 630 = .ok (.aload_n 0, 1) := by decide +kernel
theorem dL_law_631 : decode cL_law 631 = .ok (.iload_n 3, 1) := by decide +kernel
theorem dL_law_632 : decode cL_law 632 = .ok (.iconst 2, 1) := by decide +kernel
theorem dL_law_633 : decode cL_law 633 = .ok (.iadd, 1) := by decide +kernel
theorem dL_law_634 : decode cL_law 634 = .ok (.iaload, 1) := by decide +kernel
theorem dL_law_635 : decode cL_law 635 = .ok (.ifCond .eq 7, 3) := by decide +kernel
theorem dL_law_638 : decode cL_law 638 = .ok (.iconst 1, 1) := by decide +kernel
theorem dL_law_639 : decode cL_law 639 = .ok (.goto 4, 3) := by decide +kernel
theorem dL_law_642 : decode cL_law 642 = .ok (.iconst 0, 1) := by decide +kernel
theorem dL_law_643 : decode cL_law 643 = .ok (.invokevirtual 91, 3) := by decide +kernel
theorem dL_law_646 : decode cL_law 646 = .ok (.aload_n 2, 1) := by decide +kernel
theorem dL_law_647 : decode cL_law 647 = .ok (.aload_n 0, 1) := by decide +kernel
theorem dL_law_648 : decode cL_law 648 = .ok (.iload_n 3, 1) := by decide +kernel
theorem dL_law_649 : decode cL_law 649 = .ok (.iconst 1, 1) := by decide +kernel
theorem dL_law_650 : decode cL_law 650 = .ok (.iadd, 1) := by decide +kernel
theorem dL_law_651 : decode cL_law 651 = .ok (.iaload, 1) := by decide +kernel
theorem dL_law_652 : decode cL_law 652 = .ok (.aload_n 0, 1) := by decide +kernel
theorem dL_law_653 : decode cL_law 653 = .ok (.iload_n 3, 1) := by decide +kernel
theorem dL_law_654 : decode cL_law 654 = .ok (.iconst 2, 1) := by decide +kernel
theorem dL_law_655 : decode cL_law 655 = .ok (.iadd, 1) := by decide +kernel
theorem dL_law_656 : decode cL_law 656 = .ok (.iaload, 1) := by decide +kernel
theorem dL_law_657 : decode cL_law 657 = .ok (.ifCond .eq 7, 3) := by decide +kernel
theorem dL_law_660 : decode cL_law 660 = .ok (.iconst 1, 1) := by decide +kernel
theorem dL_law_661 : decode cL_law 661 = .ok (.goto 4, 3) := by decide +kernel
theorem dL_law_664 : decode cL_law 664 = .ok (.iconst 0, 1) := by decide +kernel
theorem dL_law_665 : decode cL_law 665 = .ok (.invokevirtual 95, 3) := by decide +kernel
theorem dL_law_668 : decode cL_law 668 = .ok (.if_icmp .eq 309, 3) := by decide +kernel
theorem dL_law_671 : decode cL_law 671 = .ok (.iconst 0, 1) := by decide +kernel
theorem dL_law_672 : decode cL_law 672 = .ok (.ireturn, 1) := by decide +kernel
theorem dL_law_673 : decode cL_law 673 = .ok (.aload_n 1, 1) := by decide +kernel
theorem dL_law_674 : decode cL_law 674 = .ok (.aload_n 0, 1) := by decide +kernel
theorem dL_law_675 : decode cL_law 675 = .ok (.iload_n 3, 1) := by decide +kernel
theorem dL_law_676 : decode cL_law 676 = .ok (.iconst 1, 1) := by decide +kernel
theorem dL_law_677 : decode cL_law 677 = .ok (.iadd, 1) := by decide +kernel
theorem dL_law_678 : decode cL_law 678 = .ok (.iaload, 1) := by decide +kernel
theorem dL_law_679 : decode cL_law 679 = .ok (.aload_n 0, 1) := by decide +kernel
theorem dL_law_680 : decode cL_law 680 = .ok (.iload_n 3, 1) := by decide +kernel
theorem dL_law_681 : decode cL_law 681 = .ok (.iconst 2, 1) := by decide +kernel
theorem dL_law_682 : decode cL_law 682 = .ok (.iadd, 1) := by decide +kernel
theorem dL_law_683 : decode cL_law 683 = .ok (.iaload, 1) := by decide +kernel
theorem dL_law_684 : decode cL_law 684 = .ok (.aload_n 0, 1) := by decide +kernel
theorem dL_law_685 : decode cL_law 685 = .ok (.iload_n 3, 1) := by decide +kernel
theorem dL_law_686 : decode cL_law 686 = .ok (.iconst 3, 1) := by decide +kernel
theorem dL_law_687 : decode cL_law 687 = .ok (.iadd, 1) := by decide +kernel
theorem dL_law_688 : decode cL_law 688 = .ok (.iaload, 1) := by decide +kernel
theorem dL_law_689 : decode cL_law 689 = .ok (.invokevirtual 96, 3) := by decide +kernel
theorem dL_law_692 : decode cL_law 692 = .ok (.aload_n 2, 1) := by decide +kernel
theorem dL_law_693 : decode cL_law 693 = .ok (.aload_n 0, 1) := by decide +kernel
theorem dL_law_694 : decode cL_law 694 = .ok (.iload_n 3, 1) := by decide +kernel
theorem dL_law_695 : decode cL_law 695 = .ok (.iconst 1, 1) := by decide +kernel
theorem dL_law_696 : decode cL_law 696 = .ok (.iadd, 1) := by decide +kernel
theorem dL_law_697 : decode cL_law 697 = .ok (.iaload, 1) := by decide +kernel
theorem dL_law_698 : decode cL_law 698 = .ok (.aload_n 0, 1) := by decide +kernel
theorem dL_law_699 : decode cL_law 699 = .ok (.iload_n 3, 1) := by decide +kernel
theorem dL_law_700 : decode cL_law 700 = .ok (.iconst 2, 1) := by decide +kernel
theorem dL_law_701 : decode cL_law 701 = .ok (.iadd, 1) := by decide +kernel
theorem dL_law_702 : decode cL_law 702 = .ok (.iaload, 1) := by decide +kernel
theorem dL_law_703 : decode cL_law 703 = .ok (.aload_n 0, 1) := by decide +kernel
theorem dL_law_704 : decode cL_law 704 = .ok (.iload_n 3, 1) := by decide +kernel
theorem dL_law_705 : decode cL_law 705 = .ok (.iconst 3, 1) := by decide +kernel
theorem dL_law_706 : decode cL_law 706 = .ok (.iadd, 1) := by decide +kernel
theorem dL_law_707 : decode cL_law 707 = .ok (.iaload, 1) := by decide +kernel
theorem dL_law_708 : decode cL_law 708 = .ok (.invokevirtual 100, 3) := by decide +kernel
theorem dL_law_711 : decode cL_law 711 = .ok (.if_icmp .eq 266, 3) := by decide +kernel
theorem dL_law_714 : decode cL_law 714 = .ok (.iconst 0, 1) := by decide +kernel
theorem dL_law_715 : decode cL_law 715 = .ok (.ireturn, 1) := by decide +kernel
theorem dL_law_716 : decode cL_law 716 = .ok (.aload_n 1, 1) := by decide +kernel
theorem dL_law_717 : decode cL_law 717 = .ok (.invokevirtual 101, 3) := by decide +kernel
theorem dL_law_720 : decode cL_law 720 = .ok (.aload_n 2, 1) := by decide +kernel
theorem dL_law_721 : decode cL_law 721 = .ok (.invokevirtual 104, 3) := by decide +kernel
theorem dL_law_724 : decode cL_law 724 = .ok (.if_icmp .eq 253, 3) := by decide +kernel
theorem dL_law_727 : decode cL_law 727 = .ok (.iconst 0, 1) := by decide +kernel
theorem dL_law_728 : decode cL_law 728 = .ok (.ireturn, 1) := by decide +kernel
theorem dL_law_729 : decode cL_law 729 = .ok (.aload_n 1, 1) := by decide +kernel
theorem dL_law_730 : decode cL_law 730 = .ok (.aload_n 0, 1) := by decide +kernel
theorem dL_law_731 : decode cL_law 731 = .ok (.iload_n 3, 1) := by decide +kernel
theorem dL_law_732 : decode cL_law 732 = .ok (.iconst 1, 1) := by decide +kernel
theorem dL_law_733 : decode cL_law 733 = .ok (.iadd, 1) := by decide +kernel
theorem dL_law_734 : decode cL_law 734 = .ok (.iaload, 1) := by decide +kernel
theorem dL_law_735 : decode cL_law 735 = .ok (.invokevirtual 105, 3) := by decide +kernel
theorem dL_law_738 : decode cL_law 738 = .ok (.aload_n 2, 1) := by decide +kernel
theorem dL_law_739 : decode cL_law 739 = .ok (.aload_n 0, 1) := by decide +kernel
theorem dL_law_740 : decode cL_law 740 = .ok (.iload_n 3, 1) := by decide +kernel
theorem dL_law_741 : decode cL_law 741 = .ok (.iconst 1, 1) := by decide +kernel
theorem dL_law_742 : decode cL_law 742 = .ok (.iadd, 1) := by decide +kernel
theorem dL_law_743 : decode cL_law 743 = .ok (.iaload, 1) := by decide +kernel
theorem dL_law_744 : decode cL_law 744 = .ok (.invokevirtual 108, 3) := by decide +kernel
theorem dL_law_747 : decode cL_law 747 = .ok (.if_icmp .eq 230, 3) := by decide +kernel
theorem dL_law_750 : decode cL_law 750 = .ok (.iconst 0, 1) := by decide +kernel
theorem dL_law_751 : decode cL_law 751 = .ok (.ireturn, 1) := by decide +kernel
theorem dL_law_752 : decode cL_law 752 = .ok (.aload_n 1, 1) := by decide +kernel
theorem dL_law_753 : decode cL_law 753 = .ok (.aload_n 0, 1) := by decide +kernel
theorem dL_law_754 : decode cL_law 754 = .ok (.iload_n 3, 1) := by decide +kernel
theorem dL_law_755 : decode cL_law 755 = .ok (.iconst 1, 1) := by decide +kernel
theorem dL_law_756 : decode cL_law 756 = .ok (.iadd, 1) := by decide +kernel
theorem dL_law_757 : decode cL_law 757 = .ok (.iaload, 1) := by decide +kernel
theorem dL_law_758 : decode cL_law 758 = .ok (.aload_n 0, 1) := by decide +kernel
theorem dL_law_759 : decode cL_law 759 = .ok (.iload_n 3, 1) := by decide +kernel
theorem dL_law_760 : decode cL_law 760 = .ok (.iconst 2, 1) := by decide +kernel
theorem dL_law_761 : decode cL_law 761 = .ok (.iadd, 1) := by decide +kernel
theorem dL_law_762 : decode cL_law 762 = .ok (.iaload, 1) := by decide +kernel
theorem dL_law_763 : decode cL_law 763 = .ok (.aload_n 0, 1) := by decide +kernel
theorem dL_law_764 : decode cL_law 764 = .ok (.iload_n 3, 1) := by decide +kernel
theorem dL_law_765 : decode cL_law 765 = .ok (.iconst 3, 1) := by decide +kernel
theorem dL_law_766 : decode cL_law 766 = .ok (.iadd, 1) := by decide +kernel
theorem dL_law_767 : decode cL_law 767 = .ok (.iaload, 1) := by decide +kernel
theorem dL_law_768 : decode cL_law 768 = .ok (.invokevirtual 109, 3) := by decide +kernel
theorem dL_law_771 : decode cL_law 771 = .ok (.aload_n 2, 1) := by decide +kernel
theorem dL_law_772 : decode cL_law 772 = .ok (.aload_n 0, 1) := by decide +kernel
theorem dL_law_773 : decode cL_law 773 = .ok (.iload_n 3, 1) := by decide +kernel
theorem dL_law_774 : decode cL_law 774 = .ok (.iconst 1, 1) := by decide +kernel
theorem dL_law_775 : decode cL_law 775 = .ok (.iadd, 1) := by decide +kernel
theorem dL_law_776 : decode cL_law 776 = .ok (.iaload, 1) := by decide +kernel
theorem dL_law_777 : decode cL_law 777 = .ok (.aload_n 0, 1) := by decide +kernel
theorem dL_law_778 : decode cL_law 778 = .ok (.iload_n 3, 1) := by decide +kernel
theorem dL_law_779 : decode cL_law 779 = .ok (.iconst 2, 1) := by decide +kernel
theorem dL_law_780 : decode cL_law 780 = .ok (.iadd, 1) := by decide +kernel
theorem dL_law_781 : decode cL_law 781 = .ok (.iaload, 1) := by decide +kernel
theorem dL_law_782 : decode cL_law 782 = .ok (.aload_n 0, 1) := by decide +kernel
theorem dL_law_783 : decode cL_law 783 = .ok (.iload_n 3, 1) := by decide +kernel
theorem dL_law_784 : decode cL_law 784 = .ok (.iconst 3, 1) := by decide +kernel
theorem dL_law_785 : decode cL_law 785 = .ok (.iadd, 1) := by decide +kernel
theorem dL_law_786 : decode cL_law 786 = .ok (.iaload, 1) := by decide +kernel
theorem dL_law_787 : decode cL_law 787 = .ok (.invokevirtual 112, 3) := by decide +kernel
theorem dL_law_790 : decode cL_law 790 = .ok (.if_icmp .eq 187, 3) := by decide +kernel
theorem dL_law_793 : decode cL_law 793 = .ok (.iconst 0, 1) := by decide +kernel
theorem dL_law_794 : decode cL_law 794 = .ok (.ireturn, 1) := by decide +kernel
theorem dL_law_795 : decode cL_law 795 = .ok (.aload_n 1, 1) := by decide +kernel
theorem dL_law_796 : decode cL_law 796 = .ok (.aload_n 0, 1) := by decide +kernel
theorem dL_law_797 : decode cL_law 797 = .ok (.iload_n 3, 1) := by decide +kernel
theorem dL_law_798 : decode cL_law 798 = .ok (.iconst 1, 1) := by decide +kernel
theorem dL_law_799 : decode cL_law 799 = .ok (.iadd, 1) := by decide +kernel
theorem dL_law_800 : decode cL_law 800 = .ok (.iaload, 1) := by decide +kernel
theorem dL_law_801 : decode cL_law 801 = .ok (.aload_n 0, 1) := by decide +kernel
theorem dL_law_802 : decode cL_law 802 = .ok (.iload_n 3, 1) := by decide +kernel
theorem dL_law_803 : decode cL_law 803 = .ok (.iconst 2, 1) := by decide +kernel
theorem dL_law_804 : decode cL_law 804 = .ok (.iadd, 1) := by decide +kernel
theorem dL_law_805 : decode cL_law 805 = .ok (.iaload, 1) := by decide +kernel
theorem dL_law_806 : decode cL_law 806 = .ok (.aload_n 0, 1) := by decide +kernel
theorem dL_law_807 : decode cL_law 807 = .ok (.iload_n 3, 1) := by decide +kernel
theorem dL_law_808 : decode cL_law 808 = .ok (.iconst 3, 1) := by decide +kernel
theorem dL_law_809 : decode cL_law 809 = .ok (.iadd, 1) := by decide +kernel
theorem dL_law_810 : decode cL_law 810 = .ok (.iaload, 1) := by decide +kernel
theorem dL_law_811 : decode cL_law 811 = .ok (.ifCond .eq 7, 3) := by decide +kernel
theorem dL_law_814 : decode cL_law 814 = .ok (.iconst 1, 1) := by decide +kernel
theorem dL_law_815 : decode cL_law 815 = .ok (.goto 4, 3) := by decide +kernel
theorem dL_law_818 : decode cL_law 818 = .ok (.iconst 0, 1) := by decide +kernel
theorem dL_law_819 : decode cL_law 819 = .ok (.invokevirtual 113, 3) := by decide +kernel
theorem dL_law_822 : decode cL_law 822 = .ok (.aload_n 2, 1) := by decide +kernel
theorem dL_law_823 : decode cL_law 823 = .ok (.aload_n 0, 1) := by decide +kernel
theorem dL_law_824 : decode cL_law 824 = .ok (.iload_n 3, 1) := by decide +kernel
theorem dL_law_825 : decode cL_law 825 = .ok (.iconst 1, 1) := by decide +kernel
theorem dL_law_826 : decode cL_law 826 = .ok (.iadd, 1) := by decide +kernel
theorem dL_law_827 : decode cL_law 827 = .ok (.iaload, 1) := by decide +kernel
theorem dL_law_828 : decode cL_law 828 = .ok (.aload_n 0, 1) := by decide +kernel
theorem dL_law_829 : decode cL_law 829 = .ok (.iload_n 3, 1) := by decide +kernel
theorem dL_law_830 : decode cL_law 830 = .ok (.iconst 2, 1) := by decide +kernel
theorem dL_law_831 : decode cL_law 831 = .ok (.iadd, 1) := by decide +kernel
theorem dL_law_832 : decode cL_law 832 = .ok (.iaload, 1) := by decide +kernel
theorem dL_law_833 : decode cL_law 833 = .ok (.aload_n 0, 1) := by decide +kernel
theorem dL_law_834 : decode cL_law 834 = .ok (.iload_n 3, 1) := by decide +kernel
theorem dL_law_835 : decode cL_law 835 = .ok (.iconst 3, 1) := by decide +kernel
theorem dL_law_836 : decode cL_law 836 = .ok (.iadd, 1) := by decide +kernel
theorem dL_law_837 : decode cL_law 837 = .ok (.iaload, 1) := by decide +kernel
theorem dL_law_838 : decode cL_law 838 = .ok (.ifCond .eq 7, 3) := by decide +kernel
theorem dL_law_841 : decode cL_law 841 = .ok (.iconst 1, 1) := by decide +kernel
theorem dL_law_842 : decode cL_law 842 = .ok (.goto 4, 3) := by decide +kernel
theorem dL_law_845 : decode cL_law 845 = .ok (.iconst 0, 1) := by decide +kernel
theorem dL_law_846 : decode cL_law 846 = .ok (.invokevirtual 117, 3) := by decide +kernel
theorem dL_law_849 : decode cL_law 849 = .ok (.if_icmp .eq 128, 3) := by decide +kernel
theorem dL_law_852 : decode cL_law 852 = .ok (.iconst 0, 1) := by decide +kernel
theorem dL_law_853 : decode cL_law 853 = .ok (.ireturn, 1) := by decide +kernel
theorem dL_law_854 : decode cL_law 854 = .ok (.aload_n 1, 1) := by decide +kernel
theorem dL_law_855 : decode cL_law 855 = .ok (.aload_n 0, 1) := by decide +kernel
theorem dL_law_856 : decode cL_law 856 = .ok (.iload_n 3, 1) := by decide +kernel
theorem dL_law_857 : decode cL_law 857 = .ok (.iconst 1, 1) := by decide +kernel
theorem dL_law_858 : decode cL_law 858 = .ok (.iadd, 1) := by decide +kernel
theorem dL_law_859 : decode cL_law 859 = .ok (.iaload, 1) := by decide +kernel
theorem dL_law_860 : decode cL_law 860 = .ok (.i2l, 1) := by decide +kernel
theorem dL_law_861 : decode cL_law 861 = .ok (.bipush 32, 2) := by decide +kernel
theorem dL_law_863 : decode cL_law 863 = .ok (.lshl, 1) := by decide +kernel
theorem dL_law_864 : decode cL_law 864 = .ok (.aload_n 0, 1) := by decide +kernel
theorem dL_law_865 : decode cL_law 865 = .ok (.iload_n 3, 1) := by decide +kernel
theorem dL_law_866 : decode cL_law 866 = .ok (.iconst 2, 1) := by decide +kernel
theorem dL_law_867 : decode cL_law 867 = .ok (.iadd, 1) := by decide +kernel
theorem dL_law_868 : decode cL_law 868 = .ok (.iaload, 1) := by decide +kernel
theorem dL_law_869 : decode cL_law 869 = .ok (.i2l, 1) := by decide +kernel
theorem dL_law_870 : decode cL_law 870 = .ok (.ldc2_w 84, 3) := by decide +kernel
theorem dL_law_873 : decode cL_law 873 = .ok (.land, 1) := by decide +kernel
theorem dL_law_874 : decode cL_law 874 = .ok (.lor, 1) := by decide +kernel
theorem dL_law_875 : decode cL_law 875 = .ok (.invokevirtual 118, 3) := by decide +kernel
theorem dL_law_878 : decode cL_law 878 = .ok (.aload_n 2, 1) := by decide +kernel
theorem dL_law_879 : decode cL_law 879 = .ok (.aload_n 0, 1) := by decide +kernel
theorem dL_law_880 : decode cL_law 880 = .ok (.iload_n 3, 1) := by decide +kernel
theorem dL_law_881 : decode cL_law 881 = .ok (.iconst 1, 1) := by decide +kernel
theorem dL_law_882 : decode cL_law 882 = .ok (.iadd, 1) := by decide +kernel
theorem dL_law_883 : decode cL_law 883 = .ok (.iaload, 1) := by decide +kernel
theorem dL_law_884 : decode cL_law 884 = .ok (.i2l, 1) := by decide +kernel
theorem dL_law_885 : decode cL_law 885 = .ok (.bipush 32, 2) := by decide +kernel
theorem dL_law_887 : decode cL_law 887 = .ok (.lshl, 1) := by decide +kernel
theorem dL_law_888 : decode cL_law 888 = .ok (.aload_n 0, 1) := by decide +kernel
theorem dL_law_889 : decode cL_law 889 = .ok (.iload_n 3, 1) := by decide +kernel
theorem dL_law_890 : decode cL_law 890 = .ok (.iconst 2, 1) := by decide +kernel
theorem dL_law_891 : decode cL_law 891 = .ok (.iadd, 1) := by decide +kernel
theorem dL_law_892 : decode cL_law 892 = .ok (.iaload, 1) := by decide +kernel
theorem dL_law_893 : decode cL_law 893 = .ok (.i2l, 1) := by decide +kernel
theorem dL_law_894 : decode cL_law 894 = .ok (.ldc2_w 84, 3) := by decide +kernel
theorem dL_law_897 : decode cL_law 897 = .ok (.land, 1) := by decide +kernel
theorem dL_law_898 : decode cL_law 898 = .ok (.lor, 1) := by decide +kernel
theorem dL_law_899 : decode cL_law 899 = .ok (.invokevirtual 122, 3) := by decide +kernel
theorem dL_law_902 : decode cL_law 902 = .ok (.lcmp, 1) := by decide +kernel
theorem dL_law_903 : decode cL_law 903 = .ok (.ifCond .eq 74, 3) := by decide +kernel
theorem dL_law_906 : decode cL_law 906 = .ok (.iconst 0, 1) := by decide +kernel
theorem dL_law_907 : decode cL_law 907 = .ok (.ireturn, 1) := by decide +kernel
theorem dL_law_908 : decode cL_law 908 = .ok (.aload_n 1, 1) := by decide +kernel
theorem dL_law_909 : decode cL_law 909 = .ok (.aload_n 0, 1) := by decide +kernel
theorem dL_law_910 : decode cL_law 910 = .ok (.iload_n 3, 1) := by decide +kernel
theorem dL_law_911 : decode cL_law 911 = .ok (.iconst 1, 1) := by decide +kernel
theorem dL_law_912 : decode cL_law 912 = .ok (.iadd, 1) := by decide +kernel
theorem dL_law_913 : decode cL_law 913 = .ok (.iaload, 1) := by decide +kernel
theorem dL_law_914 : decode cL_law 914 = .ok (.invokevirtual 123, 3) := by decide +kernel
theorem dL_law_917 : decode cL_law 917 = .ok (.aload_n 2, 1) := by decide +kernel
theorem dL_law_918 : decode cL_law 918 = .ok (.aload_n 0, 1) := by decide +kernel
theorem dL_law_919 : decode cL_law 919 = .ok (.iload_n 3, 1) := by decide +kernel
theorem dL_law_920 : decode cL_law 920 = .ok (.iconst 1, 1) := by decide +kernel
theorem dL_law_921 : decode cL_law 921 = .ok (.iadd, 1) := by decide +kernel
theorem dL_law_922 : decode cL_law 922 = .ok (.iaload, 1) := by decide +kernel
theorem dL_law_923 : decode cL_law 923 = .ok (.invokevirtual 126, 3) := by decide +kernel
theorem dL_law_926 : decode cL_law 926 = .ok (.if_icmp .eq 51, 3) := by decide +kernel
theorem dL_law_929 : decode cL_law 929 = .ok (.iconst 0, 1) := by decide +kernel
theorem dL_law_930 : decode cL_law 930 = .ok (.ireturn, 1) := by decide +kernel
theorem dL_law_931 : decode cL_law 931 = .ok (.aload_n 1, 1) := by decide +kernel
theorem dL_law_932 : decode cL_law 932 = .ok (.aload_n 0, 1) := by decide +kernel
theorem dL_law_933 : decode cL_law 933 = .ok (.iload_n 3, 1) := by decide +kernel
theorem dL_law_934 : decode cL_law 934 = .ok (.iconst 1, 1) := by decide +kernel
theorem dL_law_935 : decode cL_law 935 = .ok (.iadd, 1) := by decide +kernel
theorem dL_law_936 : decode cL_law 936 = .ok (.iaload, 1) := by decide +kernel
theorem dL_law_937 : decode cL_law 937 = .ok (.invokevirtual 127, 3) := by decide +kernel
theorem dL_law_940 : decode cL_law 940 = .ok (.aload_n 2, 1) := by decide +kernel
theorem dL_law_941 : decode cL_law 941 = .ok (.aload_n 0, 1) := by decide +kernel
theorem dL_law_942 : decode cL_law 942 = .ok (.iload_n 3, 1) := by decide +kernel
theorem dL_law_943 : decode cL_law 943 = .ok (.iconst 1, 1) := by decide +kernel
theorem dL_law_944 : decode cL_law 944 = .ok (.iadd, 1) := by decide +kernel
theorem dL_law_945 : decode cL_law 945 = .ok (.iaload, 1) := by decide +kernel
theorem dL_law_946 : decode cL_law 946 = .ok (.invokevirtual 130, 3) := by decide +kernel
theorem dL_law_949 : decode cL_law 949 = .ok (.if_icmp .eq 28, 3) := by decide +kernel
theorem dL_law_952 : decode cL_law 952 = .ok (.iconst 0, 1) := by decide +kernel
theorem dL_law_953 : decode cL_law 953 = .ok (.ireturn, 1) := by decide +kernel
theorem dL_law_954 : decode cL_law 954 = .ok (.aload_n 1, 1) := by decide +kernel
theorem dL_law_955 : decode cL_law 955 = .ok (.aload_n 0, 1) := by decide +kernel
theorem dL_law_956 : decode cL_law 956 = .ok (.iload_n 3, 1) := by decide +kernel
theorem dL_law_957 : decode cL_law 957 = .ok (.iconst 1, 1) := by decide +kernel
theorem dL_law_958 : decode cL_law 958 = .ok (.iadd, 1) := by decide +kernel
theorem dL_law_959 : decode cL_law 959 = .ok (.iaload, 1) := by decide +kernel
theorem dL_law_960 : decode cL_law 960 = .ok (.invokevirtual 131, 3) := by decide +kernel
theorem dL_law_963 : decode cL_law 963 = .ok (.aload_n 2, 1) := by decide +kernel
theorem dL_law_964 : decode cL_law 964 = .ok (.aload_n 0, 1) := by decide +kernel
theorem dL_law_965 : decode cL_law 965 = .ok (.iload_n 3, 1) := by decide +kernel
theorem dL_law_966 : decode cL_law 966 = .ok (.iconst 1, 1) := by decide +kernel
theorem dL_law_967 : decode cL_law 967 = .ok (.iadd, 1) := by decide +kernel
theorem dL_law_968 : decode cL_law 968 = .ok (.iaload, 1) := by decide +kernel
theorem dL_law_969 : decode cL_law 969 = .ok (.invokevirtual 134, 3) := by decide +kernel
theorem dL_law_972 : decode cL_law 972 = .ok (.if_icmp .eq 5, 3) := by decide +kernel
theorem dL_law_975 : decode cL_law 975 = .ok (.iconst 0, 1) := by decide +kernel
theorem dL_law_976 : decode cL_law 976 = .ok (.ireturn, 1) := by decide +kernel
theorem dL_law_977 : decode cL_law 977 = .ok (.iinc 3 4, 3) := by decide +kernel
theorem dL_law_980 : decode cL_law 980 = .ok (.goto (-962), 3) := by decide +kernel
theorem dL_law_983 : decode cL_law 983 = .ok (.iconst 1, 1) := by decide +kernel
theorem dL_law_984 : decode cL_law 984 = .ok (.ireturn, 1) := by decide +kernel
end
section
/-! the heap's picture: cells by number, whole numbers by (cell, place), longs by cell -/
abbrev zw_Hp : Type := (Nat → Nat → Int32) × (Nat → Int64)
def zw_upR (h : zw_Hp) (i : Nat) (row : Nat → Int32) : zw_Hp := (fun a => if a = i then row else h.1 a, h.2)
def zw_up (h : zw_Hp) (i k : Nat) (v : Int32) : zw_Hp := zw_upR h i (upd (h.1 i) k v)
def zw_upL (h : zw_Hp) (i : Nat) (v : Int64) : zw_Hp := (h.1, fun a => if a = i then v else h.2 a)
def zw_nm {α β : Type} (x : α) (f : α → β) : β := f x
def zw_ok (i : Int32) (n : Nat) : Bool := !(decide (i < 0) || decide (n ≤ i.toNatClampNeg))
theorem zw_ok_in {i : Int32} {n : Nat} (h : zw_ok i n = true) : vp_in i n := by
  intro q
  simp [zw_ok] at h
  rcases q with q | q
  · exact absurd q (Int32.not_lt.mpr h.1)
  · omega
theorem zw_nm_ex {α β : Type} {x : α} {f : α → β} {y : β} (h : zw_nm x f = y) : ∃ z, z = x ∧ f z = y := ⟨x, rfl, h⟩
theorem zw_bd {α β : Type} {x : Option α} {f : α → Option β} {y : β} (h : x.bind f = some y) : ∃ z, x = some z ∧ f z = some y := by
  cases x with
  | none => cases h
  | some z => exact ⟨z, rfl, h⟩
theorem zw_gd {α : Type} {b : Bool} {x : Option α} {y : α} (h : (if b = true then x else none) = some y) : b = true ∧ x = some y := by
  cases b with
  | true => exact ⟨rfl, h⟩
  | false => cases h
theorem zw_gp {α : Type} {c : Prop} [Decidable c] {x : Option α} {y : α} (h : (if c then x else none) = some y) : c ∧ x = some y := by
  by_cases q : c
  · rw [if_pos q] at h; exact ⟨q, h⟩
  · rw [if_neg q] at h; cases h
theorem zw_ift {α : Type} {c : Prop} [Decidable c] {a b x : α} (hc : c) (h : (if c then a else b) = x) : a = x := by rw [if_pos hc] at h; exact h
theorem zw_iff {α : Type} {c : Prop} [Decidable c] {a b x : α} (hc : ¬ c) (h : (if c then a else b) = x) : b = x := by rw [if_neg hc] at h; exact h
def zw_it {S R : Type} (f : (S → Option R) → S → Option R) : Nat → S → Option R
  | 0, _ => none
  | n + 1, w => f (zw_it f n) w
theorem zw_it_ind {S R : Type} {f : (S → Option R) → S → Option R} {P : S → R → Prop} (hs : ∀ k : S → Option R, (∀ w z, k w = some z → P w z) → ∀ w z, f k w = some z → P w z) : ∀ (n : Nat) (w : S) (z : R), zw_it f n w = some z → P w z
  | 0, _, _, h => by cases h
  | n + 1, w, z, h => hs (zw_it f n) (zw_it_ind hs n) w z h
/-! the shape of the two systems once they are made: an object's class and fields (none: an int, some none: a long, some (some j): the cell j), or an array (boolean or int) and its length -/
abbrev zw_Sh : Type := (Nat × List (Option (Option Nat))) ⊕ (Bool × Nat)
def zw_tab : List zw_Sh := [
  .inl (8, [some (some 1), some (some 3), some (some 6), some (some 9), some (some 19), some (some 22), none, some (some 24), some (some 28), some (some 30), some none]),
  .inl (7, [some (some 2), none]),
  .inr (false, 36),
  .inl (2, [some (some 4), some (some 5), none, none, none, none, none, none, none]),
  .inr (false, 5),
  .inr (false, 4),
  .inl (2, [some (some 7), some (some 8), none, none, none, none, none, none, none]),
  .inr (false, 5),
  .inr (false, 4),
  .inl (3, [some (some 6), some (some 10), some (some 11), some (some 12), some (some 13), none, none, none, none, none]),
  .inr (false, 5),
  .inr (false, 4),
  .inr (false, 4),
  .inr (false, 4),
  .inl (3, [some (some 6), some (some 15), some (some 16), some (some 17), some (some 18), none, none, none, none, none]),
  .inr (false, 5),
  .inr (false, 4),
  .inr (false, 4),
  .inr (false, 4),
  .inl (0, [some (some 20), none, none]),
  .inl (5, [some (some 21)]),
  .inr (false, 294),
  .inl (5, [some (some 23)]),
  .inr (false, 42),
  .inl (6, [some (some 25), some (some 26), some (some 27), none]),
  .inr (false, 6),
  .inr (false, 6),
  .inr (false, 6),
  .inl (4, [some (some 6), some (some 9), some (some 14), some (some 29), none, none]),
  .inr (false, 5),
  .inl (1, [some (some 6), some (some 9), some (some 14)]),
  .inl (9, [none, some (some 32), none, none, none, none, none, some (some 33), none, some (some 34), none, none, none, none, some (some 35), none, some (some 36), none, some (some 37), some (some 38), some (some 39), none, some (some 40), some (some 41), none, some (some 42), some (some 43), some (some 44), some none, none, none, none, none, none, none, some (some 45), some (some 46), some (some 47)]),
  .inr (false, 36),
  .inr (false, 5),
  .inr (false, 4),
  .inr (false, 5),
  .inr (false, 4),
  .inr (false, 21),
  .inr (false, 21),
  .inr (false, 294),
  .inr (false, 42),
  .inr (true, 2),
  .inr (false, 6),
  .inr (false, 6),
  .inr (false, 6),
  .inr (false, 8),
  .inr (false, 16),
  .inr (false, 5)]
def zw_sh (i : Nat) : zw_Sh := zw_tab.getD i (.inr (false, 0))
/-- class numbers and slots; addresses; cells that live; the classes of int[] and boolean[] -/
abbrev zw_En : Type := va_G × (Nat → Nat) × List Nat × ClassId × ClassId
def zw_fv (E : zw_En) (h : zw_Hp) (i k : Nat) : Option (Option Nat) → Value
  | none => .int (h.1 i k)
  | some none => .long (h.2 i)
  | some (some j) => .ref (E.2.1 j)
def zw_entS (E : zw_En) (h : zw_Hp) (i : Nat) (sh : zw_Sh) : va_E := match sh with
  | .inl o => .inr (o.1, o.2.mapIdx (fun k f => zw_fv E h i k f))
  | .inr a => .inl (if a.1 = true then E.2.2.2.2 else E.2.2.2.1, a.2, .inl (h.1 i))
def zw_ent (E : zw_En) (h : zw_Hp) (i : Nat) : va_E := zw_entS E h i (zw_sh i)
def zw_ws (E : zw_En) (h : zw_Hp) : va_W := E.2.2.1.map (fun i => (E.2.1 i, zw_ent E h i))
def zw_tys (E : zw_En) : List (ClassId × FieldType) := [(E.2.2.2.1, .int), (E.2.2.2.2, .boolean)]
def zw_A (E : zw_En) : Nat → Prop := fun q => ∃ i ∈ E.2.2.1, E.2.1 i = q
def zw_Ok (E : zw_En) : Prop := E.2.2.1.Nodup ∧ ∀ i ∈ E.2.2.1, ∀ j ∈ E.2.2.1, E.2.1 i = E.2.1 j → i = j
theorem zw_ws_at {E : zw_En} {h : zw_Hp} {q i : Nat} (hq : E.2.2.1[q]? = some i) : (zw_ws E h)[q]? = some (E.2.1 i, zw_ent E h i) := by
  simp [zw_ws, hq]
theorem zw_ws_D {E : zw_En} {A : Nat → Prop} (ok : zw_Ok E) (hA : ∀ q, zw_A E q → A q) (h : zw_Hp) : va_D A (zw_ws E h) := by
  refine ⟨fun i j p q hp hq e => ?_, fun k q hk => ?_⟩
  · simp only [zw_ws, List.getElem?_map, Option.map_eq_some_iff] at hp hq
    obtain ⟨a, ha, rfl⟩ := hp
    obtain ⟨b, hb, rfl⟩ := hq
    have hab := ok.2 a (List.mem_of_getElem? ha) b (List.mem_of_getElem? hb) e
    subst hab
    exact (List.getElem?_inj (List.getElem?_eq_some_iff.mp ha).1 ok.1).mp (ha.trans hb.symm)
  · simp only [zw_ws, List.getElem?_map, Option.map_eq_some_iff] at hk
    obtain ⟨a, ha, rfl⟩ := hk
    exact hA _ ⟨a, List.mem_of_getElem? ha, rfl⟩
/-- one cell changes, the others stay -/
theorem zw_ws_set {E : zw_En} {h h' : zw_Hp} {q i : Nat} {A : Nat → Prop} (hD : va_D A (zw_ws E h)) (hq : E.2.2.1[q]? = some i) (ho : ∀ j, j ≠ i → zw_ent E h' j = zw_ent E h j) : (zw_ws E h).set q (E.2.1 i, zw_ent E h' i) = zw_ws E h' := by
  apply List.ext_getElem?
  intro k
  by_cases hk : k = q
  · subst hk
    have hl : k < (zw_ws E h).length := by
      simp only [zw_ws, List.length_map]
      exact (List.getElem?_eq_some_iff.mp hq).1
    rw [List.getElem?_set_self hl, zw_ws_at hq]
  · rw [List.getElem?_set_ne (Ne.symm hk)]
    cases hj : E.2.2.1[k]? with
    | none => simp [zw_ws, hj]
    | some j =>
      have hne : j ≠ i := by
        intro e
        subst e
        exact hk (hD.1 k q _ _ (zw_ws_at hj) (zw_ws_at hq) rfl)
      rw [zw_ws_at hj, zw_ws_at hj, ho j hne]
theorem zw_ent_row {E : zw_En} {h : zw_Hp} {i : Nat} (row : Nat → Int32) (j : Nat) (hj : j ≠ i) : zw_ent E (zw_upR h i row) j = zw_ent E h j := by
  have e1 : (zw_upR h i row).1 j = h.1 j := if_neg hj
  have e2 : (zw_upR h i row).2 = h.2 := rfl
  have e3 : ∀ k f, zw_fv E (zw_upR h i row) j k f = zw_fv E h j k f := by
    intro k f
    cases f with
    | none => simp only [zw_fv, e1]
    | some f => cases f with
      | none => simp only [zw_fv, e2]
      | some f => simp only [zw_fv]
  unfold zw_ent zw_entS
  cases zw_sh j with
  | inl o => simp only [e3]
  | inr a => simp only [e1]
theorem zw_ent_long {E : zw_En} {h : zw_Hp} {i : Nat} (v : Int64) (j : Nat) (hj : j ≠ i) : zw_ent E (zw_upL h i v) j = zw_ent E h j := by
  have e1 : (zw_upL h i v).1 = h.1 := rfl
  have e2 : (zw_upL h i v).2 j = h.2 j := if_neg hj
  have e3 : ∀ k f, zw_fv E (zw_upL h i v) j k f = zw_fv E h j k f := by
    intro k f
    cases f with
    | none => simp only [zw_fv, e1]
    | some f => cases f with
      | none => simp only [zw_fv, e2]
      | some f => simp only [zw_fv]
  unfold zw_ent zw_entS
  cases zw_sh j with
  | inl o => simp only [e3]
  | inr a => simp only [e1]
theorem zw_ent_ob {E : zw_En} {h : zw_Hp} {i ci : Nat} {fs : List (Option (Option Nat))} (hs : zw_sh i = .inl (ci, fs)) : zw_ent E h i = .inr (ci, fs.mapIdx (fun k f => zw_fv E h i k f)) := by
  unfold zw_ent; rw [hs]; rfl
theorem zw_ent_ia {E : zw_En} {h : zw_Hp} {i n : Nat} (hs : zw_sh i = .inr (false, n)) : zw_ent E h i = .inl (E.2.2.2.1, n, .inl (h.1 i)) := by
  unfold zw_ent; rw [hs]; rfl
theorem zw_ent_za {E : zw_En} {h : zw_Hp} {i n : Nat} (hs : zw_sh i = .inr (true, n)) : zw_ent E h i = .inl (E.2.2.2.2, n, .inl (h.1 i)) := by
  unfold zw_ent; rw [hs]; rfl
theorem zw_row_same (h : zw_Hp) (i : Nat) (row : Nat → Int32) : (zw_upR h i row).1 i = row := if_pos rfl
theorem zw_fs_set {E : zw_En} {h : zw_Hp} {i k : Nat} {fs : List (Option (Option Nat))} (v : Int32) (hf : fs[k]? = some none) : (fs.mapIdx (fun k f => zw_fv E h i k f)).set k (.int v) = fs.mapIdx (fun k f => zw_fv E (zw_up h i k v) i k f) → True := fun _ => trivial
theorem zw_fs_up {E : zw_En} {h : zw_Hp} {i k : Nat} {fs : List (Option (Option Nat))} (v : Int32) (hf : fs[k]? = some none) : fs.mapIdx (fun k' f => zw_fv E (zw_up h i k v) i k' f) = (fs.mapIdx (fun k' f => zw_fv E h i k' f)).set k (.int v) := by
  apply List.ext_getElem?
  intro j
  have hl : k < (fs.mapIdx (fun k' f => zw_fv E h i k' f)).length := by rw [List.length_mapIdx]; exact (List.getElem?_eq_some_iff.mp hf).1
  by_cases hj : j = k
  · subst hj
    rw [List.getElem?_set_self hl, List.getElem?_mapIdx, hf]
    simp [zw_fv, zw_up, zw_row_same, upd]
  · rw [List.getElem?_set_ne (Ne.symm hj), List.getElem?_mapIdx, List.getElem?_mapIdx]
    cases fs[j]? with
    | none => rfl
    | some f => cases f with
      | none => simp [zw_fv, zw_up, zw_row_same, upd, hj]
      | some f => cases f <;> rfl
theorem zw_fs_upL {E : zw_En} {h : zw_Hp} {i k : Nat} {fs : List (Option (Option Nat))} (v : Int64) (hf : fs[k]? = some (some none)) (h1 : ∀ j, fs[j]? = some (some none) → j = k) : fs.mapIdx (fun k' f => zw_fv E (zw_upL h i v) i k' f) = (fs.mapIdx (fun k' f => zw_fv E h i k' f)).set k (.long v) := by
  apply List.ext_getElem?
  intro j
  have hl : k < (fs.mapIdx (fun k' f => zw_fv E h i k' f)).length := by rw [List.length_mapIdx]; exact (List.getElem?_eq_some_iff.mp hf).1
  by_cases hj : j = k
  · subst hj
    rw [List.getElem?_set_self hl, List.getElem?_mapIdx, hf]
    simp [zw_fv, zw_upL]
  · rw [List.getElem?_set_ne (Ne.symm hj), List.getElem?_mapIdx, List.getElem?_mapIdx]
    cases hfj : fs[j]? with
    | none => rfl
    | some f => cases f with
      | none => rfl
      | some f => cases f with
        | none => exact absurd (h1 j hfj) hj
        | some f => rfl
/-! the tables' words -/
def zw_tb : List Cond := lw_tbl.filter goodWord
theorem zw_tb_in {w : Cond} (h : w ∈ zw_tb) : w ∈ lw_tbl := (List.mem_filter.mp h).1
theorem zm {w : Cond} (i : Nat) (h : lw_tbl[i]? = some w) (hg : goodWord w = true) : w ∈ zw_tb := List.mem_filter.mpr ⟨List.mem_of_getElem? h, hg⟩
theorem zw_good {ws : List Cond} (h : ∀ w ∈ ws, w ∈ zw_tb) : GoodIn zw_tb ws := fun w hw => ⟨h w hw, good_of_word (List.mem_filter.mp (h w hw)).2⟩
/-- the links between nest mates, which no table keeps of itself -/
abbrev zw_Ns : Type := String × Nat × MethodName × String
def zw_nestw (q : zw_Ns) : Cond := .methodLinkNest q.1 q.2.1 q.2.2.1 q.2.2.2
def zw_nest : List zw_Ns := [("BucketChain", 9, ⟨"BucketChain$Text", "<init>", "()V"⟩, "BucketChain"), ("BucketChain", 18, ⟨"BucketChain$Plan", "<init>", "()V"⟩, "BucketChain"), ("BucketChain", 37, ⟨"BucketChain$Acts", "<init>", "()V"⟩, "BucketChain"), ("BucketChain", 57, ⟨"BucketChain$Sightings", "<init>", "()V"⟩, "BucketChain"), ("BucketChain$Search", 59, ⟨"BucketChain", "factorial", "(I)I"⟩, "BucketChain"), ("BucketChain$Forecast", 62, ⟨"BucketChain", "factorial", "(I)I"⟩, "BucketChain")]
def zw_K (E : zw_En) (U : State) : Prop := va_K E.1 vwCl (zw_tys E) U ∧ ∀ q ∈ zw_nest, va_Nw (zw_nestw q) U
theorem zw_K.warm {E : zw_En} {s U : State} (hW : s.WarmedH U.vm) (hK : zw_K E s) : zw_K E U := ⟨va_K.moved hW.alike hK.1, fun q hq => va_Nw.warmM hW (hK.2 q hq)⟩
/-- a class's rows: its number in vwCl -/
def zw_Cl (ci : Nat) (C : String) (T : u_T) (N : Nat) (ty : Nat → FieldType) : Prop := vwCl[ci]? = some (C, T, N) ∧ (∀ w ∈ u_ws C T N, w ∈ zw_tb) ∧ (∀ k, k < N → parseFieldDescriptor (T k).2.2.1 = some (ty k)) ∧ (∀ a, a < N → ∀ b, b < N → a ≠ b → (T a).2.1 ≠ (T b).2.1)
/-- the field k of the class ci, as the entry idx of own's pool names it -/
def zw_Fl (own : String) (idx ci k : Nat) : Prop := ∃ (C : String) (T : u_T) (N : Nat) (ty : Nat → FieldType), zw_Cl ci C T N ty ∧ k < N ∧ Cond.fieldLink own idx (T k).1 (T k).2.1 (T k).2.2.1 ∈ zw_tb
/-- .. and it may be written, its type -/
def zw_Fp (own : String) (idx ci k : Nat) (t : FieldType) : Prop := ∃ (C : String) (T : u_T) (N : Nat) (ty : Nat → FieldType), zw_Cl ci C T N ty ∧ k < N ∧ Cond.fieldLink own idx (T k).1 (T k).2.1 (T k).2.2.1 ∈ zw_tb ∧ (T k).2.2.2 = false ∧ ty k = t
abbrev zw_Mt : Type := MethodName × ByteArray × Nat × Option FieldType × Nat × Nat
def zw_ws0 (mt : zw_Mt) : List Cond := .code mt.1 mt.2.1 mt.2.2.1 mt.2.2.2.1 :: zw_tb
/-- a method's words are in the tables -/
def zw_Mw (mt : zw_Mt) (n : Nat) : Prop := Cond.code mt.1 mt.2.1 mt.2.2.1 mt.2.2.2.1 ∈ zw_tb ∧ Cond.initialized mt.1.cls ∈ zw_tb ∧ (mt.1.cls ≠ "java/lang/invoke/MethodHandle" ∧ mt.1.cls ≠ "java/lang/invoke/VarHandle" ∧ (parseMethodDescriptor mt.1.desc).map (fun d => d.parameters.length) = some n)
def zw_Mv (mt : zw_Mt) (n : Nat) : Prop := zw_Mw mt n ∧ Cond.instanceMethod mt.1 ∈ zw_tb ∧ Cond.selects mt.1.cls mt.1 mt.1 ∈ zw_tb
def zw_Ms (mt : zw_Mt) (n : Nat) : Prop := zw_Mw mt n ∧ Cond.static mt.1 ∈ zw_tb
theorem zw_ws0_in {mt : zw_Mt} {n : Nat} (h : zw_Mw mt n) : ∀ w ∈ zw_ws0 mt, w ∈ zw_tb := fun w hw => (List.mem_cons.mp hw).elim (fun e => e ▸ h.1) id
def zw_rm (mt : zw_Mt) : Room := { frames := mt.2.2.2.2.1, cells := 0, slots := 0, locals := mt.2.2.2.2.2 }
def zw_Pc (E : zw_En) (As : List Value) (h : zw_Hp) : Array Value → State → Prop := fun a U => a = As.toArray ∧ va_P E.1 vwCl (zw_ws E h) U.heap ∧ zw_K E U
def zw_Qc (E : zw_En) (r : Option Value) (h' : zw_Hp) : Array Value → State → Outcome → State → Prop := fun _ st oc t => oc = .returned r ∧ va_P E.1 vwCl (zw_ws E h') t.heap ∧ va_F (zw_A E) st t
/-- A METHOD'S CONTRACT: from the picture h with the arguments As it answers r, and the picture is h' -/
def zw_Ct (l : Launch) (E : zw_En) (mt : zw_Mt) (As : List Value) (h : zw_Hp) (r : Option Value) (h' : zw_Hp) : Prop :=
  Met l mt.1 (zw_ws0 mt) (zw_rm mt) (zw_Pc E As h) (zw_Qc E r h') 0 0 (zw_A E)
def zw_G (p : Program) (E : zw_En) (A : Nat → Prop) (s : State) (m : MethodId) (args : Array Value) (c : Code) (own : String) (cc : ByteArray) (nL : Nat) : Prop :=
  p.tables.exec = Jvm.exec ∧ c.code = cc ∧ c.maxLocals = nL ∧ s.vm.findClass own = some m.cls ∧ (∀ w ∈ zw_tb, w.before args s = true) ∧ zw_K E s ∧ (∀ h, va_D A (zw_ws E h)) ∧ ∀ q, zw_A E q → A q
/-- THE WALK over pictures -/
def zw_W (p : Program) (l : Launch) (e : Env) (R : Room) (s : State) (m : MethodId) (args : Array Value) (below : List Frame) (meth : Method) (c : Code) (cells slots : Nat) (Q : State → Prop) (E : zw_En) (A : Nat → Prop) (nL : Nat) (pc : Nat) (lv : List (Nat × Value)) (st : List Value) (h : zw_Hp) : Prop :=
  ∀ (H : Heap) (locs : List Loc) (ls : Array Slot), lv_has ls nL lv → va_P E.1 vwCl (zw_ws E h) H → va_S A s.heap H locs → W p l e R s m args below meth c H locs cells slots Q (F0 m pc ls st)
section ZW
variable {p : Program} {l : Launch} {e : Env} {R : Room} {s : State} {m : MethodId} {args : Array Value} {below : List Frame} {meth : Method} {c : Code} {cells slots : Nat} {Q : State → Prop} {E : zw_En} {A : Nat → Prop} {own : String} {cc : ByteArray} {nL pc q : Nat} {lv lv' : List (Nat × Value)} {rest : List Value} {h : zw_Hp}
theorem zr_lv (ks : List Nat) (hl : lv_pick lv ks = lv') (k : zw_W p l e R s m args below meth c cells slots Q E A nL pc lv' rest h) : zw_W p l e R s m args below meth c cells slots Q E A nL pc lv rest h :=
  fun H locs ls hs hP hS => k H locs ls (lv_sub hs ks hl) hP hS
theorem zr_nmi {x y : Int32} (e1 : y = x) (k : zw_W p l e R s m args below meth c cells slots Q E A nL pc lv (.int y :: rest) h) : zw_W p l e R s m args below meth c cells slots Q E A nL pc lv (.int x :: rest) h := e1 ▸ k
theorem zr_nml {x y : Int64} (e1 : y = x) (k : zw_W p l e R s m args below meth c cells slots Q E A nL pc lv (.long y :: rest) h) : zw_W p l e R s m args below meth c cells slots Q E A nL pc lv (.long x :: rest) h := e1 ▸ k
theorem zr_iconst (g : zw_G p E A s m args c own cc nL) {n : Int} {v : Int32} (hd : decode cc pc = .ok (.iconst n, 1)) (hp : pc + 1 = q) (hv : Int32.ofInt n = v) (k : zw_W p l e R s m args below meth c cells slots Q E A nL q lv (.int v :: rest) h) : zw_W p l e R s m args below meth c cells slots Q E A nL pc lv rest h := by
  subst hp
  exact fun H locs ls hs hP hS => lv_iconst g.1 g.2.1 hd hv (k H locs ls hs hP hS)
theorem zr_bipush (g : zw_G p E A s m args c own cc nL) {n : Int} {v : Int32} (hd : decode cc pc = .ok (.bipush n, 2)) (hp : pc + 2 = q) (hv : (Int8.ofInt n).toInt32 = v) (k : zw_W p l e R s m args below meth c cells slots Q E A nL q lv (.int v :: rest) h) : zw_W p l e R s m args below meth c cells slots Q E A nL pc lv rest h := by
  subst hp
  exact fun H locs ls hs hP hS => lv_bipush g.1 g.2.1 hd hv (k H locs ls hs hP hS)
theorem zr_sipush (g : zw_G p E A s m args c own cc nL) {n : Int} {v : Int32} (hd : decode cc pc = .ok (.sipush n, 3)) (hp : pc + 3 = q) (hv : (Int16.ofInt n).toInt32 = v) (k : zw_W p l e R s m args below meth c cells slots Q E A nL q lv (.int v :: rest) h) : zw_W p l e R s m args below meth c cells slots Q E A nL pc lv rest h := by
  subst hp
  exact fun H locs ls hs hP hS => lv_sipush g.1 g.2.1 hd hv (k H locs ls hs hP hS)
theorem zr_lconst (g : zw_G p E A s m args c own cc nL) {n : Fin 2} {v : Int64} (hd : decode cc pc = .ok (.lconst n, 1)) (hp : pc + 1 = q) (hv : Int64.ofNat (n : Nat) = v) (k : zw_W p l e R s m args below meth c cells slots Q E A nL q lv (.long v :: rest) h) : zw_W p l e R s m args below meth c cells slots Q E A nL pc lv rest h := by
  subst hp
  exact fun H locs ls hs hP hS => lv_lconst g.1 g.2.1 hd hv (k H locs ls hs hP hS)
theorem zr_ldcw (g : zw_G p E A s m args c own cc nL) {idx : Nat} {v : Int32} (hd : decode cc pc = .ok (.ldc_w idx, 3)) (hp : pc + 3 = q) (hc : Cond.constant own idx v ∈ zw_tb) (k : zw_W p l e R s m args below meth c cells slots Q E A nL q lv (.int v :: rest) h) : zw_W p l e R s m args below meth c cells slots Q E A nL pc lv rest h := by
  subst hp
  exact fun H locs ls hs hP hS => lv_ldcw g.1 g.2.1 g.2.2.2.1 (g.2.2.2.2.1 _ hc) hd (k H locs ls hs hP hS)
theorem zr_ldc2 (g : zw_G p E A s m args c own cc nL) {idx : Nat} {v : Int64} (hd : decode cc pc = .ok (.ldc2_w idx, 3)) (hp : pc + 3 = q) (hc : Cond.constantLong own idx v ∈ zw_tb) (k : zw_W p l e R s m args below meth c cells slots Q E A nL q lv (.long v :: rest) h) : zw_W p l e R s m args below meth c cells slots Q E A nL pc lv rest h := by
  subst hp
  exact fun H locs ls hs hP hS => lv_ldc2 g.1 g.2.1 g.2.2.2.1 (g.2.2.2.2.1 _ hc) hd (k H locs ls hs hP hS)
theorem zr_iload_n (g : zw_G p E A s m args c own cc nL) {kf : Fin 4} {i : Nat} {x : Int32} (pos : Nat) (hd : decode cc pc = .ok (.iload_n kf, 1)) (hp : pc + 1 = q) (hi : (kf : Nat) = i) (hk : lv[pos]? = some (i, .int x)) (k : zw_W p l e R s m args below meth c cells slots Q E A nL q lv (.int x :: rest) h) : zw_W p l e R s m args below meth c cells slots Q E A nL pc lv rest h := by
  subst hp
  exact fun H locs ls hs hP hS => lv_iload_n g.1 g.2.1 hd hi (lv_at hs pos hk) (k H locs ls hs hP hS)
theorem zr_iload (g : zw_G p E A s m args c own cc nL) {i : Nat} {x : Int32} (pos : Nat) (hd : decode cc pc = .ok (.iload i, 2)) (hp : pc + 2 = q) (hk : lv[pos]? = some (i, .int x)) (k : zw_W p l e R s m args below meth c cells slots Q E A nL q lv (.int x :: rest) h) : zw_W p l e R s m args below meth c cells slots Q E A nL pc lv rest h := by
  subst hp
  exact fun H locs ls hs hP hS => lv_iload g.1 g.2.1 hd (lv_at hs pos hk) (k H locs ls hs hP hS)
theorem zr_lload_n (g : zw_G p E A s m args c own cc nL) {kf : Fin 4} {i : Nat} {x : Int64} (pos : Nat) (hd : decode cc pc = .ok (.lload_n kf, 1)) (hp : pc + 1 = q) (hi : (kf : Nat) = i) (hk : lv[pos]? = some (i, .long x)) (k : zw_W p l e R s m args below meth c cells slots Q E A nL q lv (.long x :: rest) h) : zw_W p l e R s m args below meth c cells slots Q E A nL pc lv rest h := by
  subst hp
  exact fun H locs ls hs hP hS => lv_lload_n g.1 g.2.1 hd hi (lv_at hs pos hk) (k H locs ls hs hP hS)
theorem zr_lload (g : zw_G p E A s m args c own cc nL) {i : Nat} {x : Int64} (pos : Nat) (hd : decode cc pc = .ok (.lload i, 2)) (hp : pc + 2 = q) (hk : lv[pos]? = some (i, .long x)) (k : zw_W p l e R s m args below meth c cells slots Q E A nL q lv (.long x :: rest) h) : zw_W p l e R s m args below meth c cells slots Q E A nL pc lv rest h := by
  subst hp
  exact fun H locs ls hs hP hS => lv_lload g.1 g.2.1 hd (lv_at hs pos hk) (k H locs ls hs hP hS)
theorem zr_aload_n (g : zw_G p E A s m args c own cc nL) {kf : Fin 4} {i : Nat} {x : Nat} (pos : Nat) (hd : decode cc pc = .ok (.aload_n kf, 1)) (hp : pc + 1 = q) (hi : (kf : Nat) = i) (hk : lv[pos]? = some (i, .ref x)) (k : zw_W p l e R s m args below meth c cells slots Q E A nL q lv (.ref x :: rest) h) : zw_W p l e R s m args below meth c cells slots Q E A nL pc lv rest h := by
  subst hp
  exact fun H locs ls hs hP hS => lv_aload_n g.1 g.2.1 hd hi (lv_at hs pos hk) (k H locs ls hs hP hS)
theorem zr_aload (g : zw_G p E A s m args c own cc nL) {i : Nat} {x : Nat} (pos : Nat) (hd : decode cc pc = .ok (.aload i, 2)) (hp : pc + 2 = q) (hk : lv[pos]? = some (i, .ref x)) (k : zw_W p l e R s m args below meth c cells slots Q E A nL q lv (.ref x :: rest) h) : zw_W p l e R s m args below meth c cells slots Q E A nL pc lv rest h := by
  subst hp
  exact fun H locs ls hs hP hS => lv_aload g.1 g.2.1 hd (lv_at hs pos hk) (k H locs ls hs hP hS)
theorem zr_istore_n (g : zw_G p E A s m args c own cc nL) {kf : Fin 4} {i : Nat} {x : Int32} (hd : decode cc pc = .ok (.istore_n kf, 1)) (hp : pc + 1 = q) (hi : (kf : Nat) = i) (hn : i < nL) (hl : (i, Value.int x) :: lv.filter (fun q => !(q.1 == i) && !(q.1 + 1 == i && q.2.category == 2)) = lv') (k : zw_W p l e R s m args below meth c cells slots Q E A nL q lv' rest h) : zw_W p l e R s m args below meth c cells slots Q E A nL pc lv (.int x :: rest) h := by
  subst hp
  exact fun H locs ls hs hP hS => lv_istore_n g.1 g.2.1 hd hi hs hn hl (fun ls' hs' => k H locs ls' hs' hP hS)
theorem zr_istore (g : zw_G p E A s m args c own cc nL) {i : Nat} {x : Int32} (hd : decode cc pc = .ok (.istore i, 2)) (hp : pc + 2 = q) (hn : i < nL) (hl : (i, Value.int x) :: lv.filter (fun q => !(q.1 == i) && !(q.1 + 1 == i && q.2.category == 2)) = lv') (k : zw_W p l e R s m args below meth c cells slots Q E A nL q lv' rest h) : zw_W p l e R s m args below meth c cells slots Q E A nL pc lv (.int x :: rest) h := by
  subst hp
  exact fun H locs ls hs hP hS => lv_istore g.1 g.2.1 hd hs hn hl (fun ls' hs' => k H locs ls' hs' hP hS)
theorem zr_lstore_n (g : zw_G p E A s m args c own cc nL) {kf : Fin 4} {i : Nat} {x : Int64} (hd : decode cc pc = .ok (.lstore_n kf, 1)) (hp : pc + 1 = q) (hi : (kf : Nat) = i) (hn : i + 1 < nL) (hl : (i, Value.long x) :: lv.filter (fun q => !(q.1 == i) && (!(q.1 == i + 1) && !(q.1 + 1 == i && q.2.category == 2))) = lv') (k : zw_W p l e R s m args below meth c cells slots Q E A nL q lv' rest h) : zw_W p l e R s m args below meth c cells slots Q E A nL pc lv (.long x :: rest) h := by
  subst hp
  exact fun H locs ls hs hP hS => lv_lstore_n g.1 g.2.1 hd hi hs hn hl (fun ls' hs' => k H locs ls' hs' hP hS)
theorem zr_lstore (g : zw_G p E A s m args c own cc nL) {i : Nat} {x : Int64} (hd : decode cc pc = .ok (.lstore i, 2)) (hp : pc + 2 = q) (hn : i + 1 < nL) (hl : (i, Value.long x) :: lv.filter (fun q => !(q.1 == i) && (!(q.1 == i + 1) && !(q.1 + 1 == i && q.2.category == 2))) = lv') (k : zw_W p l e R s m args below meth c cells slots Q E A nL q lv' rest h) : zw_W p l e R s m args below meth c cells slots Q E A nL pc lv (.long x :: rest) h := by
  subst hp
  exact fun H locs ls hs hP hS => lv_lstore g.1 g.2.1 hd hs hn hl (fun ls' hs' => k H locs ls' hs' hP hS)
theorem zr_iinc (g : zw_G p E A s m args c own cc nL) {i : Nat} {n : Int} {x v : Int32} (pos : Nat) (hd : decode cc pc = .ok (.iinc i n, 3)) (hp : pc + 3 = q) (hk : lv[pos]? = some (i, .int x)) (hv : x + Int32.ofInt n = v) (hn : i < nL) (hl : (i, Value.int v) :: lv.filter (fun q => !(q.1 == i) && !(q.1 + 1 == i && q.2.category == 2)) = lv') (k : zw_W p l e R s m args below meth c cells slots Q E A nL q lv' rest h) : zw_W p l e R s m args below meth c cells slots Q E A nL pc lv rest h := by
  subst hp
  exact fun H locs ls hs hP hS => lv_iinc g.1 g.2.1 hd hs hk hv hn hl (fun ls' hs' => k H locs ls' hs' hP hS)
theorem zr_iadd (g : zw_G p E A s m args c own cc nL) {x y : Int32} (hd : decode cc pc = .ok (.iadd, 1)) (hp : pc + 1 = q) (k : zw_W p l e R s m args below meth c cells slots Q E A nL q lv (.int (x + y) :: rest) h) : zw_W p l e R s m args below meth c cells slots Q E A nL pc lv (.int y :: .int x :: rest) h := by
  subst hp
  exact fun H locs ls hs hP hS => lv_iadd g.1 g.2.1 hd (k H locs ls hs hP hS)
theorem zr_isub (g : zw_G p E A s m args c own cc nL) {x y : Int32} (hd : decode cc pc = .ok (.isub, 1)) (hp : pc + 1 = q) (k : zw_W p l e R s m args below meth c cells slots Q E A nL q lv (.int (x - y) :: rest) h) : zw_W p l e R s m args below meth c cells slots Q E A nL pc lv (.int y :: .int x :: rest) h := by
  subst hp
  exact fun H locs ls hs hP hS => lv_isub g.1 g.2.1 hd (k H locs ls hs hP hS)
theorem zr_imul (g : zw_G p E A s m args c own cc nL) {x y : Int32} (hd : decode cc pc = .ok (.imul, 1)) (hp : pc + 1 = q) (k : zw_W p l e R s m args below meth c cells slots Q E A nL q lv (.int (x * y) :: rest) h) : zw_W p l e R s m args below meth c cells slots Q E A nL pc lv (.int y :: .int x :: rest) h := by
  subst hp
  exact fun H locs ls hs hP hS => lv_imul g.1 g.2.1 hd (k H locs ls hs hP hS)
theorem zr_iand (g : zw_G p E A s m args c own cc nL) {x y : Int32} (hd : decode cc pc = .ok (.iand, 1)) (hp : pc + 1 = q) (k : zw_W p l e R s m args below meth c cells slots Q E A nL q lv (.int (x &&& y) :: rest) h) : zw_W p l e R s m args below meth c cells slots Q E A nL pc lv (.int y :: .int x :: rest) h := by
  subst hp
  exact fun H locs ls hs hP hS => lv_iand g.1 g.2.1 hd (k H locs ls hs hP hS)
theorem zr_ior (g : zw_G p E A s m args c own cc nL) {x y : Int32} (hd : decode cc pc = .ok (.ior, 1)) (hp : pc + 1 = q) (k : zw_W p l e R s m args below meth c cells slots Q E A nL q lv (.int (x ||| y) :: rest) h) : zw_W p l e R s m args below meth c cells slots Q E A nL pc lv (.int y :: .int x :: rest) h := by
  subst hp
  exact fun H locs ls hs hP hS => lv_ior g.1 g.2.1 hd (k H locs ls hs hP hS)
theorem zr_ixor (g : zw_G p E A s m args c own cc nL) {x y : Int32} (hd : decode cc pc = .ok (.ixor, 1)) (hp : pc + 1 = q) (k : zw_W p l e R s m args below meth c cells slots Q E A nL q lv (.int (x ^^^ y) :: rest) h) : zw_W p l e R s m args below meth c cells slots Q E A nL pc lv (.int y :: .int x :: rest) h := by
  subst hp
  exact fun H locs ls hs hP hS => lv_ixor g.1 g.2.1 hd (k H locs ls hs hP hS)
theorem zr_ishl (g : zw_G p E A s m args c own cc nL) {x y : Int32} (hd : decode cc pc = .ok (.ishl, 1)) (hp : pc + 1 = q) (k : zw_W p l e R s m args below meth c cells slots Q E A nL q lv (.int (x <<< (y &&& 31)) :: rest) h) : zw_W p l e R s m args below meth c cells slots Q E A nL pc lv (.int y :: .int x :: rest) h := by
  subst hp
  exact fun H locs ls hs hP hS => lv_ishl g.1 g.2.1 hd (k H locs ls hs hP hS)
theorem zr_ishr (g : zw_G p E A s m args c own cc nL) {x y : Int32} (hd : decode cc pc = .ok (.ishr, 1)) (hp : pc + 1 = q) (k : zw_W p l e R s m args below meth c cells slots Q E A nL q lv (.int (x >>> (y &&& 31)) :: rest) h) : zw_W p l e R s m args below meth c cells slots Q E A nL pc lv (.int y :: .int x :: rest) h := by
  subst hp
  exact fun H locs ls hs hP hS => lv_ishr g.1 g.2.1 hd (k H locs ls hs hP hS)
theorem zr_iushr (g : zw_G p E A s m args c own cc nL) {x y : Int32} (hd : decode cc pc = .ok (.iushr, 1)) (hp : pc + 1 = q) (k : zw_W p l e R s m args below meth c cells slots Q E A nL q lv (.int ((x.toUInt32 >>> (y.toUInt32 &&& Int32.toUInt32 31)).toInt32) :: rest) h) : zw_W p l e R s m args below meth c cells slots Q E A nL pc lv (.int y :: .int x :: rest) h := by
  subst hp
  exact fun H locs ls hs hP hS => lv_iushr g.1 g.2.1 hd rfl (k H locs ls hs hP hS)
theorem zr_ineg (g : zw_G p E A s m args c own cc nL) {x : Int32} (hd : decode cc pc = .ok (.ineg, 1)) (hp : pc + 1 = q) (k : zw_W p l e R s m args below meth c cells slots Q E A nL q lv (.int (-x) :: rest) h) : zw_W p l e R s m args below meth c cells slots Q E A nL pc lv (.int x :: rest) h := by
  subst hp
  exact fun H locs ls hs hP hS => lv_ineg g.1 g.2.1 hd (k H locs ls hs hP hS)
theorem zr_idiv (g : zw_G p E A s m args c own cc nL) {x y : Int32} (hd : decode cc pc = .ok (.idiv, 1)) (hp : pc + 1 = q) (hne : ¬ y = 0) (k : zw_W p l e R s m args below meth c cells slots Q E A nL q lv (.int (x / y) :: rest) h) : zw_W p l e R s m args below meth c cells slots Q E A nL pc lv (.int y :: .int x :: rest) h := by
  subst hp
  exact fun H locs ls hs hP hS => lv_idiv g.1 g.2.1 hd hne (k H locs ls hs hP hS)
theorem zr_irem (g : zw_G p E A s m args c own cc nL) {x y : Int32} (hd : decode cc pc = .ok (.irem, 1)) (hp : pc + 1 = q) (hne : ¬ y = 0) (k : zw_W p l e R s m args below meth c cells slots Q E A nL q lv (.int (x - x / y * y) :: rest) h) : zw_W p l e R s m args below meth c cells slots Q E A nL pc lv (.int y :: .int x :: rest) h := by
  subst hp
  exact fun H locs ls hs hP hS => lv_irem g.1 g.2.1 hd hne (k H locs ls hs hP hS)
theorem zr_ladd (g : zw_G p E A s m args c own cc nL) {x y : Int64} (hd : decode cc pc = .ok (.ladd, 1)) (hp : pc + 1 = q) (k : zw_W p l e R s m args below meth c cells slots Q E A nL q lv (.long (x + y) :: rest) h) : zw_W p l e R s m args below meth c cells slots Q E A nL pc lv (.long y :: .long x :: rest) h := by
  subst hp
  exact fun H locs ls hs hP hS => lv_ladd g.1 g.2.1 hd (k H locs ls hs hP hS)
theorem zr_lsub (g : zw_G p E A s m args c own cc nL) {x y : Int64} (hd : decode cc pc = .ok (.lsub, 1)) (hp : pc + 1 = q) (k : zw_W p l e R s m args below meth c cells slots Q E A nL q lv (.long (x - y) :: rest) h) : zw_W p l e R s m args below meth c cells slots Q E A nL pc lv (.long y :: .long x :: rest) h := by
  subst hp
  exact fun H locs ls hs hP hS => lv_lsub g.1 g.2.1 hd (k H locs ls hs hP hS)
theorem zr_lmul (g : zw_G p E A s m args c own cc nL) {x y : Int64} (hd : decode cc pc = .ok (.lmul, 1)) (hp : pc + 1 = q) (k : zw_W p l e R s m args below meth c cells slots Q E A nL q lv (.long (x * y) :: rest) h) : zw_W p l e R s m args below meth c cells slots Q E A nL pc lv (.long y :: .long x :: rest) h := by
  subst hp
  exact fun H locs ls hs hP hS => lv_lmul g.1 g.2.1 hd (k H locs ls hs hP hS)
theorem zr_land (g : zw_G p E A s m args c own cc nL) {x y : Int64} (hd : decode cc pc = .ok (.land, 1)) (hp : pc + 1 = q) (k : zw_W p l e R s m args below meth c cells slots Q E A nL q lv (.long (x &&& y) :: rest) h) : zw_W p l e R s m args below meth c cells slots Q E A nL pc lv (.long y :: .long x :: rest) h := by
  subst hp
  exact fun H locs ls hs hP hS => lv_land g.1 g.2.1 hd (k H locs ls hs hP hS)
theorem zr_lor (g : zw_G p E A s m args c own cc nL) {x y : Int64} (hd : decode cc pc = .ok (.lor, 1)) (hp : pc + 1 = q) (k : zw_W p l e R s m args below meth c cells slots Q E A nL q lv (.long (x ||| y) :: rest) h) : zw_W p l e R s m args below meth c cells slots Q E A nL pc lv (.long y :: .long x :: rest) h := by
  subst hp
  exact fun H locs ls hs hP hS => lv_lor g.1 g.2.1 hd (k H locs ls hs hP hS)
theorem zr_ldiv (g : zw_G p E A s m args c own cc nL) {x y : Int64} (hd : decode cc pc = .ok (.ldiv, 1)) (hp : pc + 1 = q) (hne : ¬ y = 0) (k : zw_W p l e R s m args below meth c cells slots Q E A nL q lv (.long (x / y) :: rest) h) : zw_W p l e R s m args below meth c cells slots Q E A nL pc lv (.long y :: .long x :: rest) h := by
  subst hp
  exact fun H locs ls hs hP hS => lv_ldiv g.1 g.2.1 hd hne (k H locs ls hs hP hS)
theorem zr_lrem (g : zw_G p E A s m args c own cc nL) {x y : Int64} (hd : decode cc pc = .ok (.lrem, 1)) (hp : pc + 1 = q) (hne : ¬ y = 0) (k : zw_W p l e R s m args below meth c cells slots Q E A nL q lv (.long (x - x / y * y) :: rest) h) : zw_W p l e R s m args below meth c cells slots Q E A nL pc lv (.long y :: .long x :: rest) h := by
  subst hp
  exact fun H locs ls hs hP hS => lv_lrem g.1 g.2.1 hd hne (k H locs ls hs hP hS)
theorem zr_lshl (g : zw_G p E A s m args c own cc nL) {x : Int64} {y : Int32} (hd : decode cc pc = .ok (.lshl, 1)) (hp : pc + 1 = q) (k : zw_W p l e R s m args below meth c cells slots Q E A nL q lv (.long (x <<< (y.toInt64 &&& 63)) :: rest) h) : zw_W p l e R s m args below meth c cells slots Q E A nL pc lv (.int y :: .long x :: rest) h := by
  subst hp
  exact fun H locs ls hs hP hS => lv_lshl g.1 g.2.1 hd rfl (k H locs ls hs hP hS)
theorem zr_lushr (g : zw_G p E A s m args c own cc nL) {x : Int64} {y : Int32} (hd : decode cc pc = .ok (.lushr, 1)) (hp : pc + 1 = q) (k : zw_W p l e R s m args below meth c cells slots Q E A nL q lv (.long ((x.toUInt64 >>> (y.toInt64.toUInt64 &&& Int64.toUInt64 63)).toInt64) :: rest) h) : zw_W p l e R s m args below meth c cells slots Q E A nL pc lv (.int y :: .long x :: rest) h := by
  subst hp
  exact fun H locs ls hs hP hS => lv_lushr g.1 g.2.1 hd rfl (k H locs ls hs hP hS)
theorem zr_i2l (g : zw_G p E A s m args c own cc nL) {x : Int32} (hd : decode cc pc = .ok (.i2l, 1)) (hp : pc + 1 = q) (k : zw_W p l e R s m args below meth c cells slots Q E A nL q lv (.long x.toInt64 :: rest) h) : zw_W p l e R s m args below meth c cells slots Q E A nL pc lv (.int x :: rest) h := by
  subst hp
  exact fun H locs ls hs hP hS => lv_i2l g.1 g.2.1 hd rfl (k H locs ls hs hP hS)
theorem zr_l2i (g : zw_G p E A s m args c own cc nL) {x : Int64} (hd : decode cc pc = .ok (.l2i, 1)) (hp : pc + 1 = q) (k : zw_W p l e R s m args below meth c cells slots Q E A nL q lv (.int x.toInt32 :: rest) h) : zw_W p l e R s m args below meth c cells slots Q E A nL pc lv (.long x :: rest) h := by
  subst hp
  exact fun H locs ls hs hP hS => lv_l2i g.1 g.2.1 hd rfl (k H locs ls hs hP hS)
theorem zr_lcmp (g : zw_G p E A s m args c own cc nL) {x y : Int64} (hd : decode cc pc = .ok (.lcmp, 1)) (hp : pc + 1 = q) (k : zw_W p l e R s m args below meth c cells slots Q E A nL q lv (.int (lg_cmp x y) :: rest) h) : zw_W p l e R s m args below meth c cells slots Q E A nL pc lv (.long y :: .long x :: rest) h := by
  subst hp
  exact fun H locs ls hs hP hS => W.lcmp g.1 g.2.1 hd (k H locs ls hs hP hS)
theorem zr_dup (g : zw_G p E A s m args c own cc nL) {va : Value} (hd : decode cc pc = .ok (.dup, 1)) (hp : pc + 1 = q) (hva : va.category = 1) (k : zw_W p l e R s m args below meth c cells slots Q E A nL q lv (va :: va :: rest) h) : zw_W p l e R s m args below meth c cells slots Q E A nL pc lv (va :: rest) h := by
  subst hp
  exact fun H locs ls hs hP hS => lv_dup g.1 g.2.1 hd hva (k H locs ls hs hP hS)
theorem zr_pop (g : zw_G p E A s m args c own cc nL) {va : Value} (hd : decode cc pc = .ok (.pop, 1)) (hp : pc + 1 = q) (hva : va.category = 1) (k : zw_W p l e R s m args below meth c cells slots Q E A nL q lv rest h) : zw_W p l e R s m args below meth c cells slots Q E A nL pc lv (va :: rest) h := by
  subst hp
  exact fun H locs ls hs hP hS => lv_pop g.1 g.2.1 hd hva (k H locs ls hs hP hS)
theorem zr_dup2 (g : zw_G p E A s m args c own cc nL) {va vb : Value} (hd : decode cc pc = .ok (.dup2, 1)) (hp : pc + 1 = q) (hva : va.category = 1) (hvb : vb.category = 1) (k : zw_W p l e R s m args below meth c cells slots Q E A nL q lv (va :: vb :: va :: vb :: rest) h) : zw_W p l e R s m args below meth c cells slots Q E A nL pc lv (va :: vb :: rest) h := by
  subst hp
  exact fun H locs ls hs hP hS => lv_dup2_11 g.1 g.2.1 hd hva hvb (k H locs ls hs hP hS)
theorem zr_if_eq (g : zw_G p E A s m args c own cc nL) {x : Int32} {off : Int} {tgt : Nat} (hd : decode cc pc = .ok (.ifCond .eq off, 3)) (ht : (pc : Int) + off = (tgt : Int)) (hp : pc + 3 = q) (kt : x = 0 → zw_W p l e R s m args below meth c cells slots Q E A nL tgt lv rest h) (kf : ¬ x = 0 → zw_W p l e R s m args below meth c cells slots Q E A nL q lv rest h) : zw_W p l e R s m args below meth c cells slots Q E A nL pc lv (.int x :: rest) h := by
  subst hp
  exact fun H locs ls hs hP hS => lv_if_eq g.1 g.2.1 hd ht (fun z => kt z H locs ls hs hP hS) (fun z => kf z H locs ls hs hP hS)
theorem zr_if_ne (g : zw_G p E A s m args c own cc nL) {x : Int32} {off : Int} {tgt : Nat} (hd : decode cc pc = .ok (.ifCond .ne off, 3)) (ht : (pc : Int) + off = (tgt : Int)) (hp : pc + 3 = q) (kt : ¬ x = 0 → zw_W p l e R s m args below meth c cells slots Q E A nL tgt lv rest h) (kf : x = 0 → zw_W p l e R s m args below meth c cells slots Q E A nL q lv rest h) : zw_W p l e R s m args below meth c cells slots Q E A nL pc lv (.int x :: rest) h := by
  subst hp
  exact fun H locs ls hs hP hS => lv_if_ne g.1 g.2.1 hd ht (fun z => kt z H locs ls hs hP hS) (fun z => kf z H locs ls hs hP hS)
theorem zr_if_lt (g : zw_G p E A s m args c own cc nL) {x : Int32} {off : Int} {tgt : Nat} (hd : decode cc pc = .ok (.ifCond .lt off, 3)) (ht : (pc : Int) + off = (tgt : Int)) (hp : pc + 3 = q) (kt : x < 0 → zw_W p l e R s m args below meth c cells slots Q E A nL tgt lv rest h) (kf : ¬ x < 0 → zw_W p l e R s m args below meth c cells slots Q E A nL q lv rest h) : zw_W p l e R s m args below meth c cells slots Q E A nL pc lv (.int x :: rest) h := by
  subst hp
  exact fun H locs ls hs hP hS => lv_if_lt g.1 g.2.1 hd ht (fun z => kt z H locs ls hs hP hS) (fun z => kf z H locs ls hs hP hS)
theorem zr_if_ge (g : zw_G p E A s m args c own cc nL) {x : Int32} {off : Int} {tgt : Nat} (hd : decode cc pc = .ok (.ifCond .ge off, 3)) (ht : (pc : Int) + off = (tgt : Int)) (hp : pc + 3 = q) (kt : 0 ≤ x → zw_W p l e R s m args below meth c cells slots Q E A nL tgt lv rest h) (kf : ¬ 0 ≤ x → zw_W p l e R s m args below meth c cells slots Q E A nL q lv rest h) : zw_W p l e R s m args below meth c cells slots Q E A nL pc lv (.int x :: rest) h := by
  subst hp
  exact fun H locs ls hs hP hS => lv_if_ge g.1 g.2.1 hd ht (fun z => kt z H locs ls hs hP hS) (fun z => kf z H locs ls hs hP hS)
theorem zr_if_gt (g : zw_G p E A s m args c own cc nL) {x : Int32} {off : Int} {tgt : Nat} (hd : decode cc pc = .ok (.ifCond .gt off, 3)) (ht : (pc : Int) + off = (tgt : Int)) (hp : pc + 3 = q) (kt : 0 < x → zw_W p l e R s m args below meth c cells slots Q E A nL tgt lv rest h) (kf : ¬ 0 < x → zw_W p l e R s m args below meth c cells slots Q E A nL q lv rest h) : zw_W p l e R s m args below meth c cells slots Q E A nL pc lv (.int x :: rest) h := by
  subst hp
  exact fun H locs ls hs hP hS => lv_if_gt g.1 g.2.1 hd ht (fun z => kt z H locs ls hs hP hS) (fun z => kf z H locs ls hs hP hS)
theorem zr_if_le (g : zw_G p E A s m args c own cc nL) {x : Int32} {off : Int} {tgt : Nat} (hd : decode cc pc = .ok (.ifCond .le off, 3)) (ht : (pc : Int) + off = (tgt : Int)) (hp : pc + 3 = q) (kt : x ≤ 0 → zw_W p l e R s m args below meth c cells slots Q E A nL tgt lv rest h) (kf : ¬ x ≤ 0 → zw_W p l e R s m args below meth c cells slots Q E A nL q lv rest h) : zw_W p l e R s m args below meth c cells slots Q E A nL pc lv (.int x :: rest) h := by
  subst hp
  exact fun H locs ls hs hP hS => lv_if_le g.1 g.2.1 hd ht (fun z => kt z H locs ls hs hP hS) (fun z => kf z H locs ls hs hP hS)
theorem zr_icmp_eq (g : zw_G p E A s m args c own cc nL) {x y : Int32} {off : Int} {tgt : Nat} (hd : decode cc pc = .ok (.if_icmp .eq off, 3)) (ht : (pc : Int) + off = (tgt : Int)) (hp : pc + 3 = q) (kt : x = y → zw_W p l e R s m args below meth c cells slots Q E A nL tgt lv rest h) (kf : ¬ x = y → zw_W p l e R s m args below meth c cells slots Q E A nL q lv rest h) : zw_W p l e R s m args below meth c cells slots Q E A nL pc lv (.int y :: .int x :: rest) h := by
  subst hp
  exact fun H locs ls hs hP hS => lv_icmp_eq g.1 g.2.1 hd ht (fun z => kt z H locs ls hs hP hS) (fun z => kf z H locs ls hs hP hS)
theorem zr_icmp_ne (g : zw_G p E A s m args c own cc nL) {x y : Int32} {off : Int} {tgt : Nat} (hd : decode cc pc = .ok (.if_icmp .ne off, 3)) (ht : (pc : Int) + off = (tgt : Int)) (hp : pc + 3 = q) (kt : ¬ x = y → zw_W p l e R s m args below meth c cells slots Q E A nL tgt lv rest h) (kf : x = y → zw_W p l e R s m args below meth c cells slots Q E A nL q lv rest h) : zw_W p l e R s m args below meth c cells slots Q E A nL pc lv (.int y :: .int x :: rest) h := by
  subst hp
  exact fun H locs ls hs hP hS => lv_icmp_ne g.1 g.2.1 hd ht (fun z => kt z H locs ls hs hP hS) (fun z => kf z H locs ls hs hP hS)
theorem zr_icmp_lt (g : zw_G p E A s m args c own cc nL) {x y : Int32} {off : Int} {tgt : Nat} (hd : decode cc pc = .ok (.if_icmp .lt off, 3)) (ht : (pc : Int) + off = (tgt : Int)) (hp : pc + 3 = q) (kt : x < y → zw_W p l e R s m args below meth c cells slots Q E A nL tgt lv rest h) (kf : ¬ x < y → zw_W p l e R s m args below meth c cells slots Q E A nL q lv rest h) : zw_W p l e R s m args below meth c cells slots Q E A nL pc lv (.int y :: .int x :: rest) h := by
  subst hp
  exact fun H locs ls hs hP hS => lv_icmp_lt g.1 g.2.1 hd ht (fun z => kt z H locs ls hs hP hS) (fun z => kf z H locs ls hs hP hS)
theorem zr_icmp_ge (g : zw_G p E A s m args c own cc nL) {x y : Int32} {off : Int} {tgt : Nat} (hd : decode cc pc = .ok (.if_icmp .ge off, 3)) (ht : (pc : Int) + off = (tgt : Int)) (hp : pc + 3 = q) (kt : y ≤ x → zw_W p l e R s m args below meth c cells slots Q E A nL tgt lv rest h) (kf : ¬ y ≤ x → zw_W p l e R s m args below meth c cells slots Q E A nL q lv rest h) : zw_W p l e R s m args below meth c cells slots Q E A nL pc lv (.int y :: .int x :: rest) h := by
  subst hp
  exact fun H locs ls hs hP hS => lv_icmp_ge g.1 g.2.1 hd ht (fun z => kt z H locs ls hs hP hS) (fun z => kf z H locs ls hs hP hS)
theorem zr_icmp_gt (g : zw_G p E A s m args c own cc nL) {x y : Int32} {off : Int} {tgt : Nat} (hd : decode cc pc = .ok (.if_icmp .gt off, 3)) (ht : (pc : Int) + off = (tgt : Int)) (hp : pc + 3 = q) (kt : y < x → zw_W p l e R s m args below meth c cells slots Q E A nL tgt lv rest h) (kf : ¬ y < x → zw_W p l e R s m args below meth c cells slots Q E A nL q lv rest h) : zw_W p l e R s m args below meth c cells slots Q E A nL pc lv (.int y :: .int x :: rest) h := by
  subst hp
  exact fun H locs ls hs hP hS => lv_icmp_gt g.1 g.2.1 hd ht (fun z => kt z H locs ls hs hP hS) (fun z => kf z H locs ls hs hP hS)
theorem zr_icmp_le (g : zw_G p E A s m args c own cc nL) {x y : Int32} {off : Int} {tgt : Nat} (hd : decode cc pc = .ok (.if_icmp .le off, 3)) (ht : (pc : Int) + off = (tgt : Int)) (hp : pc + 3 = q) (kt : x ≤ y → zw_W p l e R s m args below meth c cells slots Q E A nL tgt lv rest h) (kf : ¬ x ≤ y → zw_W p l e R s m args below meth c cells slots Q E A nL q lv rest h) : zw_W p l e R s m args below meth c cells slots Q E A nL pc lv (.int y :: .int x :: rest) h := by
  subst hp
  exact fun H locs ls hs hP hS => lv_icmp_le g.1 g.2.1 hd ht (fun z => kt z H locs ls hs hP hS) (fun z => kf z H locs ls hs hP hS)
theorem zr_goto (g : zw_G p E A s m args c own cc nL) {off : Int} {tgt : Nat} (hd : decode cc pc = .ok (.goto off, 3)) (ht : (pc : Int) + off = (tgt : Int)) (k : zw_W p l e R s m args below meth c cells slots Q E A nL tgt lv rest h) : zw_W p l e R s m args below meth c cells slots Q E A nL pc lv rest h :=
  fun H locs ls hs hP hS => lv_goto g.1 g.2.1 hd ht (k H locs ls hs hP hS)
theorem zr_tabIn (g : zw_G p E A s m args c own cc nL) {dflt lo hi : Int} {offs : Array Int} {len : Nat} {x y : Int32} {off : Int} {tgt : Nat} (hd : decode cc pc = .ok (.tableswitch dflt lo hi offs, len)) (hx : x = y) (hy : ¬ y.toInt < lo ∧ ¬ hi < y.toInt ∧ offs[(y.toInt - lo).toNat]? = some off) (ht : (pc : Int) + off = (tgt : Int)) (k : zw_W p l e R s m args below meth c cells slots Q E A nL tgt lv rest h) : zw_W p l e R s m args below meth c cells slots Q E A nL pc lv (.int x :: rest) h := by
  subst hx
  exact fun H locs ls hs hP hS => lv_tableIn g.1 g.2.1 hd hy.1 hy.2.1 hy.2.2 ht (k H locs ls hs hP hS)
theorem zr_tabOut (g : zw_G p E A s m args c own cc nL) {dflt lo hi : Int} {offs : Array Int} {len : Nat} {x : Int32} {tgt : Nat} (hd : decode cc pc = .ok (.tableswitch dflt lo hi offs, len)) (hx : x.toInt < lo ∨ hi < x.toInt) (ht : (pc : Int) + dflt = (tgt : Int)) (k : zw_W p l e R s m args below meth c cells slots Q E A nL tgt lv rest h) : zw_W p l e R s m args below meth c cells slots Q E A nL pc lv (.int x :: rest) h :=
  fun H locs ls hs hP hS => lv_tableOut g.1 g.2.1 hd hx ht (k H locs ls hs hP hS)
theorem zr_look (g : zw_G p E A s m args c own cc nL) {dflt : Int} {ps : Array (Int × Int)} {len : Nat} {x : Int32} {off : Int} {tgt : Nat} (hd : decode cc pc = .ok (.lookupswitch dflt ps, len)) (hps : (ps.toList.zip (ps.toList.drop 1)).all (fun (a, next) => a.1 < next.1) = true) (ho : Op.lookupswitch.offset ps.toList dflt x.toInt = off) (ht : (pc : Int) + off = (tgt : Int)) (k : zw_W p l e R s m args below meth c cells slots Q E A nL tgt lv rest h) : zw_W p l e R s m args below meth c cells slots Q E A nL pc lv (.int x :: rest) h :=
  fun H locs ls hs hP hS => lv_lookup g.1 g.2.1 hd hps ho ht (k H locs ls hs hP hS)
theorem zr_geti (g : zw_G p E A s m args c own cc nL) {idx i ci k0 : Nat} {fs : List (Option (Option Nat))} (hi : i ∈ E.2.2.1) (hsh : zw_sh i = .inl (ci, fs)) (hfk : fs[k0]? = some none) (hF : zw_Fl own idx ci k0) (hd : decode cc pc = .ok (.getfield idx, 3)) (hp : pc + 3 = q) (k : zw_W p l e R s m args below meth c cells slots Q E A nL q lv (.int (h.1 i k0) :: rest) h) : zw_W p l e R s m args below meth c cells slots Q E A nL pc lv (.ref (E.2.1 i) :: rest) h := by
  subst hp
  intro H locs ls hs hP hS
  obtain ⟨C, T, N, ty, ⟨hc, hw, hty, hnm⟩, hk, hl⟩ := hF
  obtain ⟨q0, hq0⟩ := List.getElem?_of_mem hi
  refine va_get (v := .int (h.1 i k0)) (fs := fs.mapIdx (fun k f => zw_fv E h i k f)) g.1 g.2.1 g.2.2.2.2.1 hw g.2.2.2.1 g.2.2.2.2.2.1.1 hP q0 (by rw [zw_ws_at hq0, zw_ent_ob hsh]) hc k0 hk (g.2.2.2.2.1 _ hl) (fun _ h9 => h9) (by rw [List.getElem?_mapIdx, hfk]; rfl) hd (k H locs ls hs hP hS)
theorem zr_getl (g : zw_G p E A s m args c own cc nL) {idx i ci k0 : Nat} {fs : List (Option (Option Nat))} (hi : i ∈ E.2.2.1) (hsh : zw_sh i = .inl (ci, fs)) (hfk : fs[k0]? = some (some none)) (hF : zw_Fl own idx ci k0) (hd : decode cc pc = .ok (.getfield idx, 3)) (hp : pc + 3 = q) (k : zw_W p l e R s m args below meth c cells slots Q E A nL q lv (.long (h.2 i) :: rest) h) : zw_W p l e R s m args below meth c cells slots Q E A nL pc lv (.ref (E.2.1 i) :: rest) h := by
  subst hp
  intro H locs ls hs hP hS
  obtain ⟨C, T, N, ty, ⟨hc, hw, hty, hnm⟩, hk, hl⟩ := hF
  obtain ⟨q0, hq0⟩ := List.getElem?_of_mem hi
  refine va_get (v := .long (h.2 i)) (fs := fs.mapIdx (fun k f => zw_fv E h i k f)) g.1 g.2.1 g.2.2.2.2.1 hw g.2.2.2.1 g.2.2.2.2.2.1.1 hP q0 (by rw [zw_ws_at hq0, zw_ent_ob hsh]) hc k0 hk (g.2.2.2.2.1 _ hl) (fun _ h9 => h9) (by rw [List.getElem?_mapIdx, hfk]; rfl) hd (k H locs ls hs hP hS)
theorem zr_getr (g : zw_G p E A s m args c own cc nL) {idx i ci k0 : Nat} {j : Nat} {fs : List (Option (Option Nat))} (hi : i ∈ E.2.2.1) (hsh : zw_sh i = .inl (ci, fs)) (hfk : fs[k0]? = some (some (some j))) (hF : zw_Fl own idx ci k0) (hd : decode cc pc = .ok (.getfield idx, 3)) (hp : pc + 3 = q) (k : zw_W p l e R s m args below meth c cells slots Q E A nL q lv (.ref (E.2.1 j) :: rest) h) : zw_W p l e R s m args below meth c cells slots Q E A nL pc lv (.ref (E.2.1 i) :: rest) h := by
  subst hp
  intro H locs ls hs hP hS
  obtain ⟨C, T, N, ty, ⟨hc, hw, hty, hnm⟩, hk, hl⟩ := hF
  obtain ⟨q0, hq0⟩ := List.getElem?_of_mem hi
  refine va_get (v := .ref (E.2.1 j)) (fs := fs.mapIdx (fun k f => zw_fv E h i k f)) g.1 g.2.1 g.2.2.2.2.1 hw g.2.2.2.1 g.2.2.2.2.2.1.1 hP q0 (by rw [zw_ws_at hq0, zw_ent_ob hsh]) hc k0 hk (g.2.2.2.2.1 _ hl) (fun _ h9 => h9) (by rw [List.getElem?_mapIdx, hfk]; rfl) hd (k H locs ls hs hP hS)
theorem zr_puti (g : zw_G p E A s m args c own cc nL) {idx i ci k0 : Nat} {fs : List (Option (Option Nat))} {v : Int32} {h' : zw_Hp} (hi : i ∈ E.2.2.1) (hsh : zw_sh i = .inl (ci, fs)) (hfk : fs[k0]? = some none) (hF : zw_Fp own idx ci k0 .int) (hd : decode cc pc = .ok (.putfield idx, 3)) (hp : pc + 3 = q) (hh : h' = zw_up h i k0 v) (k : zw_W p l e R s m args below meth c cells slots Q E A nL q lv rest h') : zw_W p l e R s m args below meth c cells slots Q E A nL pc lv (.int v :: .ref (E.2.1 i) :: rest) h := by
  subst hp
  subst hh
  intro H locs ls hs hP hS
  obtain ⟨C, T, N, ty, ⟨hc, hw, hty, hnm⟩, hk, hl, hfin, htk⟩ := hF
  obtain ⟨q0, hq0⟩ := List.getElem?_of_mem hi
  have hlen : k0 < (fs.mapIdx (fun k f => zw_fv E h i k f)).length := by rw [List.length_mapIdx]; exact (List.getElem?_eq_some_iff.mp hfk).1
  refine va_put (v := .int v) (ty := .int) (fs := fs.mapIdx (fun k f => zw_fv E h i k f)) g.1 g.2.1 g.2.2.2.2.1 hw ty hty hnm g.2.2.2.1 g.2.2.2.2.2.1.1 hP (g.2.2.2.2.2.2.1 h) hS q0 (by rw [zw_ws_at hq0, zw_ent_ob hsh]) hc k0 hk (g.2.2.2.2.1 _ hl) (fun _ h9 => h9) hfin (by rw [hty k0 hk, htk]) rfl rfl hlen hd (fun H1 locs1 hP1 hD1 hS1 => ?_)
  refine k H1 locs1 ls hs ?_ hS1
  unfold zw_up
  rw [← zw_ws_set (g.2.2.2.2.2.2.1 h) hq0 (zw_ent_row _), zw_ent_ob hsh]
  have e := zw_fs_up (E := E) (h := h) (i := i) v hfk
  unfold zw_up at e
  rw [e]
  exact hP1
theorem zr_putl (g : zw_G p E A s m args c own cc nL) {idx i ci k0 : Nat} {fs : List (Option (Option Nat))} {v : Int64} {h' : zw_Hp} (hi : i ∈ E.2.2.1) (hsh : zw_sh i = .inl (ci, fs)) (hfk : fs[k0]? = some (some none)) (h1 : ∀ j, fs[j]? = some (some none) → j = k0) (hF : zw_Fp own idx ci k0 .long) (hd : decode cc pc = .ok (.putfield idx, 3)) (hp : pc + 3 = q) (hh : h' = zw_upL h i v) (k : zw_W p l e R s m args below meth c cells slots Q E A nL q lv rest h') : zw_W p l e R s m args below meth c cells slots Q E A nL pc lv (.long v :: .ref (E.2.1 i) :: rest) h := by
  subst hp
  subst hh
  intro H locs ls hs hP hS
  obtain ⟨C, T, N, ty, ⟨hc, hw, hty, hnm⟩, hk, hl, hfin, htk⟩ := hF
  obtain ⟨q0, hq0⟩ := List.getElem?_of_mem hi
  have hlen : k0 < (fs.mapIdx (fun k f => zw_fv E h i k f)).length := by rw [List.length_mapIdx]; exact (List.getElem?_eq_some_iff.mp hfk).1
  refine va_put (v := .long v) (ty := .long) (fs := fs.mapIdx (fun k f => zw_fv E h i k f)) g.1 g.2.1 g.2.2.2.2.1 hw ty hty hnm g.2.2.2.1 g.2.2.2.2.2.1.1 hP (g.2.2.2.2.2.2.1 h) hS q0 (by rw [zw_ws_at hq0, zw_ent_ob hsh]) hc k0 hk (g.2.2.2.2.1 _ hl) (fun _ h9 => h9) hfin (by rw [hty k0 hk, htk]) rfl rfl hlen hd (fun H1 locs1 hP1 hD1 hS1 => ?_)
  refine k H1 locs1 ls hs ?_ hS1
  rw [← zw_ws_set (g.2.2.2.2.2.2.1 h) hq0 (zw_ent_long _), zw_ent_ob hsh, zw_fs_upL v hfk h1]
  exact hP1
theorem zr_iald (g : zw_G p E A s m args c own cc nL) {i n : Nat} {j : Int32} (hi : i ∈ E.2.2.1) (hsh : zw_sh i = .inr (false, n)) (hin : zw_ok j n = true) (hd : decode cc pc = .ok (.iaload, 1)) (hp : pc + 1 = q) (k : zw_W p l e R s m args below meth c cells slots Q E A nL q lv (.int (h.1 i j.toNatClampNeg) :: rest) h) : zw_W p l e R s m args below meth c cells slots Q E A nL pc lv (.int j :: .ref (E.2.1 i) :: rest) h := by
  subst hp
  intro H locs ls hs hP hS
  obtain ⟨q0, hq0⟩ := List.getElem?_of_mem hi
  exact va_iald (f := h.1 i) g.1 g.2.1 g.2.2.2.2.2.1.1 hP q0 0 (by rw [zw_ws_at hq0, zw_ent_ia hsh]) rfl (zw_ok_in hin) hd (k H locs ls hs hP hS)
theorem zr_zald (g : zw_G p E A s m args c own cc nL) {i n : Nat} {j : Int32} (hi : i ∈ E.2.2.1) (hsh : zw_sh i = .inr (true, n)) (hin : zw_ok j n = true) (hd : decode cc pc = .ok (.baload, 1)) (hp : pc + 1 = q) (k : zw_W p l e R s m args below meth c cells slots Q E A nL q lv (.int (h.1 i j.toNatClampNeg) :: rest) h) : zw_W p l e R s m args below meth c cells slots Q E A nL pc lv (.int j :: .ref (E.2.1 i) :: rest) h := by
  subst hp
  intro H locs ls hs hP hS
  obtain ⟨q0, hq0⟩ := List.getElem?_of_mem hi
  exact va_zald (f := h.1 i) g.1 g.2.1 g.2.2.2.2.2.1.1 hP q0 1 (by rw [zw_ws_at hq0, zw_ent_za hsh]) rfl (zw_ok_in hin) hd (k H locs ls hs hP hS)
theorem zr_iast (g : zw_G p E A s m args c own cc nL) {i n : Nat} {j x : Int32} {h' : zw_Hp} (hi : i ∈ E.2.2.1) (hsh : zw_sh i = .inr (false, n)) (hin : zw_ok j n = true) (hd : decode cc pc = .ok (.iastore, 1)) (hp : pc + 1 = q) (hh : h' = zw_up h i j.toNatClampNeg x) (k : zw_W p l e R s m args below meth c cells slots Q E A nL q lv rest h') : zw_W p l e R s m args below meth c cells slots Q E A nL pc lv (.int x :: .int j :: .ref (E.2.1 i) :: rest) h := by
  subst hp
  subst hh
  intro H locs ls hs hP hS
  obtain ⟨q0, hq0⟩ := List.getElem?_of_mem hi
  refine va_iast (f := h.1 i) g.1 g.2.1 g.2.2.2.2.2.1.1 hP (g.2.2.2.2.2.2.1 h) hS q0 0 (by rw [zw_ws_at hq0, zw_ent_ia hsh]) rfl (zw_ok_in hin) hd (fun H1 locs1 hP1 hD1 hS1 => ?_)
  refine k H1 locs1 ls hs ?_ hS1
  unfold zw_up
  rw [← zw_ws_set (g.2.2.2.2.2.2.1 h) hq0 (zw_ent_row _), zw_ent_ia hsh, zw_row_same]
  exact hP1
theorem zr_zast (g : zw_G p E A s m args c own cc nL) {i n : Nat} {j x : Int32} {h' : zw_Hp} (hi : i ∈ E.2.2.1) (hsh : zw_sh i = .inr (true, n)) (hin : zw_ok j n = true) (hv : vp_nar .boolean x = x) (hd : decode cc pc = .ok (.bastore, 1)) (hp : pc + 1 = q) (hh : h' = zw_up h i j.toNatClampNeg x) (k : zw_W p l e R s m args below meth c cells slots Q E A nL q lv rest h') : zw_W p l e R s m args below meth c cells slots Q E A nL pc lv (.int x :: .int j :: .ref (E.2.1 i) :: rest) h := by
  subst hp
  subst hh
  intro H locs ls hs hP hS
  obtain ⟨q0, hq0⟩ := List.getElem?_of_mem hi
  refine va_zast (f := h.1 i) g.1 g.2.1 g.2.2.2.2.2.1.1 hP (g.2.2.2.2.2.2.1 h) hS q0 1 (by rw [zw_ws_at hq0, zw_ent_za hsh]) rfl (zw_ok_in hin) hd (fun H1 locs1 hP1 hD1 hS1 => ?_)
  refine k H1 locs1 ls hs ?_ hS1
  unfold zw_up
  rw [← zw_ws_set (g.2.2.2.2.2.2.1 h) hq0 (zw_ent_row _), zw_ent_za hsh, zw_row_same]
  rw [hv] at hP1
  exact hP1
theorem zr_alen (g : zw_G p E A s m args c own cc nL) {i n : Nat} {v : Int32} (hi : i ∈ E.2.2.1) (hsh : zw_sh i = .inr (false, n)) (hv : Int32.ofNat n = v) (hd : decode cc pc = .ok (.arraylength, 1)) (hp : pc + 1 = q) (k : zw_W p l e R s m args below meth c cells slots Q E A nL q lv (.int v :: rest) h) : zw_W p l e R s m args below meth c cells slots Q E A nL pc lv (.ref (E.2.1 i) :: rest) h := by
  subst hp
  intro H locs ls hs hP hS
  obtain ⟨q0, hq0⟩ := List.getElem?_of_mem hi
  exact va_alen (x := (n, .inl (h.1 i))) g.1 g.2.1 g.2.2.2.2.2.1.1 hP q0 0 (by rw [zw_ws_at hq0, zw_ent_ia hsh]) rfl hv hd (k H locs ls hs hP hS)
/-- System.arraycopy of whole numbers -/
theorem zr_copy (g : zw_G p E A s m args c own cc nL) {i i2 n n2 idx : Nat} {sp dp cn : Int32} {h' : zw_Hp} (hi : i ∈ E.2.2.1) (hsh : zw_sh i = .inr (false, n)) (hi2 : i2 ∈ E.2.2.1) (hsh2 : zw_sh i2 = .inr (false, n2)) (hl : Cond.methodLink own idx arraycopyName ∈ zw_tb) (hw : Cond.native arraycopyName ∈ zw_tb ∧ Cond.static arraycopyName ∈ zw_tb ∧ Cond.initialized "java/lang/System" ∈ zw_tb)
    (hg : ¬ sp < 0 ∧ ¬ dp < 0 ∧ ¬ cn < 0 ∧ sp.toNatClampNeg + cn.toNatClampNeg ≤ n ∧ dp.toNatClampNeg + cn.toNatClampNeg ≤ n2) (hR : 1 ≤ R.frames ∧ 26 ≤ R.locals) (hcat : (rest.map fun v => v.category).sum ≤ 8) (hd : decode cc pc = .ok (.invokestatic idx, 3)) (hp : pc + 3 = q) (hh : h' = zw_upR h i2 (va_cpy (h.1 i) (h.1 i2) sp.toNatClampNeg dp.toNatClampNeg cn.toNatClampNeg)) (k : zw_W p l e R s m args below meth c cells slots Q E A nL q lv rest h') : zw_W p l e R s m args below meth c cells slots Q E A nL pc lv (.int cn :: .int dp :: .ref (E.2.1 i2) :: .int sp :: .ref (E.2.1 i) :: rest) h := by
  subst hp
  subst hh
  intro H locs ls hs hP hS
  obtain ⟨q0, hq0⟩ := List.getElem?_of_mem hi
  obtain ⟨q1, hq1⟩ := List.getElem?_of_mem hi2
  have hnw : nativeFrameWords "java/lang/System" "arraycopy" 5 = 7 := by decide
  refine va_copyi (f := h.1 i) (g := h.1 i2) (ty := .int) g.1 g.2.1 (by rw [g.2.2.1]; exact hs.1.symm) g.2.2.2.1 (g.2.2.2.2.1 _ hl) (g.2.2.2.2.1 _ hw.1) (g.2.2.2.2.1 _ hw.2.1) (g.2.2.2.2.1 _ hw.2.2) g.2.2.2.2.2.1.1 hP (g.2.2.2.2.2.2.1 h) hS q0 q1 0 0 (by rw [zw_ws_at hq0, zw_ent_ia hsh]) (by rw [zw_ws_at hq1, zw_ent_ia hsh2]) rfl rfl rfl hg.1 hg.2.1 hg.2.2.1 hg.2.2.2.1 hg.2.2.2.2 (fun i hi => rfl) hR.1 (by rw [hnw]; omega) hd (fun H1 locs1 hP1 hD1 hS1 => ?_)
  refine k H1 locs1 ls hs ?_ hS1
  rw [← zw_ws_set (g.2.2.2.2.2.2.1 h) hq1 (zw_ent_row _), zw_ent_ia hsh2, zw_row_same]
  exact hP1
theorem zw_blind (E : zw_En) (As : List Value) (h : zw_Hp) : FrameBlind (zw_Pc E As h) := fun a U gg mk ⟨h1, h2, h3⟩ => ⟨h1, h2, va_K.moved (u := U) (U := U.calling gg mk a) (Vm.Alike.refl U.vm) h3.1, fun q hq => va_Nw.same rfl (rfl : U.vm = (U.calling gg mk a).vm) (h3.2 q hq)⟩
/-- behind a call -/
theorem zw_back (g : zw_G p E A s m args c own cc nL) {r : Option Value} {h' : zw_Hp} {H : Heap} {locs : List Loc} {ls : Array Slot} {st0 st' : List Value} {a : Array Value} (hs : lv_has ls nL lv) (hS : va_S A s.heap H locs) (hr : va_Run p l e R s m args below meth c H locs cells slots 0 0 (F0 m pc ls st0) rest (zw_Qc E r h' a) (zw_A E)) (hst : r.toList ++ rest = st')
    (k : zw_W p l e R s m args below meth c cells slots Q E A nL (pc + 3) lv st' h') : W p l e R s m args below meth c H locs cells slots Q (F0 m pc ls st0) := by
  intro T hT X
  obtain ⟨v, s0, t, T', L, h0, X', hL, e1, e2, ⟨hv, hP', hF⟩, stp⟩ := hr T hT X
  obtain rfl : v = r := by injection hv
  subst hst
  obtain ⟨t2, a1, b1⟩ := k T'.heap (locs ++ L) ls hs (by rw [e1]; exact hP')
    ⟨Nat.le_trans hS.1 (by rw [← h0, e1]; exact hF.1), fun z h1 h2 => by rw [e1, hF.2 z (by rw [h0]; exact Nat.lt_of_lt_of_le h1 hS.1) (fun w => h2 (g.2.2.2.2.2.2.2 z w)), h0]; exact hS.2.1 z h1 h2, fun z hz => by
      rcases List.mem_append.mp hz with w | w
      · exact hS.2.2 z w
      · exact g.2.2.2.2.2.2.2 _ (hL z w)⟩ T' rfl X'
  exact ⟨t2, stp t2 a1, b1⟩
theorem zr_callV (g : zw_G p E A s m args c own cc nL) {mt : zw_Mt} {As st st' : List Value} {idx i ci n : Nat} {fs : List (Option (Option Nat))} {T : u_T} {N : Nat} {r : Option Value} {h' : zw_Hp} (hC : zw_Ct l E mt (.ref (E.2.1 i) :: As) h r h') (hm : zw_Mv mt n) (hl : Cond.methodLink own idx mt.1 ∈ zw_tb) (hi : i ∈ E.2.2.1) (hsh : zw_sh i = .inl (ci, fs)) (hc : vwCl[ci]? = some (mt.1.cls, T, N)) (hd : decode cc pc = .ok (.invokevirtual idx, 3)) (hn : As.length = n) (hst : st = As.reverse ++ .ref (E.2.1 i) :: rest) (hR : mt.2.2.2.2.1 + 1 ≤ R.frames ∧ 8 + (mt.2.2.1 + 11) + mt.2.2.2.2.2 ≤ R.locals) (hz : cells ≤ R.cells ∧ slots ≤ R.slots) (hcat : (rest.map fun v => v.category).sum ≤ 8) (hp : pc + 3 = q) (hst' : r.toList ++ rest = st') (k : zw_W p l e R s m args below meth c cells slots Q E A nL q lv st' h') : zw_W p l e R s m args below meth c cells slots Q E A nL pc lv st h := by
  subst hp
  subst hst
  intro H locs ls hs hP hS
  obtain ⟨q0, hq0⟩ := List.getElem?_of_mem hi
  refine zw_back g hs hS (va_runV (Ts := zw_tb) (nL := nL) (As := As) (rest := rest) (b := E.2.1 i) (C := mt.1.cls) (n := n) ⟨g.1, g.2.1, g.2.2.1, g.2.2.2.1, g.2.2.2.2.1⟩ hC
    (cwV n g.2.2.2.2.1 (zw_good (fun w hw => ?_)) rfl rfl rfl ⟨rfl, hm.1.2.2⟩ hR) ⟨zw_blind E _ h, va_recv g.2.2.2.2.2.1.1 hP hc (by rw [zw_ws_at hq0, zw_ent_ob hsh]), fun U hU hW => ⟨rfl, by rw [hU]; exact hP, g.2.2.2.2.2.1.warm hW⟩⟩ rfl hn hs.1 rfl (lv_room hcat) hd ⟨hz.1, hz.2⟩) hst' k
  simp only [wsV, List.mem_append, List.mem_cons, List.not_mem_nil, or_false] at hw
  rcases hw with (rfl | rfl | rfl | rfl) | hw
  · exact hl
  · exact hm.2.1
  · exact hm.2.2
  · exact hm.1.2.1
  · exact zw_ws0_in hm.1 w hw
theorem zw_cb {mt : zw_Mt} {idx n : Nat} (g : zw_G p E A s m args c own cc nL) (hm : zw_Mw mt n) (hl : Cond.methodLink own idx mt.1 ∈ zw_tb) (hR : mt.2.2.2.2.1 + 1 ≤ R.frames ∧ 8 + (mt.2.2.1 + 11) + mt.2.2.2.2.2 ≤ R.locals) : CallB R s args own idx mt.1 mt.2.1 mt.2.2.1 mt.2.2.2.1 (zw_ws0 mt) (zw_rm mt) 0 0 n :=
  callB_of n g.2.2.2.2.1 (zw_good (zw_ws0_in hm)) rfl rfl rfl (g.2.2.2.2.1 _ hm.2.1) (g.2.2.2.2.1 _ hl) hm.2.2 hR
theorem zr_callS (g : zw_G p E A s m args c own cc nL) {mt : zw_Mt} {As st st' : List Value} {idx n : Nat} {r : Option Value} {h' : zw_Hp} (hC : zw_Ct l E mt As h r h') (hm : zw_Ms mt n) (hl : Cond.methodLink own idx mt.1 ∈ zw_tb) (hd : decode cc pc = .ok (.invokestatic idx, 3)) (hn : As.length = n) (hst : st = As.reverse ++ rest) (hR : mt.2.2.2.2.1 + 1 ≤ R.frames ∧ 8 + (mt.2.2.1 + 11) + mt.2.2.2.2.2 ≤ R.locals) (hz : cells ≤ R.cells ∧ slots ≤ R.slots) (hcat : (rest.map fun v => v.category).sum ≤ 8) (hp : pc + 3 = q) (hst' : r.toList ++ rest = st') (k : zw_W p l e R s m args below meth c cells slots Q E A nL q lv st' h') : zw_W p l e R s m args below meth c cells slots Q E A nL pc lv st h := by
  subst hp
  subst hst
  intro H locs ls hs hP hS
  exact zw_back g hs hS (va_runS (Ts := zw_tb) (nL := nL) (As := As) (rest := rest) (n := n) ⟨g.1, g.2.1, g.2.2.1, g.2.2.2.1, g.2.2.2.2.1⟩ hC
    ⟨zw_cb g hm.1 hl hR, g.2.2.2.2.1 _ hm.2⟩ ⟨zw_blind E _ h, fun U hU hW => ⟨rfl, by rw [hU]; exact hP, g.2.2.2.2.2.1.warm hW⟩⟩ rfl hn hs.1 rfl (lv_room hcat) hd ⟨hz.1, hz.2⟩) hst' k
theorem zr_callN (g : zw_G p E A s m args c own cc nL) {mt : zw_Mt} {As st st' : List Value} {idx n : Nat} {host : String} {r : Option Value} {h' : zw_Hp} (hC : zw_Ct l E mt As h r h') (hm : zw_Ms mt n) (hl : (own, idx, mt.1, host) ∈ zw_nest) (hd : decode cc pc = .ok (.invokestatic idx, 3)) (hn : As.length = n) (hst : st = As.reverse ++ rest) (hR : mt.2.2.2.2.1 + 1 ≤ R.frames ∧ 8 + (mt.2.2.1 + 11) + mt.2.2.2.2.2 ≤ R.locals) (hz : cells ≤ R.cells ∧ slots ≤ R.slots) (hcat : (rest.map fun v => v.category).sum ≤ 8) (hp : pc + 3 = q) (hst' : r.toList ++ rest = st') (k : zw_W p l e R s m args below meth c cells slots Q E A nL q lv st' h') : zw_W p l e R s m args below meth c cells slots Q E A nL pc lv st h := by
  subst hp
  subst hst
  intro H locs ls hs hP hS
  have hws := zw_good (zw_ws0_in hm.1)
  exact zw_back g hs hS (va_runSN (Ts := zw_tb) (nL := nL) (As := As) (rest := rest) (n := n) (host := host) ⟨g.1, g.2.1, g.2.2.1, g.2.2.2.1, g.2.2.2.2.1⟩ hC
    ⟨⟨⟨rfl, rfl, hR.1, hR.2, pay_in g.2.2.2.2.1 hws, List.mem_cons_self⟩, g.2.2.2.2.1 _ hm.1.1, g.2.2.2.2.1 _ hm.1.2.1, ⟨hm.1.2.2.1, hm.1.2.2.2.1⟩, fun sig hsig => by have h2 := hm.1.2.2.2.2; rw [hsig] at h2; exact (Option.some.inj h2).symm, va_Nw.use rfl (g.2.2.2.2.2.1.2 _ hl)⟩, g.2.2.2.2.1 _ hm.2, trivial⟩ ⟨zw_blind E _ h, fun U hU hW => ⟨rfl, by rw [hU]; exact hP, g.2.2.2.2.2.1.warm hW⟩⟩ rfl hn hs.1 rfl (lv_room hcat) hd ⟨hz.1, hz.2⟩) hst' k
end ZW
section ZR
variable {p : Program} {l : Launch} {e : Env} {R : Room} {s : State} {m : MethodId} {args : Array Value} {below : List Frame} {meth : Method} {c : Code} {E : zw_En} {own : String} {cc : ByteArray} {nL pc : Nat} {lv : List (Nat × Value)} {h h' : zw_Hp} {r : Option Value}
/-- a method's own walk: its room, its end -/
abbrev zw_V (p : Program) (l : Launch) (e : Env) (s : State) (m : MethodId) (args : Array Value) (below : List Frame) (meth : Method) (c : Code) (E : zw_En) (mt : zw_Mt) (nL : Nat) (r : Option Value) (h' : zw_Hp) (pc : Nat) (lv : List (Nat × Value)) (st : List Value) (h : zw_Hp) : Prop :=
  zw_W p l e (zw_rm mt) s m args below meth c 0 0 (MQ below (zw_Qc E r h') args s 0 0 (zw_A E)) E (zw_A E) nL pc lv st h
theorem zr_iret (g : zw_G p E (zw_A E) s m args c own cc nL) {v : Int32} (hr : meth.sig.returnType = some .int) (hlk : meth.locks = false) (hd : decode cc pc = .ok (.ireturn, 1)) (er : r = some (.int v)) (eh : h' = h) : zw_W p l e R s m args below meth c 0 0 (MQ below (zw_Qc E r h') args s 0 0 (zw_A E)) E (zw_A E) nL pc lv [.int v] h := by
  subst er; subst eh
  exact fun H locs ls hs hP hS => W.iret g.1 g.2.1 hr (fun t ht hW => ⟨rfl, by rw [ht]; exact hP, hS.F ht⟩) hS.2.2 hd hlk
theorem zr_zret (g : zw_G p E (zw_A E) s m args c own cc nL) {v : Int32} (hr : meth.sig.returnType = some .boolean) (hlk : meth.locks = false) (hv : v = 0 ∨ v = 1) (hd : decode cc pc = .ok (.ireturn, 1)) (er : r = some (.int v)) (eh : h' = h) : zw_W p l e R s m args below meth c 0 0 (MQ below (zw_Qc E r h') args s 0 0 (zw_A E)) E (zw_A E) nL pc lv [.int v] h := by
  subst er; subst eh
  have hn : narrow .boolean (.int v) = .int v := by rcases hv with rfl | rfl <;> decide
  exact fun H locs ls hs hP hS => W.zret g.1 g.2.1 hr hn (fun t ht hW => ⟨rfl, by rw [ht]; exact hP, hS.F ht⟩) hS.2.2 hd hlk
theorem zr_lret (g : zw_G p E (zw_A E) s m args c own cc nL) {v : Int64} (hr : meth.sig.returnType = some .long) (hlk : meth.locks = false) (hd : decode cc pc = .ok (.lreturn, 1)) (er : r = some (.long v)) (eh : h' = h) : zw_W p l e R s m args below meth c 0 0 (MQ below (zw_Qc E r h') args s 0 0 (zw_A E)) E (zw_A E) nL pc lv [.long v] h := by
  subst er; subst eh
  exact fun H locs ls hs hP hS => W.lret g.1 g.2.1 hr (fun t ht hW => ⟨rfl, by rw [ht]; exact hP, hS.F ht⟩) hS.2.2 hd hlk
theorem zr_vret (g : zw_G p E (zw_A E) s m args c own cc nL) (hr : meth.sig.returnType = none) (hlk : meth.locks = false) (hd : decode cc pc = .ok (.return_, 1)) (er : r = none) (eh : h' = h) : zw_W p l e R s m args below meth c 0 0 (MQ below (zw_Qc E r h') args s 0 0 (zw_A E)) E (zw_A E) nL pc lv [] h := by
  subst er; subst eh
  exact fun H locs ls hs hP hS => W.vret g.1 g.2.1 hr (fun t ht hW => ⟨rfl, by rw [ht]; exact hP, hS.F ht⟩) hS.2.2 hd hlk
/-- the contract out of the walk from its entry -/
theorem zw_ct {mt : zw_Mt} {As : List Value} {lv0 : List (Nat × Value)} (ok : zw_Ok E) (hy : plainName mt.1.cls = true) (hl0 : lv_args 0 As = lv0) (hlen : (lg_sl As).length ≤ mt.2.2.1)
    (body : ∀ p e s m args below meth c, zw_G p E (zw_A E) s m args c mt.1.cls mt.2.1 mt.2.2.1 → meth.sig.returnType = mt.2.2.2.1 → meth.locks = false → zw_V p l e s m args below meth c E mt mt.2.2.1 r h' 0 lv0 [] h) : zw_Ct l E mt As h r h' := by
  refine Met.ofW (cc := mt.2.1) (maxL := mt.2.2.1) (ret := mt.2.2.2.1) hy rfl ?_
  intro p e s m args below meth c s₁ B hml hv
  obtain ⟨ha, hP, hK⟩ := hv
  subst ha
  have hts := atoms_spec (ws := zw_ws0 mt) B.pre
  have hl := lv_entry As (n := mt.2.2.1) hlen
  rw [hl0] at hl
  rw [lg_entry_eq]
  exact body p e s m _ below meth c ⟨B.exec, B.bytes, hml, findClass_of_methodNamed B.named, fun w hw => hts w (List.mem_cons_of_mem _ hw), hK, fun h => zw_ws_D ok (fun _ z => z) h, fun _ z => z⟩ B.returns B.notSynchronized s.heap [] _ hl hP va_S.rf
end ZR
end
section
def zw_shl (t : Nat) : Nat := if t = 20 then 294 else 42
theorem zs_0 : zw_sh 0 = .inl (8, [some (some 1), some (some 3), some (some 6), some (some 9), some (some 19), some (some 22), none, some (some 24), some (some 28), some (some 30), some none]) := rfl
theorem zs_1 : zw_sh 1 = .inl (7, [some (some 2), none]) := rfl
theorem zs_2 : zw_sh 2 = .inr (false, 36) := rfl
theorem zs_3 : zw_sh 3 = .inl (2, [some (some 4), some (some 5), none, none, none, none, none, none, none]) := rfl
theorem zs_4 : zw_sh 4 = .inr (false, 5) := rfl
theorem zs_5 : zw_sh 5 = .inr (false, 4) := rfl
theorem zs_6 : zw_sh 6 = .inl (2, [some (some 7), some (some 8), none, none, none, none, none, none, none]) := rfl
theorem zs_7 : zw_sh 7 = .inr (false, 5) := rfl
theorem zs_8 : zw_sh 8 = .inr (false, 4) := rfl
theorem zs_9 : zw_sh 9 = .inl (3, [some (some 6), some (some 10), some (some 11), some (some 12), some (some 13), none, none, none, none, none]) := rfl
theorem zs_10 : zw_sh 10 = .inr (false, 5) := rfl
theorem zs_11 : zw_sh 11 = .inr (false, 4) := rfl
theorem zs_12 : zw_sh 12 = .inr (false, 4) := rfl
theorem zs_13 : zw_sh 13 = .inr (false, 4) := rfl
theorem zs_14 : zw_sh 14 = .inl (3, [some (some 6), some (some 15), some (some 16), some (some 17), some (some 18), none, none, none, none, none]) := rfl
theorem zs_15 : zw_sh 15 = .inr (false, 5) := rfl
theorem zs_16 : zw_sh 16 = .inr (false, 4) := rfl
theorem zs_17 : zw_sh 17 = .inr (false, 4) := rfl
theorem zs_18 : zw_sh 18 = .inr (false, 4) := rfl
theorem zs_19 : zw_sh 19 = .inl (0, [some (some 20), none, none]) := rfl
theorem zs_20 : zw_sh 20 = .inl (5, [some (some 21)]) := rfl
theorem zs_21 : zw_sh 21 = .inr (false, 294) := rfl
theorem zs_22 : zw_sh 22 = .inl (5, [some (some 23)]) := rfl
theorem zs_23 : zw_sh 23 = .inr (false, 42) := rfl
theorem zs_24 : zw_sh 24 = .inl (6, [some (some 25), some (some 26), some (some 27), none]) := rfl
theorem zs_25 : zw_sh 25 = .inr (false, 6) := rfl
theorem zs_26 : zw_sh 26 = .inr (false, 6) := rfl
theorem zs_27 : zw_sh 27 = .inr (false, 6) := rfl
theorem zs_28 : zw_sh 28 = .inl (4, [some (some 6), some (some 9), some (some 14), some (some 29), none, none]) := rfl
theorem zs_29 : zw_sh 29 = .inr (false, 5) := rfl
theorem zs_30 : zw_sh 30 = .inl (1, [some (some 6), some (some 9), some (some 14)]) := rfl
theorem zs_31 : zw_sh 31 = .inl (9, [none, some (some 32), none, none, none, none, none, some (some 33), none, some (some 34), none, none, none, none, some (some 35), none, some (some 36), none, some (some 37), some (some 38), some (some 39), none, some (some 40), some (some 41), none, some (some 42), some (some 43), some (some 44), some none, none, none, none, none, none, none, some (some 45), some (some 46), some (some 47)]) := rfl
theorem zs_32 : zw_sh 32 = .inr (false, 36) := rfl
theorem zs_33 : zw_sh 33 = .inr (false, 5) := rfl
theorem zs_34 : zw_sh 34 = .inr (false, 4) := rfl
theorem zs_35 : zw_sh 35 = .inr (false, 5) := rfl
theorem zs_36 : zw_sh 36 = .inr (false, 4) := rfl
theorem zs_37 : zw_sh 37 = .inr (false, 21) := rfl
theorem zs_38 : zw_sh 38 = .inr (false, 21) := rfl
theorem zs_39 : zw_sh 39 = .inr (false, 294) := rfl
theorem zs_40 : zw_sh 40 = .inr (false, 42) := rfl
theorem zs_41 : zw_sh 41 = .inr (true, 2) := rfl
theorem zs_42 : zw_sh 42 = .inr (false, 6) := rfl
theorem zs_43 : zw_sh 43 = .inr (false, 6) := rfl
theorem zs_44 : zw_sh 44 = .inr (false, 6) := rfl
theorem zs_45 : zw_sh 45 = .inr (false, 8) := rfl
theorem zs_46 : zw_sh 46 = .inr (false, 16) := rfl
theorem zs_47 : zw_sh 47 = .inr (false, 5) := rfl
theorem zs_pl0 {t : Nat} (k : t = 3 ∨ t = 6) : zw_sh t = .inl (2, [some (some (t + 1)), some (some (t + 2)), none, none, none, none, none, none, none]) := by rcases k with rfl | rfl <;> rfl
theorem zb_pl0 {t : Nat} (k : t = 3 ∨ t = 6) : t < 48 := by omega
theorem zs_pl1 {t : Nat} (k : t = 3 ∨ t = 6) : zw_sh (t + 1) = .inr (false, 5) := by rcases k with rfl | rfl <;> rfl
theorem zb_pl1 {t : Nat} (k : t = 3 ∨ t = 6) : (t + 1) < 48 := by omega
theorem zs_pl2 {t : Nat} (k : t = 3 ∨ t = 6) : zw_sh (t + 2) = .inr (false, 4) := by rcases k with rfl | rfl <;> rfl
theorem zb_pl2 {t : Nat} (k : t = 3 ∨ t = 6) : (t + 2) < 48 := by omega
theorem zs_sc0 {t : Nat} (k : t = 9 ∨ t = 14) : zw_sh t = .inl (3, [some (some 6), some (some (t + 1)), some (some (t + 2)), some (some (t + 3)), some (some (t + 4)), none, none, none, none, none]) := by rcases k with rfl | rfl <;> rfl
theorem zb_sc0 {t : Nat} (k : t = 9 ∨ t = 14) : t < 48 := by omega
theorem zs_sc1 {t : Nat} (k : t = 9 ∨ t = 14) : zw_sh (t + 1) = .inr (false, 5) := by rcases k with rfl | rfl <;> rfl
theorem zb_sc1 {t : Nat} (k : t = 9 ∨ t = 14) : (t + 1) < 48 := by omega
theorem zs_sc2 {t : Nat} (k : t = 9 ∨ t = 14) : zw_sh (t + 2) = .inr (false, 4) := by rcases k with rfl | rfl <;> rfl
theorem zb_sc2 {t : Nat} (k : t = 9 ∨ t = 14) : (t + 2) < 48 := by omega
theorem zs_sc3 {t : Nat} (k : t = 9 ∨ t = 14) : zw_sh (t + 3) = .inr (false, 4) := by rcases k with rfl | rfl <;> rfl
theorem zb_sc3 {t : Nat} (k : t = 9 ∨ t = 14) : (t + 3) < 48 := by omega
theorem zs_sc4 {t : Nat} (k : t = 9 ∨ t = 14) : zw_sh (t + 4) = .inr (false, 4) := by rcases k with rfl | rfl <;> rfl
theorem zb_sc4 {t : Nat} (k : t = 9 ∨ t = 14) : (t + 4) < 48 := by omega
theorem zs_sf0 {t : Nat} (k : t = 20 ∨ t = 22) : zw_sh t = .inl (5, [some (some (t + 1))]) := by rcases k with rfl | rfl <;> rfl
theorem zb_sf0 {t : Nat} (k : t = 20 ∨ t = 22) : t < 48 := by omega
theorem zs_sf1 {t : Nat} (k : t = 20 ∨ t = 22) : zw_sh (t + 1) = .inr (false, (zw_shl t)) := by rcases k with rfl | rfl <;> rfl
theorem zb_sf1 {t : Nat} (k : t = 20 ∨ t = 22) : (t + 1) < 48 := by omega
theorem zs_pg0 {t : Nat} (k : t = 37 ∨ t = 38) : zw_sh t = .inr (false, 21) := by rcases k with rfl | rfl <;> rfl
theorem zb_pg0 {t : Nat} (k : t = 37 ∨ t = 38) : t < 48 := by omega
theorem zw_inl {ws : List Cond} (ps : List Nat) (hp : ws = ps.filterMap (fun i => lw_tbl[i]?)) (hg : ws.all goodWord = true) : ∀ w ∈ ws, w ∈ zw_tb := by
  intro w hw
  have h1 := List.all_eq_true.mp hg w hw
  rw [hp] at hw
  obtain ⟨i, -, hi⟩ := List.mem_filterMap.mp hw
  exact zm i hi h1
set_option maxRecDepth 20000 in
theorem zc_X0 : zw_Cl 0 RX0 TX0 3 tyX0 := ⟨rfl, zw_inl [233, 235, 237] (by decide +kernel) (by decide +kernel), tyX0_ok, nmX0⟩
set_option maxRecDepth 20000 in
theorem zc_X1 : zw_Cl 1 RX1 TX1 3 tyX1 := ⟨rfl, zw_inl [298, 300, 302] (by decide +kernel) (by decide +kernel), tyX1_ok, nmX1⟩
set_option maxRecDepth 20000 in
theorem zc_X2 : zw_Cl 2 RX2 TX2 9 tyX2 := ⟨rfl, zw_inl [131, 133, 135, 137, 139, 141, 143, 145, 147] (by decide +kernel) (by decide +kernel), tyX2_ok, nmX2⟩
set_option maxRecDepth 20000 in
theorem zc_X3 : zw_Cl 3 RX3 TX3 10 tyX3 := ⟨rfl, zw_inl [192, 194, 196, 198, 200, 202, 204, 206, 208, 210] (by decide +kernel) (by decide +kernel), tyX3_ok, nmX3⟩
set_option maxRecDepth 20000 in
theorem zc_X4 : zw_Cl 4 RX4 TX4 6 tyX4 := ⟨rfl, zw_inl [276, 278, 280, 282, 284, 286] (by decide +kernel) (by decide +kernel), tyX4_ok, nmX4⟩
set_option maxRecDepth 20000 in
theorem zc_X5 : zw_Cl 5 RX5 TX5 1 tyX5 := ⟨rfl, zw_inl [226] (by decide +kernel) (by decide +kernel), tyX5_ok, nmX5⟩
set_option maxRecDepth 20000 in
theorem zc_X6 : zw_Cl 6 RX6 TX6 4 tyX6 := ⟨rfl, zw_inl [253, 255, 257, 259] (by decide +kernel) (by decide +kernel), tyX6_ok, nmX6⟩
set_option maxRecDepth 20000 in
theorem zc_X7 : zw_Cl 7 RX7 TX7 2 tyX7 := ⟨rfl, zw_inl [94, 96] (by decide +kernel) (by decide +kernel), tyX7_ok, nmX7⟩
set_option maxRecDepth 20000 in
theorem zc_X8 : zw_Cl 8 RX8 TX8 11 tyX8 := ⟨rfl, zw_inl [316, 318, 320, 322, 324, 326, 328, 330, 332, 334, 336] (by decide +kernel) (by decide +kernel), tyX8_ok, nmX8⟩
set_option maxRecDepth 20000 in
theorem zc_X9 : zw_Cl 9 RX9 TX9 38 tyX9 := ⟨rfl, zw_inl [823, 825, 827, 829, 831, 833, 835, 837, 839, 841, 843, 845, 847, 849, 851, 853, 855, 857, 859, 861, 863, 865, 867, 869, 871, 873, 875, 877, 879, 881, 883, 885, 887, 889, 891, 893, 895, 897] (by decide +kernel) (by decide +kernel), tyX9_ok, nmX9⟩
theorem zf_X8_10 : zw_Fl RX8 10 8 0 := ⟨RX8, TX8, 11, tyX8, zc_X8, by decide, zm 305 (by decide +kernel) rfl⟩
theorem zf_X8_19 : zw_Fl RX8 19 8 1 := ⟨RX8, TX8, 11, tyX8, zc_X8, by decide, zm 306 (by decide +kernel) rfl⟩
theorem zf_X8_23 : zw_Fl RX8 23 8 2 := ⟨RX8, TX8, 11, tyX8, zc_X8, by decide, zm 307 (by decide +kernel) rfl⟩
theorem zf_X8_31 : zw_Fl RX8 31 8 3 := ⟨RX8, TX8, 11, tyX8, zc_X8, by decide, zm 308 (by decide +kernel) rfl⟩
theorem zf_X8_38 : zw_Fl RX8 38 8 4 := ⟨RX8, TX8, 11, tyX8, zc_X8, by decide, zm 309 (by decide +kernel) rfl⟩
theorem zf_X8_47 : zw_Fl RX8 47 8 5 := ⟨RX8, TX8, 11, tyX8, zc_X8, by decide, zm 310 (by decide +kernel) rfl⟩
theorem zf_X8_51 : zw_Fl RX8 51 8 6 := ⟨RX8, TX8, 11, tyX8, zc_X8, by decide, zm 311 (by decide +kernel) rfl⟩
theorem zp_X8_51 : zw_Fp RX8 51 8 6 .int := ⟨RX8, TX8, 11, tyX8, zc_X8, by decide, zm 311 (by decide +kernel) rfl, rfl, rfl⟩
theorem zf_X8_58 : zw_Fl RX8 58 8 7 := ⟨RX8, TX8, 11, tyX8, zc_X8, by decide, zm 312 (by decide +kernel) rfl⟩
theorem zf_X8_67 : zw_Fl RX8 67 8 8 := ⟨RX8, TX8, 11, tyX8, zc_X8, by decide, zm 313 (by decide +kernel) rfl⟩
theorem zf_X8_74 : zw_Fl RX8 74 8 9 := ⟨RX8, TX8, 11, tyX8, zc_X8, by decide, zm 314 (by decide +kernel) rfl⟩
theorem zf_X8_78 : zw_Fl RX8 78 8 10 := ⟨RX8, TX8, 11, tyX8, zc_X8, by decide, zm 315 (by decide +kernel) rfl⟩
theorem zp_X8_78 : zw_Fp RX8 78 8 10 .long := ⟨RX8, TX8, 11, tyX8, zc_X8, by decide, zm 315 (by decide +kernel) rfl, rfl, rfl⟩
theorem zf_X8_86 : zw_Fl RX8 86 7 1 := ⟨RX7, TX7, 2, tyX7, zc_X7, by decide, zm 92 (by decide +kernel) rfl⟩
theorem zp_X8_86 : zw_Fp RX8 86 7 1 .int := ⟨RX7, TX7, 2, tyX7, zc_X7, by decide, zm 92 (by decide +kernel) rfl, rfl, rfl⟩
theorem zf_X8_99 : zw_Fl RX8 99 2 2 := ⟨RX2, TX2, 9, tyX2, zc_X2, by decide, zm 114 (by decide +kernel) rfl⟩
theorem zp_X8_99 : zw_Fp RX8 99 2 2 .int := ⟨RX2, TX2, 9, tyX2, zc_X2, by decide, zm 114 (by decide +kernel) rfl, rfl, rfl⟩
theorem zf_X8_102 : zw_Fl RX8 102 2 3 := ⟨RX2, TX2, 9, tyX2, zc_X2, by decide, zm 118 (by decide +kernel) rfl⟩
theorem zp_X8_102 : zw_Fp RX8 102 2 3 .int := ⟨RX2, TX2, 9, tyX2, zc_X2, by decide, zm 118 (by decide +kernel) rfl, rfl, rfl⟩
theorem zf_X8_105 : zw_Fl RX8 105 3 6 := ⟨RX3, TX3, 10, tyX3, zc_X3, by decide, zm 181 (by decide +kernel) rfl⟩
theorem zp_X8_105 : zw_Fp RX8 105 3 6 .int := ⟨RX3, TX3, 10, tyX3, zc_X3, by decide, zm 181 (by decide +kernel) rfl, rfl, rfl⟩
theorem zf_X8_108 : zw_Fl RX8 108 2 6 := ⟨RX2, TX2, 9, tyX2, zc_X2, by decide, zm 125 (by decide +kernel) rfl⟩
theorem zp_X8_108 : zw_Fp RX8 108 2 6 .int := ⟨RX2, TX2, 9, tyX2, zc_X2, by decide, zm 125 (by decide +kernel) rfl, rfl, rfl⟩
theorem zf_X8_111 : zw_Fl RX8 111 2 7 := ⟨RX2, TX2, 9, tyX2, zc_X2, by decide, zm 128 (by decide +kernel) rfl⟩
theorem zp_X8_111 : zw_Fp RX8 111 2 7 .int := ⟨RX2, TX2, 9, tyX2, zc_X2, by decide, zm 128 (by decide +kernel) rfl, rfl, rfl⟩
theorem zf_X8_114 : zw_Fl RX8 114 3 8 := ⟨RX3, TX3, 10, tyX3, zc_X3, by decide, zm 189 (by decide +kernel) rfl⟩
theorem zp_X8_114 : zw_Fp RX8 114 3 8 .int := ⟨RX3, TX3, 10, tyX3, zc_X3, by decide, zm 189 (by decide +kernel) rfl, rfl, rfl⟩
theorem zf_X8_117 : zw_Fl RX8 117 3 7 := ⟨RX3, TX3, 10, tyX3, zc_X3, by decide, zm 186 (by decide +kernel) rfl⟩
theorem zp_X8_117 : zw_Fp RX8 117 3 7 .int := ⟨RX3, TX3, 10, tyX3, zc_X3, by decide, zm 186 (by decide +kernel) rfl, rfl, rfl⟩
theorem zf_X8_128 : zw_Fl RX8 128 3 5 := ⟨RX3, TX3, 10, tyX3, zc_X3, by decide, zm 177 (by decide +kernel) rfl⟩
theorem zp_X8_128 : zw_Fp RX8 128 3 5 .int := ⟨RX3, TX3, 10, tyX3, zc_X3, by decide, zm 177 (by decide +kernel) rfl, rfl, rfl⟩
theorem zf_X8_131 : zw_Fl RX8 131 0 2 := ⟨RX0, TX0, 3, tyX0, zc_X0, by decide, zm 232 (by decide +kernel) rfl⟩
theorem zp_X8_131 : zw_Fp RX8 131 0 2 .int := ⟨RX0, TX0, 3, tyX0, zc_X0, by decide, zm 232 (by decide +kernel) rfl, rfl, rfl⟩
theorem zf_X8_134 : zw_Fl RX8 134 6 3 := ⟨RX6, TX6, 4, tyX6, zc_X6, by decide, zm 252 (by decide +kernel) rfl⟩
theorem zp_X8_134 : zw_Fp RX8 134 6 3 .int := ⟨RX6, TX6, 4, tyX6, zc_X6, by decide, zm 252 (by decide +kernel) rfl, rfl, rfl⟩
theorem zf_X8_138 : zw_Fl RX8 138 2 0 := ⟨RX2, TX2, 9, tyX2, zc_X2, by decide, zm 107 (by decide +kernel) rfl⟩
theorem zf_X8_145 : zw_Fl RX8 145 3 1 := ⟨RX3, TX3, 10, tyX3, zc_X3, by decide, zm 164 (by decide +kernel) rfl⟩
theorem zf_X8_154 : zw_Fl RX8 154 2 1 := ⟨RX2, TX2, 9, tyX2, zc_X2, by decide, zm 110 (by decide +kernel) rfl⟩
theorem zf_X8_160 : zw_Fl RX8 160 3 2 := ⟨RX3, TX3, 10, tyX3, zc_X3, by decide, zm 168 (by decide +kernel) rfl⟩
theorem zf_X8_163 : zw_Fl RX8 163 3 3 := ⟨RX3, TX3, 10, tyX3, zc_X3, by decide, zm 171 (by decide +kernel) rfl⟩
theorem zf_X8_166 : zw_Fl RX8 166 3 4 := ⟨RX3, TX3, 10, tyX3, zc_X3, by decide, zm 174 (by decide +kernel) rfl⟩
theorem zf_X8_212 : zw_Fl RX8 212 4 4 := ⟨RX4, TX4, 6, tyX4, zc_X4, by decide, zm 273 (by decide +kernel) rfl⟩
theorem zp_X8_212 : zw_Fp RX8 212 4 4 .int := ⟨RX4, TX4, 6, tyX4, zc_X4, by decide, zm 273 (by decide +kernel) rfl, rfl, rfl⟩
theorem zf_X8_215 : zw_Fl RX8 215 4 5 := ⟨RX4, TX4, 6, tyX4, zc_X4, by decide, zm 275 (by decide +kernel) rfl⟩
theorem zp_X8_215 : zw_Fp RX8 215 4 5 .int := ⟨RX4, TX4, 6, tyX4, zc_X4, by decide, zm 275 (by decide +kernel) rfl, rfl, rfl⟩
theorem zf_X0_14 : zw_Fl RX0 14 0 0 := ⟨RX0, TX0, 3, tyX0, zc_X0, by decide, zm 229 (by decide +kernel) rfl⟩
theorem zf_X0_20 : zw_Fl RX0 20 0 1 := ⟨RX0, TX0, 3, tyX0, zc_X0, by decide, zm 230 (by decide +kernel) rfl⟩
theorem zp_X0_20 : zw_Fp RX0 20 0 1 .int := ⟨RX0, TX0, 3, tyX0, zc_X0, by decide, zm 230 (by decide +kernel) rfl, rfl, rfl⟩
theorem zf_X0_24 : zw_Fl RX0 24 0 2 := ⟨RX0, TX0, 3, tyX0, zc_X0, by decide, zm 231 (by decide +kernel) rfl⟩
theorem zp_X0_24 : zw_Fp RX0 24 0 2 .int := ⟨RX0, TX0, 3, tyX0, zc_X0, by decide, zm 231 (by decide +kernel) rfl, rfl, rfl⟩
theorem zf_X1_9 : zw_Fl RX1 9 1 0 := ⟨RX1, TX1, 3, tyX1, zc_X1, by decide, zm 295 (by decide +kernel) rfl⟩
theorem zf_X1_15 : zw_Fl RX1 15 1 1 := ⟨RX1, TX1, 3, tyX1, zc_X1, by decide, zm 296 (by decide +kernel) rfl⟩
theorem zf_X1_19 : zw_Fl RX1 19 1 2 := ⟨RX1, TX1, 3, tyX1, zc_X1, by decide, zm 297 (by decide +kernel) rfl⟩
theorem zf_X1_35 : zw_Fl RX1 35 3 6 := ⟨RX3, TX3, 10, tyX3, zc_X3, by decide, zm 179 (by decide +kernel) rfl⟩
theorem zp_X1_35 : zw_Fp RX1 35 3 6 .int := ⟨RX3, TX3, 10, tyX3, zc_X3, by decide, zm 179 (by decide +kernel) rfl, rfl, rfl⟩
theorem zf_X1_39 : zw_Fl RX1 39 3 7 := ⟨RX3, TX3, 10, tyX3, zc_X3, by decide, zm 185 (by decide +kernel) rfl⟩
theorem zp_X1_39 : zw_Fp RX1 39 3 7 .int := ⟨RX3, TX3, 10, tyX3, zc_X3, by decide, zm 185 (by decide +kernel) rfl, rfl, rfl⟩
theorem zf_X1_52 : zw_Fl RX1 52 2 3 := ⟨RX2, TX2, 9, tyX2, zc_X2, by decide, zm 119 (by decide +kernel) rfl⟩
theorem zp_X1_52 : zw_Fp RX1 52 2 3 .int := ⟨RX2, TX2, 9, tyX2, zc_X2, by decide, zm 119 (by decide +kernel) rfl, rfl, rfl⟩
theorem zf_X1_68 : zw_Fl RX1 68 3 2 := ⟨RX3, TX3, 10, tyX3, zc_X3, by decide, zm 167 (by decide +kernel) rfl⟩
theorem zf_X1_76 : zw_Fl RX1 76 3 9 := ⟨RX3, TX3, 10, tyX3, zc_X3, by decide, zm 191 (by decide +kernel) rfl⟩
theorem zp_X1_76 : zw_Fp RX1 76 3 9 .int := ⟨RX3, TX3, 10, tyX3, zc_X3, by decide, zm 191 (by decide +kernel) rfl, rfl, rfl⟩
theorem zf_X2_9 : zw_Fl RX2 9 2 0 := ⟨RX2, TX2, 9, tyX2, zc_X2, by decide, zm 106 (by decide +kernel) rfl⟩
theorem zf_X2_15 : zw_Fl RX2 15 2 1 := ⟨RX2, TX2, 9, tyX2, zc_X2, by decide, zm 109 (by decide +kernel) rfl⟩
theorem zf_X2_18 : zw_Fl RX2 18 2 2 := ⟨RX2, TX2, 9, tyX2, zc_X2, by decide, zm 112 (by decide +kernel) rfl⟩
theorem zp_X2_18 : zw_Fp RX2 18 2 2 .int := ⟨RX2, TX2, 9, tyX2, zc_X2, by decide, zm 112 (by decide +kernel) rfl, rfl, rfl⟩
theorem zf_X2_22 : zw_Fl RX2 22 2 3 := ⟨RX2, TX2, 9, tyX2, zc_X2, by decide, zm 116 (by decide +kernel) rfl⟩
theorem zp_X2_22 : zw_Fp RX2 22 2 3 .int := ⟨RX2, TX2, 9, tyX2, zc_X2, by decide, zm 116 (by decide +kernel) rfl, rfl, rfl⟩
theorem zf_X2_25 : zw_Fl RX2 25 2 4 := ⟨RX2, TX2, 9, tyX2, zc_X2, by decide, zm 120 (by decide +kernel) rfl⟩
theorem zp_X2_25 : zw_Fp RX2 25 2 4 .int := ⟨RX2, TX2, 9, tyX2, zc_X2, by decide, zm 120 (by decide +kernel) rfl, rfl, rfl⟩
theorem zf_X2_28 : zw_Fl RX2 28 2 5 := ⟨RX2, TX2, 9, tyX2, zc_X2, by decide, zm 122 (by decide +kernel) rfl⟩
theorem zp_X2_28 : zw_Fp RX2 28 2 5 .int := ⟨RX2, TX2, 9, tyX2, zc_X2, by decide, zm 122 (by decide +kernel) rfl, rfl, rfl⟩
theorem zf_X2_31 : zw_Fl RX2 31 2 6 := ⟨RX2, TX2, 9, tyX2, zc_X2, by decide, zm 124 (by decide +kernel) rfl⟩
theorem zp_X2_31 : zw_Fp RX2 31 2 6 .int := ⟨RX2, TX2, 9, tyX2, zc_X2, by decide, zm 124 (by decide +kernel) rfl, rfl, rfl⟩
theorem zf_X2_34 : zw_Fl RX2 34 2 7 := ⟨RX2, TX2, 9, tyX2, zc_X2, by decide, zm 127 (by decide +kernel) rfl⟩
theorem zp_X2_34 : zw_Fp RX2 34 2 7 .int := ⟨RX2, TX2, 9, tyX2, zc_X2, by decide, zm 127 (by decide +kernel) rfl, rfl, rfl⟩
theorem zf_X2_37 : zw_Fl RX2 37 2 8 := ⟨RX2, TX2, 9, tyX2, zc_X2, by decide, zm 130 (by decide +kernel) rfl⟩
theorem zp_X2_37 : zw_Fp RX2 37 2 8 .int := ⟨RX2, TX2, 9, tyX2, zc_X2, by decide, zm 130 (by decide +kernel) rfl, rfl, rfl⟩
theorem zf_X2_40 : zw_Fl RX2 40 7 1 := ⟨RX7, TX7, 2, tyX7, zc_X7, by decide, zm 93 (by decide +kernel) rfl⟩
theorem zp_X2_40 : zw_Fp RX2 40 7 1 .int := ⟨RX7, TX7, 2, tyX7, zc_X7, by decide, zm 93 (by decide +kernel) rfl, rfl, rfl⟩
theorem zf_X2_45 : zw_Fl RX2 45 7 0 := ⟨RX7, TX7, 2, tyX7, zc_X7, by decide, zm 90 (by decide +kernel) rfl⟩
theorem zf_X3_9 : zw_Fl RX3 9 3 1 := ⟨RX3, TX3, 10, tyX3, zc_X3, by decide, zm 161 (by decide +kernel) rfl⟩
theorem zf_X3_15 : zw_Fl RX3 15 3 2 := ⟨RX3, TX3, 10, tyX3, zc_X3, by decide, zm 165 (by decide +kernel) rfl⟩
theorem zf_X3_18 : zw_Fl RX3 18 3 3 := ⟨RX3, TX3, 10, tyX3, zc_X3, by decide, zm 169 (by decide +kernel) rfl⟩
theorem zf_X3_21 : zw_Fl RX3 21 3 4 := ⟨RX3, TX3, 10, tyX3, zc_X3, by decide, zm 172 (by decide +kernel) rfl⟩
theorem zf_X3_24 : zw_Fl RX3 24 3 0 := ⟨RX3, TX3, 10, tyX3, zc_X3, by decide, zm 160 (by decide +kernel) rfl⟩
theorem zf_X3_31 : zw_Fl RX3 31 2 3 := ⟨RX2, TX2, 9, tyX2, zc_X2, by decide, zm 117 (by decide +kernel) rfl⟩
theorem zp_X3_31 : zw_Fp RX3 31 2 3 .int := ⟨RX2, TX2, 9, tyX2, zc_X2, by decide, zm 117 (by decide +kernel) rfl, rfl, rfl⟩
theorem zf_X3_37 : zw_Fl RX3 37 2 4 := ⟨RX2, TX2, 9, tyX2, zc_X2, by decide, zm 121 (by decide +kernel) rfl⟩
theorem zp_X3_37 : zw_Fp RX3 37 2 4 .int := ⟨RX2, TX2, 9, tyX2, zc_X2, by decide, zm 121 (by decide +kernel) rfl, rfl, rfl⟩
theorem zf_X3_40 : zw_Fl RX3 40 3 5 := ⟨RX3, TX3, 10, tyX3, zc_X3, by decide, zm 175 (by decide +kernel) rfl⟩
theorem zp_X3_40 : zw_Fp RX3 40 3 5 .int := ⟨RX3, TX3, 10, tyX3, zc_X3, by decide, zm 175 (by decide +kernel) rfl, rfl, rfl⟩
theorem zf_X3_41 : zw_Fl RX3 41 2 5 := ⟨RX2, TX2, 9, tyX2, zc_X2, by decide, zm 123 (by decide +kernel) rfl⟩
theorem zp_X3_41 : zw_Fp RX3 41 2 5 .int := ⟨RX2, TX2, 9, tyX2, zc_X2, by decide, zm 123 (by decide +kernel) rfl, rfl, rfl⟩
theorem zf_X3_44 : zw_Fl RX3 44 3 6 := ⟨RX3, TX3, 10, tyX3, zc_X3, by decide, zm 178 (by decide +kernel) rfl⟩
theorem zp_X3_44 : zw_Fp RX3 44 3 6 .int := ⟨RX3, TX3, 10, tyX3, zc_X3, by decide, zm 178 (by decide +kernel) rfl, rfl, rfl⟩
theorem zf_X3_45 : zw_Fl RX3 45 3 7 := ⟨RX3, TX3, 10, tyX3, zc_X3, by decide, zm 183 (by decide +kernel) rfl⟩
theorem zp_X3_45 : zw_Fp RX3 45 3 7 .int := ⟨RX3, TX3, 10, tyX3, zc_X3, by decide, zm 183 (by decide +kernel) rfl, rfl, rfl⟩
theorem zf_X3_48 : zw_Fl RX3 48 3 8 := ⟨RX3, TX3, 10, tyX3, zc_X3, by decide, zm 187 (by decide +kernel) rfl⟩
theorem zp_X3_48 : zw_Fp RX3 48 3 8 .int := ⟨RX3, TX3, 10, tyX3, zc_X3, by decide, zm 187 (by decide +kernel) rfl, rfl, rfl⟩
theorem zf_X3_51 : zw_Fl RX3 51 3 9 := ⟨RX3, TX3, 10, tyX3, zc_X3, by decide, zm 190 (by decide +kernel) rfl⟩
theorem zp_X3_51 : zw_Fp RX3 51 3 9 .int := ⟨RX3, TX3, 10, tyX3, zc_X3, by decide, zm 190 (by decide +kernel) rfl, rfl, rfl⟩
theorem zf_X3_60 : zw_Fl RX3 60 2 0 := ⟨RX2, TX2, 9, tyX2, zc_X2, by decide, zm 108 (by decide +kernel) rfl⟩
theorem zf_X3_85 : zw_Fl RX3 85 2 2 := ⟨RX2, TX2, 9, tyX2, zc_X2, by decide, zm 115 (by decide +kernel) rfl⟩
theorem zp_X3_85 : zw_Fp RX3 85 2 2 .int := ⟨RX2, TX2, 9, tyX2, zc_X2, by decide, zm 115 (by decide +kernel) rfl, rfl, rfl⟩
theorem zf_X3_100 : zw_Fl RX3 100 2 6 := ⟨RX2, TX2, 9, tyX2, zc_X2, by decide, zm 126 (by decide +kernel) rfl⟩
theorem zp_X3_100 : zw_Fp RX3 100 2 6 .int := ⟨RX2, TX2, 9, tyX2, zc_X2, by decide, zm 126 (by decide +kernel) rfl, rfl, rfl⟩
theorem zf_X3_118 : zw_Fl RX3 118 2 7 := ⟨RX2, TX2, 9, tyX2, zc_X2, by decide, zm 129 (by decide +kernel) rfl⟩
theorem zp_X3_118 : zw_Fp RX3 118 2 7 .int := ⟨RX2, TX2, 9, tyX2, zc_X2, by decide, zm 129 (by decide +kernel) rfl, rfl, rfl⟩
theorem zf_X3_125 : zw_Fl RX3 125 2 1 := ⟨RX2, TX2, 9, tyX2, zc_X2, by decide, zm 111 (by decide +kernel) rfl⟩
theorem zf_X4_9 : zw_Fl RX4 9 4 3 := ⟨RX4, TX4, 6, tyX4, zc_X4, by decide, zm 271 (by decide +kernel) rfl⟩
theorem zf_X4_15 : zw_Fl RX4 15 4 4 := ⟨RX4, TX4, 6, tyX4, zc_X4, by decide, zm 272 (by decide +kernel) rfl⟩
theorem zp_X4_15 : zw_Fp RX4 15 4 4 .int := ⟨RX4, TX4, 6, tyX4, zc_X4, by decide, zm 272 (by decide +kernel) rfl, rfl, rfl⟩
theorem zf_X4_19 : zw_Fl RX4 19 4 5 := ⟨RX4, TX4, 6, tyX4, zc_X4, by decide, zm 274 (by decide +kernel) rfl⟩
theorem zp_X4_19 : zw_Fp RX4 19 4 5 .int := ⟨RX4, TX4, 6, tyX4, zc_X4, by decide, zm 274 (by decide +kernel) rfl, rfl, rfl⟩
theorem zf_X4_22 : zw_Fl RX4 22 4 0 := ⟨RX4, TX4, 6, tyX4, zc_X4, by decide, zm 268 (by decide +kernel) rfl⟩
theorem zf_X4_26 : zw_Fl RX4 26 4 1 := ⟨RX4, TX4, 6, tyX4, zc_X4, by decide, zm 269 (by decide +kernel) rfl⟩
theorem zf_X4_30 : zw_Fl RX4 30 4 2 := ⟨RX4, TX4, 6, tyX4, zc_X4, by decide, zm 270 (by decide +kernel) rfl⟩
theorem zf_X4_43 : zw_Fl RX4 43 3 7 := ⟨RX3, TX3, 10, tyX3, zc_X3, by decide, zm 182 (by decide +kernel) rfl⟩
theorem zp_X4_43 : zw_Fp RX4 43 3 7 .int := ⟨RX3, TX3, 10, tyX3, zc_X3, by decide, zm 182 (by decide +kernel) rfl, rfl, rfl⟩
theorem zf_X4_46 : zw_Fl RX4 46 2 2 := ⟨RX2, TX2, 9, tyX2, zc_X2, by decide, zm 113 (by decide +kernel) rfl⟩
theorem zp_X4_46 : zw_Fp RX4 46 2 2 .int := ⟨RX2, TX2, 9, tyX2, zc_X2, by decide, zm 113 (by decide +kernel) rfl, rfl, rfl⟩
theorem zf_X4_62 : zw_Fl RX4 62 3 1 := ⟨RX3, TX3, 10, tyX3, zc_X3, by decide, zm 163 (by decide +kernel) rfl⟩
theorem zf_X5_11 : zw_Fl RX5 11 5 0 := ⟨RX5, TX5, 1, tyX5, zc_X5, by decide, zm 225 (by decide +kernel) rfl⟩
theorem zf_X5_19 : zw_Fl RX5 19 3 1 := ⟨RX3, TX3, 10, tyX3, zc_X3, by decide, zm 162 (by decide +kernel) rfl⟩
theorem zf_X5_30 : zw_Fl RX5 30 3 2 := ⟨RX3, TX3, 10, tyX3, zc_X3, by decide, zm 166 (by decide +kernel) rfl⟩
theorem zf_X5_33 : zw_Fl RX5 33 3 3 := ⟨RX3, TX3, 10, tyX3, zc_X3, by decide, zm 170 (by decide +kernel) rfl⟩
theorem zf_X5_36 : zw_Fl RX5 36 3 4 := ⟨RX3, TX3, 10, tyX3, zc_X3, by decide, zm 173 (by decide +kernel) rfl⟩
theorem zf_X5_39 : zw_Fl RX5 39 3 5 := ⟨RX3, TX3, 10, tyX3, zc_X3, by decide, zm 176 (by decide +kernel) rfl⟩
theorem zp_X5_39 : zw_Fp RX5 39 3 5 .int := ⟨RX3, TX3, 10, tyX3, zc_X3, by decide, zm 176 (by decide +kernel) rfl, rfl, rfl⟩
theorem zf_X5_43 : zw_Fl RX5 43 3 6 := ⟨RX3, TX3, 10, tyX3, zc_X3, by decide, zm 180 (by decide +kernel) rfl⟩
theorem zp_X5_43 : zw_Fp RX5 43 3 6 .int := ⟨RX3, TX3, 10, tyX3, zc_X3, by decide, zm 180 (by decide +kernel) rfl, rfl, rfl⟩
theorem zf_X5_46 : zw_Fl RX5 46 3 7 := ⟨RX3, TX3, 10, tyX3, zc_X3, by decide, zm 184 (by decide +kernel) rfl⟩
theorem zp_X5_46 : zw_Fp RX5 46 3 7 .int := ⟨RX3, TX3, 10, tyX3, zc_X3, by decide, zm 184 (by decide +kernel) rfl, rfl, rfl⟩
theorem zf_X5_49 : zw_Fl RX5 49 3 8 := ⟨RX3, TX3, 10, tyX3, zc_X3, by decide, zm 188 (by decide +kernel) rfl⟩
theorem zp_X5_49 : zw_Fp RX5 49 3 8 .int := ⟨RX3, TX3, 10, tyX3, zc_X3, by decide, zm 188 (by decide +kernel) rfl, rfl, rfl⟩
theorem zf_X6_9 : zw_Fl RX6 9 6 0 := ⟨RX6, TX6, 4, tyX6, zc_X6, by decide, zm 248 (by decide +kernel) rfl⟩
theorem zf_X6_15 : zw_Fl RX6 15 6 1 := ⟨RX6, TX6, 4, tyX6, zc_X6, by decide, zm 249 (by decide +kernel) rfl⟩
theorem zf_X6_18 : zw_Fl RX6 18 6 2 := ⟨RX6, TX6, 4, tyX6, zc_X6, by decide, zm 250 (by decide +kernel) rfl⟩
theorem zf_X6_21 : zw_Fl RX6 21 6 3 := ⟨RX6, TX6, 4, tyX6, zc_X6, by decide, zm 251 (by decide +kernel) rfl⟩
theorem zp_X6_21 : zw_Fp RX6 21 6 3 .int := ⟨RX6, TX6, 4, tyX6, zc_X6, by decide, zm 251 (by decide +kernel) rfl, rfl, rfl⟩
theorem zf_X7_9 : zw_Fl RX7 9 7 0 := ⟨RX7, TX7, 2, tyX7, zc_X7, by decide, zm 89 (by decide +kernel) rfl⟩
theorem zf_X7_15 : zw_Fl RX7 15 7 1 := ⟨RX7, TX7, 2, tyX7, zc_X7, by decide, zm 91 (by decide +kernel) rfl⟩
theorem zp_X7_15 : zw_Fp RX7 15 7 1 .int := ⟨RX7, TX7, 2, tyX7, zc_X7, by decide, zm 91 (by decide +kernel) rfl, rfl, rfl⟩
theorem zf_X9_7 : zw_Fl RX9 7 9 1 := ⟨RX9, TX9, 38, tyX9, zc_X9, by decide, zm 786 (by decide +kernel) rfl⟩
theorem zf_X9_13 : zw_Fl RX9 13 9 7 := ⟨RX9, TX9, 38, tyX9, zc_X9, by decide, zm 792 (by decide +kernel) rfl⟩
theorem zf_X9_16 : zw_Fl RX9 16 9 9 := ⟨RX9, TX9, 38, tyX9, zc_X9, by decide, zm 794 (by decide +kernel) rfl⟩
theorem zf_X9_19 : zw_Fl RX9 19 9 14 := ⟨RX9, TX9, 38, tyX9, zc_X9, by decide, zm 799 (by decide +kernel) rfl⟩
theorem zf_X9_22 : zw_Fl RX9 22 9 16 := ⟨RX9, TX9, 38, tyX9, zc_X9, by decide, zm 801 (by decide +kernel) rfl⟩
theorem zf_X9_25 : zw_Fl RX9 25 9 18 := ⟨RX9, TX9, 38, tyX9, zc_X9, by decide, zm 803 (by decide +kernel) rfl⟩
theorem zf_X9_28 : zw_Fl RX9 28 9 19 := ⟨RX9, TX9, 38, tyX9, zc_X9, by decide, zm 804 (by decide +kernel) rfl⟩
theorem zf_X9_31 : zw_Fl RX9 31 9 20 := ⟨RX9, TX9, 38, tyX9, zc_X9, by decide, zm 805 (by decide +kernel) rfl⟩
theorem zf_X9_34 : zw_Fl RX9 34 9 22 := ⟨RX9, TX9, 38, tyX9, zc_X9, by decide, zm 807 (by decide +kernel) rfl⟩
theorem zf_X9_37 : zw_Fl RX9 37 9 23 := ⟨RX9, TX9, 38, tyX9, zc_X9, by decide, zm 808 (by decide +kernel) rfl⟩
theorem zf_X9_41 : zw_Fl RX9 41 9 25 := ⟨RX9, TX9, 38, tyX9, zc_X9, by decide, zm 810 (by decide +kernel) rfl⟩
theorem zf_X9_44 : zw_Fl RX9 44 9 26 := ⟨RX9, TX9, 38, tyX9, zc_X9, by decide, zm 811 (by decide +kernel) rfl⟩
theorem zf_X9_47 : zw_Fl RX9 47 9 27 := ⟨RX9, TX9, 38, tyX9, zc_X9, by decide, zm 812 (by decide +kernel) rfl⟩
theorem zf_X9_50 : zw_Fl RX9 50 9 35 := ⟨RX9, TX9, 38, tyX9, zc_X9, by decide, zm 820 (by decide +kernel) rfl⟩
theorem zf_X9_53 : zw_Fl RX9 53 9 36 := ⟨RX9, TX9, 38, tyX9, zc_X9, by decide, zm 821 (by decide +kernel) rfl⟩
theorem zf_X9_56 : zw_Fl RX9 56 9 37 := ⟨RX9, TX9, 38, tyX9, zc_X9, by decide, zm 822 (by decide +kernel) rfl⟩
theorem zf_X9_59 : zw_Fl RX9 59 9 0 := ⟨RX9, TX9, 38, tyX9, zc_X9, by decide, zm 785 (by decide +kernel) rfl⟩
theorem zp_X9_59 : zw_Fp RX9 59 9 0 .int := ⟨RX9, TX9, 38, tyX9, zc_X9, by decide, zm 785 (by decide +kernel) rfl, rfl, rfl⟩
theorem zf_X9_63 : zw_Fl RX9 63 9 6 := ⟨RX9, TX9, 38, tyX9, zc_X9, by decide, zm 791 (by decide +kernel) rfl⟩
theorem zp_X9_63 : zw_Fp RX9 63 9 6 .int := ⟨RX9, TX9, 38, tyX9, zc_X9, by decide, zm 791 (by decide +kernel) rfl, rfl, rfl⟩
theorem zf_X9_70 : zw_Fl RX9 70 9 8 := ⟨RX9, TX9, 38, tyX9, zc_X9, by decide, zm 793 (by decide +kernel) rfl⟩
theorem zp_X9_70 : zw_Fp RX9 70 9 8 .int := ⟨RX9, TX9, 38, tyX9, zc_X9, by decide, zm 793 (by decide +kernel) rfl, rfl, rfl⟩
theorem zf_X9_75 : zw_Fl RX9 75 9 2 := ⟨RX9, TX9, 38, tyX9, zc_X9, by decide, zm 787 (by decide +kernel) rfl⟩
theorem zp_X9_75 : zw_Fp RX9 75 9 2 .int := ⟨RX9, TX9, 38, tyX9, zc_X9, by decide, zm 787 (by decide +kernel) rfl, rfl, rfl⟩
theorem zf_X9_78 : zw_Fl RX9 78 9 3 := ⟨RX9, TX9, 38, tyX9, zc_X9, by decide, zm 788 (by decide +kernel) rfl⟩
theorem zp_X9_78 : zw_Fp RX9 78 9 3 .int := ⟨RX9, TX9, 38, tyX9, zc_X9, by decide, zm 788 (by decide +kernel) rfl, rfl, rfl⟩
theorem zf_X9_85 : zw_Fl RX9 85 9 13 := ⟨RX9, TX9, 38, tyX9, zc_X9, by decide, zm 798 (by decide +kernel) rfl⟩
theorem zp_X9_85 : zw_Fp RX9 85 9 13 .int := ⟨RX9, TX9, 38, tyX9, zc_X9, by decide, zm 798 (by decide +kernel) rfl, rfl, rfl⟩
theorem zf_X9_88 : zw_Fl RX9 88 9 15 := ⟨RX9, TX9, 38, tyX9, zc_X9, by decide, zm 800 (by decide +kernel) rfl⟩
theorem zp_X9_88 : zw_Fp RX9 88 9 15 .int := ⟨RX9, TX9, 38, tyX9, zc_X9, by decide, zm 800 (by decide +kernel) rfl, rfl, rfl⟩
theorem zf_X9_91 : zw_Fl RX9 91 9 17 := ⟨RX9, TX9, 38, tyX9, zc_X9, by decide, zm 802 (by decide +kernel) rfl⟩
theorem zp_X9_91 : zw_Fp RX9 91 9 17 .int := ⟨RX9, TX9, 38, tyX9, zc_X9, by decide, zm 802 (by decide +kernel) rfl, rfl, rfl⟩
theorem zf_X9_101 : zw_Fl RX9 101 9 11 := ⟨RX9, TX9, 38, tyX9, zc_X9, by decide, zm 796 (by decide +kernel) rfl⟩
theorem zp_X9_101 : zw_Fp RX9 101 9 11 .int := ⟨RX9, TX9, 38, tyX9, zc_X9, by decide, zm 796 (by decide +kernel) rfl, rfl, rfl⟩
theorem zf_X9_104 : zw_Fl RX9 104 9 12 := ⟨RX9, TX9, 38, tyX9, zc_X9, by decide, zm 797 (by decide +kernel) rfl⟩
theorem zp_X9_104 : zw_Fp RX9 104 9 12 .int := ⟨RX9, TX9, 38, tyX9, zc_X9, by decide, zm 797 (by decide +kernel) rfl, rfl, rfl⟩
theorem zf_X9_107 : zw_Fl RX9 107 9 10 := ⟨RX9, TX9, 38, tyX9, zc_X9, by decide, zm 795 (by decide +kernel) rfl⟩
theorem zp_X9_107 : zw_Fp RX9 107 9 10 .int := ⟨RX9, TX9, 38, tyX9, zc_X9, by decide, zm 795 (by decide +kernel) rfl, rfl, rfl⟩
theorem zf_X9_120 : zw_Fl RX9 120 9 4 := ⟨RX9, TX9, 38, tyX9, zc_X9, by decide, zm 789 (by decide +kernel) rfl⟩
theorem zp_X9_120 : zw_Fp RX9 120 9 4 .int := ⟨RX9, TX9, 38, tyX9, zc_X9, by decide, zm 789 (by decide +kernel) rfl, rfl, rfl⟩
theorem zf_X9_123 : zw_Fl RX9 123 9 5 := ⟨RX9, TX9, 38, tyX9, zc_X9, by decide, zm 790 (by decide +kernel) rfl⟩
theorem zp_X9_123 : zw_Fp RX9 123 9 5 .int := ⟨RX9, TX9, 38, tyX9, zc_X9, by decide, zm 790 (by decide +kernel) rfl, rfl, rfl⟩
theorem zf_X9_126 : zw_Fl RX9 126 9 21 := ⟨RX9, TX9, 38, tyX9, zc_X9, by decide, zm 806 (by decide +kernel) rfl⟩
theorem zp_X9_126 : zw_Fp RX9 126 9 21 .int := ⟨RX9, TX9, 38, tyX9, zc_X9, by decide, zm 806 (by decide +kernel) rfl, rfl, rfl⟩
theorem zf_X9_174 : zw_Fl RX9 174 9 24 := ⟨RX9, TX9, 38, tyX9, zc_X9, by decide, zm 809 (by decide +kernel) rfl⟩
theorem zp_X9_174 : zw_Fp RX9 174 9 24 .int := ⟨RX9, TX9, 38, tyX9, zc_X9, by decide, zm 809 (by decide +kernel) rfl, rfl, rfl⟩
theorem zf_X9_211 : zw_Fl RX9 211 9 29 := ⟨RX9, TX9, 38, tyX9, zc_X9, by decide, zm 814 (by decide +kernel) rfl⟩
theorem zp_X9_211 : zw_Fp RX9 211 9 29 .int := ⟨RX9, TX9, 38, tyX9, zc_X9, by decide, zm 814 (by decide +kernel) rfl, rfl, rfl⟩
theorem zf_X9_214 : zw_Fl RX9 214 9 30 := ⟨RX9, TX9, 38, tyX9, zc_X9, by decide, zm 815 (by decide +kernel) rfl⟩
theorem zp_X9_214 : zw_Fp RX9 214 9 30 .int := ⟨RX9, TX9, 38, tyX9, zc_X9, by decide, zm 815 (by decide +kernel) rfl, rfl, rfl⟩
theorem zf_X9_260 : zw_Fl RX9 260 9 31 := ⟨RX9, TX9, 38, tyX9, zc_X9, by decide, zm 816 (by decide +kernel) rfl⟩
theorem zp_X9_260 : zw_Fp RX9 260 9 31 .int := ⟨RX9, TX9, 38, tyX9, zc_X9, by decide, zm 816 (by decide +kernel) rfl, rfl, rfl⟩
theorem zf_X9_263 : zw_Fl RX9 263 9 32 := ⟨RX9, TX9, 38, tyX9, zc_X9, by decide, zm 817 (by decide +kernel) rfl⟩
theorem zp_X9_263 : zw_Fp RX9 263 9 32 .int := ⟨RX9, TX9, 38, tyX9, zc_X9, by decide, zm 817 (by decide +kernel) rfl, rfl, rfl⟩
theorem zf_X9_270 : zw_Fl RX9 270 9 33 := ⟨RX9, TX9, 38, tyX9, zc_X9, by decide, zm 818 (by decide +kernel) rfl⟩
theorem zp_X9_270 : zw_Fp RX9 270 9 33 .int := ⟨RX9, TX9, 38, tyX9, zc_X9, by decide, zm 818 (by decide +kernel) rfl, rfl, rfl⟩
theorem zf_X9_273 : zw_Fl RX9 273 9 34 := ⟨RX9, TX9, 38, tyX9, zc_X9, by decide, zm 819 (by decide +kernel) rfl⟩
theorem zp_X9_273 : zw_Fp RX9 273 9 34 .int := ⟨RX9, TX9, 38, tyX9, zc_X9, by decide, zm 819 (by decide +kernel) rfl, rfl, rfl⟩
theorem zf_X9_281 : zw_Fl RX9 281 9 28 := ⟨RX9, TX9, 38, tyX9, zc_X9, by decide, zm 813 (by decide +kernel) rfl⟩
theorem zp_X9_281 : zw_Fp RX9 281 9 28 .long := ⟨RX9, TX9, 38, tyX9, zc_X9, by decide, zm 813 (by decide +kernel) rfl, rfl, rfl⟩
def mt_J6_bitCount_0f7a4 : zw_Mt := (yJ6_bitCount_0f7a4, cJ6_bitCount_0f7a4, 1, (some .int), 0, 0)
theorem zv_J6_bitCount_0f7a4 : zw_Ms mt_J6_bitCount_0f7a4 1 := ⟨⟨zm 534 (by decide +kernel) rfl, zm 74 (by decide +kernel) rfl, by decide +kernel, by decide +kernel, by decide +kernel⟩, zm 533 (by decide +kernel) rfl⟩
def mt_J9_abs_0f7a4 : zw_Mt := (yJ9_abs_0f7a4, cJ9_abs_0f7a4, 1, (some .int), 0, 0)
theorem zv_J9_abs_0f7a4 : zw_Ms mt_J9_abs_0f7a4 1 := ⟨⟨zm 687 (by decide +kernel) rfl, zm 73 (by decide +kernel) rfl, by decide +kernel, by decide +kernel, by decide +kernel⟩, zm 686 (by decide +kernel) rfl⟩
def mt_J9_max_7cf53 : zw_Mt := (yJ9_max_7cf53, cJ9_max_7cf53, 2, (some .int), 0, 0)
theorem zv_J9_max_7cf53 : zw_Ms mt_J9_max_7cf53 2 := ⟨⟨zm 482 (by decide +kernel) rfl, zm 73 (by decide +kernel) rfl, by decide +kernel, by decide +kernel, by decide +kernel⟩, zm 481 (by decide +kernel) rfl⟩
def mt_J9_min_7cf53 : zw_Mt := (yJ9_min_7cf53, cJ9_min_7cf53, 2, (some .int), 0, 0)
theorem zv_J9_min_7cf53 : zw_Ms mt_J9_min_7cf53 2 := ⟨⟨zm 497 (by decide +kernel) rfl, zm 73 (by decide +kernel) rfl, by decide +kernel, by decide +kernel, by decide +kernel⟩, zm 496 (by decide +kernel) rfl⟩
def mt_X2_hasPerson : zw_Mt := (yX2_hasPerson, cX2_hasPerson, 2, (some .boolean), 0, 0)
theorem zv_X2_hasPerson : zw_Mv mt_X2_hasPerson 1 := ⟨⟨zm 419 (by decide +kernel) rfl, zm 64 (by decide +kernel) rfl, by decide +kernel, by decide +kernel, by decide +kernel⟩, zm 417 (by decide +kernel) rfl, zm 418 (by decide +kernel) rfl⟩
def mt_X2_hasBucket : zw_Mt := (yX2_hasBucket, cX2_hasBucket, 2, (some .boolean), 0, 0)
theorem zv_X2_hasBucket : zw_Mv mt_X2_hasBucket 1 := ⟨⟨zm 439 (by decide +kernel) rfl, zm 64 (by decide +kernel) rfl, by decide +kernel, by decide +kernel, by decide +kernel⟩, zm 437 (by decide +kernel) rfl, zm 438 (by decide +kernel) rfl⟩
def mt_X2_openPart : zw_Mt := (yX2_openPart, cX2_openPart, 2, (some .boolean), 0, 0)
theorem zv_X2_openPart : zw_Mv mt_X2_openPart 1 := ⟨⟨zm 366 (by decide +kernel) rfl, zm 64 (by decide +kernel) rfl, by decide +kernel, by decide +kernel, by decide +kernel⟩, zm 365 (by decide +kernel) rfl, zm 1 (by decide +kernel) rfl⟩
def mt_X2_leastFigure : zw_Mt := (yX2_leastFigure, cX2_leastFigure, 1, (some .int), 0, 0)
theorem zv_X2_leastFigure : zw_Mv mt_X2_leastFigure 0 := ⟨⟨zm 370 (by decide +kernel) rfl, zm 64 (by decide +kernel) rfl, by decide +kernel, by decide +kernel, by decide +kernel⟩, zm 369 (by decide +kernel) rfl, zm 2 (by decide +kernel) rfl⟩
def mt_X2_mostFigure : zw_Mt := (yX2_mostFigure, cX2_mostFigure, 1, (some .int), 0, 0)
theorem zv_X2_mostFigure : zw_Mv mt_X2_mostFigure 0 := ⟨⟨zm 374 (by decide +kernel) rfl, zm 64 (by decide +kernel) rfl, by decide +kernel, by decide +kernel, by decide +kernel⟩, zm 373 (by decide +kernel) rfl, zm 3 (by decide +kernel) rfl⟩
def mt_X2_addPerson : zw_Mt := (yX2_addPerson, cX2_addPerson, 2, (some .boolean), 0, 0)
theorem zv_X2_addPerson : zw_Mv mt_X2_addPerson 1 := ⟨⟨zm 382 (by decide +kernel) rfl, zm 64 (by decide +kernel) rfl, by decide +kernel, by decide +kernel, by decide +kernel⟩, zm 381 (by decide +kernel) rfl, zm 5 (by decide +kernel) rfl⟩
def mt_X2_startBucket : zw_Mt := (yX2_startBucket, cX2_startBucket, 2, (some .boolean), 0, 0)
theorem zv_X2_startBucket : zw_Mv mt_X2_startBucket 1 := ⟨⟨zm 386 (by decide +kernel) rfl, zm 64 (by decide +kernel) rfl, by decide +kernel, by decide +kernel, by decide +kernel⟩, zm 385 (by decide +kernel) rfl, zm 6 (by decide +kernel) rfl⟩
def mt_X2_endBucket : zw_Mt := (yX2_endBucket, cX2_endBucket, 2, (some .boolean), 0, 0)
theorem zv_X2_endBucket : zw_Mv mt_X2_endBucket 1 := ⟨⟨zm 390 (by decide +kernel) rfl, zm 64 (by decide +kernel) rfl, by decide +kernel, by decide +kernel, by decide +kernel⟩, zm 389 (by decide +kernel) rfl, zm 7 (by decide +kernel) rfl⟩
def mt_X2_takeFigure : zw_Mt := (yX2_takeFigure, cX2_takeFigure, 2, (some .boolean), 1, 21)
theorem zv_X2_takeFigure : zw_Mv mt_X2_takeFigure 1 := ⟨⟨zm 378 (by decide +kernel) rfl, zm 64 (by decide +kernel) rfl, by decide +kernel, by decide +kernel, by decide +kernel⟩, zm 377 (by decide +kernel) rfl, zm 4 (by decide +kernel) rfl⟩
def mt_X2_takeLetter : zw_Mt := (yX2_takeLetter, cX2_takeLetter, 3, (some .boolean), 2, 42)
theorem zv_X2_takeLetter : zw_Mv mt_X2_takeLetter 1 := ⟨⟨zm 362 (by decide +kernel) rfl, zm 64 (by decide +kernel) rfl, by decide +kernel, by decide +kernel, by decide +kernel⟩, zm 361 (by decide +kernel) rfl, zm 0 (by decide +kernel) rfl⟩
def mt_X2_readFrom : zw_Mt := (yX2_readFrom, cX2_readFrom, 3, (some .int), 3, 64)
theorem zv_X2_readFrom : zw_Mv mt_X2_readFrom 1 := ⟨⟨zm 358 (by decide +kernel) rfl, zm 64 (by decide +kernel) rfl, by decide +kernel, by decide +kernel, by decide +kernel⟩, zm 356 (by decide +kernel) rfl, zm 357 (by decide +kernel) rfl⟩
def mt_X7_append : zw_Mt := (yX7_append, cX7_append, 2, (some .boolean), 0, 0)
theorem zv_X7_append : zw_Mv mt_X7_append 1 := ⟨⟨zm 346 (by decide +kernel) rfl, zm 63 (by decide +kernel) rfl, by decide +kernel, by decide +kernel, by decide +kernel⟩, zm 344 (by decide +kernel) rfl, zm 345 (by decide +kernel) rfl⟩
def mt_X3_setUp : zw_Mt := (yX3_setUp, cX3_setUp, 2, none, 0, 0)
theorem zv_X3_setUp : zw_Mv mt_X3_setUp 0 := ⟨⟨zm 159 (by decide +kernel) rfl, zm 65 (by decide +kernel) rfl, by decide +kernel, by decide +kernel, by decide +kernel⟩, zm 157 (by decide +kernel) rfl, zm 158 (by decide +kernel) rfl⟩
def mt_X3_copyFrom : zw_Mt := (yX3_copyFrom, cX3_copyFrom, 2, none, 1, 26)
theorem zv_X3_copyFrom : zw_Mv mt_X3_copyFrom 1 := ⟨⟨zm 577 (by decide +kernel) rfl, zm 65 (by decide +kernel) rfl, by decide +kernel, by decide +kernel, by decide +kernel⟩, zm 575 (by decide +kernel) rfl, zm 576 (by decide +kernel) rfl⟩
def mt_X3_standOf : zw_Mt := (yX3_standOf, cX3_standOf, 3, (some .int), 0, 0)
theorem zv_X3_standOf : zw_Mv mt_X3_standOf 1 := ⟨⟨zm 423 (by decide +kernel) rfl, zm 65 (by decide +kernel) rfl, by decide +kernel, by decide +kernel, by decide +kernel⟩, zm 421 (by decide +kernel) rfl, zm 422 (by decide +kernel) rfl⟩
def mt_X3_leastBucketAt : zw_Mt := (yX3_leastBucketAt, cX3_leastBucketAt, 3, (some .int), 0, 0)
theorem zv_X3_leastBucketAt : zw_Mv mt_X3_leastBucketAt 1 := ⟨⟨zm 431 (by decide +kernel) rfl, zm 65 (by decide +kernel) rfl, by decide +kernel, by decide +kernel, by decide +kernel⟩, zm 429 (by decide +kernel) rfl, zm 430 (by decide +kernel) rfl⟩
def mt_X3_bucketsAt : zw_Mt := (yX3_bucketsAt, cX3_bucketsAt, 4, (some .int), 0, 0)
theorem zv_X3_bucketsAt : zw_Mv mt_X3_bucketsAt 1 := ⟨⟨zm 411 (by decide +kernel) rfl, zm 65 (by decide +kernel) rfl, by decide +kernel, by decide +kernel, by decide +kernel⟩, zm 409 (by decide +kernel) rfl, zm 410 (by decide +kernel) rfl⟩
def mt_X3_holdingStands : zw_Mt := (yX3_holdingStands, cX3_holdingStands, 3, (some .int), 0, 0)
theorem zv_X3_holdingStands : zw_Mv mt_X3_holdingStands 0 := ⟨⟨zm 407 (by decide +kernel) rfl, zm 65 (by decide +kernel) rfl, by decide +kernel, by decide +kernel, by decide +kernel⟩, zm 405 (by decide +kernel) rfl, zm 406 (by decide +kernel) rfl⟩
def mt_X3_isHeld : zw_Mt := (yX3_isHeld, cX3_isHeld, 2, (some .boolean), 0, 0)
theorem zv_X3_isHeld : zw_Mv mt_X3_isHeld 1 := ⟨⟨zm 509 (by decide +kernel) rfl, zm 65 (by decide +kernel) rfl, by decide +kernel, by decide +kernel, by decide +kernel⟩, zm 507 (by decide +kernel) rfl, zm 508 (by decide +kernel) rfl⟩
def mt_X3_hasHole : zw_Mt := (yX3_hasHole, cX3_hasHole, 2, (some .boolean), 0, 0)
theorem zv_X3_hasHole : zw_Mv mt_X3_hasHole 1 := ⟨⟨zm 443 (by decide +kernel) rfl, zm 65 (by decide +kernel) rfl, by decide +kernel, by decide +kernel, by decide +kernel⟩, zm 441 (by decide +kernel) rfl, zm 442 (by decide +kernel) rfl⟩
def mt_X3_kindAt : zw_Mt := (yX3_kindAt, cX3_kindAt, 3, (some .int), 0, 0)
theorem zv_X3_kindAt : zw_Mv mt_X3_kindAt 1 := ⟨⟨zm 479 (by decide +kernel) rfl, zm 65 (by decide +kernel) rfl, by decide +kernel, by decide +kernel, by decide +kernel⟩, zm 478 (by decide +kernel) rfl, zm 11 (by decide +kernel) rfl⟩
def mt_X3_worksAt : zw_Mt := (yX3_worksAt, cX3_worksAt, 2, (some .boolean), 1, 22)
theorem zv_X3_worksAt : zw_Mv mt_X3_worksAt 1 := ⟨⟨zm 475 (by decide +kernel) rfl, zm 65 (by decide +kernel) rfl, by decide +kernel, by decide +kernel, by decide +kernel⟩, zm 474 (by decide +kernel) rfl, zm 10 (by decide +kernel) rfl⟩
def mt_X3_exchange : zw_Mt := (yX3_exchange, cX3_exchange, 5, none, 1, 22)
theorem zv_X3_exchange : zw_Mv mt_X3_exchange 2 := ⟨⟨zm 522 (by decide +kernel) rfl, zm 65 (by decide +kernel) rfl, by decide +kernel, by decide +kernel, by decide +kernel⟩, zm 520 (by decide +kernel) rfl, zm 521 (by decide +kernel) rfl⟩
def mt_X3_closeHole : zw_Mt := (yX3_closeHole, cX3_closeHole, 2, none, 0, 0)
theorem zv_X3_closeHole : zw_Mv mt_X3_closeHole 1 := ⟨⟨zm 531 (by decide +kernel) rfl, zm 65 (by decide +kernel) rfl, by decide +kernel, by decide +kernel, by decide +kernel⟩, zm 529 (by decide +kernel) rfl, zm 530 (by decide +kernel) rfl⟩
def mt_X3_sendBack : zw_Mt := (yX3_sendBack, cX3_sendBack, 2, none, 0, 0)
theorem zv_X3_sendBack : zw_Mv mt_X3_sendBack 1 := ⟨⟨zm 486 (by decide +kernel) rfl, zm 65 (by decide +kernel) rfl, by decide +kernel, by decide +kernel, by decide +kernel⟩, zm 485 (by decide +kernel) rfl, zm 12 (by decide +kernel) rfl⟩
def mt_X3_letFall : zw_Mt := (yX3_letFall, cX3_letFall, 2, none, 1, 21)
theorem zv_X3_letFall : zw_Mv mt_X3_letFall 1 := ⟨⟨zm 546 (by decide +kernel) rfl, zm 65 (by decide +kernel) rfl, by decide +kernel, by decide +kernel, by decide +kernel⟩, zm 544 (by decide +kernel) rfl, zm 545 (by decide +kernel) rfl⟩
def mt_X3_throwLast : zw_Mt := (yX3_throwLast, cX3_throwLast, 3, (some .int), 2, 43)
theorem zv_X3_throwLast : zw_Mv mt_X3_throwLast 0 := ⟨⟨zm 470 (by decide +kernel) rfl, zm 65 (by decide +kernel) rfl, by decide +kernel, by decide +kernel, by decide +kernel⟩, zm 469 (by decide +kernel) rfl, zm 9 (by decide +kernel) rfl⟩
def mt_X3_give : zw_Mt := (yX3_give, cX3_give, 4, none, 1, 22)
theorem zv_X3_give : zw_Mv mt_X3_give 3 := ⟨⟨zm 494 (by decide +kernel) rfl, zm 65 (by decide +kernel) rfl, by decide +kernel, by decide +kernel, by decide +kernel⟩, zm 493 (by decide +kernel) rfl, zm 14 (by decide +kernel) rfl⟩
def mt_X3_handOn : zw_Mt := (yX3_handOn, cX3_handOn, 4, none, 2, 45)
theorem zv_X3_handOn : zw_Mv mt_X3_handOn 1 := ⟨⟨zm 490 (by decide +kernel) rfl, zm 65 (by decide +kernel) rfl, by decide +kernel, by decide +kernel, by decide +kernel⟩, zm 489 (by decide +kernel) rfl, zm 13 (by decide +kernel) rfl⟩
def mt_X3_fillAtWell : zw_Mt := (yX3_fillAtWell, cX3_fillAtWell, 2, none, 2, 45)
theorem zv_X3_fillAtWell : zw_Mv mt_X3_fillAtWell 0 := ⟨⟨zm 501 (by decide +kernel) rfl, zm 65 (by decide +kernel) rfl, by decide +kernel, by decide +kernel, by decide +kernel⟩, zm 500 (by decide +kernel) rfl, zm 15 (by decide +kernel) rfl⟩
def mt_X3_leak : zw_Mt := (yX3_leak, cX3_leak, 2, none, 1, 21)
theorem zv_X3_leak : zw_Mv mt_X3_leak 0 := ⟨⟨zm 505 (by decide +kernel) rfl, zm 65 (by decide +kernel) rfl, by decide +kernel, by decide +kernel, by decide +kernel⟩, zm 504 (by decide +kernel) rfl, zm 16 (by decide +kernel) rfl⟩
def mt_X3_runBack : zw_Mt := (yX3_runBack, cX3_runBack, 3, none, 0, 0)
theorem zv_X3_runBack : zw_Mv mt_X3_runBack 1 := ⟨⟨zm 514 (by decide +kernel) rfl, zm 65 (by decide +kernel) rfl, by decide +kernel, by decide +kernel, by decide +kernel⟩, zm 513 (by decide +kernel) rfl, zm 17 (by decide +kernel) rfl⟩
def mt_X3_passBeat : zw_Mt := (yX3_passBeat, cX3_passBeat, 4, (some .int), 3, 68)
theorem zv_X3_passBeat : zw_Mv mt_X3_passBeat 0 := ⟨⟨zm 466 (by decide +kernel) rfl, zm 65 (by decide +kernel) rfl, by decide +kernel, by decide +kernel, by decide +kernel⟩, zm 464 (by decide +kernel) rfl, zm 465 (by decide +kernel) rfl⟩
def mt_X3_passBeats : zw_Mt := (yX3_passBeats, cX3_passBeats, 4, (some .int), 4, 91)
theorem zv_X3_passBeats : zw_Mv mt_X3_passBeats 1 := ⟨⟨zm 582 (by decide +kernel) rfl, zm 65 (by decide +kernel) rfl, by decide +kernel, by decide +kernel, by decide +kernel⟩, zm 580 (by decide +kernel) rfl, zm 581 (by decide +kernel) rfl⟩
def mt_X3_followChange : zw_Mt := (yX3_followChange, cX3_followChange, 3, (some .boolean), 2, 46)
theorem zv_X3_followChange : zw_Mv mt_X3_followChange 2 := ⟨⟨zm 654 (by decide +kernel) rfl, zm 65 (by decide +kernel) rfl, by decide +kernel, by decide +kernel, by decide +kernel⟩, zm 653 (by decide +kernel) rfl, zm 22 (by decide +kernel) rfl⟩
def mt_X3_followMend : zw_Mt := (yX3_followMend, cX3_followMend, 2, (some .boolean), 1, 21)
theorem zv_X3_followMend : zw_Mv mt_X3_followMend 1 := ⟨⟨zm 660 (by decide +kernel) rfl, zm 65 (by decide +kernel) rfl, by decide +kernel, by decide +kernel, by decide +kernel⟩, zm 659 (by decide +kernel) rfl, zm 23 (by decide +kernel) rfl⟩
def mt_X3_followDrop : zw_Mt := (yX3_followDrop, cX3_followDrop, 2, (some .boolean), 2, 42)
theorem zv_X3_followDrop : zw_Mv mt_X3_followDrop 1 := ⟨⟨zm 665 (by decide +kernel) rfl, zm 65 (by decide +kernel) rfl, by decide +kernel, by decide +kernel, by decide +kernel⟩, zm 664 (by decide +kernel) rfl, zm 24 (by decide +kernel) rfl⟩
def mt_X3_follow : zw_Mt := (yX3_follow, cX3_follow, 4, (some .boolean), 4, 91)
theorem zv_X3_follow : zw_Mv mt_X3_follow 3 := ⟨⟨zm 650 (by decide +kernel) rfl, zm 65 (by decide +kernel) rfl, by decide +kernel, by decide +kernel, by decide +kernel⟩, zm 648 (by decide +kernel) rfl, zm 649 (by decide +kernel) rfl⟩
def mt_X5_hasRow : zw_Mt := (yX5_hasRow, cX5_hasRow, 2, (some .boolean), 0, 0)
theorem zv_X5_hasRow : zw_Mv mt_X5_hasRow 1 := ⟨⟨zm 459 (by decide +kernel) rfl, zm 67 (by decide +kernel) rfl, by decide +kernel, by decide +kernel, by decide +kernel⟩, zm 458 (by decide +kernel) rfl, zm 8 (by decide +kernel) rfl⟩
def mt_X5_store : zw_Mt := (yX5_store, cX5_store, 4, none, 1, 26)
theorem zv_X5_store : zw_Mv mt_X5_store 2 := ⟨⟨zm 455 (by decide +kernel) rfl, zm 67 (by decide +kernel) rfl, by decide +kernel, by decide +kernel, by decide +kernel⟩, zm 453 (by decide +kernel) rfl, zm 454 (by decide +kernel) rfl⟩
def mt_X5_fetch : zw_Mt := (yX5_fetch, cX5_fetch, 4, none, 1, 26)
theorem zv_X5_fetch : zw_Mv mt_X5_fetch 2 := ⟨⟨zm 558 (by decide +kernel) rfl, zm 67 (by decide +kernel) rfl, by decide +kernel, by decide +kernel, by decide +kernel⟩, zm 556 (by decide +kernel) rfl, zm 557 (by decide +kernel) rfl⟩
def mt_X0_clear : zw_Mt := (yX0_clear, cX0_clear, 1, none, 0, 0)
theorem zv_X0_clear : zw_Mv mt_X0_clear 0 := ⟨⟨zm 399 (by decide +kernel) rfl, zm 66 (by decide +kernel) rfl, by decide +kernel, by decide +kernel, by decide +kernel⟩, zm 397 (by decide +kernel) rfl, zm 398 (by decide +kernel) rfl⟩
def mt_X0_remember : zw_Mt := (yX0_remember, cX0_remember, 2, none, 2, 49)
theorem zv_X0_remember : zw_Mv mt_X0_remember 1 := ⟨⟨zm 451 (by decide +kernel) rfl, zm 66 (by decide +kernel) rfl, by decide +kernel, by decide +kernel, by decide +kernel⟩, zm 449 (by decide +kernel) rfl, zm 450 (by decide +kernel) rfl⟩
def mt_X0_takeBack : zw_Mt := (yX0_takeBack, cX0_takeBack, 2, none, 2, 49)
theorem zv_X0_takeBack : zw_Mv mt_X0_takeBack 1 := ⟨⟨zm 554 (by decide +kernel) rfl, zm 66 (by decide +kernel) rfl, by decide +kernel, by decide +kernel, by decide +kernel⟩, zm 552 (by decide +kernel) rfl, zm 553 (by decide +kernel) rfl⟩
def mt_X6_add : zw_Mt := (yX6_add, cX6_add, 4, (some .boolean), 0, 0)
theorem zv_X6_add : zw_Mv mt_X6_add 3 := ⟨⟨zm 698 (by decide +kernel) rfl, zm 68 (by decide +kernel) rfl, by decide +kernel, by decide +kernel, by decide +kernel⟩, zm 696 (by decide +kernel) rfl, zm 697 (by decide +kernel) rfl⟩
def mt_X6_fits : zw_Mt := (yX6_fits, cX6_fits, 5, (some .boolean), 1, 21)
theorem zv_X6_fits : zw_Mv mt_X6_fits 2 := ⟨⟨zm 714 (by decide +kernel) rfl, zm 68 (by decide +kernel) rfl, by decide +kernel, by decide +kernel, by decide +kernel⟩, zm 713 (by decide +kernel) rfl, zm 26 (by decide +kernel) rfl⟩
def mt_X6_countFires : zw_Mt := (yX6_countFires, cX6_countFires, 3, (some .int), 2, 45)
theorem zv_X6_countFires : zw_Mv mt_X6_countFires 0 := ⟨⟨zm 710 (by decide +kernel) rfl, zm 68 (by decide +kernel) rfl, by decide +kernel, by decide +kernel, by decide +kernel⟩, zm 708 (by decide +kernel) rfl, zm 709 (by decide +kernel) rfl⟩
def mt_X6_firstFire : zw_Mt := (yX6_firstFire, cX6_firstFire, 2, (some .int), 2, 45)
theorem zv_X6_firstFire : zw_Mv mt_X6_firstFire 0 := ⟨⟨zm 719 (by decide +kernel) rfl, zm 68 (by decide +kernel) rfl, by decide +kernel, by decide +kernel, by decide +kernel⟩, zm 717 (by decide +kernel) rfl, zm 718 (by decide +kernel) rfl⟩
def mt_X8_write : zw_Mt := (yX8_write, cX8_write, 2, (some .int), 1, 21)
theorem zv_X8_write : zw_Mv mt_X8_write 1 := ⟨⟨zm 342 (by decide +kernel) rfl, zm 62 (by decide +kernel) rfl, by decide +kernel, by decide +kernel, by decide +kernel⟩, zm 340 (by decide +kernel) rfl, zm 341 (by decide +kernel) rfl⟩
def mt_X8_wipe : zw_Mt := (yX8_wipe, cX8_wipe, 2, (some .int), 0, 0)
theorem zv_X8_wipe : zw_Mv mt_X8_wipe 0 := ⟨⟨zm 350 (by decide +kernel) rfl, zm 62 (by decide +kernel) rfl, by decide +kernel, by decide +kernel, by decide +kernel⟩, zm 348 (by decide +kernel) rfl, zm 349 (by decide +kernel) rfl⟩
def mt_X8_fault : zw_Mt := (yX8_fault, cX8_fault, 1, (some .int), 4, 86)
theorem zv_X8_fault : zw_Mv mt_X8_fault 0 := ⟨⟨zm 354 (by decide +kernel) rfl, zm 62 (by decide +kernel) rfl, by decide +kernel, by decide +kernel, by decide +kernel⟩, zm 352 (by decide +kernel) rfl, zm 353 (by decide +kernel) rfl⟩
def mt_X8_night : zw_Mt := (yX8_night, cX8_night, 1, (some .int), 4, 86)
theorem zv_X8_night : zw_Mv mt_X8_night 0 := ⟨⟨zm 394 (by decide +kernel) rfl, zm 62 (by decide +kernel) rfl, by decide +kernel, by decide +kernel, by decide +kernel⟩, zm 392 (by decide +kernel) rfl, zm 393 (by decide +kernel) rfl⟩
def mt_X8_about : zw_Mt := (yX8_about, cX8_about, 2, (some .int), 1, 23)
theorem zv_X8_about : zw_Mv mt_X8_about 1 := ⟨⟨zm 403 (by decide +kernel) rfl, zm 62 (by decide +kernel) rfl, by decide +kernel, by decide +kernel, by decide +kernel⟩, zm 401 (by decide +kernel) rfl, zm 402 (by decide +kernel) rfl⟩
def mt_X8_person : zw_Mt := (yX8_person, cX8_person, 3, (some .int), 1, 22)
theorem zv_X8_person : zw_Mv mt_X8_person 2 := ⟨⟨zm 415 (by decide +kernel) rfl, zm 62 (by decide +kernel) rfl, by decide +kernel, by decide +kernel, by decide +kernel⟩, zm 413 (by decide +kernel) rfl, zm 414 (by decide +kernel) rfl⟩
def mt_X8_stand : zw_Mt := (yX8_stand, cX8_stand, 3, (some .int), 1, 22)
theorem zv_X8_stand : zw_Mv mt_X8_stand 2 := ⟨⟨zm 427 (by decide +kernel) rfl, zm 62 (by decide +kernel) rfl, by decide +kernel, by decide +kernel, by decide +kernel⟩, zm 425 (by decide +kernel) rfl, zm 426 (by decide +kernel) rfl⟩
def mt_X8_bucket : zw_Mt := (yX8_bucket, cX8_bucket, 3, (some .int), 1, 21)
theorem zv_X8_bucket : zw_Mv mt_X8_bucket 2 := ⟨⟨zm 435 (by decide +kernel) rfl, zm 62 (by decide +kernel) rfl, by decide +kernel, by decide +kernel, by decide +kernel⟩, zm 433 (by decide +kernel) rfl, zm 434 (by decide +kernel) rfl⟩
def mt_X8_beat : zw_Mt := (yX8_beat, cX8_beat, 1, (some .int), 4, 91)
theorem zv_X8_beat : zw_Mv mt_X8_beat 0 := ⟨⟨zm 447 (by decide +kernel) rfl, zm 62 (by decide +kernel) rfl, by decide +kernel, by decide +kernel, by decide +kernel⟩, zm 445 (by decide +kernel) rfl, zm 446 (by decide +kernel) rfl⟩
def mt_X8_change : zw_Mt := (yX8_change, cX8_change, 3, (some .int), 3, 70)
theorem zv_X8_change : zw_Mv mt_X8_change 2 := ⟨⟨zm 518 (by decide +kernel) rfl, zm 62 (by decide +kernel) rfl, by decide +kernel, by decide +kernel, by decide +kernel⟩, zm 516 (by decide +kernel) rfl, zm 517 (by decide +kernel) rfl⟩
def mt_X8_mend : zw_Mt := (yX8_mend, cX8_mend, 2, (some .int), 3, 70)
theorem zv_X8_mend : zw_Mv mt_X8_mend 1 := ⟨⟨zm 527 (by decide +kernel) rfl, zm 62 (by decide +kernel) rfl, by decide +kernel, by decide +kernel, by decide +kernel⟩, zm 525 (by decide +kernel) rfl, zm 526 (by decide +kernel) rfl⟩
def mt_X8_drop : zw_Mt := (yX8_drop, cX8_drop, 3, (some .int), 3, 70)
theorem zv_X8_drop : zw_Mv mt_X8_drop 1 := ⟨⟨zm 541 (by decide +kernel) rfl, zm 62 (by decide +kernel) rfl, by decide +kernel, by decide +kernel, by decide +kernel⟩, zm 539 (by decide +kernel) rfl, zm 540 (by decide +kernel) rfl⟩
def mt_X8_undo : zw_Mt := (yX8_undo, cX8_undo, 1, (some .int), 3, 70)
theorem zv_X8_undo : zw_Mv mt_X8_undo 0 := ⟨⟨zm 550 (by decide +kernel) rfl, zm 62 (by decide +kernel) rfl, by decide +kernel, by decide +kernel, by decide +kernel⟩, zm 548 (by decide +kernel) rfl, zm 549 (by decide +kernel) rfl⟩
def mt_X8_isZeroOrOne : zw_Mt := (yX8_isZeroOrOne, cX8_isZeroOrOne, 1, (some .boolean), 0, 0)
theorem zv_X8_isZeroOrOne : zw_Ms mt_X8_isZeroOrOne 1 := ⟨⟨zm 565 (by decide +kernel) rfl, zm 62 (by decide +kernel) rfl, by decide +kernel, by decide +kernel, by decide +kernel⟩, zm 564 (by decide +kernel) rfl⟩
def mt_X1_begin : zw_Mt := (yX1_begin, cX1_begin, 1, none, 2, 47)
theorem zv_X1_begin : zw_Mv mt_X1_begin 0 := ⟨⟨zm 573 (by decide +kernel) rfl, zm 70 (by decide +kernel) rfl, by decide +kernel, by decide +kernel, by decide +kernel⟩, zm 571 (by decide +kernel) rfl, zm 572 (by decide +kernel) rfl⟩
def mt_X1_fireIn : zw_Mt := (yX1_fireIn, cX1_fireIn, 2, (some .int), 5, 114)
theorem zv_X1_fireIn : zw_Mv mt_X1_fireIn 1 := ⟨⟨zm 569 (by decide +kernel) rfl, zm 70 (by decide +kernel) rfl, by decide +kernel, by decide +kernel, by decide +kernel⟩, zm 567 (by decide +kernel) rfl, zm 568 (by decide +kernel) rfl⟩
def mt_X1_thrownIn : zw_Mt := (yX1_thrownIn, cX1_thrownIn, 2, (some .int), 5, 114)
theorem zv_X1_thrownIn : zw_Mv mt_X1_thrownIn 1 := ⟨⟨zm 587 (by decide +kernel) rfl, zm 70 (by decide +kernel) rfl, by decide +kernel, by decide +kernel, by decide +kernel⟩, zm 585 (by decide +kernel) rfl, zm 586 (by decide +kernel) rfl⟩
def mt_X8_later : zw_Mt := (yX8_later, cX8_later, 3, (some .int), 6, 135)
theorem zv_X8_later : zw_Mv mt_X8_later 2 := ⟨⟨zm 562 (by decide +kernel) rfl, zm 62 (by decide +kernel) rfl, by decide +kernel, by decide +kernel, by decide +kernel⟩, zm 560 (by decide +kernel) rfl, zm 561 (by decide +kernel) rfl⟩
def mt_X1_beatsUntilOut : zw_Mt := (yX1_beatsUntilOut, cX1_beatsUntilOut, 2, (some .int), 4, 91)
theorem zv_X1_beatsUntilOut : zw_Mv mt_X1_beatsUntilOut 0 := ⟨⟨zm 595 (by decide +kernel) rfl, zm 70 (by decide +kernel) rfl, by decide +kernel, by decide +kernel, by decide +kernel⟩, zm 593 (by decide +kernel) rfl, zm 594 (by decide +kernel) rfl⟩
def mt_X8_out : zw_Mt := (yX8_out, cX8_out, 1, (some .int), 5, 112)
theorem zv_X8_out : zw_Mv mt_X8_out 0 := ⟨⟨zm 591 (by decide +kernel) rfl, zm 62 (by decide +kernel) rfl, by decide +kernel, by decide +kernel, by decide +kernel⟩, zm 589 (by decide +kernel) rfl, zm 590 (by decide +kernel) rfl⟩
def mt_X4_prefer : zw_Mt := (yX4_prefer, cX4_prefer, 2, none, 0, 0)
theorem zv_X4_prefer : zw_Mv mt_X4_prefer 1 := ⟨⟨zm 611 (by decide +kernel) rfl, zm 69 (by decide +kernel) rfl, by decide +kernel, by decide +kernel, by decide +kernel⟩, zm 610 (by decide +kernel) rfl, zm 18 (by decide +kernel) rfl⟩
def mt_X4_tryExchanges : zw_Mt := (yX4_tryExchanges, cX4_tryExchanges, 4, none, 5, 114)
theorem zv_X4_tryExchanges : zw_Mv mt_X4_tryExchanges 1 := ⟨⟨zm 604 (by decide +kernel) rfl, zm 69 (by decide +kernel) rfl, by decide +kernel, by decide +kernel, by decide +kernel⟩, zm 602 (by decide +kernel) rfl, zm 603 (by decide +kernel) rfl⟩
def mt_X8_swap : zw_Mt := (yX8_swap, cX8_swap, 3, (some .int), 6, 137)
theorem zv_X8_swap : zw_Mv mt_X8_swap 2 := ⟨⟨zm 600 (by decide +kernel) rfl, zm 62 (by decide +kernel) rfl, by decide +kernel, by decide +kernel, by decide +kernel⟩, zm 598 (by decide +kernel) rfl, zm 599 (by decide +kernel) rfl⟩
def mt_X8_factorial : zw_Mt := (yX8_factorial, cX8_factorial, 3, (some .int), 0, 0)
theorem zv_X8_factorial : zw_Ms mt_X8_factorial 1 := ⟨⟨zm 622 (by decide +kernel) rfl, zm 62 (by decide +kernel) rfl, by decide +kernel, by decide +kernel, by decide +kernel⟩, zm 621 (by decide +kernel) rfl⟩
def mt_X4_orderFigures : zw_Mt := (yX4_orderFigures, cX4_orderFigures, 3, (some .int), 0, 0)
theorem zv_X4_orderFigures : zw_Mv mt_X4_orderFigures 0 := ⟨⟨zm 627 (by decide +kernel) rfl, zm 69 (by decide +kernel) rfl, by decide +kernel, by decide +kernel, by decide +kernel⟩, zm 626 (by decide +kernel) rfl, zm 19 (by decide +kernel) rfl⟩
def mt_X4_exchangeInOrder : zw_Mt := (yX4_exchangeInOrder, cX4_exchangeInOrder, 4, none, 0, 0)
theorem zv_X4_exchangeInOrder : zw_Mv mt_X4_exchangeInOrder 2 := ⟨⟨zm 636 (by decide +kernel) rfl, zm 69 (by decide +kernel) rfl, by decide +kernel, by decide +kernel, by decide +kernel⟩, zm 635 (by decide +kernel) rfl, zm 21 (by decide +kernel) rfl⟩
def mt_X4_toNextOrder : zw_Mt := (yX4_toNextOrder, cX4_toNextOrder, 6, (some .boolean), 1, 23)
theorem zv_X4_toNextOrder : zw_Mv mt_X4_toNextOrder 0 := ⟨⟨zm 631 (by decide +kernel) rfl, zm 69 (by decide +kernel) rfl, by decide +kernel, by decide +kernel, by decide +kernel⟩, zm 630 (by decide +kernel) rfl, zm 20 (by decide +kernel) rfl⟩
def mt_X4_tryOrders : zw_Mt := (yX4_tryOrders, cX4_tryOrders, 5, none, 5, 114)
theorem zv_X4_tryOrders : zw_Mv mt_X4_tryOrders 1 := ⟨⟨zm 619 (by decide +kernel) rfl, zm 69 (by decide +kernel) rfl, by decide +kernel, by decide +kernel, by decide +kernel⟩, zm 617 (by decide +kernel) rfl, zm 618 (by decide +kernel) rfl⟩
def mt_X8_line : zw_Mt := (yX8_line, cX8_line, 3, (some .int), 6, 138)
theorem zv_X8_line : zw_Mv mt_X8_line 2 := ⟨⟨zm 615 (by decide +kernel) rfl, zm 62 (by decide +kernel) rfl, by decide +kernel, by decide +kernel, by decide +kernel⟩, zm 613 (by decide +kernel) rfl, zm 614 (by decide +kernel) rfl⟩
def mt_X1_firstWrongDoing : zw_Mt := (yX1_firstWrongDoing, cX1_firstWrongDoing, 8, (some .int), 5, 114)
theorem zv_X1_firstWrongDoing : zw_Mv mt_X1_firstWrongDoing 2 := ⟨⟨zm 645 (by decide +kernel) rfl, zm 70 (by decide +kernel) rfl, by decide +kernel, by decide +kernel, by decide +kernel⟩, zm 643 (by decide +kernel) rfl, zm 644 (by decide +kernel) rfl⟩
def mt_X8_judge : zw_Mt := (yX8_judge, cX8_judge, 7, (some .int), 6, 141)
theorem zv_X8_judge : zw_Mv mt_X8_judge 2 := ⟨⟨zm 640 (by decide +kernel) rfl, zm 62 (by decide +kernel) rfl, by decide +kernel, by decide +kernel, by decide +kernel⟩, zm 638 (by decide +kernel) rfl, zm 639 (by decide +kernel) rfl⟩
def mt_X1_thrownWith : zw_Mt := (yX1_thrownWith, cX1_thrownWith, 3, (some .int), 5, 114)
theorem zv_X1_thrownWith : zw_Mv mt_X1_thrownWith 1 := ⟨⟨zm 680 (by decide +kernel) rfl, zm 70 (by decide +kernel) rfl, by decide +kernel, by decide +kernel, by decide +kernel⟩, zm 679 (by decide +kernel) rfl, zm 25 (by decide +kernel) rfl⟩
def mt_X1_gainOverOrders : zw_Mt := (yX1_gainOverOrders, cX1_gainOverOrders, 6, (some .int), 6, 136)
theorem zv_X1_gainOverOrders : zw_Mv mt_X1_gainOverOrders 1 := ⟨⟨zm 674 (by decide +kernel) rfl, zm 70 (by decide +kernel) rfl, by decide +kernel, by decide +kernel, by decide +kernel⟩, zm 672 (by decide +kernel) rfl, zm 673 (by decide +kernel) rfl⟩
def mt_X8_commonDivisor : zw_Mt := (yX8_commonDivisor, cX8_commonDivisor, 6, (some .int), 0, 0)
theorem zv_X8_commonDivisor : zw_Ms mt_X8_commonDivisor 2 := ⟨⟨zm 690 (by decide +kernel) rfl, zm 62 (by decide +kernel) rfl, by decide +kernel, by decide +kernel, by decide +kernel⟩, zm 689 (by decide +kernel) rfl⟩
def mt_X8_leastTerm : zw_Mt := (yX8_leastTerm, cX8_leastTerm, 4, (some .int), 1, 25)
theorem zv_X8_leastTerm : zw_Ms mt_X8_leastTerm 3 := ⟨⟨zm 684 (by decide +kernel) rfl, zm 62 (by decide +kernel) rfl, by decide +kernel, by decide +kernel, by decide +kernel⟩, zm 683 (by decide +kernel) rfl⟩
def mt_X8_share : zw_Mt := (yX8_share, cX8_share, 3, (some .int), 7, 161)
theorem zv_X8_share : zw_Mv mt_X8_share 2 := ⟨⟨zm 670 (by decide +kernel) rfl, zm 62 (by decide +kernel) rfl, by decide +kernel, by decide +kernel, by decide +kernel⟩, zm 668 (by decide +kernel) rfl, zm 669 (by decide +kernel) rfl⟩
def mt_X8_see : zw_Mt := (yX8_see, cX8_see, 4, (some .int), 1, 23)
theorem zv_X8_see : zw_Mv mt_X8_see 3 := ⟨⟨zm 694 (by decide +kernel) rfl, zm 62 (by decide +kernel) rfl, by decide +kernel, by decide +kernel, by decide +kernel⟩, zm 692 (by decide +kernel) rfl, zm 693 (by decide +kernel) rfl⟩
def mt_X8_unsee : zw_Mt := (yX8_unsee, cX8_unsee, 2, (some .int), 0, 0)
theorem zv_X8_unsee : zw_Mv mt_X8_unsee 0 := ⟨⟨zm 702 (by decide +kernel) rfl, zm 62 (by decide +kernel) rfl, by decide +kernel, by decide +kernel, by decide +kernel⟩, zm 700 (by decide +kernel) rfl, zm 701 (by decide +kernel) rfl⟩
def mt_X8_fires : zw_Mt := (yX8_fires, cX8_fires, 2, (some .int), 3, 67)
theorem zv_X8_fires : zw_Mv mt_X8_fires 1 := ⟨⟨zm 706 (by decide +kernel) rfl, zm 62 (by decide +kernel) rfl, by decide +kernel, by decide +kernel, by decide +kernel⟩, zm 704 (by decide +kernel) rfl, zm 705 (by decide +kernel) rfl⟩
def mt_X1_thrownWhen : zw_Mt := (yX1_thrownWhen, cX1_thrownWhen, 4, (some .int), 5, 114)
theorem zv_X1_thrownWhen : zw_Mv mt_X1_thrownWhen 3 := ⟨⟨zm 731 (by decide +kernel) rfl, zm 70 (by decide +kernel) rfl, by decide +kernel, by decide +kernel, by decide +kernel⟩, zm 730 (by decide +kernel) rfl, zm 27 (by decide +kernel) rfl⟩
def mt_X1_settledPairs : zw_Mt := (yX1_settledPairs, cX1_settledPairs, 8, (some .int), 6, 137)
theorem zv_X1_settledPairs : zw_Mv mt_X1_settledPairs 2 := ⟨⟨zm 727 (by decide +kernel) rfl, zm 70 (by decide +kernel) rfl, by decide +kernel, by decide +kernel, by decide +kernel⟩, zm 725 (by decide +kernel) rfl, zm 726 (by decide +kernel) rfl⟩
def mt_X8_firstPair : zw_Mt := (yX8_firstPair, cX8_firstPair, 2, (some .int), 0, 0)
theorem zv_X8_firstPair : zw_Ms mt_X8_firstPair 1 := ⟨⟨zm 734 (by decide +kernel) rfl, zm 62 (by decide +kernel) rfl, by decide +kernel, by decide +kernel, by decide +kernel⟩, zm 733 (by decide +kernel) rfl⟩
def mt_X8_rests : zw_Mt := (yX8_rests, cX8_rests, 5, (some .int), 7, 164)
theorem zv_X8_rests : zw_Mv mt_X8_rests 3 := ⟨⟨zm 723 (by decide +kernel) rfl, zm 62 (by decide +kernel) rfl, by decide +kernel, by decide +kernel, by decide +kernel⟩, zm 721 (by decide +kernel) rfl, zm 722 (by decide +kernel) rfl⟩
def mt_X1_weightOfFalling : zw_Mt := (yX1_weightOfFalling, cX1_weightOfFalling, 6, (some .int), 1, 21)
theorem zv_X1_weightOfFalling : zw_Mv mt_X1_weightOfFalling 2 := ⟨⟨zm 746 (by decide +kernel) rfl, zm 70 (by decide +kernel) rfl, by decide +kernel, by decide +kernel, by decide +kernel⟩, zm 745 (by decide +kernel) rfl, zm 28 (by decide +kernel) rfl⟩
def mt_X1_thrownWithout : zw_Mt := (yX1_thrownWithout, cX1_thrownWithout, 3, (some .int), 5, 114)
theorem zv_X1_thrownWithout : zw_Mv mt_X1_thrownWithout 1 := ⟨⟨zm 751 (by decide +kernel) rfl, zm 70 (by decide +kernel) rfl, by decide +kernel, by decide +kernel, by decide +kernel⟩, zm 750 (by decide +kernel) rfl, zm 29 (by decide +kernel) rfl⟩
def mt_X1_chanceOfThrowing : zw_Mt := (yX1_chanceOfThrowing, cX1_chanceOfThrowing, 6, (some .int), 6, 136)
theorem zv_X1_chanceOfThrowing : zw_Mv mt_X1_chanceOfThrowing 2 := ⟨⟨zm 742 (by decide +kernel) rfl, zm 70 (by decide +kernel) rfl, by decide +kernel, by decide +kernel, by decide +kernel⟩, zm 740 (by decide +kernel) rfl, zm 741 (by decide +kernel) rfl⟩
def mt_X8_falls : zw_Mt := (yX8_falls, cX8_falls, 6, (some .int), 7, 161)
theorem zv_X8_falls : zw_Mv mt_X8_falls 3 := ⟨⟨zm 738 (by decide +kernel) rfl, zm 62 (by decide +kernel) rfl, by decide +kernel, by decide +kernel, by decide +kernel⟩, zm 736 (by decide +kernel) rfl, zm 737 (by decide +kernel) rfl⟩
def mt_X8_seed : zw_Mt := (yX8_seed, cX8_seed, 5, (some .long), 0, 0)
theorem zv_X8_seed : zw_Mv mt_X8_seed 1 := ⟨⟨zm 756 (by decide +kernel) rfl, zm 62 (by decide +kernel) rfl, by decide +kernel, by decide +kernel, by decide +kernel⟩, zm 754 (by decide +kernel) rfl, zm 755 (by decide +kernel) rfl⟩
def mt_X1_fireBehindChance : zw_Mt := (yX1_fireBehindChance, cX1_fireBehindChance, 2, (some .int), 5, 114)
theorem zv_X1_fireBehindChance : zw_Mv mt_X1_fireBehindChance 1 := ⟨⟨zm 768 (by decide +kernel) rfl, zm 70 (by decide +kernel) rfl, by decide +kernel, by decide +kernel, by decide +kernel⟩, zm 766 (by decide +kernel) rfl, zm 767 (by decide +kernel) rfl⟩
def mt_X8_nights : zw_Mt := (yX8_nights, cX8_nights, 4, (some .int), 6, 135)
theorem zv_X8_nights : zw_Mv mt_X8_nights 1 := ⟨⟨zm 760 (by decide +kernel) rfl, zm 62 (by decide +kernel) rfl, by decide +kernel, by decide +kernel, by decide +kernel⟩, zm 758 (by decide +kernel) rfl, zm 759 (by decide +kernel) rfl⟩
def mt_X8_keep : zw_Mt := (yX8_keep, cX8_keep, 2, (some .int), 2, 49)
theorem zv_X8_keep : zw_Mv mt_X8_keep 1 := ⟨⟨zm 772 (by decide +kernel) rfl, zm 62 (by decide +kernel) rfl, by decide +kernel, by decide +kernel, by decide +kernel⟩, zm 770 (by decide +kernel) rfl, zm 771 (by decide +kernel) rfl⟩
def mt_X8_again : zw_Mt := (yX8_again, cX8_again, 2, (some .int), 2, 49)
theorem zv_X8_again : zw_Mv mt_X8_again 1 := ⟨⟨zm 777 (by decide +kernel) rfl, zm 62 (by decide +kernel) rfl, by decide +kernel, by decide +kernel, by decide +kernel⟩, zm 775 (by decide +kernel) rfl, zm 776 (by decide +kernel) rfl⟩
def mt_X9_in : zw_Mt := (yX9_in, cX9_in, 6, (some .boolean), 0, 0)
theorem zv_X9_in : zw_Ms mt_X9_in 3 := ⟨⟨zm 908 (by decide +kernel) rfl, zm 71 (by decide +kernel) rfl, by decide +kernel, by decide +kernel, by decide +kernel⟩, zm 907 (by decide +kernel) rfl⟩
def mt_X9_has : zw_Mt := (yX9_has, cX9_has, 2, (some .boolean), 0, 0)
theorem zv_X9_has : zw_Ms mt_X9_has 2 := ⟨⟨zm 1006 (by decide +kernel) rfl, zm 71 (by decide +kernel) rfl, by decide +kernel, by decide +kernel, by decide +kernel⟩, zm 1005 (by decide +kernel) rfl⟩
def mt_X9_many : zw_Mt := (yX9_many, cX9_many, 3, (some .int), 0, 0)
theorem zv_X9_many : zw_Ms mt_X9_many 1 := ⟨⟨zm 1045 (by decide +kernel) rfl, zm 71 (by decide +kernel) rfl, by decide +kernel, by decide +kernel, by decide +kernel⟩, zm 1044 (by decide +kernel) rfl⟩
def mt_X9_power : zw_Mt := (yX9_power, cX9_power, 4, (some .int), 0, 0)
theorem zv_X9_power : zw_Ms mt_X9_power 2 := ⟨⟨zm 1158 (by decide +kernel) rfl, zm 71 (by decide +kernel) rfl, by decide +kernel, by decide +kernel, by decide +kernel⟩, zm 1157 (by decide +kernel) rfl⟩
def mt_X9_noOne : zw_Mt := (yX9_noOne, cX9_noOne, 2, (some .boolean), 1, 25)
theorem zv_X9_noOne : zw_Mv mt_X9_noOne 1 := ⟨⟨zm 964 (by decide +kernel) rfl, zm 71 (by decide +kernel) rfl, by decide +kernel, by decide +kernel, by decide +kernel⟩, zm 963 (by decide +kernel) rfl, zm 38 (by decide +kernel) rfl⟩
def mt_X9_noBucket : zw_Mt := (yX9_noBucket, cX9_noBucket, 2, (some .boolean), 1, 25)
theorem zv_X9_noBucket : zw_Mv mt_X9_noBucket 1 := ⟨⟨zm 983 (by decide +kernel) rfl, zm 71 (by decide +kernel) rfl, by decide +kernel, by decide +kernel, by decide +kernel⟩, zm 982 (by decide +kernel) rfl, zm 40 (by decide +kernel) rfl⟩
def mt_X9_write : zw_Mt := (yX9_write, cX9_write, 2, (some .int), 1, 25)
theorem zv_X9_write : zw_Mv mt_X9_write 1 := ⟨⟨zm 904 (by decide +kernel) rfl, zm 71 (by decide +kernel) rfl, by decide +kernel, by decide +kernel, by decide +kernel⟩, zm 902 (by decide +kernel) rfl, zm 903 (by decide +kernel) rfl⟩
def mt_X9_wipe : zw_Mt := (yX9_wipe, cX9_wipe, 2, (some .int), 0, 0)
theorem zv_X9_wipe : zw_Mv mt_X9_wipe 0 := ⟨⟨zm 912 (by decide +kernel) rfl, zm 71 (by decide +kernel) rfl, by decide +kernel, by decide +kernel, by decide +kernel⟩, zm 910 (by decide +kernel) rfl, zm 911 (by decide +kernel) rfl⟩
def mt_X9_figure : zw_Mt := (yX9_figure, cX9_figure, 3, (some .int), 1, 25)
theorem zv_X9_figure : zw_Mv mt_X9_figure 2 := ⟨⟨zm 928 (by decide +kernel) rfl, zm 71 (by decide +kernel) rfl, by decide +kernel, by decide +kernel, by decide +kernel⟩, zm 927 (by decide +kernel) rfl, zm 32 (by decide +kernel) rfl⟩
def mt_X9_readPerson : zw_Mt := (yX9_readPerson, cX9_readPerson, 2, (some .boolean), 2, 47)
theorem zv_X9_readPerson : zw_Mv mt_X9_readPerson 0 := ⟨⟨zm 936 (by decide +kernel) rfl, zm 71 (by decide +kernel) rfl, by decide +kernel, by decide +kernel, by decide +kernel⟩, zm 935 (by decide +kernel) rfl, zm 34 (by decide +kernel) rfl⟩
def mt_X9_readBucket : zw_Mt := (yX9_readBucket, cX9_readBucket, 3, (some .boolean), 2, 47)
theorem zv_X9_readBucket : zw_Mv mt_X9_readBucket 0 := ⟨⟨zm 940 (by decide +kernel) rfl, zm 71 (by decide +kernel) rfl, by decide +kernel, by decide +kernel, by decide +kernel⟩, zm 939 (by decide +kernel) rfl, zm 35 (by decide +kernel) rfl⟩
def mt_X9_readPart : zw_Mt := (yX9_readPart, cX9_readPart, 2, (some .boolean), 3, 69)
theorem zv_X9_readPart : zw_Mv mt_X9_readPart 0 := ⟨⟨zm 932 (by decide +kernel) rfl, zm 71 (by decide +kernel) rfl, by decide +kernel, by decide +kernel, by decide +kernel⟩, zm 931 (by decide +kernel) rfl, zm 33 (by decide +kernel) rfl⟩
def mt_X9_readHead : zw_Mt := (yX9_readHead, cX9_readHead, 3, (some .boolean), 2, 47)
theorem zv_X9_readHead : zw_Mv mt_X9_readHead 0 := ⟨⟨zm 924 (by decide +kernel) rfl, zm 71 (by decide +kernel) rfl, by decide +kernel, by decide +kernel, by decide +kernel⟩, zm 923 (by decide +kernel) rfl, zm 31 (by decide +kernel) rfl⟩
def mt_X9_readNight : zw_Mt := (yX9_readNight, cX9_readNight, 1, (some .int), 4, 90)
theorem zv_X9_readNight : zw_Mv mt_X9_readNight 0 := ⟨⟨zm 920 (by decide +kernel) rfl, zm 71 (by decide +kernel) rfl, by decide +kernel, by decide +kernel, by decide +kernel⟩, zm 919 (by decide +kernel) rfl, zm 30 (by decide +kernel) rfl⟩
def mt_X9_fault : zw_Mt := (yX9_fault, cX9_fault, 1, (some .int), 5, 110)
theorem zv_X9_fault : zw_Mv mt_X9_fault 0 := ⟨⟨zm 916 (by decide +kernel) rfl, zm 71 (by decide +kernel) rfl, by decide +kernel, by decide +kernel, by decide +kernel⟩, zm 914 (by decide +kernel) rfl, zm 915 (by decide +kernel) rfl⟩
def mt_X9_night : zw_Mt := (yX9_night, cX9_night, 2, (some .int), 5, 110)
theorem zv_X9_night : zw_Mv mt_X9_night 0 := ⟨⟨zm 944 (by decide +kernel) rfl, zm 71 (by decide +kernel) rfl, by decide +kernel, by decide +kernel, by decide +kernel⟩, zm 942 (by decide +kernel) rfl, zm 943 (by decide +kernel) rfl⟩
def mt_X9_heldAt : zw_Mt := (yX9_heldAt, cX9_heldAt, 5, (some .int), 0, 0)
theorem zv_X9_heldAt : zw_Mv mt_X9_heldAt 2 := ⟨⟨zm 975 (by decide +kernel) rfl, zm 71 (by decide +kernel) rfl, by decide +kernel, by decide +kernel, by decide +kernel⟩, zm 974 (by decide +kernel) rfl, zm 39 (by decide +kernel) rfl⟩
def mt_X9_works : zw_Mt := (yX9_works, cX9_works, 5, (some .boolean), 1, 21)
theorem zv_X9_works : zw_Mv mt_X9_works 3 := ⟨⟨zm 1003 (by decide +kernel) rfl, zm 71 (by decide +kernel) rfl, by decide +kernel, by decide +kernel, by decide +kernel⟩, zm 1002 (by decide +kernel) rfl, zm 44 (by decide +kernel) rfl⟩
def mt_X9_isChild : zw_Mt := (yX9_isChild, cX9_isChild, 3, (some .boolean), 0, 0)
theorem zv_X9_isChild : zw_Mv mt_X9_isChild 2 := ⟨⟨zm 1014 (by decide +kernel) rfl, zm 71 (by decide +kernel) rfl, by decide +kernel, by decide +kernel, by decide +kernel⟩, zm 1013 (by decide +kernel) rfl, zm 46 (by decide +kernel) rfl⟩
def mt_X9_sendBack : zw_Mt := (yX9_sendBack, cX9_sendBack, 3, none, 0, 0)
theorem zv_X9_sendBack : zw_Mv mt_X9_sendBack 2 := ⟨⟨zm 1030 (by decide +kernel) rfl, zm 71 (by decide +kernel) rfl, by decide +kernel, by decide +kernel, by decide +kernel⟩, zm 1029 (by decide +kernel) rfl, zm 50 (by decide +kernel) rfl⟩
def mt_X9_throwsIt : zw_Mt := (yX9_throwsIt, cX9_throwsIt, 5, (some .int), 2, 45)
theorem zv_X9_throwsIt : zw_Mv mt_X9_throwsIt 2 := ⟨⟨zm 999 (by decide +kernel) rfl, zm 71 (by decide +kernel) rfl, by decide +kernel, by decide +kernel, by decide +kernel⟩, zm 998 (by decide +kernel) rfl, zm 43 (by decide +kernel) rfl⟩
def mt_X9_handOn : zw_Mt := (yX9_handOn, cX9_handOn, 6, none, 2, 45)
theorem zv_X9_handOn : zw_Mv mt_X9_handOn 3 := ⟨⟨zm 1010 (by decide +kernel) rfl, zm 71 (by decide +kernel) rfl, by decide +kernel, by decide +kernel, by decide +kernel⟩, zm 1009 (by decide +kernel) rfl, zm 45 (by decide +kernel) rfl⟩
def mt_X9_fill : zw_Mt := (yX9_fill, cX9_fill, 4, none, 1, 24)
theorem zv_X9_fill : zw_Mv mt_X9_fill 1 := ⟨⟨zm 1018 (by decide +kernel) rfl, zm 71 (by decide +kernel) rfl, by decide +kernel, by decide +kernel, by decide +kernel⟩, zm 1017 (by decide +kernel) rfl, zm 47 (by decide +kernel) rfl⟩
def mt_X9_leak : zw_Mt := (yX9_leak, cX9_leak, 3, none, 1, 21)
theorem zv_X9_leak : zw_Mv mt_X9_leak 1 := ⟨⟨zm 1022 (by decide +kernel) rfl, zm 71 (by decide +kernel) rfl, by decide +kernel, by decide +kernel, by decide +kernel⟩, zm 1021 (by decide +kernel) rfl, zm 48 (by decide +kernel) rfl⟩
def mt_X9_comeBack : zw_Mt := (yX9_comeBack, cX9_comeBack, 3, none, 0, 0)
theorem zv_X9_comeBack : zw_Mv mt_X9_comeBack 1 := ⟨⟨zm 1026 (by decide +kernel) rfl, zm 71 (by decide +kernel) rfl, by decide +kernel, by decide +kernel, by decide +kernel⟩, zm 1025 (by decide +kernel) rfl, zm 49 (by decide +kernel) rfl⟩
def mt_X9_goBeat : zw_Mt := (yX9_goBeat, cX9_goBeat, 6, (some .int), 3, 70)
theorem zv_X9_goBeat : zw_Mv mt_X9_goBeat 2 := ⟨⟨zm 995 (by decide +kernel) rfl, zm 71 (by decide +kernel) rfl, by decide +kernel, by decide +kernel, by decide +kernel⟩, zm 994 (by decide +kernel) rfl, zm 42 (by decide +kernel) rfl⟩
def mt_X9_bucketsAt : zw_Mt := (yX9_bucketsAt, cX9_bucketsAt, 6, (some .int), 1, 25)
theorem zv_X9_bucketsAt : zw_Mv mt_X9_bucketsAt 3 := ⟨⟨zm 956 (by decide +kernel) rfl, zm 71 (by decide +kernel) rfl, by decide +kernel, by decide +kernel, by decide +kernel⟩, zm 955 (by decide +kernel) rfl, zm 37 (by decide +kernel) rfl⟩
def mt_X9_standsWith : zw_Mt := (yX9_standsWith, cX9_standsWith, 4, (some .int), 0, 0)
theorem zv_X9_standsWith : zw_Mv mt_X9_standsWith 1 := ⟨⟨zm 952 (by decide +kernel) rfl, zm 71 (by decide +kernel) rfl, by decide +kernel, by decide +kernel, by decide +kernel⟩, zm 951 (by decide +kernel) rfl, zm 36 (by decide +kernel) rfl⟩
def mt_X9_about : zw_Mt := (yX9_about, cX9_about, 2, (some .int), 2, 50)
theorem zv_X9_about : zw_Mv mt_X9_about 1 := ⟨⟨zm 948 (by decide +kernel) rfl, zm 71 (by decide +kernel) rfl, by decide +kernel, by decide +kernel, by decide +kernel⟩, zm 946 (by decide +kernel) rfl, zm 947 (by decide +kernel) rfl⟩
def mt_X9_standOf : zw_Mt := (yX9_standOf, cX9_standOf, 5, (some .int), 0, 0)
theorem zv_X9_standOf : zw_Ms mt_X9_standOf 3 := ⟨⟨zm 967 (by decide +kernel) rfl, zm 71 (by decide +kernel) rfl, by decide +kernel, by decide +kernel, by decide +kernel⟩, zm 966 (by decide +kernel) rfl⟩
def mt_X9_person : zw_Mt := (yX9_person, cX9_person, 3, (some .int), 2, 46)
theorem zv_X9_person : zw_Mv mt_X9_person 2 := ⟨⟨zm 960 (by decide +kernel) rfl, zm 71 (by decide +kernel) rfl, by decide +kernel, by decide +kernel, by decide +kernel⟩, zm 958 (by decide +kernel) rfl, zm 959 (by decide +kernel) rfl⟩
def mt_X9_stand : zw_Mt := (yX9_stand, cX9_stand, 3, (some .int), 2, 46)
theorem zv_X9_stand : zw_Mv mt_X9_stand 2 := ⟨⟨zm 971 (by decide +kernel) rfl, zm 71 (by decide +kernel) rfl, by decide +kernel, by decide +kernel, by decide +kernel⟩, zm 969 (by decide +kernel) rfl, zm 970 (by decide +kernel) rfl⟩
def mt_X9_bucket : zw_Mt := (yX9_bucket, cX9_bucket, 3, (some .int), 2, 46)
theorem zv_X9_bucket : zw_Mv mt_X9_bucket 2 := ⟨⟨zm 979 (by decide +kernel) rfl, zm 71 (by decide +kernel) rfl, by decide +kernel, by decide +kernel, by decide +kernel⟩, zm 977 (by decide +kernel) rfl, zm 978 (by decide +kernel) rfl⟩
def mt_X9_note : zw_Mt := (yX9_note, cX9_note, 2, none, 0, 0)
theorem zv_X9_note : zw_Mv mt_X9_note 0 := ⟨⟨zm 991 (by decide +kernel) rfl, zm 71 (by decide +kernel) rfl, by decide +kernel, by decide +kernel, by decide +kernel⟩, zm 990 (by decide +kernel) rfl, zm 41 (by decide +kernel) rfl⟩
def mt_X9_beat : zw_Mt := (yX9_beat, cX9_beat, 1, (some .int), 4, 95)
theorem zv_X9_beat : zw_Mv mt_X9_beat 0 := ⟨⟨zm 987 (by decide +kernel) rfl, zm 71 (by decide +kernel) rfl, by decide +kernel, by decide +kernel, by decide +kernel⟩, zm 985 (by decide +kernel) rfl, zm 986 (by decide +kernel) rfl⟩
def mt_X9_goChange : zw_Mt := (yX9_goChange, cX9_goChange, 6, none, 1, 24)
theorem zv_X9_goChange : zw_Mv mt_X9_goChange 3 := ⟨⟨zm 1038 (by decide +kernel) rfl, zm 71 (by decide +kernel) rfl, by decide +kernel, by decide +kernel, by decide +kernel⟩, zm 1037 (by decide +kernel) rfl, zm 51 (by decide +kernel) rfl⟩
def mt_X9_change : zw_Mt := (yX9_change, cX9_change, 3, (some .int), 2, 49)
theorem zv_X9_change : zw_Mv mt_X9_change 2 := ⟨⟨zm 1034 (by decide +kernel) rfl, zm 71 (by decide +kernel) rfl, by decide +kernel, by decide +kernel, by decide +kernel⟩, zm 1032 (by decide +kernel) rfl, zm 1033 (by decide +kernel) rfl⟩
def mt_X9_mend : zw_Mt := (yX9_mend, cX9_mend, 2, (some .int), 2, 46)
theorem zv_X9_mend : zw_Mv mt_X9_mend 1 := ⟨⟨zm 1042 (by decide +kernel) rfl, zm 71 (by decide +kernel) rfl, by decide +kernel, by decide +kernel, by decide +kernel⟩, zm 1040 (by decide +kernel) rfl, zm 1041 (by decide +kernel) rfl⟩
def mt_X9_drop : zw_Mt := (yX9_drop, cX9_drop, 3, (some .int), 2, 46)
theorem zv_X9_drop : zw_Mv mt_X9_drop 1 := ⟨⟨zm 1049 (by decide +kernel) rfl, zm 71 (by decide +kernel) rfl, by decide +kernel, by decide +kernel, by decide +kernel⟩, zm 1047 (by decide +kernel) rfl, zm 1048 (by decide +kernel) rfl⟩
def mt_X9_undo : zw_Mt := (yX9_undo, cX9_undo, 2, (some .int), 0, 0)
theorem zv_X9_undo : zw_Mv mt_X9_undo 0 := ⟨⟨zm 1053 (by decide +kernel) rfl, zm 71 (by decide +kernel) rfl, by decide +kernel, by decide +kernel, by decide +kernel⟩, zm 1051 (by decide +kernel) rfl, zm 1052 (by decide +kernel) rfl⟩
def mt_X9_begin : zw_Mt := (yX9_begin, cX9_begin, 2, none, 0, 0)
theorem zv_X9_begin : zw_Mv mt_X9_begin 0 := ⟨⟨zm 1062 (by decide +kernel) rfl, zm 71 (by decide +kernel) rfl, by decide +kernel, by decide +kernel, by decide +kernel⟩, zm 1061 (by decide +kernel) rfl, zm 52 (by decide +kernel) rfl⟩
def mt_X9_goBeats : zw_Mt := (yX9_goBeats, cX9_goBeats, 4, none, 4, 95)
theorem zv_X9_goBeats : zw_Mv mt_X9_goBeats 2 := ⟨⟨zm 1066 (by decide +kernel) rfl, zm 71 (by decide +kernel) rfl, by decide +kernel, by decide +kernel, by decide +kernel⟩, zm 1065 (by decide +kernel) rfl, zm 53 (by decide +kernel) rfl⟩
def mt_X9_later : zw_Mt := (yX9_later, cX9_later, 3, (some .int), 5, 118)
theorem zv_X9_later : zw_Mv mt_X9_later 2 := ⟨⟨zm 1057 (by decide +kernel) rfl, zm 71 (by decide +kernel) rfl, by decide +kernel, by decide +kernel, by decide +kernel⟩, zm 1055 (by decide +kernel) rfl, zm 1056 (by decide +kernel) rfl⟩
def mt_X9_out : zw_Mt := (yX9_out, cX9_out, 2, (some .int), 4, 95)
theorem zv_X9_out : zw_Mv mt_X9_out 0 := ⟨⟨zm 1070 (by decide +kernel) rfl, zm 71 (by decide +kernel) rfl, by decide +kernel, by decide +kernel, by decide +kernel⟩, zm 1068 (by decide +kernel) rfl, zm 1069 (by decide +kernel) rfl⟩
def mt_X9_swap : zw_Mt := (yX9_swap, cX9_swap, 5, (some .int), 5, 118)
theorem zv_X9_swap : zw_Mv mt_X9_swap 2 := ⟨⟨zm 1074 (by decide +kernel) rfl, zm 71 (by decide +kernel) rfl, by decide +kernel, by decide +kernel, by decide +kernel⟩, zm 1072 (by decide +kernel) rfl, zm 1073 (by decide +kernel) rfl⟩
def mt_X9_turnLine : zw_Mt := (yX9_turnLine, cX9_turnLine, 4, none, 0, 0)
theorem zv_X9_turnLine : zw_Mv mt_X9_turnLine 2 := ⟨⟨zm 1091 (by decide +kernel) rfl, zm 71 (by decide +kernel) rfl, by decide +kernel, by decide +kernel, by decide +kernel⟩, zm 1090 (by decide +kernel) rfl, zm 56 (by decide +kernel) rfl⟩
def mt_X9_nextLine : zw_Mt := (yX9_nextLine, cX9_nextLine, 5, (some .boolean), 1, 23)
theorem zv_X9_nextLine : zw_Mv mt_X9_nextLine 0 := ⟨⟨zm 1087 (by decide +kernel) rfl, zm 71 (by decide +kernel) rfl, by decide +kernel, by decide +kernel, by decide +kernel⟩, zm 1086 (by decide +kernel) rfl, zm 55 (by decide +kernel) rfl⟩
def mt_X9_lineFigures : zw_Mt := (yX9_lineFigures, cX9_lineFigures, 3, (some .int), 0, 0)
theorem zv_X9_lineFigures : zw_Mv mt_X9_lineFigures 0 := ⟨⟨zm 1083 (by decide +kernel) rfl, zm 71 (by decide +kernel) rfl, by decide +kernel, by decide +kernel, by decide +kernel⟩, zm 1082 (by decide +kernel) rfl, zm 54 (by decide +kernel) rfl⟩
def mt_X9_line : zw_Mt := (yX9_line, cX9_line, 5, (some .int), 5, 118)
theorem zv_X9_line : zw_Mv mt_X9_line 2 := ⟨⟨zm 1079 (by decide +kernel) rfl, zm 71 (by decide +kernel) rfl, by decide +kernel, by decide +kernel, by decide +kernel⟩, zm 1077 (by decide +kernel) rfl, zm 1078 (by decide +kernel) rfl⟩
def mt_X9_longPower : zw_Mt := (yX9_longPower, cX9_longPower, 6, (some .long), 0, 0)
theorem zv_X9_longPower : zw_Ms mt_X9_longPower 2 := ⟨⟨zm 1100 (by decide +kernel) rfl, zm 71 (by decide +kernel) rfl, by decide +kernel, by decide +kernel, by decide +kernel⟩, zm 1099 (by decide +kernel) rfl⟩
def mt_X9_changes : zw_Mt := (yX9_changes, cX9_changes, 4, (some .boolean), 2, 49)
theorem zv_X9_changes : zw_Mv mt_X9_changes 2 := ⟨⟨zm 1108 (by decide +kernel) rfl, zm 71 (by decide +kernel) rfl, by decide +kernel, by decide +kernel, by decide +kernel⟩, zm 1107 (by decide +kernel) rfl, zm 58 (by decide +kernel) rfl⟩
def mt_X9_mends : zw_Mt := (yX9_mends, cX9_mends, 3, (some .boolean), 2, 46)
theorem zv_X9_mends : zw_Mv mt_X9_mends 1 := ⟨⟨zm 1112 (by decide +kernel) rfl, zm 71 (by decide +kernel) rfl, by decide +kernel, by decide +kernel, by decide +kernel⟩, zm 1111 (by decide +kernel) rfl, zm 59 (by decide +kernel) rfl⟩
def mt_X9_drops : zw_Mt := (yX9_drops, cX9_drops, 3, (some .boolean), 2, 46)
theorem zv_X9_drops : zw_Mv mt_X9_drops 1 := ⟨⟨zm 1116 (by decide +kernel) rfl, zm 71 (by decide +kernel) rfl, by decide +kernel, by decide +kernel, by decide +kernel⟩, zm 1115 (by decide +kernel) rfl, zm 60 (by decide +kernel) rfl⟩
def mt_X9_does : zw_Mt := (yX9_does, cX9_does, 5, (some .boolean), 4, 95)
theorem zv_X9_does : zw_Mv mt_X9_does 1 := ⟨⟨zm 1104 (by decide +kernel) rfl, zm 71 (by decide +kernel) rfl, by decide +kernel, by decide +kernel, by decide +kernel⟩, zm 1103 (by decide +kernel) rfl, zm 57 (by decide +kernel) rfl⟩
def mt_X9_judge : zw_Mt := (yX9_judge, cX9_judge, 5, (some .int), 5, 119)
theorem zv_X9_judge : zw_Mv mt_X9_judge 2 := ⟨⟨zm 1095 (by decide +kernel) rfl, zm 71 (by decide +kernel) rfl, by decide +kernel, by decide +kernel, by decide +kernel⟩, zm 1093 (by decide +kernel) rfl, zm 1094 (by decide +kernel) rfl⟩
def mt_X9_ways : zw_Mt := (yX9_ways, cX9_ways, 3, (some .int), 0, 0)
theorem zv_X9_ways : zw_Ms mt_X9_ways 1 := ⟨⟨zm 1123 (by decide +kernel) rfl, zm 71 (by decide +kernel) rfl, by decide +kernel, by decide +kernel, by decide +kernel⟩, zm 1122 (by decide +kernel) rfl⟩
def mt_X9_divisor : zw_Mt := (yX9_divisor, cX9_divisor, 5, (some .int), 0, 0)
theorem zv_X9_divisor : zw_Ms mt_X9_divisor 2 := ⟨⟨zm 1129 (by decide +kernel) rfl, zm 71 (by decide +kernel) rfl, by decide +kernel, by decide +kernel, by decide +kernel⟩, zm 1128 (by decide +kernel) rfl⟩
def mt_X9_fraction : zw_Mt := (yX9_fraction, cX9_fraction, 4, (some .int), 1, 24)
theorem zv_X9_fraction : zw_Ms mt_X9_fraction 3 := ⟨⟨zm 1126 (by decide +kernel) rfl, zm 71 (by decide +kernel) rfl, by decide +kernel, by decide +kernel, by decide +kernel⟩, zm 1125 (by decide +kernel) rfl⟩
def mt_X9_share : zw_Mt := (yX9_share, cX9_share, 6, (some .int), 5, 118)
theorem zv_X9_share : zw_Mv mt_X9_share 2 := ⟨⟨zm 1120 (by decide +kernel) rfl, zm 71 (by decide +kernel) rfl, by decide +kernel, by decide +kernel, by decide +kernel⟩, zm 1118 (by decide +kernel) rfl, zm 1119 (by decide +kernel) rfl⟩
def mt_X9_see : zw_Mt := (yX9_see, cX9_see, 4, (some .int), 1, 25)
theorem zv_X9_see : zw_Mv mt_X9_see 3 := ⟨⟨zm 1133 (by decide +kernel) rfl, zm 71 (by decide +kernel) rfl, by decide +kernel, by decide +kernel, by decide +kernel⟩, zm 1131 (by decide +kernel) rfl, zm 1132 (by decide +kernel) rfl⟩
def mt_X9_unsee : zw_Mt := (yX9_unsee, cX9_unsee, 2, (some .int), 0, 0)
theorem zv_X9_unsee : zw_Mv mt_X9_unsee 0 := ⟨⟨zm 1139 (by decide +kernel) rfl, zm 71 (by decide +kernel) rfl, by decide +kernel, by decide +kernel, by decide +kernel⟩, zm 1137 (by decide +kernel) rfl, zm 1138 (by decide +kernel) rfl⟩
def mt_X9_fireBy : zw_Mt := (yX9_fireBy, cX9_fireBy, 4, (some .int), 0, 0)
theorem zv_X9_fireBy : zw_Ms mt_X9_fireBy 3 := ⟨⟨zm 1146 (by decide +kernel) rfl, zm 71 (by decide +kernel) rfl, by decide +kernel, by decide +kernel, by decide +kernel⟩, zm 1145 (by decide +kernel) rfl⟩
def mt_X9_fires : zw_Mt := (yX9_fires, cX9_fires, 5, (some .int), 1, 25)
theorem zv_X9_fires : zw_Mv mt_X9_fires 1 := ⟨⟨zm 1143 (by decide +kernel) rfl, zm 71 (by decide +kernel) rfl, by decide +kernel, by decide +kernel, by decide +kernel⟩, zm 1141 (by decide +kernel) rfl, zm 1142 (by decide +kernel) rfl⟩
def mt_X9_rests : zw_Mt := (yX9_rests, cX9_rests, 6, (some .int), 5, 118)
theorem zv_X9_rests : zw_Mv mt_X9_rests 3 := ⟨⟨zm 1150 (by decide +kernel) rfl, zm 71 (by decide +kernel) rfl, by decide +kernel, by decide +kernel, by decide +kernel⟩, zm 1148 (by decide +kernel) rfl, zm 1149 (by decide +kernel) rfl⟩
def mt_X9_falls : zw_Mt := (yX9_falls, cX9_falls, 9, (some .int), 5, 118)
theorem zv_X9_falls : zw_Mv mt_X9_falls 3 := ⟨⟨zm 1154 (by decide +kernel) rfl, zm 71 (by decide +kernel) rfl, by decide +kernel, by decide +kernel, by decide +kernel⟩, zm 1152 (by decide +kernel) rfl, zm 1153 (by decide +kernel) rfl⟩
def mt_X9_seed : zw_Mt := (yX9_seed, cX9_seed, 5, (some .long), 0, 0)
theorem zv_X9_seed : zw_Mv mt_X9_seed 1 := ⟨⟨zm 1162 (by decide +kernel) rfl, zm 71 (by decide +kernel) rfl, by decide +kernel, by decide +kernel, by decide +kernel⟩, zm 1160 (by decide +kernel) rfl, zm 1161 (by decide +kernel) rfl⟩
def mt_X9_nights : zw_Mt := (yX9_nights, cX9_nights, 5, (some .int), 5, 119)
theorem zv_X9_nights : zw_Mv mt_X9_nights 1 := ⟨⟨zm 1166 (by decide +kernel) rfl, zm 71 (by decide +kernel) rfl, by decide +kernel, by decide +kernel, by decide +kernel⟩, zm 1164 (by decide +kernel) rfl, zm 1165 (by decide +kernel) rfl⟩
def mt_X9_keep : zw_Mt := (yX9_keep, cX9_keep, 3, (some .int), 1, 25)
theorem zv_X9_keep : zw_Mv mt_X9_keep 1 := ⟨⟨zm 1174 (by decide +kernel) rfl, zm 71 (by decide +kernel) rfl, by decide +kernel, by decide +kernel, by decide +kernel⟩, zm 1172 (by decide +kernel) rfl, zm 1173 (by decide +kernel) rfl⟩
def mt_X9_again : zw_Mt := (yX9_again, cX9_again, 3, (some .int), 1, 25)
theorem zv_X9_again : zw_Mv mt_X9_again 1 := ⟨⟨zm 1178 (by decide +kernel) rfl, zm 71 (by decide +kernel) rfl, by decide +kernel, by decide +kernel, by decide +kernel⟩, zm 1176 (by decide +kernel) rfl, zm 1177 (by decide +kernel) rfl⟩
theorem zl_X8_82 : Cond.methodLink RX8 82 yX7_append ∈ zw_tb := zm 343 (by decide +kernel) rfl
theorem zl_X8_89 : Cond.methodLink RX8 89 yX2_readFrom ∈ zw_tb := zm 355 (by decide +kernel) rfl
theorem zl_X8_93 : Cond.methodLink RX8 93 yX3_setUp ∈ zw_tb := zm 395 (by decide +kernel) rfl
theorem zl_X8_96 : Cond.methodLink RX8 96 yX0_clear ∈ zw_tb := zm 396 (by decide +kernel) rfl
theorem zl_X8_120 : Cond.methodLink RX8 120 yX3_holdingStands ∈ zw_tb := zm 404 (by decide +kernel) rfl
theorem zl_X8_124 : Cond.methodLink RX8 124 yX3_bucketsAt ∈ zw_tb := zm 408 (by decide +kernel) rfl
theorem zl_X8_135 : Cond.methodLink RX8 135 yX2_hasPerson ∈ zw_tb := zm 416 (by decide +kernel) rfl
theorem zl_X8_142 : Cond.methodLink RX8 142 yX3_standOf ∈ zw_tb := zm 420 (by decide +kernel) rfl
theorem zl_X8_148 : Cond.methodLink RX8 148 yX3_leastBucketAt ∈ zw_tb := zm 428 (by decide +kernel) rfl
theorem zl_X8_151 : Cond.methodLink RX8 151 yX2_hasBucket ∈ zw_tb := zm 436 (by decide +kernel) rfl
theorem zl_X8_157 : Cond.methodLink RX8 157 yX3_hasHole ∈ zw_tb := zm 440 (by decide +kernel) rfl
theorem zl_X8_169 : Cond.methodLink RX8 169 yX0_remember ∈ zw_tb := zm 448 (by decide +kernel) rfl
theorem zl_X8_173 : Cond.methodLink RX8 173 yX3_passBeat ∈ zw_tb := zm 463 (by decide +kernel) rfl
theorem zl_X8_176 : Cond.methodLink RX8 176 yX3_exchange ∈ zw_tb := zm 519 (by decide +kernel) rfl
theorem zl_X8_180 : Cond.methodLink RX8 180 yX3_closeHole ∈ zw_tb := zm 528 (by decide +kernel) rfl
theorem zl_X8_183 : Cond.methodLink RX8 183 yJ6_bitCount_0f7a4 ∈ zw_tb := zm 532 (by decide +kernel) rfl
theorem zl_X8_188 : Cond.methodLink RX8 188 yX3_isHeld ∈ zw_tb := zm 542 (by decide +kernel) rfl
theorem zl_X8_191 : Cond.methodLink RX8 191 yX3_letFall ∈ zw_tb := zm 543 (by decide +kernel) rfl
theorem zl_X8_194 : Cond.methodLink RX8 194 yX0_takeBack ∈ zw_tb := zm 551 (by decide +kernel) rfl
theorem zl_X8_197 : Cond.methodLink RX8 197 yX8_isZeroOrOne ∈ zw_tb := zm 563 (by decide +kernel) rfl
theorem zl_X8_200 : Cond.methodLink RX8 200 yX1_fireIn ∈ zw_tb := zm 566 (by decide +kernel) rfl
theorem zl_X8_203 : Cond.methodLink RX8 203 yX1_thrownIn ∈ zw_tb := zm 584 (by decide +kernel) rfl
theorem zl_X8_206 : Cond.methodLink RX8 206 yX1_beatsUntilOut ∈ zw_tb := zm 592 (by decide +kernel) rfl
theorem zl_X8_209 : Cond.methodLink RX8 209 yX4_tryExchanges ∈ zw_tb := zm 601 (by decide +kernel) rfl
theorem zl_X8_218 : Cond.methodLink RX8 218 yX4_tryOrders ∈ zw_tb := zm 616 (by decide +kernel) rfl
theorem zl_X8_223 : Cond.methodLink RX8 223 yX1_firstWrongDoing ∈ zw_tb := zm 642 (by decide +kernel) rfl
theorem zl_X8_227 : Cond.methodLink RX8 227 yX1_gainOverOrders ∈ zw_tb := zm 671 (by decide +kernel) rfl
theorem zl_X8_230 : Cond.methodLink RX8 230 yX8_factorial ∈ zw_tb := zm 681 (by decide +kernel) rfl
theorem zl_X8_233 : Cond.methodLink RX8 233 yX8_leastTerm ∈ zw_tb := zm 682 (by decide +kernel) rfl
theorem zl_X8_237 : Cond.methodLink RX8 237 yX6_add ∈ zw_tb := zm 695 (by decide +kernel) rfl
theorem zl_X8_241 : Cond.methodLink RX8 241 yX6_countFires ∈ zw_tb := zm 707 (by decide +kernel) rfl
theorem zl_X8_244 : Cond.methodLink RX8 244 yX6_firstFire ∈ zw_tb := zm 716 (by decide +kernel) rfl
theorem zl_X8_247 : Cond.methodLink RX8 247 yX1_settledPairs ∈ zw_tb := zm 724 (by decide +kernel) rfl
theorem zl_X8_251 : Cond.methodLink RX8 251 yX8_firstPair ∈ zw_tb := zm 732 (by decide +kernel) rfl
theorem zl_X8_254 : Cond.methodLink RX8 254 yX1_chanceOfThrowing ∈ zw_tb := zm 739 (by decide +kernel) rfl
theorem zl_X8_257 : Cond.methodLink RX8 257 yX1_begin ∈ zw_tb := zm 761 (by decide +kernel) rfl
theorem zl_X8_266 : Cond.methodLink RX8 266 yX1_fireBehindChance ∈ zw_tb := zm 765 (by decide +kernel) rfl
theorem zl_X8_269 : Cond.methodLink RX8 269 yX5_store ∈ zw_tb := zm 773 (by decide +kernel) rfl
theorem zl_X8_273 : Cond.methodLink RX8 273 yX5_fetch ∈ zw_tb := zm 778 (by decide +kernel) rfl
theorem zl_X8_276 : Cond.methodLink RX8 276 yJ9_abs_0f7a4 ∈ zw_tb := zm 685 (by decide +kernel) rfl
theorem zl_X8_281 : Cond.methodLink RX8 281 yX8_commonDivisor ∈ zw_tb := zm 688 (by decide +kernel) rfl
theorem zl_X0_27 : Cond.methodLink RX0 27 yX5_store ∈ zw_tb := zm 452 (by decide +kernel) rfl
theorem zl_X0_31 : Cond.methodLink RX0 31 yX5_fetch ∈ zw_tb := zm 555 (by decide +kernel) rfl
theorem zl_X1_22 : Cond.methodLink RX1 22 yX3_copyFrom ∈ zw_tb := zm 574 (by decide +kernel) rfl
theorem zl_X1_28 : Cond.methodLink RX1 28 yX1_begin ∈ zw_tb := zm 570 (by decide +kernel) rfl
theorem zl_X1_31 : Cond.methodLink RX1 31 yX3_passBeats ∈ zw_tb := zm 579 (by decide +kernel) rfl
theorem zl_X1_42 : Cond.methodLink RX1 42 yX3_passBeat ∈ zw_tb := zm 596 (by decide +kernel) rfl
theorem zl_X1_48 : Cond.methodLink RX1 48 yX3_follow ∈ zw_tb := zm 647 (by decide +kernel) rfl
theorem zl_X1_57 : Cond.methodLink RX1 57 yJ6_bitCount_0f7a4 ∈ zw_tb := zm 675 (by decide +kernel) rfl
theorem zl_X1_62 : (RX1, 62, yX8_factorial, "BucketChain") ∈ zw_nest := by decide +kernel
theorem zl_X1_65 : Cond.methodLink RX1 65 yX1_thrownWith ∈ zw_tb := zm 677 (by decide +kernel) rfl
theorem zl_X1_72 : Cond.methodLink RX1 72 yX1_thrownWhen ∈ zw_tb := zm 728 (by decide +kernel) rfl
theorem zl_X1_79 : Cond.methodLink RX1 79 yX1_weightOfFalling ∈ zw_tb := zm 743 (by decide +kernel) rfl
theorem zl_X1_83 : Cond.methodLink RX1 83 yX1_thrownWithout ∈ zw_tb := zm 748 (by decide +kernel) rfl
theorem zl_X1_86 : Cond.methodLink RX1 86 yX3_isHeld ∈ zw_tb := zm 747 (by decide +kernel) rfl
theorem zl_X1_90 : Cond.methodLink RX1 90 yX3_letFall ∈ zw_tb := zm 752 (by decide +kernel) rfl
theorem zl_X2_48 : Cond.methodLink RX2 48 yX2_takeLetter ∈ zw_tb := zm 359 (by decide +kernel) rfl
theorem zl_X2_52 : Cond.methodLink RX2 52 yX2_openPart ∈ zw_tb := zm 363 (by decide +kernel) rfl
theorem zl_X2_55 : Cond.methodLink RX2 55 yX2_leastFigure ∈ zw_tb := zm 367 (by decide +kernel) rfl
theorem zl_X2_59 : Cond.methodLink RX2 59 yX2_mostFigure ∈ zw_tb := zm 371 (by decide +kernel) rfl
theorem zl_X2_62 : Cond.methodLink RX2 62 yX2_takeFigure ∈ zw_tb := zm 375 (by decide +kernel) rfl
theorem zl_X2_65 : Cond.methodLink RX2 65 yX2_addPerson ∈ zw_tb := zm 379 (by decide +kernel) rfl
theorem zl_X2_68 : Cond.methodLink RX2 68 yX2_startBucket ∈ zw_tb := zm 383 (by decide +kernel) rfl
theorem zl_X2_71 : Cond.methodLink RX2 71 yX2_endBucket ∈ zw_tb := zm 387 (by decide +kernel) rfl
theorem zl_X3_28 : Cond.methodLink RX3 28 yX3_setUp ∈ zw_tb := zm 156 (by decide +kernel) rfl
theorem zl_X3_63 : Cond.methodLink RX3 63 yX3_kindAt ∈ zw_tb := zm 476 (by decide +kernel) rfl
theorem zl_X3_67 : Cond.methodLink RX3 67 yX3_standOf ∈ zw_tb := zm 523 (by decide +kernel) rfl
theorem zl_X3_70 : Cond.methodLink RX3 70 yX3_isHeld ∈ zw_tb := zm 506 (by decide +kernel) rfl
theorem zl_X3_74 : Cond.methodLink RX3 74 yX3_sendBack ∈ zw_tb := zm 483 (by decide +kernel) rfl
theorem zl_X3_78 : Cond.methodLink RX3 78 yX3_passBeat ∈ zw_tb := zm 583 (by decide +kernel) rfl
theorem zl_X3_82 : Cond.methodLink RX3 82 yX3_throwLast ∈ zw_tb := zm 467 (by decide +kernel) rfl
theorem zl_X3_88 : Cond.methodLink RX3 88 yX3_handOn ∈ zw_tb := zm 487 (by decide +kernel) rfl
theorem zl_X3_91 : Cond.methodLink RX3 91 yX3_fillAtWell ∈ zw_tb := zm 498 (by decide +kernel) rfl
theorem zl_X3_94 : Cond.methodLink RX3 94 yX3_leak ∈ zw_tb := zm 502 (by decide +kernel) rfl
theorem zl_X3_97 : Cond.methodLink RX3 97 yX3_runBack ∈ zw_tb := zm 511 (by decide +kernel) rfl
theorem zl_X3_103 : Cond.methodLink RX3 103 yJ9_min_7cf53 ∈ zw_tb := zm 495 (by decide +kernel) rfl
theorem zl_X3_109 : Cond.methodLink RX3 109 yX3_leastBucketAt ∈ zw_tb := zm 471 (by decide +kernel) rfl
theorem zl_X3_112 : Cond.methodLink RX3 112 yX3_worksAt ∈ zw_tb := zm 472 (by decide +kernel) rfl
theorem zl_X3_115 : Cond.methodLink RX3 115 yJ9_max_7cf53 ∈ zw_tb := zm 480 (by decide +kernel) rfl
theorem zl_X3_121 : Cond.methodLink RX3 121 yX3_give ∈ zw_tb := zm 491 (by decide +kernel) rfl
theorem zl_X3_128 : Cond.methodLink RX3 128 yX3_hasHole ∈ zw_tb := zm 510 (by decide +kernel) rfl
theorem zl_X3_131 : Cond.methodLink RX3 131 yX3_followChange ∈ zw_tb := zm 651 (by decide +kernel) rfl
theorem zl_X3_135 : Cond.methodLink RX3 135 yX3_followMend ∈ zw_tb := zm 657 (by decide +kernel) rfl
theorem zl_X3_138 : Cond.methodLink RX3 138 yX3_followDrop ∈ zw_tb := zm 662 (by decide +kernel) rfl
theorem zl_X3_141 : Cond.methodLink RX3 141 yX2_hasPerson ∈ zw_tb := zm 655 (by decide +kernel) rfl
theorem zl_X3_144 : Cond.methodLink RX3 144 yX3_exchange ∈ zw_tb := zm 656 (by decide +kernel) rfl
theorem zl_X3_148 : Cond.methodLink RX3 148 yX3_closeHole ∈ zw_tb := zm 661 (by decide +kernel) rfl
theorem zl_X3_151 : Cond.methodLink RX3 151 yX3_letFall ∈ zw_tb := zm 666 (by decide +kernel) rfl
theorem zl_X4_33 : Cond.methodLink RX4 33 yX3_copyFrom ∈ zw_tb := zm 605 (by decide +kernel) rfl
theorem zl_X4_39 : Cond.methodLink RX4 39 yX3_passBeats ∈ zw_tb := zm 606 (by decide +kernel) rfl
theorem zl_X4_51 : Cond.methodLink RX4 51 yX3_exchange ∈ zw_tb := zm 607 (by decide +kernel) rfl
theorem zl_X4_55 : Cond.methodLink RX4 55 yX4_prefer ∈ zw_tb := zm 608 (by decide +kernel) rfl
theorem zl_X4_59 : (RX4, 59, yX8_factorial, "BucketChain") ∈ zw_nest := by decide +kernel
theorem zl_X4_71 : Cond.methodLink RX4 71 yX4_orderFigures ∈ zw_tb := zm 624 (by decide +kernel) rfl
theorem zl_X4_75 : Cond.methodLink RX4 75 yX4_toNextOrder ∈ zw_tb := zm 628 (by decide +kernel) rfl
theorem zl_X4_79 : Cond.methodLink RX4 79 yJ9_min_7cf53 ∈ zw_tb := zm 632 (by decide +kernel) rfl
theorem zl_X4_85 : Cond.methodLink RX4 85 yX4_exchangeInOrder ∈ zw_tb := zm 633 (by decide +kernel) rfl
theorem zl_X5_15 : Cond.methodLink RX5 15 yX5_hasRow ∈ zw_tb := zm 456 (by decide +kernel) rfl
theorem zl_X6_25 : Cond.methodLink RX6 25 yX6_fits ∈ zw_tb := zm 711 (by decide +kernel) rfl
theorem zl_X6_29 : Cond.methodLink RX6 29 yJ9_min_7cf53 ∈ zw_tb := zm 715 (by decide +kernel) rfl
theorem zl_L_13 : Cond.methodLink RL 13 yX8_write ∈ zw_tb := zm 339 (by decide +kernel) rfl
theorem zl_L_17 : Cond.methodLink RL 17 yX9_write ∈ zw_tb := zm 901 (by decide +kernel) rfl
theorem zl_L_18 : Cond.methodLink RL 18 yX8_wipe ∈ zw_tb := zm 347 (by decide +kernel) rfl
theorem zl_L_22 : Cond.methodLink RL 22 yX9_wipe ∈ zw_tb := zm 909 (by decide +kernel) rfl
theorem zl_L_23 : Cond.methodLink RL 23 yX8_fault ∈ zw_tb := zm 351 (by decide +kernel) rfl
theorem zl_L_26 : Cond.methodLink RL 26 yX9_fault ∈ zw_tb := zm 913 (by decide +kernel) rfl
theorem zl_L_27 : Cond.methodLink RL 27 yX8_night ∈ zw_tb := zm 391 (by decide +kernel) rfl
theorem zl_L_30 : Cond.methodLink RL 30 yX9_night ∈ zw_tb := zm 941 (by decide +kernel) rfl
theorem zl_L_31 : Cond.methodLink RL 31 yX8_about ∈ zw_tb := zm 400 (by decide +kernel) rfl
theorem zl_L_34 : Cond.methodLink RL 34 yX9_about ∈ zw_tb := zm 945 (by decide +kernel) rfl
theorem zl_L_35 : Cond.methodLink RL 35 yX8_person ∈ zw_tb := zm 412 (by decide +kernel) rfl
theorem zl_L_39 : Cond.methodLink RL 39 yX9_person ∈ zw_tb := zm 957 (by decide +kernel) rfl
theorem zl_L_40 : Cond.methodLink RL 40 yX8_stand ∈ zw_tb := zm 424 (by decide +kernel) rfl
theorem zl_L_43 : Cond.methodLink RL 43 yX9_stand ∈ zw_tb := zm 968 (by decide +kernel) rfl
theorem zl_L_44 : Cond.methodLink RL 44 yX8_bucket ∈ zw_tb := zm 432 (by decide +kernel) rfl
theorem zl_L_47 : Cond.methodLink RL 47 yX9_bucket ∈ zw_tb := zm 976 (by decide +kernel) rfl
theorem zl_L_48 : Cond.methodLink RL 48 yX8_beat ∈ zw_tb := zm 444 (by decide +kernel) rfl
theorem zl_L_51 : Cond.methodLink RL 51 yX9_beat ∈ zw_tb := zm 984 (by decide +kernel) rfl
theorem zl_L_52 : Cond.methodLink RL 52 yX8_change ∈ zw_tb := zm 515 (by decide +kernel) rfl
theorem zl_L_55 : Cond.methodLink RL 55 yX9_change ∈ zw_tb := zm 1031 (by decide +kernel) rfl
theorem zl_L_56 : Cond.methodLink RL 56 yX8_mend ∈ zw_tb := zm 524 (by decide +kernel) rfl
theorem zl_L_59 : Cond.methodLink RL 59 yX9_mend ∈ zw_tb := zm 1039 (by decide +kernel) rfl
theorem zl_L_60 : Cond.methodLink RL 60 yX8_drop ∈ zw_tb := zm 538 (by decide +kernel) rfl
theorem zl_L_63 : Cond.methodLink RL 63 yX9_drop ∈ zw_tb := zm 1046 (by decide +kernel) rfl
theorem zl_L_64 : Cond.methodLink RL 64 yX8_undo ∈ zw_tb := zm 547 (by decide +kernel) rfl
theorem zl_L_67 : Cond.methodLink RL 67 yX9_undo ∈ zw_tb := zm 1050 (by decide +kernel) rfl
theorem zl_L_68 : Cond.methodLink RL 68 yX8_later ∈ zw_tb := zm 559 (by decide +kernel) rfl
theorem zl_L_71 : Cond.methodLink RL 71 yX9_later ∈ zw_tb := zm 1054 (by decide +kernel) rfl
theorem zl_L_72 : Cond.methodLink RL 72 yX8_out ∈ zw_tb := zm 588 (by decide +kernel) rfl
theorem zl_L_75 : Cond.methodLink RL 75 yX9_out ∈ zw_tb := zm 1067 (by decide +kernel) rfl
theorem zl_L_76 : Cond.methodLink RL 76 yX8_swap ∈ zw_tb := zm 597 (by decide +kernel) rfl
theorem zl_L_79 : Cond.methodLink RL 79 yX9_swap ∈ zw_tb := zm 1071 (by decide +kernel) rfl
theorem zl_L_80 : Cond.methodLink RL 80 yX8_line ∈ zw_tb := zm 612 (by decide +kernel) rfl
theorem zl_L_83 : Cond.methodLink RL 83 yX9_line ∈ zw_tb := zm 1076 (by decide +kernel) rfl
theorem zl_L_86 : Cond.methodLink RL 86 yX8_judge ∈ zw_tb := zm 637 (by decide +kernel) rfl
theorem zl_L_90 : Cond.methodLink RL 90 yX9_judge ∈ zw_tb := zm 1092 (by decide +kernel) rfl
theorem zl_L_91 : Cond.methodLink RL 91 yX8_share ∈ zw_tb := zm 667 (by decide +kernel) rfl
theorem zl_L_95 : Cond.methodLink RL 95 yX9_share ∈ zw_tb := zm 1117 (by decide +kernel) rfl
theorem zl_L_96 : Cond.methodLink RL 96 yX8_see ∈ zw_tb := zm 691 (by decide +kernel) rfl
theorem zl_L_100 : Cond.methodLink RL 100 yX9_see ∈ zw_tb := zm 1130 (by decide +kernel) rfl
theorem zl_L_101 : Cond.methodLink RL 101 yX8_unsee ∈ zw_tb := zm 699 (by decide +kernel) rfl
theorem zl_L_104 : Cond.methodLink RL 104 yX9_unsee ∈ zw_tb := zm 1136 (by decide +kernel) rfl
theorem zl_L_105 : Cond.methodLink RL 105 yX8_fires ∈ zw_tb := zm 703 (by decide +kernel) rfl
theorem zl_L_108 : Cond.methodLink RL 108 yX9_fires ∈ zw_tb := zm 1140 (by decide +kernel) rfl
theorem zl_L_109 : Cond.methodLink RL 109 yX8_rests ∈ zw_tb := zm 720 (by decide +kernel) rfl
theorem zl_L_112 : Cond.methodLink RL 112 yX9_rests ∈ zw_tb := zm 1147 (by decide +kernel) rfl
theorem zl_L_113 : Cond.methodLink RL 113 yX8_falls ∈ zw_tb := zm 735 (by decide +kernel) rfl
theorem zl_L_117 : Cond.methodLink RL 117 yX9_falls ∈ zw_tb := zm 1151 (by decide +kernel) rfl
theorem zl_L_118 : Cond.methodLink RL 118 yX8_seed ∈ zw_tb := zm 753 (by decide +kernel) rfl
theorem zl_L_122 : Cond.methodLink RL 122 yX9_seed ∈ zw_tb := zm 1159 (by decide +kernel) rfl
theorem zl_L_123 : Cond.methodLink RL 123 yX8_nights ∈ zw_tb := zm 757 (by decide +kernel) rfl
theorem zl_L_126 : Cond.methodLink RL 126 yX9_nights ∈ zw_tb := zm 1163 (by decide +kernel) rfl
theorem zl_L_127 : Cond.methodLink RL 127 yX8_keep ∈ zw_tb := zm 769 (by decide +kernel) rfl
theorem zl_L_130 : Cond.methodLink RL 130 yX9_keep ∈ zw_tb := zm 1171 (by decide +kernel) rfl
theorem zl_L_131 : Cond.methodLink RL 131 yX8_again ∈ zw_tb := zm 774 (by decide +kernel) rfl
theorem zl_L_134 : Cond.methodLink RL 134 yX9_again ∈ zw_tb := zm 1175 (by decide +kernel) rfl
theorem zl_X9_66 : Cond.methodLink RX9 66 yX9_in ∈ zw_tb := zm 906 (by decide +kernel) rfl
theorem zl_X9_81 : Cond.methodLink RX9 81 yX9_figure ∈ zw_tb := zm 925 (by decide +kernel) rfl
theorem zl_X9_94 : Cond.methodLink RX9 94 yX9_readPerson ∈ zw_tb := zm 933 (by decide +kernel) rfl
theorem zl_X9_98 : Cond.methodLink RX9 98 yX9_readBucket ∈ zw_tb := zm 937 (by decide +kernel) rfl
theorem zl_X9_110 : Cond.methodLink RX9 110 yX9_readHead ∈ zw_tb := zm 921 (by decide +kernel) rfl
theorem zl_X9_113 : Cond.methodLink RX9 113 yX9_readPart ∈ zw_tb := zm 929 (by decide +kernel) rfl
theorem zl_X9_116 : Cond.methodLink RX9 116 yX9_readNight ∈ zw_tb := zm 917 (by decide +kernel) rfl
theorem zl_X9_129 : Cond.methodLink RX9 129 yX9_has ∈ zw_tb := zm 1004 (by decide +kernel) rfl
theorem zl_X9_133 : Cond.methodLink RX9 133 yX9_heldAt ∈ zw_tb := zm 972 (by decide +kernel) rfl
theorem zl_X9_137 : Cond.methodLink RX9 137 yX9_works ∈ zw_tb := zm 1000 (by decide +kernel) rfl
theorem zl_X9_141 : Cond.methodLink RX9 141 yX9_isChild ∈ zw_tb := zm 1011 (by decide +kernel) rfl
theorem zl_X9_145 : Cond.methodLink RX9 145 yX9_throwsIt ∈ zw_tb := zm 996 (by decide +kernel) rfl
theorem zl_X9_148 : Cond.methodLink RX9 148 yX9_handOn ∈ zw_tb := zm 1007 (by decide +kernel) rfl
theorem zl_X9_152 : Cond.methodLink RX9 152 yX9_fill ∈ zw_tb := zm 1015 (by decide +kernel) rfl
theorem zl_X9_156 : Cond.methodLink RX9 156 yX9_leak ∈ zw_tb := zm 1019 (by decide +kernel) rfl
theorem zl_X9_159 : Cond.methodLink RX9 159 yX9_comeBack ∈ zw_tb := zm 1023 (by decide +kernel) rfl
theorem zl_X9_162 : Cond.methodLink RX9 162 yX9_sendBack ∈ zw_tb := zm 1027 (by decide +kernel) rfl
theorem zl_X9_166 : Cond.methodLink RX9 166 yX9_standsWith ∈ zw_tb := zm 949 (by decide +kernel) rfl
theorem zl_X9_170 : Cond.methodLink RX9 170 yX9_bucketsAt ∈ zw_tb := zm 953 (by decide +kernel) rfl
theorem zl_X9_177 : Cond.methodLink RX9 177 yX9_noOne ∈ zw_tb := zm 961 (by decide +kernel) rfl
theorem zl_X9_181 : Cond.methodLink RX9 181 yX9_standOf ∈ zw_tb := zm 965 (by decide +kernel) rfl
theorem zl_X9_184 : Cond.methodLink RX9 184 yX9_noBucket ∈ zw_tb := zm 980 (by decide +kernel) rfl
theorem zl_X9_187 : Cond.methodLink RX9 187 yX9_note ∈ zw_tb := zm 988 (by decide +kernel) rfl
theorem zl_X9_190 : Cond.methodLink RX9 190 yX9_goBeat ∈ zw_tb := zm 992 (by decide +kernel) rfl
theorem zl_X9_193 : Cond.methodLink RX9 193 yX9_goChange ∈ zw_tb := zm 1035 (by decide +kernel) rfl
theorem zl_X9_196 : Cond.methodLink RX9 196 yX9_many ∈ zw_tb := zm 1043 (by decide +kernel) rfl
theorem zl_X9_202 : Cond.methodLink RX9 202 yX9_begin ∈ zw_tb := zm 1059 (by decide +kernel) rfl
theorem zl_X9_205 : Cond.methodLink RX9 205 yX9_goBeats ∈ zw_tb := zm 1063 (by decide +kernel) rfl
theorem zl_X9_217 : Cond.methodLink RX9 217 yX9_turnLine ∈ zw_tb := zm 1088 (by decide +kernel) rfl
theorem zl_X9_220 : Cond.methodLink RX9 220 yX9_lineFigures ∈ zw_tb := zm 1080 (by decide +kernel) rfl
theorem zl_X9_223 : Cond.methodLink RX9 223 yX9_nextLine ∈ zw_tb := zm 1084 (by decide +kernel) rfl
theorem zl_X9_226 : Cond.methodLink RX9 226 yX9_changes ∈ zw_tb := zm 1105 (by decide +kernel) rfl
theorem zl_X9_229 : Cond.methodLink RX9 229 yX9_mends ∈ zw_tb := zm 1109 (by decide +kernel) rfl
theorem zl_X9_232 : Cond.methodLink RX9 232 yX9_drops ∈ zw_tb := zm 1113 (by decide +kernel) rfl
theorem zl_X9_239 : Cond.methodLink RX9 239 yX9_longPower ∈ zw_tb := zm 1098 (by decide +kernel) rfl
theorem zl_X9_243 : Cond.methodLink RX9 243 yX9_does ∈ zw_tb := zm 1101 (by decide +kernel) rfl
theorem zl_X9_246 : Cond.methodLink RX9 246 yX9_divisor ∈ zw_tb := zm 1127 (by decide +kernel) rfl
theorem zl_X9_249 : Cond.methodLink RX9 249 yX9_ways ∈ zw_tb := zm 1121 (by decide +kernel) rfl
theorem zl_X9_252 : Cond.methodLink RX9 252 yX9_fraction ∈ zw_tb := zm 1124 (by decide +kernel) rfl
theorem zl_X9_266 : Cond.methodLink RX9 266 yX9_fireBy ∈ zw_tb := zm 1144 (by decide +kernel) rfl
theorem zl_X9_278 : Cond.methodLink RX9 278 yX9_power ∈ zw_tb := zm 1156 (by decide +kernel) rfl
theorem zl_X3_54 : Cond.methodLink RX3 54 arraycopyName ∈ zw_tb := zm 578 (by decide +kernel) rfl
theorem zl_X4_65 : Cond.methodLink RX4 65 arraycopyName ∈ zw_tb := zm 623 (by decide +kernel) rfl
theorem zl_X5_24 : Cond.methodLink RX5 24 arraycopyName ∈ zw_tb := zm 460 (by decide +kernel) rfl
theorem zl_copy : Cond.native arraycopyName ∈ zw_tb ∧ Cond.static arraycopyName ∈ zw_tb ∧ Cond.initialized "java/lang/System" ∈ zw_tb := ⟨zm 462 (by decide +kernel) rfl, zm 461 (by decide +kernel) rfl, zm 72 (by decide +kernel) rfl⟩
theorem zk_J6_265 : Cond.constant RJ6 265 (1431655765 : Int32) ∈ zw_tb := zm 535 (by decide +kernel) rfl
theorem zk_J6_266 : Cond.constant RJ6 266 (858993459 : Int32) ∈ zw_tb := zm 536 (by decide +kernel) rfl
theorem zk_J6_267 : Cond.constant RJ6 267 (252645135 : Int32) ∈ zw_tb := zm 537 (by decide +kernel) rfl
theorem zk_X8_221 : Cond.constantLong RX8 221 (1000 : Int64) ∈ zw_tb := zm 641 (by decide +kernel) rfl
theorem zk_X8_260 : Cond.constantLong RX8 260 (6364136223846793005 : Int64) ∈ zw_tb := zm 762 (by decide +kernel) rfl
theorem zk_X8_262 : Cond.constantLong RX8 262 (1442695040888963407 : Int64) ∈ zw_tb := zm 763 (by decide +kernel) rfl
theorem zk_X8_264 : Cond.constantLong RX8 264 (24 : Int64) ∈ zw_tb := zm 764 (by decide +kernel) rfl
theorem zk_X1_46 : Cond.constantLong RX1 46 (1000 : Int64) ∈ zw_tb := zm 646 (by decide +kernel) rfl
theorem zk_L_84 : Cond.constantLong RL 84 (4294967295 : Int64) ∈ zw_tb := zm 1179 (by decide +kernel) rfl
theorem zk_X9_73 : Cond.constantLong RX9 73 (255 : Int64) ∈ zw_tb := zm 905 (by decide +kernel) rfl
theorem zk_X9_200 : Cond.constantLong RX9 200 (40 : Int64) ∈ zw_tb := zm 1058 (by decide +kernel) rfl
theorem zk_X9_209 : Cond.constantLong RX9 209 (20 : Int64) ∈ zw_tb := zm 1075 (by decide +kernel) rfl
theorem zk_X9_235 : Cond.constantLong RX9 235 (4 : Int64) ∈ zw_tb := zm 1096 (by decide +kernel) rfl
theorem zk_X9_237 : Cond.constantLong RX9 237 (1000 : Int64) ∈ zw_tb := zm 1097 (by decide +kernel) rfl
theorem zk_X9_256 : Cond.constantLong RX9 256 (9 : Int64) ∈ zw_tb := zm 1134 (by decide +kernel) rfl
theorem zk_X9_258 : Cond.constantLong RX9 258 (99 : Int64) ∈ zw_tb := zm 1135 (by decide +kernel) rfl
theorem zk_X9_276 : Cond.constantLong RX9 276 (10 : Int64) ∈ zw_tb := zm 1155 (by decide +kernel) rfl
theorem zk_X9_285 : Cond.constantLong RX9 285 (30 : Int64) ∈ zw_tb := zm 1167 (by decide +kernel) rfl
theorem zk_X9_287 : Cond.constantLong RX9 287 (6364136223846793005 : Int64) ∈ zw_tb := zm 1168 (by decide +kernel) rfl
theorem zk_X9_289 : Cond.constantLong RX9 289 (1442695040888963407 : Int64) ∈ zw_tb := zm 1169 (by decide +kernel) rfl
theorem zk_X9_291 : Cond.constantLong RX9 291 (24 : Int64) ∈ zw_tb := zm 1170 (by decide +kernel) rfl
end
section
section
variable {p : Program} {l : Launch} {e : Env} {s : State} {m : MethodId} {args : Array Value} {below : List Frame} {meth : Method} {c : Code} {E : zw_En}
noncomputable def M_J9_abs_0f7a4 (x0 : Int32) (h : zw_Hp) : Option (Int32) :=
  if 0 ≤ x0 then (some x0) else (some (-x0))
set_option maxRecDepth 100000 in
set_option maxHeartbeats 4000000 in
theorem R_J9_abs_0f7a4 (ok : zw_Ok E) (hI : ∀ i, i < 48 → i ∈ E.2.2.1) {x0 : Int32} {h : zw_Hp} {z : Int32} (hM : M_J9_abs_0f7a4 x0 h = some z) : zw_Ct l E mt_J9_abs_0f7a4 [.int x0] h (some (.int z)) h := by
  unfold M_J9_abs_0f7a4 at hM
  refine zw_ct (lv0 := [(0, .int x0)]) ok (by decide) rfl (by decide) (fun p e s m args below meth c g hr hlk => ?_)
  replace g : zw_G p E (zw_A E) s m args c RJ9 cJ9_abs_0f7a4 1 := g
  show zw_V p l e s m args below meth c E mt_J9_abs_0f7a4 1 (some (.int z)) h 0 [(0, .int x0)] [] h
  refine zr_iload_n (q := 1) g 0 dJ9_abs_0f7a4_0 rfl rfl rfl ?_
  refine zr_if_ge (q := 4) (tgt := 9) g dJ9_abs_0f7a4_1 rfl rfl (fun c1 => ?_) (fun c1 => ?_)
  · replace hM := zw_ift c1 hM
    refine zr_iload_n (q := 10) g 0 dJ9_abs_0f7a4_9 rfl rfl rfl ?_
    cases hM
    exact zr_iret g hr hlk dJ9_abs_0f7a4_10 rfl rfl
  · replace hM := zw_iff c1 hM
    refine zr_iload_n (q := 5) g 0 dJ9_abs_0f7a4_4 rfl rfl rfl ?_
    refine zr_ineg (q := 6) g dJ9_abs_0f7a4_5 rfl ?_
    refine zr_goto (tgt := 10) g dJ9_abs_0f7a4_6 rfl ?_
    cases hM
    exact zr_iret g hr hlk dJ9_abs_0f7a4_10 rfl rfl
noncomputable def M_J9_max_7cf53 (x0 : Int32) (x1 : Int32) (h : zw_Hp) : Option (Int32) :=
  if x0 < x1 then (some x1) else (some x0)
set_option maxRecDepth 100000 in
set_option maxHeartbeats 4000000 in
theorem R_J9_max_7cf53 (ok : zw_Ok E) (hI : ∀ i, i < 48 → i ∈ E.2.2.1) {x0 : Int32} {x1 : Int32} {h : zw_Hp} {z : Int32} (hM : M_J9_max_7cf53 x0 x1 h = some z) : zw_Ct l E mt_J9_max_7cf53 [.int x0, .int x1] h (some (.int z)) h := by
  unfold M_J9_max_7cf53 at hM
  refine zw_ct (lv0 := [(0, .int x0), (1, .int x1)]) ok (by decide) rfl (by decide) (fun p e s m args below meth c g hr hlk => ?_)
  replace g : zw_G p E (zw_A E) s m args c RJ9 cJ9_max_7cf53 2 := g
  show zw_V p l e s m args below meth c E mt_J9_max_7cf53 2 (some (.int z)) h 0 [(0, .int x0), (1, .int x1)] [] h
  refine zr_iload_n (q := 1) g 0 dJ9_max_7cf53_0 rfl rfl rfl ?_
  refine zr_iload_n (q := 2) g 1 dJ9_max_7cf53_1 rfl rfl rfl ?_
  refine zr_icmp_lt (q := 5) (tgt := 9) g dJ9_max_7cf53_2 rfl rfl (fun c1 => ?_) (fun c1 => ?_)
  · replace hM := zw_ift c1 hM
    refine zr_iload_n (q := 10) g 1 dJ9_max_7cf53_9 rfl rfl rfl ?_
    cases hM
    exact zr_iret g hr hlk dJ9_max_7cf53_10 rfl rfl
  · replace hM := zw_iff c1 hM
    refine zr_iload_n (q := 6) g 0 dJ9_max_7cf53_5 rfl rfl rfl ?_
    refine zr_goto (tgt := 10) g dJ9_max_7cf53_6 rfl ?_
    cases hM
    exact zr_iret g hr hlk dJ9_max_7cf53_10 rfl rfl
noncomputable def M_J9_min_7cf53 (x0 : Int32) (x1 : Int32) (h : zw_Hp) : Option (Int32) :=
  if x1 < x0 then (some x1) else (some x0)
set_option maxRecDepth 100000 in
set_option maxHeartbeats 4000000 in
theorem R_J9_min_7cf53 (ok : zw_Ok E) (hI : ∀ i, i < 48 → i ∈ E.2.2.1) {x0 : Int32} {x1 : Int32} {h : zw_Hp} {z : Int32} (hM : M_J9_min_7cf53 x0 x1 h = some z) : zw_Ct l E mt_J9_min_7cf53 [.int x0, .int x1] h (some (.int z)) h := by
  unfold M_J9_min_7cf53 at hM
  refine zw_ct (lv0 := [(0, .int x0), (1, .int x1)]) ok (by decide) rfl (by decide) (fun p e s m args below meth c g hr hlk => ?_)
  replace g : zw_G p E (zw_A E) s m args c RJ9 cJ9_min_7cf53 2 := g
  show zw_V p l e s m args below meth c E mt_J9_min_7cf53 2 (some (.int z)) h 0 [(0, .int x0), (1, .int x1)] [] h
  refine zr_iload_n (q := 1) g 0 dJ9_min_7cf53_0 rfl rfl rfl ?_
  refine zr_iload_n (q := 2) g 1 dJ9_min_7cf53_1 rfl rfl rfl ?_
  refine zr_icmp_gt (q := 5) (tgt := 9) g dJ9_min_7cf53_2 rfl rfl (fun c1 => ?_) (fun c1 => ?_)
  · replace hM := zw_ift c1 hM
    refine zr_iload_n (q := 10) g 1 dJ9_min_7cf53_9 rfl rfl rfl ?_
    cases hM
    exact zr_iret g hr hlk dJ9_min_7cf53_10 rfl rfl
  · replace hM := zw_iff c1 hM
    refine zr_iload_n (q := 6) g 0 dJ9_min_7cf53_5 rfl rfl rfl ?_
    refine zr_goto (tgt := 10) g dJ9_min_7cf53_6 rfl ?_
    cases hM
    exact zr_iret g hr hlk dJ9_min_7cf53_10 rfl rfl
noncomputable def M_X2_hasPerson (t : Nat) (x1 : Int32) (h : zw_Hp) : Option (Int32) :=
  if x1 < 0 then (some (0 : Int32)) else (if (h.1 t 2) ≤ x1 then (some (0 : Int32)) else (if (5 : Int32) ≤ x1 then (some (0 : Int32)) else (some (1 : Int32))))
set_option maxRecDepth 100000 in
set_option maxHeartbeats 4000000 in
theorem R_X2_hasPerson {t : Nat} (k_t : t = 3 ∨ t = 6) (ok : zw_Ok E) (hI : ∀ i, i < 48 → i ∈ E.2.2.1) {x1 : Int32} {h : zw_Hp} {z : Int32} (hM : M_X2_hasPerson t x1 h = some z) : zw_Ct l E mt_X2_hasPerson [.ref (E.2.1 t), .int x1] h (some (.int z)) h := by
  unfold M_X2_hasPerson at hM
  refine zw_ct (lv0 := [(0, .ref (E.2.1 t)), (1, .int x1)]) ok (by decide) rfl (by decide) (fun p e s m args below meth c g hr hlk => ?_)
  replace g : zw_G p E (zw_A E) s m args c RX2 cX2_hasPerson 2 := g
  show zw_V p l e s m args below meth c E mt_X2_hasPerson 2 (some (.int z)) h 0 [(0, .ref (E.2.1 t)), (1, .int x1)] [] h
  refine zr_iload_n (q := 1) g 1 dX2_hasPerson_0 rfl rfl rfl ?_
  refine zr_if_lt (q := 4) (tgt := 25) g dX2_hasPerson_1 rfl rfl (fun c1 => ?_) (fun c1 => ?_)
  · replace hM := zw_ift c1 hM
    refine zr_iconst (q := 26) (v := (0 : Int32)) g dX2_hasPerson_25 rfl (by decide) ?_
    cases hM
    exact zr_zret g hr hlk (by decide) dX2_hasPerson_26 rfl rfl
  · replace hM := zw_iff c1 hM
    refine zr_iload_n (q := 5) g 1 dX2_hasPerson_4 rfl rfl rfl ?_
    refine zr_aload_n (q := 6) g 0 dX2_hasPerson_5 rfl rfl rfl ?_
    refine zr_geti (q := 9) (k0 := 2) g (hI _ (zb_pl0 k_t)) (zs_pl0 k_t) rfl zf_X2_18 dX2_hasPerson_6 rfl ?_
    refine zr_icmp_ge (q := 12) (tgt := 25) g dX2_hasPerson_9 rfl rfl (fun c2 => ?_) (fun c2 => ?_)
    · replace hM := zw_ift c2 hM
      refine zr_iconst (q := 26) (v := (0 : Int32)) g dX2_hasPerson_25 rfl (by decide) ?_
      cases hM
      exact zr_zret g hr hlk (by decide) dX2_hasPerson_26 rfl rfl
    · replace hM := zw_iff c2 hM
      refine zr_iload_n (q := 13) g 1 dX2_hasPerson_12 rfl rfl rfl ?_
      refine zr_aload_n (q := 14) g 0 dX2_hasPerson_13 rfl rfl rfl ?_
      refine zr_getr (q := 17) (k0 := 0) (j := (t + 1)) g (hI _ (zb_pl0 k_t)) (zs_pl0 k_t) rfl zf_X2_9 dX2_hasPerson_14 rfl ?_
      refine zr_alen (q := 18) (v := (5 : Int32)) g (hI _ (zb_pl1 k_t)) (zs_pl1 k_t) rfl dX2_hasPerson_17 rfl ?_
      refine zr_icmp_ge (q := 21) (tgt := 25) g dX2_hasPerson_18 rfl rfl (fun c3 => ?_) (fun c3 => ?_)
      · replace hM := zw_ift c3 hM
        refine zr_iconst (q := 26) (v := (0 : Int32)) g dX2_hasPerson_25 rfl (by decide) ?_
        cases hM
        exact zr_zret g hr hlk (by decide) dX2_hasPerson_26 rfl rfl
      · replace hM := zw_iff c3 hM
        refine zr_iconst (q := 22) (v := (1 : Int32)) g dX2_hasPerson_21 rfl (by decide) ?_
        refine zr_goto (tgt := 26) g dX2_hasPerson_22 rfl ?_
        cases hM
        exact zr_zret g hr hlk (by decide) dX2_hasPerson_26 rfl rfl
noncomputable def M_X2_hasBucket (t : Nat) (x1 : Int32) (h : zw_Hp) : Option (Int32) :=
  if x1 < 0 then (some (0 : Int32)) else (if (h.1 t 3) ≤ x1 then (some (0 : Int32)) else (if (4 : Int32) ≤ x1 then (some (0 : Int32)) else (some (1 : Int32))))
set_option maxRecDepth 100000 in
set_option maxHeartbeats 4000000 in
theorem R_X2_hasBucket {t : Nat} (k_t : t = 3 ∨ t = 6) (ok : zw_Ok E) (hI : ∀ i, i < 48 → i ∈ E.2.2.1) {x1 : Int32} {h : zw_Hp} {z : Int32} (hM : M_X2_hasBucket t x1 h = some z) : zw_Ct l E mt_X2_hasBucket [.ref (E.2.1 t), .int x1] h (some (.int z)) h := by
  unfold M_X2_hasBucket at hM
  refine zw_ct (lv0 := [(0, .ref (E.2.1 t)), (1, .int x1)]) ok (by decide) rfl (by decide) (fun p e s m args below meth c g hr hlk => ?_)
  replace g : zw_G p E (zw_A E) s m args c RX2 cX2_hasBucket 2 := g
  show zw_V p l e s m args below meth c E mt_X2_hasBucket 2 (some (.int z)) h 0 [(0, .ref (E.2.1 t)), (1, .int x1)] [] h
  refine zr_iload_n (q := 1) g 1 dX2_hasBucket_0 rfl rfl rfl ?_
  refine zr_if_lt (q := 4) (tgt := 25) g dX2_hasBucket_1 rfl rfl (fun c1 => ?_) (fun c1 => ?_)
  · replace hM := zw_ift c1 hM
    refine zr_iconst (q := 26) (v := (0 : Int32)) g dX2_hasBucket_25 rfl (by decide) ?_
    cases hM
    exact zr_zret g hr hlk (by decide) dX2_hasBucket_26 rfl rfl
  · replace hM := zw_iff c1 hM
    refine zr_iload_n (q := 5) g 1 dX2_hasBucket_4 rfl rfl rfl ?_
    refine zr_aload_n (q := 6) g 0 dX2_hasBucket_5 rfl rfl rfl ?_
    refine zr_geti (q := 9) (k0 := 3) g (hI _ (zb_pl0 k_t)) (zs_pl0 k_t) rfl zf_X2_22 dX2_hasBucket_6 rfl ?_
    refine zr_icmp_ge (q := 12) (tgt := 25) g dX2_hasBucket_9 rfl rfl (fun c2 => ?_) (fun c2 => ?_)
    · replace hM := zw_ift c2 hM
      refine zr_iconst (q := 26) (v := (0 : Int32)) g dX2_hasBucket_25 rfl (by decide) ?_
      cases hM
      exact zr_zret g hr hlk (by decide) dX2_hasBucket_26 rfl rfl
    · replace hM := zw_iff c2 hM
      refine zr_iload_n (q := 13) g 1 dX2_hasBucket_12 rfl rfl rfl ?_
      refine zr_aload_n (q := 14) g 0 dX2_hasBucket_13 rfl rfl rfl ?_
      refine zr_getr (q := 17) (k0 := 1) (j := (t + 2)) g (hI _ (zb_pl0 k_t)) (zs_pl0 k_t) rfl zf_X2_15 dX2_hasBucket_14 rfl ?_
      refine zr_alen (q := 18) (v := (4 : Int32)) g (hI _ (zb_pl2 k_t)) (zs_pl2 k_t) rfl dX2_hasBucket_17 rfl ?_
      refine zr_icmp_ge (q := 21) (tgt := 25) g dX2_hasBucket_18 rfl rfl (fun c3 => ?_) (fun c3 => ?_)
      · replace hM := zw_ift c3 hM
        refine zr_iconst (q := 26) (v := (0 : Int32)) g dX2_hasBucket_25 rfl (by decide) ?_
        cases hM
        exact zr_zret g hr hlk (by decide) dX2_hasBucket_26 rfl rfl
      · replace hM := zw_iff c3 hM
        refine zr_iconst (q := 22) (v := (1 : Int32)) g dX2_hasBucket_21 rfl (by decide) ?_
        refine zr_goto (tgt := 26) g dX2_hasBucket_22 rfl ?_
        cases hM
        exact zr_zret g hr hlk (by decide) dX2_hasBucket_26 rfl rfl
noncomputable def B_X3_standOf_2 (t : Nat) (h : zw_Hp) (k2 : (Int32 × Int32) → Option (Int32)) (x1 : Int32) (x2 : Int32) : Option (Int32) :=
  if (5 : Int32) ≤ x2 then (some (-9 : Int32)) else (if zw_ok x2 5 = true then (if (h.1 (t + 1) (x2).toNatClampNeg) = x1 then (some x2) else (zw_nm (x2 + (1 : Int32)) (fun y4 => k2 (x1, y4)))) else none)
set_option maxRecDepth 100000 in
set_option maxHeartbeats 4000000 in
theorem U_X3_standOf_2 {t : Nat} (k_t : t = 9 ∨ t = 14) {h : zw_Hp} (ok : zw_Ok E) (hI : ∀ i, i < 48 → i ∈ E.2.2.1) (g : zw_G p E (zw_A E) s m args c RX3 cX3_standOf 3) (hr : meth.sig.returnType = some .int) (hlk : meth.locks = false) {k2 : (Int32 × Int32) → Option (Int32)} (e2 : ∀ (w : Int32 × Int32) (z : Int32), k2 w = some z → zw_V p l e s m args below meth c E mt_X3_standOf 3 (some (.int z)) h 2 [(0, .ref (E.2.1 t)), (1, .int w.1), (2, .int w.2)] [] h) :
    ∀ (x1 : Int32) (x2 : Int32) (z : Int32), B_X3_standOf_2 t h k2 x1 x2 = some z → zw_V p l e s m args below meth c E mt_X3_standOf 3 (some (.int z)) h 2 [(0, .ref (E.2.1 t)), (1, .int x1), (2, .int x2)] [] h := by
  intro x1 x2 z hM
  unfold B_X3_standOf_2 at hM
  refine zr_iload_n (q := 3) g 2 dX3_standOf_2 rfl rfl rfl ?_
  refine zr_aload_n (q := 4) g 0 dX3_standOf_3 rfl rfl rfl ?_
  refine zr_getr (q := 7) (k0 := 1) (j := (t + 1)) g (hI _ (zb_sc0 k_t)) (zs_sc0 k_t) rfl zf_X3_9 dX3_standOf_4 rfl ?_
  refine zr_alen (q := 8) (v := (5 : Int32)) g (hI _ (zb_sc1 k_t)) (zs_sc1 k_t) rfl dX3_standOf_7 rfl ?_
  refine zr_icmp_ge (q := 11) (tgt := 29) g dX3_standOf_8 rfl rfl (fun c1 => ?_) (fun c1 => ?_)
  · replace hM := zw_ift c1 hM
    refine zr_bipush (q := 31) (v := (-9 : Int32)) g dX3_standOf_29 rfl (by decide) ?_
    cases hM
    exact zr_iret g hr hlk dX3_standOf_31 rfl rfl
  · replace hM := zw_iff c1 hM
    refine zr_aload_n (q := 12) g 0 dX3_standOf_11 rfl rfl rfl ?_
    refine zr_getr (q := 15) (k0 := 1) (j := (t + 1)) g (hI _ (zb_sc0 k_t)) (zs_sc0 k_t) rfl zf_X3_9 dX3_standOf_12 rfl ?_
    refine zr_iload_n (q := 16) g 2 dX3_standOf_15 rfl rfl rfl ?_
    obtain ⟨c2, hM⟩ := zw_gd hM
    refine zr_iald (q := 17) g (hI _ (zb_sc1 k_t)) (zs_sc1 k_t) c2 dX3_standOf_16 rfl ?_
    refine zr_iload_n (q := 18) g 1 dX3_standOf_17 rfl rfl rfl ?_
    refine zr_icmp_ne (q := 21) (tgt := 23) g dX3_standOf_18 rfl rfl (fun c3 => ?_) (fun c3 => ?_)
    · replace hM := zw_iff c3 hM
      obtain ⟨y4, e5, hM⟩ := zw_nm_ex hM
      refine zr_iinc (q := 26) (v := y4) (lv' := [(2, .int y4), (0, .ref (E.2.1 t)), (1, .int x1)]) g 2 dX3_standOf_23 rfl rfl (by rw [e5]; rfl) (by decide) rfl ?_
      refine zr_goto (tgt := 2) g dX3_standOf_26 rfl ?_
      refine zr_lv (lv' := [(0, .ref (E.2.1 t)), (1, .int x1), (2, .int y4)]) [1, 2, 0] rfl ?_
      exact e2 _ _ hM
    · replace hM := zw_ift c3 hM
      refine zr_iload_n (q := 22) g 2 dX3_standOf_21 rfl rfl rfl ?_
      cases hM
      exact zr_iret g hr hlk dX3_standOf_22 rfl rfl
noncomputable def L_X3_standOf_2 (t : Nat) (h : zw_Hp) (w : Int32 × Int32) : Option (Int32) :=
  zw_it (fun (k2 : (Int32 × Int32) → Option (Int32)) (w : Int32 × Int32) => B_X3_standOf_2 t h k2 (w.1) (w.2)) 600 w
theorem UL_X3_standOf_2 {t : Nat} (k_t : t = 9 ∨ t = 14) {h : zw_Hp} (ok : zw_Ok E) (hI : ∀ i, i < 48 → i ∈ E.2.2.1) (g : zw_G p E (zw_A E) s m args c RX3 cX3_standOf 3) (hr : meth.sig.returnType = some .int) (hlk : meth.locks = false) :
    ∀ (w : Int32 × Int32) (z : Int32), L_X3_standOf_2 t h w = some z → zw_V p l e s m args below meth c E mt_X3_standOf 3 (some (.int z)) h 2 [(0, .ref (E.2.1 t)), (1, .int w.1), (2, .int w.2)] [] h :=
  fun w z hM => zw_it_ind (P := fun (w : Int32 × Int32) (z : Int32) => zw_V p l e s m args below meth c E mt_X3_standOf 3 (some (.int z)) h 2 [(0, .ref (E.2.1 t)), (1, .int w.1), (2, .int w.2)] [] h) (fun k e w z hM => U_X3_standOf_2 k_t ok hI g hr hlk e _ _ _ hM) 600 w z hM
noncomputable def M_X3_standOf (t : Nat) (x1 : Int32) (h : zw_Hp) : Option (Int32) :=
  L_X3_standOf_2 t h (x1, (0 : Int32))
set_option maxRecDepth 100000 in
set_option maxHeartbeats 4000000 in
theorem R_X3_standOf {t : Nat} (k_t : t = 9 ∨ t = 14) (ok : zw_Ok E) (hI : ∀ i, i < 48 → i ∈ E.2.2.1) {x1 : Int32} {h : zw_Hp} {z : Int32} (hM : M_X3_standOf t x1 h = some z) : zw_Ct l E mt_X3_standOf [.ref (E.2.1 t), .int x1] h (some (.int z)) h := by
  unfold M_X3_standOf at hM
  refine zw_ct (lv0 := [(0, .ref (E.2.1 t)), (1, .int x1)]) ok (by decide) rfl (by decide) (fun p e s m args below meth c g hr hlk => ?_)
  replace g : zw_G p E (zw_A E) s m args c RX3 cX3_standOf 3 := g
  show zw_V p l e s m args below meth c E mt_X3_standOf 3 (some (.int z)) h 0 [(0, .ref (E.2.1 t)), (1, .int x1)] [] h
  refine zr_iconst (q := 1) (v := (0 : Int32)) g dX3_standOf_0 rfl (by decide) ?_
  refine zr_istore_n (q := 2) (lv' := [(2, .int (0 : Int32)), (0, .ref (E.2.1 t)), (1, .int x1)]) g dX3_standOf_1 rfl rfl (by decide) rfl ?_
  refine zr_lv (lv' := [(0, .ref (E.2.1 t)), (1, .int x1), (2, .int (0 : Int32))]) [1, 2, 0] rfl ?_
  exact UL_X3_standOf_2 k_t ok hI g hr hlk _ _ hM
noncomputable def M_X3_exchange (t : Nat) (x1 : Int32) (x2 : Int32) (h : zw_Hp) : Option (zw_Hp) :=
  (M_X3_standOf t x1 h).bind (fun z1 => (M_X3_standOf t x2 h).bind (fun z3 => if z1 < 0 then (some h) else (if 0 ≤ z3 then (if zw_ok z1 5 = true then zw_nm (zw_up h (t + 1) (z1).toNatClampNeg x2) (fun h8 => if zw_ok z3 5 = true then zw_nm (zw_up h8 (t + 1) (z3).toNatClampNeg x1) (fun h11 => some h11) else none) else none) else (some h))))
set_option maxRecDepth 100000 in
set_option maxHeartbeats 4000000 in
theorem R_X3_exchange {t : Nat} (k_t : t = 9 ∨ t = 14) (ok : zw_Ok E) (hI : ∀ i, i < 48 → i ∈ E.2.2.1) {x1 : Int32} {x2 : Int32} {h : zw_Hp} {z : zw_Hp} (hM : M_X3_exchange t x1 x2 h = some z) : zw_Ct l E mt_X3_exchange [.ref (E.2.1 t), .int x1, .int x2] h none z := by
  unfold M_X3_exchange at hM
  refine zw_ct (lv0 := [(0, .ref (E.2.1 t)), (1, .int x1), (2, .int x2)]) ok (by decide) rfl (by decide) (fun p e s m args below meth c g hr hlk => ?_)
  replace g : zw_G p E (zw_A E) s m args c RX3 cX3_exchange 5 := g
  show zw_V p l e s m args below meth c E mt_X3_exchange 5 none z 0 [(0, .ref (E.2.1 t)), (1, .int x1), (2, .int x2)] [] h
  refine zr_aload_n (q := 1) g 0 dX3_exchange_0 rfl rfl rfl ?_
  refine zr_iload_n (q := 2) g 1 dX3_exchange_1 rfl rfl rfl ?_
  obtain ⟨z1, q2, hM⟩ := zw_bd hM
  refine zr_callV (q := 5) (As := [.int x1]) (rest := []) (st' := [.int z1]) (i := t) g (R_X3_standOf k_t ok hI q2) zv_X3_standOf zl_X3_67 (hI _ (zb_sc0 k_t)) (zs_sc0 k_t) zc_X3.1 dX3_exchange_2 rfl rfl ⟨Nat.le_of_ble_eq_true rfl, Nat.le_of_ble_eq_true rfl⟩ ⟨Nat.zero_le _, Nat.zero_le _⟩ (by decide) rfl rfl ?_
  refine zr_istore_n (q := 6) (lv' := [(3, .int z1), (0, .ref (E.2.1 t)), (1, .int x1), (2, .int x2)]) g dX3_exchange_5 rfl rfl (by decide) rfl ?_
  refine zr_aload_n (q := 7) g 1 dX3_exchange_6 rfl rfl rfl ?_
  refine zr_iload_n (q := 8) g 3 dX3_exchange_7 rfl rfl rfl ?_
  obtain ⟨z3, q4, hM⟩ := zw_bd hM
  refine zr_callV (q := 11) (As := [.int x2]) (rest := []) (st' := [.int z3]) (i := t) g (R_X3_standOf k_t ok hI q4) zv_X3_standOf zl_X3_67 (hI _ (zb_sc0 k_t)) (zs_sc0 k_t) zc_X3.1 dX3_exchange_8 rfl rfl ⟨Nat.le_of_ble_eq_true rfl, Nat.le_of_ble_eq_true rfl⟩ ⟨Nat.zero_le _, Nat.zero_le _⟩ (by decide) rfl rfl ?_
  refine zr_istore (q := 13) (lv' := [(4, .int z3), (3, .int z1), (0, .ref (E.2.1 t)), (1, .int x1), (2, .int x2)]) g dX3_exchange_11 rfl (by decide) rfl ?_
  refine zr_iload_n (q := 14) g 1 dX3_exchange_13 rfl rfl rfl ?_
  refine zr_if_lt (q := 17) (tgt := 22) g dX3_exchange_14 rfl rfl (fun c5 => ?_) (fun c5 => ?_)
  · replace hM := zw_ift c5 hM
    cases hM
    exact zr_vret g hr hlk dX3_exchange_22 rfl rfl
  · replace hM := zw_iff c5 hM
    refine zr_iload (q := 19) g 0 dX3_exchange_17 rfl rfl ?_
    refine zr_if_ge (q := 22) (tgt := 23) g dX3_exchange_19 rfl rfl (fun c6 => ?_) (fun c6 => ?_)
    · replace hM := zw_ift c6 hM
      refine zr_aload_n (q := 24) g 2 dX3_exchange_23 rfl rfl rfl ?_
      refine zr_getr (q := 27) (k0 := 1) (j := (t + 1)) g (hI _ (zb_sc0 k_t)) (zs_sc0 k_t) rfl zf_X3_9 dX3_exchange_24 rfl ?_
      refine zr_iload_n (q := 28) g 1 dX3_exchange_27 rfl rfl rfl ?_
      refine zr_iload_n (q := 29) g 4 dX3_exchange_28 rfl rfl rfl ?_
      obtain ⟨c7, hM⟩ := zw_gd hM
      obtain ⟨h8, e9, hM⟩ := zw_nm_ex hM
      refine zr_iast (q := 30) (h' := h8) g (hI _ (zb_sc1 k_t)) (zs_sc1 k_t) c7 dX3_exchange_29 rfl e9 ?_
      refine zr_aload_n (q := 31) g 2 dX3_exchange_30 rfl rfl rfl ?_
      refine zr_getr (q := 34) (k0 := 1) (j := (t + 1)) g (hI _ (zb_sc0 k_t)) (zs_sc0 k_t) rfl zf_X3_9 dX3_exchange_31 rfl ?_
      refine zr_iload (q := 36) g 0 dX3_exchange_34 rfl rfl ?_
      refine zr_iload_n (q := 37) g 3 dX3_exchange_36 rfl rfl rfl ?_
      obtain ⟨c10, hM⟩ := zw_gd hM
      obtain ⟨h11, e12, hM⟩ := zw_nm_ex hM
      refine zr_iast (q := 38) (h' := h11) g (hI _ (zb_sc1 k_t)) (zs_sc1 k_t) c10 dX3_exchange_37 rfl e12 ?_
      cases hM
      exact zr_vret g hr hlk dX3_exchange_38 rfl rfl
    · replace hM := zw_iff c6 hM
      cases hM
      exact zr_vret g hr hlk dX3_exchange_22 rfl rfl
noncomputable def M_X3_sendBack (t : Nat) (x1 : Int32) (h : zw_Hp) : Option (zw_Hp) :=
  if zw_ok x1 4 = true then zw_nm (zw_up h (t + 2) (x1).toNatClampNeg (9 : Int32)) (fun h2 => if zw_ok x1 4 = true then zw_nm (zw_up h2 (t + 3) (x1).toNatClampNeg (0 : Int32)) (fun h5 => if zw_ok x1 4 = true then zw_nm (zw_up h5 (t + 4) (x1).toNatClampNeg (h5.1 6 7)) (fun h8 => some h8) else none) else none) else none
set_option maxRecDepth 100000 in
set_option maxHeartbeats 4000000 in
theorem R_X3_sendBack {t : Nat} (k_t : t = 9 ∨ t = 14) (ok : zw_Ok E) (hI : ∀ i, i < 48 → i ∈ E.2.2.1) {x1 : Int32} {h : zw_Hp} {z : zw_Hp} (hM : M_X3_sendBack t x1 h = some z) : zw_Ct l E mt_X3_sendBack [.ref (E.2.1 t), .int x1] h none z := by
  unfold M_X3_sendBack at hM
  refine zw_ct (lv0 := [(0, .ref (E.2.1 t)), (1, .int x1)]) ok (by decide) rfl (by decide) (fun p e s m args below meth c g hr hlk => ?_)
  replace g : zw_G p E (zw_A E) s m args c RX3 cX3_sendBack 2 := g
  show zw_V p l e s m args below meth c E mt_X3_sendBack 2 none z 0 [(0, .ref (E.2.1 t)), (1, .int x1)] [] h
  refine zr_aload_n (q := 1) g 0 dX3_sendBack_0 rfl rfl rfl ?_
  refine zr_getr (q := 4) (k0 := 2) (j := (t + 2)) g (hI _ (zb_sc0 k_t)) (zs_sc0 k_t) rfl zf_X3_15 dX3_sendBack_1 rfl ?_
  refine zr_iload_n (q := 5) g 1 dX3_sendBack_4 rfl rfl rfl ?_
  refine zr_bipush (q := 7) (v := (9 : Int32)) g dX3_sendBack_5 rfl (by decide) ?_
  obtain ⟨c1, hM⟩ := zw_gd hM
  obtain ⟨h2, e3, hM⟩ := zw_nm_ex hM
  refine zr_iast (q := 8) (h' := h2) g (hI _ (zb_sc2 k_t)) (zs_sc2 k_t) c1 dX3_sendBack_7 rfl e3 ?_
  refine zr_aload_n (q := 9) g 0 dX3_sendBack_8 rfl rfl rfl ?_
  refine zr_getr (q := 12) (k0 := 3) (j := (t + 3)) g (hI _ (zb_sc0 k_t)) (zs_sc0 k_t) rfl zf_X3_18 dX3_sendBack_9 rfl ?_
  refine zr_iload_n (q := 13) g 1 dX3_sendBack_12 rfl rfl rfl ?_
  refine zr_iconst (q := 14) (v := (0 : Int32)) g dX3_sendBack_13 rfl (by decide) ?_
  obtain ⟨c4, hM⟩ := zw_gd hM
  obtain ⟨h5, e6, hM⟩ := zw_nm_ex hM
  refine zr_iast (q := 15) (h' := h5) g (hI _ (zb_sc3 k_t)) (zs_sc3 k_t) c4 dX3_sendBack_14 rfl e6 ?_
  refine zr_aload_n (q := 16) g 0 dX3_sendBack_15 rfl rfl rfl ?_
  refine zr_getr (q := 19) (k0 := 4) (j := (t + 4)) g (hI _ (zb_sc0 k_t)) (zs_sc0 k_t) rfl zf_X3_21 dX3_sendBack_16 rfl ?_
  refine zr_iload_n (q := 20) g 1 dX3_sendBack_19 rfl rfl rfl ?_
  refine zr_aload_n (q := 21) g 0 dX3_sendBack_20 rfl rfl rfl ?_
  refine zr_getr (q := 24) (k0 := 0) (j := 6) g (hI _ (zb_sc0 k_t)) (zs_sc0 k_t) rfl zf_X3_24 dX3_sendBack_21 rfl ?_
  refine zr_geti (q := 27) (k0 := 7) g (hI 6 (by decide)) zs_6 rfl zf_X3_118 dX3_sendBack_24 rfl ?_
  obtain ⟨c7, hM⟩ := zw_gd hM
  obtain ⟨h8, e9, hM⟩ := zw_nm_ex hM
  refine zr_iast (q := 28) (h' := h8) g (hI _ (zb_sc4 k_t)) (zs_sc4 k_t) c7 dX3_sendBack_27 rfl e9 ?_
  cases hM
  exact zr_vret g hr hlk dX3_sendBack_28 rfl rfl
end
end
