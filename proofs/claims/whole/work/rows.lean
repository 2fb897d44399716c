section
-- ===== PART A: goes FIRST, ahead of the names: the tables' words, and 'selects' of the private methods out of them =====
/-- a private method of a class that the tables say can be made, by its rows of tables_1 -/
def lw_okq (q : MethodName × Nat) : Prop := (q.1.cls ≠ "java/lang/invoke/MethodHandle" ∧ q.1.cls ≠ "java/lang/invoke/VarHandle") ∧ Cond.instantiable q.1.cls q.2 ∈ tables_1 ∧ Cond.privateMethod q.1 ∈ tables_1 ∧ Cond.instanceMethod q.1 ∈ tables_1
theorem lw_p0 : lw_okq (⟨"TwoWayWall", "renewReadings", "()V"⟩, 18) := ⟨⟨by decide +kernel, by decide +kernel⟩, List.mem_of_getElem? (i := 23) (by decide +kernel), List.mem_of_getElem? (i := 406) (by decide +kernel), List.mem_of_getElem? (i := 407) (by decide +kernel)⟩
theorem lw_p1 : lw_okq (⟨"TwoWayWall", "refuse", "(I)I"⟩, 18) := ⟨⟨by decide +kernel, by decide +kernel⟩, List.mem_of_getElem? (i := 23) (by decide +kernel), List.mem_of_getElem? (i := 495) (by decide +kernel), List.mem_of_getElem? (i := 496) (by decide +kernel)⟩
theorem lw_p2 : lw_okq (⟨"TwoWayWall", "grant", "(I)I"⟩, 18) := ⟨⟨by decide +kernel, by decide +kernel⟩, List.mem_of_getElem? (i := 23) (by decide +kernel), List.mem_of_getElem? (i := 503) (by decide +kernel), List.mem_of_getElem? (i := 504) (by decide +kernel)⟩
theorem lw_p3 : lw_okq (⟨"TwoWayWall$TableReader", "step", "()V"⟩, 6) := ⟨⟨by decide +kernel, by decide +kernel⟩, List.mem_of_getElem? (i := 182) (by decide +kernel), List.mem_of_getElem? (i := 573) (by decide +kernel), List.mem_of_getElem? (i := 574) (by decide +kernel)⟩
theorem lw_p4 : lw_okq (⟨"TwoWayWall$TableReader", "tellClause", "()Z"⟩, 6) := ⟨⟨by decide +kernel, by decide +kernel⟩, List.mem_of_getElem? (i := 182) (by decide +kernel), List.mem_of_getElem? (i := 580) (by decide +kernel), List.mem_of_getElem? (i := 581) (by decide +kernel)⟩
theorem lw_p5 : lw_okq (⟨"TwoWayWall$TableReader", "isName", "(Ljava/lang/String;)Z"⟩, 6) := ⟨⟨by decide +kernel, by decide +kernel⟩, List.mem_of_getElem? (i := 182) (by decide +kernel), List.mem_of_getElem? (i := 585) (by decide +kernel), List.mem_of_getElem? (i := 586) (by decide +kernel)⟩
theorem lw_p6 : lw_okq (⟨"TwoWayWall$TableReader", "tellLetter", "(LTwoWayWall$Tongue;)Z"⟩, 6) := ⟨⟨by decide +kernel, by decide +kernel⟩, List.mem_of_getElem? (i := 182) (by decide +kernel), List.mem_of_getElem? (i := 637) (by decide +kernel), List.mem_of_getElem? (i := 638) (by decide +kernel)⟩
theorem lw_p7 : lw_okq (⟨"TwoWayWall$TableReader", "oneLetter", "()I"⟩, 6) := ⟨⟨by decide +kernel, by decide +kernel⟩, List.mem_of_getElem? (i := 182) (by decide +kernel), List.mem_of_getElem? (i := 641) (by decide +kernel), List.mem_of_getElem? (i := 642) (by decide +kernel)⟩
theorem lw_p8 : lw_okq (⟨"TwoWayWall$TableReader", "failAt", "(I)Z"⟩, 6) := ⟨⟨by decide +kernel, by decide +kernel⟩, List.mem_of_getElem? (i := 182) (by decide +kernel), List.mem_of_getElem? (i := 645) (by decide +kernel), List.mem_of_getElem? (i := 646) (by decide +kernel)⟩
theorem lw_p9 : lw_okq (⟨"TwoWayWall$TableReader", "strokeRow", "()I"⟩, 6) := ⟨⟨by decide +kernel, by decide +kernel⟩, List.mem_of_getElem? (i := 182) (by decide +kernel), List.mem_of_getElem? (i := 649) (by decide +kernel), List.mem_of_getElem? (i := 650) (by decide +kernel)⟩
theorem lw_p10 : lw_okq (⟨"TwoWayWall$TableReader", "tellWord", "()Z"⟩, 6) := ⟨⟨by decide +kernel, by decide +kernel⟩, List.mem_of_getElem? (i := 182) (by decide +kernel), List.mem_of_getElem? (i := 656) (by decide +kernel), List.mem_of_getElem? (i := 657) (by decide +kernel)⟩
theorem lw_p11 : lw_okq (⟨"TwoWayWall$TableReader", "namedTongue", "()LTwoWayWall$Tongue;"⟩, 6) := ⟨⟨by decide +kernel, by decide +kernel⟩, List.mem_of_getElem? (i := 182) (by decide +kernel), List.mem_of_getElem? (i := 660) (by decide +kernel), List.mem_of_getElem? (i := 661) (by decide +kernel)⟩
theorem lw_p12 : lw_okq (⟨"TwoWayWall$TableReader", "number", "()I"⟩, 6) := ⟨⟨by decide +kernel, by decide +kernel⟩, List.mem_of_getElem? (i := 182) (by decide +kernel), List.mem_of_getElem? (i := 664) (by decide +kernel), List.mem_of_getElem? (i := 665) (by decide +kernel)⟩
theorem lw_p13 : lw_okq (⟨"TwoWayWall$TableReader", "addWord", "(LTwoWayWall$Tongue;I)V"⟩, 6) := ⟨⟨by decide +kernel, by decide +kernel⟩, List.mem_of_getElem? (i := 182) (by decide +kernel), List.mem_of_getElem? (i := 669) (by decide +kernel), List.mem_of_getElem? (i := 670) (by decide +kernel)⟩
theorem lw_p14 : lw_okq (⟨"TwoWayWall$TableReader", "tellMirror", "()Z"⟩, 6) := ⟨⟨by decide +kernel, by decide +kernel⟩, List.mem_of_getElem? (i := 182) (by decide +kernel), List.mem_of_getElem? (i := 674) (by decide +kernel), List.mem_of_getElem? (i := 675) (by decide +kernel)⟩
theorem lw_p15 : lw_okq (⟨"TwoWayWall$TableReader", "tellCost", "()Z"⟩, 6) := ⟨⟨by decide +kernel, by decide +kernel⟩, List.mem_of_getElem? (i := 182) (by decide +kernel), List.mem_of_getElem? (i := 679) (by decide +kernel), List.mem_of_getElem? (i := 680) (by decide +kernel)⟩
def lw_privs_1 : List (MethodName × Nat) := [(⟨"TwoWayWall", "renewReadings", "()V"⟩, 18), (⟨"TwoWayWall", "refuse", "(I)I"⟩, 18), (⟨"TwoWayWall", "grant", "(I)I"⟩, 18), (⟨"TwoWayWall$TableReader", "step", "()V"⟩, 6), (⟨"TwoWayWall$TableReader", "tellClause", "()Z"⟩, 6), (⟨"TwoWayWall$TableReader", "isName", "(Ljava/lang/String;)Z"⟩, 6), (⟨"TwoWayWall$TableReader", "tellLetter", "(LTwoWayWall$Tongue;)Z"⟩, 6), (⟨"TwoWayWall$TableReader", "oneLetter", "()I"⟩, 6), (⟨"TwoWayWall$TableReader", "failAt", "(I)Z"⟩, 6), (⟨"TwoWayWall$TableReader", "strokeRow", "()I"⟩, 6), (⟨"TwoWayWall$TableReader", "tellWord", "()Z"⟩, 6), (⟨"TwoWayWall$TableReader", "namedTongue", "()LTwoWayWall$Tongue;"⟩, 6), (⟨"TwoWayWall$TableReader", "number", "()I"⟩, 6), (⟨"TwoWayWall$TableReader", "addWord", "(LTwoWayWall$Tongue;I)V"⟩, 6), (⟨"TwoWayWall$TableReader", "tellMirror", "()Z"⟩, 6), (⟨"TwoWayWall$TableReader", "tellCost", "()Z"⟩, 6)]
theorem lw_r1 : ∀ q ∈ lw_privs_1, lw_okq q := List.forall_mem_cons.mpr ⟨lw_p0, List.forall_mem_cons.mpr ⟨lw_p1, List.forall_mem_cons.mpr ⟨lw_p2, List.forall_mem_cons.mpr ⟨lw_p3, List.forall_mem_cons.mpr ⟨lw_p4, List.forall_mem_cons.mpr ⟨lw_p5, List.forall_mem_cons.mpr ⟨lw_p6, List.forall_mem_cons.mpr ⟨lw_p7, List.forall_mem_cons.mpr ⟨lw_p8, List.forall_mem_cons.mpr ⟨lw_p9, List.forall_mem_cons.mpr ⟨lw_p10, List.forall_mem_cons.mpr ⟨lw_p11, List.forall_mem_cons.mpr ⟨lw_p12, List.forall_mem_cons.mpr ⟨lw_p13, List.forall_mem_cons.mpr ⟨lw_p14, List.forall_mem_cons.mpr ⟨lw_p15, fun _ h => absurd h List.not_mem_nil⟩⟩⟩⟩⟩⟩⟩⟩⟩⟩⟩⟩⟩⟩⟩⟩
theorem lw_p16 : lw_okq (⟨"TwoWayWall$TableReader", "tellDrop", "()Z"⟩, 6) := ⟨⟨by decide +kernel, by decide +kernel⟩, List.mem_of_getElem? (i := 182) (by decide +kernel), List.mem_of_getElem? (i := 684) (by decide +kernel), List.mem_of_getElem? (i := 685) (by decide +kernel)⟩
theorem lw_p17 : lw_okq (⟨"TwoWayWall$TableReader", "isSign", "(C)Z"⟩, 6) := ⟨⟨by decide +kernel, by decide +kernel⟩, List.mem_of_getElem? (i := 182) (by decide +kernel), List.mem_of_getElem? (i := 688) (by decide +kernel), List.mem_of_getElem? (i := 689) (by decide +kernel)⟩
theorem lw_p18 : lw_okq (⟨"TwoWayWall", "kindAt", "(II)I"⟩, 18) := ⟨⟨by decide +kernel, by decide +kernel⟩, List.mem_of_getElem? (i := 23) (by decide +kernel), List.mem_of_getElem? (i := 735) (by decide +kernel), List.mem_of_getElem? (i := 736) (by decide +kernel)⟩
theorem lw_p19 : lw_okq (⟨"TwoWayWall", "isWord", "(III)Z"⟩, 18) := ⟨⟨by decide +kernel, by decide +kernel⟩, List.mem_of_getElem? (i := 23) (by decide +kernel), List.mem_of_getElem? (i := 743) (by decide +kernel), List.mem_of_getElem? (i := 744) (by decide +kernel)⟩
theorem lw_p20 : lw_okq (⟨"TwoWayWall", "isWordAt", "(III)Z"⟩, 18) := ⟨⟨by decide +kernel, by decide +kernel⟩, List.mem_of_getElem? (i := 23) (by decide +kernel), List.mem_of_getElem? (i := 747) (by decide +kernel), List.mem_of_getElem? (i := 748) (by decide +kernel)⟩
theorem lw_p21 : lw_okq (⟨"TwoWayWall", "findNearest", "(II)V"⟩, 18) := ⟨⟨by decide +kernel, by decide +kernel⟩, List.mem_of_getElem? (i := 23) (by decide +kernel), List.mem_of_getElem? (i := 782) (by decide +kernel), List.mem_of_getElem? (i := 783) (by decide +kernel)⟩
theorem lw_p22 : lw_okq (⟨"TwoWayWall$Nearest", "choose", "(LTwoWayWall$PairTable;I)V"⟩, 4) := ⟨⟨by decide +kernel, by decide +kernel⟩, List.mem_of_getElem? (i := 271) (by decide +kernel), List.mem_of_getElem? (i := 791) (by decide +kernel), List.mem_of_getElem? (i := 792) (by decide +kernel)⟩
theorem lw_p23 : lw_okq (⟨"TwoWayWall", "findTellings", "()V"⟩, 18) := ⟨⟨by decide +kernel, by decide +kernel⟩, List.mem_of_getElem? (i := 23) (by decide +kernel), List.mem_of_getElem? (i := 815) (by decide +kernel), List.mem_of_getElem? (i := 816) (by decide +kernel)⟩
theorem lw_p24 : lw_okq (⟨"TwoWayWall$Rows", "addNode", "(I)I"⟩, 9) := ⟨⟨by decide +kernel, by decide +kernel⟩, List.mem_of_getElem? (i := 300) (by decide +kernel), List.mem_of_getElem? (i := 823) (by decide +kernel), List.mem_of_getElem? (i := 824) (by decide +kernel)⟩
theorem lw_p25 : lw_okq (⟨"TwoWayWall$Rows", "addWord", "(ILTwoWayWall$Tongue;IZ)I"⟩, 9) := ⟨⟨by decide +kernel, by decide +kernel⟩, List.mem_of_getElem? (i := 300) (by decide +kernel), List.mem_of_getElem? (i := 828) (by decide +kernel), List.mem_of_getElem? (i := 829) (by decide +kernel)⟩
theorem lw_p26 : lw_okq (⟨"TwoWayWall$Rows", "childOf", "(II)I"⟩, 9) := ⟨⟨by decide +kernel, by decide +kernel⟩, List.mem_of_getElem? (i := 300) (by decide +kernel), List.mem_of_getElem? (i := 833) (by decide +kernel), List.mem_of_getElem? (i := 834) (by decide +kernel)⟩
theorem lw_p27 : lw_okq (⟨"TwoWayWall$Layer", "grow", "(I)V"⟩, 8) := ⟨⟨by decide +kernel, by decide +kernel⟩, List.mem_of_getElem? (i := 340) (by decide +kernel), List.mem_of_getElem? (i := 848) (by decide +kernel), List.mem_of_getElem? (i := 849) (by decide +kernel)⟩
theorem lw_p28 : lw_okq (⟨"TwoWayWall$Rows", "addMove", "(II)V"⟩, 9) := ⟨⟨by decide +kernel, by decide +kernel⟩, List.mem_of_getElem? (i := 300) (by decide +kernel), List.mem_of_getElem? (i := 891) (by decide +kernel), List.mem_of_getElem? (i := 892) (by decide +kernel)⟩
theorem lw_p29 : lw_okq (⟨"TwoWayWall$Crossing", "placeFor", "(II)I"⟩, 5) := ⟨⟨by decide +kernel, by decide +kernel⟩, List.mem_of_getElem? (i := 294) (by decide +kernel), List.mem_of_getElem? (i := 896) (by decide +kernel), List.mem_of_getElem? (i := 897) (by decide +kernel)⟩
theorem lw_p30 : lw_okq (⟨"TwoWayWall$Crossing", "carry", "(IILTwoWayWall$PairTable;II)V"⟩, 5) := ⟨⟨by decide +kernel, by decide +kernel⟩, List.mem_of_getElem? (i := 294) (by decide +kernel), List.mem_of_getElem? (i := 900) (by decide +kernel), List.mem_of_getElem? (i := 901) (by decide +kernel)⟩
theorem lw_p31 : lw_okq (⟨"TwoWayWall", "findWalls", "(II)V"⟩, 18) := ⟨⟨by decide +kernel, by decide +kernel⟩, List.mem_of_getElem? (i := 23) (by decide +kernel), List.mem_of_getElem? (i := 935) (by decide +kernel), List.mem_of_getElem? (i := 936) (by decide +kernel)⟩
def lw_privs_2 : List (MethodName × Nat) := [(⟨"TwoWayWall$TableReader", "tellDrop", "()Z"⟩, 6), (⟨"TwoWayWall$TableReader", "isSign", "(C)Z"⟩, 6), (⟨"TwoWayWall", "kindAt", "(II)I"⟩, 18), (⟨"TwoWayWall", "isWord", "(III)Z"⟩, 18), (⟨"TwoWayWall", "isWordAt", "(III)Z"⟩, 18), (⟨"TwoWayWall", "findNearest", "(II)V"⟩, 18), (⟨"TwoWayWall$Nearest", "choose", "(LTwoWayWall$PairTable;I)V"⟩, 4), (⟨"TwoWayWall", "findTellings", "()V"⟩, 18), (⟨"TwoWayWall$Rows", "addNode", "(I)I"⟩, 9), (⟨"TwoWayWall$Rows", "addWord", "(ILTwoWayWall$Tongue;IZ)I"⟩, 9), (⟨"TwoWayWall$Rows", "childOf", "(II)I"⟩, 9), (⟨"TwoWayWall$Layer", "grow", "(I)V"⟩, 8), (⟨"TwoWayWall$Rows", "addMove", "(II)V"⟩, 9), (⟨"TwoWayWall$Crossing", "placeFor", "(II)I"⟩, 5), (⟨"TwoWayWall$Crossing", "carry", "(IILTwoWayWall$PairTable;II)V"⟩, 5), (⟨"TwoWayWall", "findWalls", "(II)V"⟩, 18)]
theorem lw_r2 : ∀ q ∈ lw_privs_2, lw_okq q := List.forall_mem_cons.mpr ⟨lw_p16, List.forall_mem_cons.mpr ⟨lw_p17, List.forall_mem_cons.mpr ⟨lw_p18, List.forall_mem_cons.mpr ⟨lw_p19, List.forall_mem_cons.mpr ⟨lw_p20, List.forall_mem_cons.mpr ⟨lw_p21, List.forall_mem_cons.mpr ⟨lw_p22, List.forall_mem_cons.mpr ⟨lw_p23, List.forall_mem_cons.mpr ⟨lw_p24, List.forall_mem_cons.mpr ⟨lw_p25, List.forall_mem_cons.mpr ⟨lw_p26, List.forall_mem_cons.mpr ⟨lw_p27, List.forall_mem_cons.mpr ⟨lw_p28, List.forall_mem_cons.mpr ⟨lw_p29, List.forall_mem_cons.mpr ⟨lw_p30, List.forall_mem_cons.mpr ⟨lw_p31, fun _ h => absurd h List.not_mem_nil⟩⟩⟩⟩⟩⟩⟩⟩⟩⟩⟩⟩⟩⟩⟩⟩
theorem lw_p32 : lw_okq (⟨"TwoWayWall", "listSets", "(IZI)V"⟩, 18) := ⟨⟨by decide +kernel, by decide +kernel⟩, List.mem_of_getElem? (i := 23) (by decide +kernel), List.mem_of_getElem? (i := 943) (by decide +kernel), List.mem_of_getElem? (i := 944) (by decide +kernel)⟩
theorem lw_p33 : lw_okq (⟨"TwoWayWallModel", "refuses", "(I)I"⟩, 38) := ⟨⟨by decide +kernel, by decide +kernel⟩, List.mem_of_getElem? (i := 1036) (by decide +kernel), List.mem_of_getElem? (i := 1166) (by decide +kernel), List.mem_of_getElem? (i := 1167) (by decide +kernel)⟩
theorem lw_p34 : lw_okq (⟨"TwoWayWallModel", "good", "(I)I"⟩, 38) := ⟨⟨by decide +kernel, by decide +kernel⟩, List.mem_of_getElem? (i := 1036) (by decide +kernel), List.mem_of_getElem? (i := 1170) (by decide +kernel), List.mem_of_getElem? (i := 1171) (by decide +kernel)⟩
theorem lw_p35 : lw_okq (⟨"TwoWayWallModel", "sizes", "(I)V"⟩, 38) := ⟨⟨by decide +kernel, by decide +kernel⟩, List.mem_of_getElem? (i := 1036) (by decide +kernel), List.mem_of_getElem? (i := 1182) (by decide +kernel), List.mem_of_getElem? (i := 1183) (by decide +kernel)⟩
theorem lw_p36 : lw_okq (⟨"TwoWayWallModel", "isCell", "(I)Z"⟩, 38) := ⟨⟨by decide +kernel, by decide +kernel⟩, List.mem_of_getElem? (i := 1036) (by decide +kernel), List.mem_of_getElem? (i := 1190) (by decide +kernel), List.mem_of_getElem? (i := 1191) (by decide +kernel)⟩
theorem lw_p37 : lw_okq (⟨"TwoWayWallModel", "splits", "(I)V"⟩, 38) := ⟨⟨by decide +kernel, by decide +kernel⟩, List.mem_of_getElem? (i := 1036) (by decide +kernel), List.mem_of_getElem? (i := 1222) (by decide +kernel), List.mem_of_getElem? (i := 1223) (by decide +kernel)⟩
theorem lw_p38 : lw_okq (⟨"TwoWayWallModel", "wordAt", "(II)I"⟩, 38) := ⟨⟨by decide +kernel, by decide +kernel⟩, List.mem_of_getElem? (i := 1036) (by decide +kernel), List.mem_of_getElem? (i := 1232) (by decide +kernel), List.mem_of_getElem? (i := 1233) (by decide +kernel)⟩
theorem lw_p39 : lw_okq (⟨"TwoWayWallModel", "readClause", "()V"⟩, 38) := ⟨⟨by decide +kernel, by decide +kernel⟩, List.mem_of_getElem? (i := 1036) (by decide +kernel), List.mem_of_getElem? (i := 1237) (by decide +kernel), List.mem_of_getElem? (i := 1238) (by decide +kernel)⟩
theorem lw_p40 : lw_okq (⟨"TwoWayWallModel", "takes0", "(I)Z"⟩, 38) := ⟨⟨by decide +kernel, by decide +kernel⟩, List.mem_of_getElem? (i := 1036) (by decide +kernel), List.mem_of_getElem? (i := 1241) (by decide +kernel), List.mem_of_getElem? (i := 1242) (by decide +kernel)⟩
theorem lw_p41 : lw_okq (⟨"TwoWayWallModel", "fine", "()Z"⟩, 38) := ⟨⟨by decide +kernel, by decide +kernel⟩, List.mem_of_getElem? (i := 1036) (by decide +kernel), List.mem_of_getElem? (i := 1245) (by decide +kernel), List.mem_of_getElem? (i := 1246) (by decide +kernel)⟩
theorem lw_p42 : lw_okq (⟨"TwoWayWallModel", "readWord", "()V"⟩, 38) := ⟨⟨by decide +kernel, by decide +kernel⟩, List.mem_of_getElem? (i := 1036) (by decide +kernel), List.mem_of_getElem? (i := 1249) (by decide +kernel), List.mem_of_getElem? (i := 1250) (by decide +kernel)⟩
theorem lw_p43 : lw_okq (⟨"TwoWayWallModel", "tongue", "()Z"⟩, 38) := ⟨⟨by decide +kernel, by decide +kernel⟩, List.mem_of_getElem? (i := 1036) (by decide +kernel), List.mem_of_getElem? (i := 1253) (by decide +kernel), List.mem_of_getElem? (i := 1254) (by decide +kernel)⟩
theorem lw_p44 : lw_okq (⟨"TwoWayWallModel", "faults", "()V"⟩, 38) := ⟨⟨by decide +kernel, by decide +kernel⟩, List.mem_of_getElem? (i := 1036) (by decide +kernel), List.mem_of_getElem? (i := 1257) (by decide +kernel), List.mem_of_getElem? (i := 1258) (by decide +kernel)⟩
theorem lw_p45 : lw_okq (⟨"TwoWayWallModel", "number", "(II)Z"⟩, 38) := ⟨⟨by decide +kernel, by decide +kernel⟩, List.mem_of_getElem? (i := 1036) (by decide +kernel), List.mem_of_getElem? (i := 1261) (by decide +kernel), List.mem_of_getElem? (i := 1262) (by decide +kernel)⟩
theorem lw_p46 : lw_okq (⟨"TwoWayWallModel", "lettersOf", "()I"⟩, 38) := ⟨⟨by decide +kernel, by decide +kernel⟩, List.mem_of_getElem? (i := 1036) (by decide +kernel), List.mem_of_getElem? (i := 1265) (by decide +kernel), List.mem_of_getElem? (i := 1266) (by decide +kernel)⟩
theorem lw_p47 : lw_okq (⟨"TwoWayWallModel", "digits", "(II)Z"⟩, 38) := ⟨⟨by decide +kernel, by decide +kernel⟩, List.mem_of_getElem? (i := 1036) (by decide +kernel), List.mem_of_getElem? (i := 1269) (by decide +kernel), List.mem_of_getElem? (i := 1270) (by decide +kernel)⟩
def lw_privs_3 : List (MethodName × Nat) := [(⟨"TwoWayWall", "listSets", "(IZI)V"⟩, 18), (⟨"TwoWayWallModel", "refuses", "(I)I"⟩, 38), (⟨"TwoWayWallModel", "good", "(I)I"⟩, 38), (⟨"TwoWayWallModel", "sizes", "(I)V"⟩, 38), (⟨"TwoWayWallModel", "isCell", "(I)Z"⟩, 38), (⟨"TwoWayWallModel", "splits", "(I)V"⟩, 38), (⟨"TwoWayWallModel", "wordAt", "(II)I"⟩, 38), (⟨"TwoWayWallModel", "readClause", "()V"⟩, 38), (⟨"TwoWayWallModel", "takes0", "(I)Z"⟩, 38), (⟨"TwoWayWallModel", "fine", "()Z"⟩, 38), (⟨"TwoWayWallModel", "readWord", "()V"⟩, 38), (⟨"TwoWayWallModel", "tongue", "()Z"⟩, 38), (⟨"TwoWayWallModel", "faults", "()V"⟩, 38), (⟨"TwoWayWallModel", "number", "(II)Z"⟩, 38), (⟨"TwoWayWallModel", "lettersOf", "()I"⟩, 38), (⟨"TwoWayWallModel", "digits", "(II)Z"⟩, 38)]
theorem lw_r3 : ∀ q ∈ lw_privs_3, lw_okq q := List.forall_mem_cons.mpr ⟨lw_p32, List.forall_mem_cons.mpr ⟨lw_p33, List.forall_mem_cons.mpr ⟨lw_p34, List.forall_mem_cons.mpr ⟨lw_p35, List.forall_mem_cons.mpr ⟨lw_p36, List.forall_mem_cons.mpr ⟨lw_p37, List.forall_mem_cons.mpr ⟨lw_p38, List.forall_mem_cons.mpr ⟨lw_p39, List.forall_mem_cons.mpr ⟨lw_p40, List.forall_mem_cons.mpr ⟨lw_p41, List.forall_mem_cons.mpr ⟨lw_p42, List.forall_mem_cons.mpr ⟨lw_p43, List.forall_mem_cons.mpr ⟨lw_p44, List.forall_mem_cons.mpr ⟨lw_p45, List.forall_mem_cons.mpr ⟨lw_p46, List.forall_mem_cons.mpr ⟨lw_p47, fun _ h => absurd h List.not_mem_nil⟩⟩⟩⟩⟩⟩⟩⟩⟩⟩⟩⟩⟩⟩⟩⟩
theorem lw_p48 : lw_okq (⟨"TwoWayWallModel", "oneLetter", "()Z"⟩, 38) := ⟨⟨by decide +kernel, by decide +kernel⟩, List.mem_of_getElem? (i := 1036) (by decide +kernel), List.mem_of_getElem? (i := 1273) (by decide +kernel), List.mem_of_getElem? (i := 1274) (by decide +kernel)⟩
theorem lw_p49 : lw_okq (⟨"TwoWayWallModel", "readLetter", "()V"⟩, 38) := ⟨⟨by decide +kernel, by decide +kernel⟩, List.mem_of_getElem? (i := 1036) (by decide +kernel), List.mem_of_getElem? (i := 1277) (by decide +kernel), List.mem_of_getElem? (i := 1278) (by decide +kernel)⟩
theorem lw_p50 : lw_okq (⟨"TwoWayWallModel", "letterOf", "(III)I"⟩, 38) := ⟨⟨by decide +kernel, by decide +kernel⟩, List.mem_of_getElem? (i := 1036) (by decide +kernel), List.mem_of_getElem? (i := 1298) (by decide +kernel), List.mem_of_getElem? (i := 1299) (by decide +kernel)⟩
theorem lw_p51 : lw_okq (⟨"TwoWayWallModel", "wordOf", "(III)I"⟩, 38) := ⟨⟨by decide +kernel, by decide +kernel⟩, List.mem_of_getElem? (i := 1036) (by decide +kernel), List.mem_of_getElem? (i := 1306) (by decide +kernel), List.mem_of_getElem? (i := 1307) (by decide +kernel)⟩
theorem lw_p52 : lw_okq (⟨"TwoWayWallModel", "signOf", "(II)I"⟩, 38) := ⟨⟨by decide +kernel, by decide +kernel⟩, List.mem_of_getElem? (i := 1036) (by decide +kernel), List.mem_of_getElem? (i := 1314) (by decide +kernel), List.mem_of_getElem? (i := 1315) (by decide +kernel)⟩
theorem lw_p53 : lw_okq (⟨"TwoWayWallModel", "cellOf", "(II)I"⟩, 38) := ⟨⟨by decide +kernel, by decide +kernel⟩, List.mem_of_getElem? (i := 1036) (by decide +kernel), List.mem_of_getElem? (i := 1325) (by decide +kernel), List.mem_of_getElem? (i := 1326) (by decide +kernel)⟩
theorem lw_p54 : lw_okq (⟨"TwoWayWallModel", "isWord", "(III)Z"⟩, 38) := ⟨⟨by decide +kernel, by decide +kernel⟩, List.mem_of_getElem? (i := 1036) (by decide +kernel), List.mem_of_getElem? (i := 1333) (by decide +kernel), List.mem_of_getElem? (i := 1334) (by decide +kernel)⟩
theorem lw_p55 : lw_okq (⟨"TwoWayWallModel", "readsAll", "()V"⟩, 38) := ⟨⟨by decide +kernel, by decide +kernel⟩, List.mem_of_getElem? (i := 1036) (by decide +kernel), List.mem_of_getElem? (i := 1344) (by decide +kernel), List.mem_of_getElem? (i := 1345) (by decide +kernel)⟩
theorem lw_p56 : lw_okq (⟨"TwoWayWallModel", "costOf", "(I)I"⟩, 38) := ⟨⟨by decide +kernel, by decide +kernel⟩, List.mem_of_getElem? (i := 1036) (by decide +kernel), List.mem_of_getElem? (i := 1351) (by decide +kernel), List.mem_of_getElem? (i := 1352) (by decide +kernel)⟩
theorem lw_p57 : lw_okq (⟨"TwoWayWallModel", "areAsLong", "()Z"⟩, 38) := ⟨⟨by decide +kernel, by decide +kernel⟩, List.mem_of_getElem? (i := 1036) (by decide +kernel), List.mem_of_getElem? (i := 1375) (by decide +kernel), List.mem_of_getElem? (i := 1376) (by decide +kernel)⟩
theorem lw_p58 : lw_okq (⟨"TwoWayWallModel", "nears", "(I)V"⟩, 38) := ⟨⟨by decide +kernel, by decide +kernel⟩, List.mem_of_getElem? (i := 1036) (by decide +kernel), List.mem_of_getElem? (i := 1379) (by decide +kernel), List.mem_of_getElem? (i := 1380) (by decide +kernel)⟩
theorem lw_p59 : lw_okq (⟨"TwoWayWallModel", "laysStories", "(Z)V"⟩, 38) := ⟨⟨by decide +kernel, by decide +kernel⟩, List.mem_of_getElem? (i := 1036) (by decide +kernel), List.mem_of_getElem? (i := 1400) (by decide +kernel), List.mem_of_getElem? (i := 1401) (by decide +kernel)⟩
theorem lw_p60 : lw_okq (⟨"TwoWayWallModel", "laysSteps", "(I)V"⟩, 38) := ⟨⟨by decide +kernel, by decide +kernel⟩, List.mem_of_getElem? (i := 1036) (by decide +kernel), List.mem_of_getElem? (i := 1404) (by decide +kernel), List.mem_of_getElem? (i := 1405) (by decide +kernel)⟩
theorem lw_p61 : lw_okq (⟨"TwoWayWallModel", "isWhole", "(IIII)Z"⟩, 38) := ⟨⟨by decide +kernel, by decide +kernel⟩, List.mem_of_getElem? (i := 1036) (by decide +kernel), List.mem_of_getElem? (i := 1411) (by decide +kernel), List.mem_of_getElem? (i := 1412) (by decide +kernel)⟩
theorem lw_p62 : lw_okq (⟨"TwoWayWallModel", "fits", "(III)Z"⟩, 38) := ⟨⟨by decide +kernel, by decide +kernel⟩, List.mem_of_getElem? (i := 1036) (by decide +kernel), List.mem_of_getElem? (i := 1415) (by decide +kernel), List.mem_of_getElem? (i := 1416) (by decide +kernel)⟩
theorem lw_p63 : lw_okq (⟨"TwoWayWallModel", "beginsAlike", "(IIII)Z"⟩, 38) := ⟨⟨by decide +kernel, by decide +kernel⟩, List.mem_of_getElem? (i := 1036) (by decide +kernel), List.mem_of_getElem? (i := 1419) (by decide +kernel), List.mem_of_getElem? (i := 1420) (by decide +kernel)⟩
def lw_privs_4 : List (MethodName × Nat) := [(⟨"TwoWayWallModel", "oneLetter", "()Z"⟩, 38), (⟨"TwoWayWallModel", "readLetter", "()V"⟩, 38), (⟨"TwoWayWallModel", "letterOf", "(III)I"⟩, 38), (⟨"TwoWayWallModel", "wordOf", "(III)I"⟩, 38), (⟨"TwoWayWallModel", "signOf", "(II)I"⟩, 38), (⟨"TwoWayWallModel", "cellOf", "(II)I"⟩, 38), (⟨"TwoWayWallModel", "isWord", "(III)Z"⟩, 38), (⟨"TwoWayWallModel", "readsAll", "()V"⟩, 38), (⟨"TwoWayWallModel", "costOf", "(I)I"⟩, 38), (⟨"TwoWayWallModel", "areAsLong", "()Z"⟩, 38), (⟨"TwoWayWallModel", "nears", "(I)V"⟩, 38), (⟨"TwoWayWallModel", "laysStories", "(Z)V"⟩, 38), (⟨"TwoWayWallModel", "laysSteps", "(I)V"⟩, 38), (⟨"TwoWayWallModel", "isWhole", "(IIII)Z"⟩, 38), (⟨"TwoWayWallModel", "fits", "(III)Z"⟩, 38), (⟨"TwoWayWallModel", "beginsAlike", "(IIII)Z"⟩, 38)]
theorem lw_r4 : ∀ q ∈ lw_privs_4, lw_okq q := List.forall_mem_cons.mpr ⟨lw_p48, List.forall_mem_cons.mpr ⟨lw_p49, List.forall_mem_cons.mpr ⟨lw_p50, List.forall_mem_cons.mpr ⟨lw_p51, List.forall_mem_cons.mpr ⟨lw_p52, List.forall_mem_cons.mpr ⟨lw_p53, List.forall_mem_cons.mpr ⟨lw_p54, List.forall_mem_cons.mpr ⟨lw_p55, List.forall_mem_cons.mpr ⟨lw_p56, List.forall_mem_cons.mpr ⟨lw_p57, List.forall_mem_cons.mpr ⟨lw_p58, List.forall_mem_cons.mpr ⟨lw_p59, List.forall_mem_cons.mpr ⟨lw_p60, List.forall_mem_cons.mpr ⟨lw_p61, List.forall_mem_cons.mpr ⟨lw_p62, List.forall_mem_cons.mpr ⟨lw_p63, fun _ h => absurd h List.not_mem_nil⟩⟩⟩⟩⟩⟩⟩⟩⟩⟩⟩⟩⟩⟩⟩⟩
theorem lw_p64 : lw_okq (⟨"TwoWayWallModel", "letterAt", "(III)I"⟩, 38) := ⟨⟨by decide +kernel, by decide +kernel⟩, List.mem_of_getElem? (i := 1036) (by decide +kernel), List.mem_of_getElem? (i := 1423) (by decide +kernel), List.mem_of_getElem? (i := 1424) (by decide +kernel)⟩
theorem lw_p65 : lw_okq (⟨"TwoWayWallModel", "allSorts", "()V"⟩, 38) := ⟨⟨by decide +kernel, by decide +kernel⟩, List.mem_of_getElem? (i := 1036) (by decide +kernel), List.mem_of_getElem? (i := 1427) (by decide +kernel), List.mem_of_getElem? (i := 1428) (by decide +kernel)⟩
theorem lw_p66 : lw_okq (⟨"TwoWayWallModel", "starts", "()V"⟩, 38) := ⟨⟨by decide +kernel, by decide +kernel⟩, List.mem_of_getElem? (i := 1036) (by decide +kernel), List.mem_of_getElem? (i := 1431) (by decide +kernel), List.mem_of_getElem? (i := 1432) (by decide +kernel)⟩
theorem lw_p67 : lw_okq (⟨"TwoWayWallModel", "goesOn", "()V"⟩, 38) := ⟨⟨by decide +kernel, by decide +kernel⟩, List.mem_of_getElem? (i := 1036) (by decide +kernel), List.mem_of_getElem? (i := 1435) (by decide +kernel), List.mem_of_getElem? (i := 1436) (by decide +kernel)⟩
theorem lw_p68 : lw_okq (⟨"TwoWayWallModel", "stepOf", "(III)I"⟩, 38) := ⟨⟨by decide +kernel, by decide +kernel⟩, List.mem_of_getElem? (i := 1036) (by decide +kernel), List.mem_of_getElem? (i := 1439) (by decide +kernel), List.mem_of_getElem? (i := 1440) (by decide +kernel)⟩
theorem lw_p69 : lw_okq (⟨"TwoWayWallModel", "closed", "()J"⟩, 38) := ⟨⟨by decide +kernel, by decide +kernel⟩, List.mem_of_getElem? (i := 1036) (by decide +kernel), List.mem_of_getElem? (i := 1444) (by decide +kernel), List.mem_of_getElem? (i := 1445) (by decide +kernel)⟩
theorem lw_p70 : lw_okq (⟨"TwoWayWallModel", "prices", "()V"⟩, 38) := ⟨⟨by decide +kernel, by decide +kernel⟩, List.mem_of_getElem? (i := 1036) (by decide +kernel), List.mem_of_getElem? (i := 1456) (by decide +kernel), List.mem_of_getElem? (i := 1457) (by decide +kernel)⟩
theorem lw_p71 : lw_okq (⟨"TwoWayWallModel", "leastOf", "(III)I"⟩, 38) := ⟨⟨by decide +kernel, by decide +kernel⟩, List.mem_of_getElem? (i := 1036) (by decide +kernel), List.mem_of_getElem? (i := 1461) (by decide +kernel), List.mem_of_getElem? (i := 1462) (by decide +kernel)⟩
theorem lw_p72 : lw_okq (⟨"TwoWayWallModel", "leftAt", "(III)I"⟩, 38) := ⟨⟨by decide +kernel, by decide +kernel⟩, List.mem_of_getElem? (i := 1036) (by decide +kernel), List.mem_of_getElem? (i := 1465) (by decide +kernel), List.mem_of_getElem? (i := 1466) (by decide +kernel)⟩
theorem lw_p73 : lw_okq (⟨"TwoWayWallModel", "isCheapest", "(IIII)Z"⟩, 38) := ⟨⟨by decide +kernel, by decide +kernel⟩, List.mem_of_getElem? (i := 1036) (by decide +kernel), List.mem_of_getElem? (i := 1474) (by decide +kernel), List.mem_of_getElem? (i := 1475) (by decide +kernel)⟩
theorem lw_p74 : lw_okq (⟨"TwoWayWallModel", "mays", "(IIZ)J"⟩, 38) := ⟨⟨by decide +kernel, by decide +kernel⟩, List.mem_of_getElem? (i := 1036) (by decide +kernel), List.mem_of_getElem? (i := 1482) (by decide +kernel), List.mem_of_getElem? (i := 1483) (by decide +kernel)⟩
theorem lw_p75 : lw_okq (⟨"TwoWayWallModel", "rentOf", "(I)I"⟩, 38) := ⟨⟨by decide +kernel, by decide +kernel⟩, List.mem_of_getElem? (i := 1036) (by decide +kernel), List.mem_of_getElem? (i := 1508) (by decide +kernel), List.mem_of_getElem? (i := 1509) (by decide +kernel)⟩
theorem lw_p76 : lw_okq (⟨"TwoWayWallModel", "yardOf", "(II)I"⟩, 38) := ⟨⟨by decide +kernel, by decide +kernel⟩, List.mem_of_getElem? (i := 1036) (by decide +kernel), List.mem_of_getElem? (i := 1512) (by decide +kernel), List.mem_of_getElem? (i := 1513) (by decide +kernel)⟩
theorem lw_p77 : lw_okq (⟨"TwoWayWallModel", "meet", "(II)Z"⟩, 38) := ⟨⟨by decide +kernel, by decide +kernel⟩, List.mem_of_getElem? (i := 1036) (by decide +kernel), List.mem_of_getElem? (i := 1516) (by decide +kernel), List.mem_of_getElem? (i := 1517) (by decide +kernel)⟩
theorem lw_p78 : lw_okq (⟨"TwoWayWallModel", "draws", "(I)I"⟩, 38) := ⟨⟨by decide +kernel, by decide +kernel⟩, List.mem_of_getElem? (i := 1036) (by decide +kernel), List.mem_of_getElem? (i := 1528) (by decide +kernel), List.mem_of_getElem? (i := 1529) (by decide +kernel)⟩
def lw_privs_5 : List (MethodName × Nat) := [(⟨"TwoWayWallModel", "letterAt", "(III)I"⟩, 38), (⟨"TwoWayWallModel", "allSorts", "()V"⟩, 38), (⟨"TwoWayWallModel", "starts", "()V"⟩, 38), (⟨"TwoWayWallModel", "goesOn", "()V"⟩, 38), (⟨"TwoWayWallModel", "stepOf", "(III)I"⟩, 38), (⟨"TwoWayWallModel", "closed", "()J"⟩, 38), (⟨"TwoWayWallModel", "prices", "()V"⟩, 38), (⟨"TwoWayWallModel", "leastOf", "(III)I"⟩, 38), (⟨"TwoWayWallModel", "leftAt", "(III)I"⟩, 38), (⟨"TwoWayWallModel", "isCheapest", "(IIII)Z"⟩, 38), (⟨"TwoWayWallModel", "mays", "(IIZ)J"⟩, 38), (⟨"TwoWayWallModel", "rentOf", "(I)I"⟩, 38), (⟨"TwoWayWallModel", "yardOf", "(II)I"⟩, 38), (⟨"TwoWayWallModel", "meet", "(II)Z"⟩, 38), (⟨"TwoWayWallModel", "draws", "(I)I"⟩, 38)]
theorem lw_r5 : ∀ q ∈ lw_privs_5, lw_okq q := List.forall_mem_cons.mpr ⟨lw_p64, List.forall_mem_cons.mpr ⟨lw_p65, List.forall_mem_cons.mpr ⟨lw_p66, List.forall_mem_cons.mpr ⟨lw_p67, List.forall_mem_cons.mpr ⟨lw_p68, List.forall_mem_cons.mpr ⟨lw_p69, List.forall_mem_cons.mpr ⟨lw_p70, List.forall_mem_cons.mpr ⟨lw_p71, List.forall_mem_cons.mpr ⟨lw_p72, List.forall_mem_cons.mpr ⟨lw_p73, List.forall_mem_cons.mpr ⟨lw_p74, List.forall_mem_cons.mpr ⟨lw_p75, List.forall_mem_cons.mpr ⟨lw_p76, List.forall_mem_cons.mpr ⟨lw_p77, List.forall_mem_cons.mpr ⟨lw_p78, fun _ h => absurd h List.not_mem_nil⟩⟩⟩⟩⟩⟩⟩⟩⟩⟩⟩⟩⟩⟩⟩
def lw_privs : List (MethodName × Nat) := lw_privs_1 ++ (lw_privs_2 ++ (lw_privs_3 ++ (lw_privs_4 ++ (lw_privs_5))))
def lw_tbl : List Cond := k2_sels lw_privs ++ tables_1
theorem lw_privs_ok : ∀ q ∈ lw_privs, lw_okq q := by
  show ∀ q ∈ lw_privs_1 ++ (lw_privs_2 ++ (lw_privs_3 ++ (lw_privs_4 ++ (lw_privs_5)))), lw_okq q
  exact List.forall_mem_append.mpr ⟨lw_r1, List.forall_mem_append.mpr ⟨lw_r2, List.forall_mem_append.mpr ⟨lw_r3, List.forall_mem_append.mpr ⟨lw_r4, lw_r5⟩⟩⟩⟩
end
section
/-! AM: an abstract machine over mathematical integers and a flat memory. -/
/-- a value: tag (0 int, 1 long, 2 reference into the new cells (-1: null), 3 string constant, 4 the script, 5 bytes of a string constant, 6 a reference that nobody looks at, 9 none) and number -/
abbrev zV : Type := Nat × Int
/-- what stands of a heap: how many cells, how many slots, classes, lengths, references -/
abbrev zT : Type := Nat × Nat × (Int → Int) × (Int → Int) × (Int → Int → Int)
/-- its numbers: cell and place -/
abbrev zM : Type := Int → Int → Int
abbrev zH : Type := zT × zM
/-- an instruction: number, next, two operands, targets -/
abbrev zI : Type := Nat × Nat × Nat × Int × List Nat
def zsz (T : zT) : Int := (T.1 : Int)
def zsl (T : zT) : Nat := T.2.1
def zc (T : zT) (a : Int) : Int := T.2.2.1 a
def zl (T : zT) (a : Int) : Int := T.2.2.2.1 a
def zp (T : zT) (a : Int) : Int → Int := T.2.2.2.2 a
def zu (f : Int → Int) (i v : Int) : Int → Int := fun j => if j = i then v else f j
/-- row a is f now -/
def zs (V : zM) (a : Int) (f : Int → Int) : zM := fun b => if b = a then f else V b
/-- row a of the references is f now -/
def zq (T : zT) (a : Int) (f : Int → Int) : zT := (T.1, T.2.1, T.2.2.1, T.2.2.2.1, zs T.2.2.2.2 a f)
/-- a new cell: null and 0 in it -/
def zn (T : zT) (c n : Int) : zT := (T.1 + 1, T.2.1 + n.toNat, zu T.2.2.1 (T.1 : Int) c, zu T.2.2.2.1 (T.1 : Int) n, zs T.2.2.2.2 (T.1 : Int) (fun _ => -1))
abbrev z32 (x : Int) : Prop := -2147483648 ≤ x ∧ x ≤ 2147483647
abbrev z64 (x : Int) : Prop := -9223372036854775808 ≤ x ∧ x ≤ 9223372036854775807
def zand (x y : Int) : Int := (Int32.ofInt x &&& Int32.ofInt y).toInt
def zor (x y : Int) : Int := (Int32.ofInt x ||| Int32.ofInt y).toInt
def zxor (x y : Int) : Int := (Int32.ofInt x ^^^ Int32.ofInt y).toInt
def zlnd (x y : Int) : Int := (Int64.ofInt x &&& Int64.ofInt y).toInt
def zlor (x y : Int) : Int := (Int64.ofInt x ||| Int64.ofInt y).toInt
def zcat (st : List zV) : Nat := (st.map fun v => if v.1 = 1 then 2 else 1).sum
/-- what a step comes to: the next place; a call (method, arguments, place, locals and stack behind it); the end -/
abbrev zR : Type := (Nat × List zV × List zV × zH) ⊕ ((Nat × List zV × Nat × List zV × List zV × zH) ⊕ (zV × zH))
def zgo (nx : Nat) (l st : List zV) (T : zT) (V : zM) : Option zR := some (.inl (nx, l, st, T, V))
/-- how long the text of string constant i is, and its bytes -/
def z_strs : List (List Int) := [[101, 97, 115, 116], [119, 101, 115, 116], [119, 111, 114, 100], [109, 105, 114, 114, 111, 114], [99, 111, 115, 116], [100, 114, 111, 112], [110, 111, 116]]
def z_str (i : Int) : List Int := z_strs.getD i.toNat []
def zo_ld (t nx a : Nat) (l st : List zV) (T : zT) (V : zM) : Option zR := match l[a]? with
  | some v => if v.1 = t then zgo nx l (v :: st) T V else none
  | none => none
def zo_lda (nx a : Nat) (l st : List zV) (T : zT) (V : zM) : Option zR := match l[a]? with
  | some v => if 2 ≤ v.1 ∧ v.1 ≤ 6 then zgo nx l (v :: st) T V else none
  | none => none
def zo_st1 (p : Nat → Bool) (nx a : Nat) (l st : List zV) (T : zT) (V : zM) : Option zR := match st with
  | v :: st => if p v.1 = true ∧ a < l.length ∧ (a = 0 ∨ (l.getD (a - 1) (9, 0)).1 ≠ 1) then zgo nx (l.set a v) st T V else none
  | [] => none
def zo_st2 (nx a : Nat) (l st : List zV) (T : zT) (V : zM) : Option zR := match st with
  | v :: st => if v.1 = 1 ∧ a + 1 < l.length ∧ (a = 0 ∨ (l.getD (a - 1) (9, 0)).1 ≠ 1) then zgo nx ((l.set a v).set (a + 1) (9, 0)) st T V else none
  | [] => none
def zo_inc (nx a : Nat) (b : Int) (l st : List zV) (T : zT) (V : zM) : Option zR := match l[a]? with
  | some v => if v.1 = 0 ∧ z32 (v.2 + b) ∧ (a = 0 ∨ (l.getD (a - 1) (9, 0)).1 ≠ 1) then zgo nx (l.set a (0, v.2 + b)) st T V else none
  | none => none
/-- two numbers of tag t: a number of tag t, where g says so -/
def zo_bin (t : Nat) (g : Int → Int → Prop) (dg : ∀ x y, Decidable (g x y)) (f : Int → Int → Int) (nx : Nat) (l st : List zV) (T : zT) (V : zM) : Option zR := match st with
  | y :: x :: st => if y.1 = t ∧ x.1 = t then (if g x.2 y.2 then zgo nx l ((t, f x.2 y.2) :: st) T V else none) else none
  | _ => none
def zo_lsh (g : Int → Int → Prop) (dg : ∀ x y, Decidable (g x y)) (f : Int → Int → Int) (nx : Nat) (l st : List zV) (T : zT) (V : zM) : Option zR := match st with
  | y :: x :: st => if y.1 = 0 ∧ x.1 = 1 then (if g x.2 y.2 then zgo nx l ((1, f x.2 y.2) :: st) T V else none) else none
  | _ => none
def zo_cmp (nx : Nat) (l st : List zV) (T : zT) (V : zM) : Option zR := match st with
  | y :: x :: st => if y.1 = 1 ∧ x.1 = 1 then zgo nx l ((0, if y.2 < x.2 then 1 else if x.2 = y.2 then 0 else -1) :: st) T V else none
  | _ => none
def zo_un (t u : Nat) (g : Int → Prop) (dg : ∀ x, Decidable (g x)) (f : Int → Int) (nx : Nat) (l st : List zV) (T : zT) (V : zM) : Option zR := match st with
  | x :: st => if x.1 = t then (if g x.2 then zgo nx l ((u, f x.2) :: st) T V else none) else none
  | _ => none
def zo_if1 (g : Int → Prop) (dg : ∀ x, Decidable (g x)) (nx a : Nat) (l st : List zV) (T : zT) (V : zM) : Option zR := match st with
  | x :: st => if x.1 = 0 then (if g x.2 then zgo a l st T V else zgo nx l st T V) else none
  | _ => none
def zo_if2 (g : Int → Int → Prop) (dg : ∀ x y, Decidable (g x y)) (nx a : Nat) (l st : List zV) (T : zT) (V : zM) : Option zR := match st with
  | y :: x :: st => if y.1 = 0 ∧ x.1 = 0 then (if g x.2 y.2 then zgo a l st T V else zgo nx l st T V) else none
  | _ => none
def zo_nn (nx a : Nat) (l st : List zV) (T : zT) (V : zM) : Option zR := match st with
  | x :: st => if x.1 = 2 then (if 0 ≤ x.2 then zgo a l st T V else zgo nx l st T V) else none
  | _ => none
def zo_sw (b : Int) (ts : List Nat) (l st : List zV) (T : zT) (V : zM) : Option zR := match st with
  | x :: st => if x.1 = 0 then (if b ≤ x.2 ∧ x.2 < b + (ts.length : Int) - 1 then zgo (ts.getD ((x.2 - b).toNat + 1) 0) l st T V else zgo (ts.getD 0 0) l st T V) else none
  | _ => none
def zo_dup (nx : Nat) (l st : List zV) (T : zT) (V : zM) : Option zR := match st with
  | x :: st => if x.1 = 0 ∨ x.1 = 2 then zgo nx l (x :: x :: st) T V else none
  | _ => none
def zo_pop (nx : Nat) (l st : List zV) (T : zT) (V : zM) : Option zR := match st with
  | x :: st => if x.1 = 0 ∨ x.1 = 2 then zgo nx l st T V else none
  | _ => none
def zo_dup2 (nx : Nat) (l st : List zV) (T : zT) (V : zM) : Option zR := match st with
  | y :: x :: st => if (y.1 = 0 ∨ y.1 = 2) ∧ (x.1 = 0 ∨ x.1 = 2) then zgo nx l (y :: x :: y :: x :: st) T V else none
  | _ => none
def zo_get (t : Nat) (M : Int → Int → Int) (nx a : Nat) (b : Int) (l st : List zV) (T : zT) (V : zM) : Option zR := match st with
  | x :: st => if x.1 = 2 ∧ (0 ≤ x.2 ∧ x.2 < zsz T ∧ zc T x.2 = (a : Int) + 10) then zgo nx l ((t, M x.2 b) :: st) T V else none
  | _ => none
def zo_put (g : Int → Prop) (dg : ∀ x, Decidable (g x)) (nx a : Nat) (b : Int) (l st : List zV) (T : zT) (V : zM) : Option zR := match st with
  | y :: x :: st => if (y.1 = 0 ∧ x.1 = 2) ∧ (0 ≤ x.2 ∧ x.2 < zsz T ∧ zc T x.2 = (a : Int) + 10) then (if g y.2 then zgo nx l st T (zs V x.2 (zu (V x.2) b y.2)) else none) else none
  | _ => none
def zo_putr (nx a : Nat) (b : Int) (l st : List zV) (T : zT) (V : zM) : Option zR := match st with
  | y :: x :: st => if (y.1 = 2 ∧ x.1 = 2) ∧ (0 ≤ x.2 ∧ x.2 < zsz T ∧ zc T x.2 = (a : Int) + 10) then zgo nx l st (zq T x.2 (zu (zp T x.2) b y.2)) V else none
  | _ => none
def zo_ald (t : Nat) (M : Int → Int → Int) (c : Int) (nx : Nat) (l st : List zV) (T : zT) (V : zM) : Option zR := match st with
  | i :: x :: st => if (i.1 = 0 ∧ x.1 = 2) ∧ (0 ≤ x.2 ∧ x.2 < zsz T ∧ zc T x.2 = c) ∧ (0 ≤ i.2 ∧ i.2 < zl T x.2) then zgo nx l ((t, M x.2 i.2) :: st) T V else none
  | _ => none
/-- ints: out of an int array, or out of the script (whose length and ints stand in cell -2) -/
def zo_ild (nx : Nat) (l st : List zV) (T : zT) (V : zM) : Option zR := match st with
  | i :: x :: st => if x.1 = 4 then (if i.1 = 0 ∧ (0 ≤ i.2 ∧ i.2 < zl T (-2)) then zgo nx l ((0, V (-2) i.2) :: st) T V else none) else zo_ald 0 V 0 nx l (i :: x :: st) T V
  | _ => none
def zo_bld (nx : Nat) (l st : List zV) (T : zT) (V : zM) : Option zR := match st with
  | i :: x :: st => if x.1 = 5 then (if i.1 = 0 ∧ (0 ≤ x.2 ∧ x.2 < 7) ∧ (0 ≤ i.2 ∧ i.2 < ((z_str x.2).length : Int)) then zgo nx l ((0, (z_str x.2).getD i.2.toNat 0) :: st) T V else none)
    else if x.1 = 2 ∧ zc T x.2 = 3 then zo_ald 0 V 3 nx l (i :: x :: st) T V else zo_ald 0 V 2 nx l (i :: x :: st) T V
  | _ => none
def zo_ast (t : Nat) (c : Int) (g : Int → Prop) (dg : ∀ x, Decidable (g x)) (nx : Nat) (l st : List zV) (T : zT) (V : zM) : Option zR := match st with
  | y :: i :: x :: st => if (y.1 = t ∧ i.1 = 0 ∧ x.1 = 2) ∧ (0 ≤ x.2 ∧ x.2 < zsz T ∧ zc T x.2 = c) ∧ (0 ≤ i.2 ∧ i.2 < zl T x.2) then (if g y.2 then zgo nx l st T (zs V x.2 (zu (V x.2) i.2 y.2)) else none) else none
  | _ => none
def zo_bst (nx : Nat) (l st : List zV) (T : zT) (V : zM) : Option zR := match st with
  | y :: i :: x :: st => if zc T x.2 = 3 then zo_ast 0 3 (fun v => 0 ≤ v ∧ v ≤ 1) (fun _ => inferInstance) nx l (y :: i :: x :: st) T V
    else zo_ast 0 2 (fun v => -128 ≤ v ∧ v ≤ 127) (fun _ => inferInstance) nx l (y :: i :: x :: st) T V
  | _ => none
def zo_qst (nx : Nat) (l st : List zV) (T : zT) (V : zM) : Option zR := match st with
  | y :: i :: x :: st => if (y.1 = 2 ∧ i.1 = 0 ∧ x.1 = 2) ∧ (0 ≤ y.2 ∧ y.2 < zsz T ∧ zc T y.2 = 16) ∧ (0 ≤ x.2 ∧ x.2 < zsz T ∧ zc T x.2 = 4) ∧ (0 ≤ i.2 ∧ i.2 < zl T x.2) then zgo nx l st (zq T x.2 (zu (zp T x.2) i.2 y.2)) V else none
  | _ => none
def zo_len (nx : Nat) (l st : List zV) (T : zT) (V : zM) : Option zR := match st with
  | x :: st => if x.1 = 4 then zgo nx l ((0, zl T (-2)) :: st) T V
    else if x.1 = 5 then (if 0 ≤ x.2 ∧ x.2 < 7 then zgo nx l ((0, ((z_str x.2).length : Int)) :: st) T V else none)
    else if x.1 = 2 ∧ (0 ≤ x.2 ∧ x.2 < zsz T) ∧ (0 ≤ zc T x.2 ∧ zc T x.2 ≤ 4) then zgo nx l ((0, zl T x.2) :: st) T V else none
  | _ => none
/-- how many fields a class has -/
def zfN (c : Nat) : Nat := [5, 8, 4, 6, 5, 9, 8, 6, 2, 10, 6, 18, 38].getD c 0
def zo_new (nx a : Nat) (l st : List zV) (T : zT) (V : zM) : Option zR := if a < 13 then zgo nx l ((2, zsz T) :: st) (zn T ((a : Int) + 10) (zfN a : Int)) (zs V (zsz T) (fun _ => 0)) else none
def zo_nar (c : Int) (nx : Nat) (l st : List zV) (T : zT) (V : zM) : Option zR := match st with
  | x :: st => if x.1 = 0 ∧ 0 ≤ x.2 ∧ x.2 ≤ 1000000 then zgo nx l ((2, zsz T) :: st) (zn T c x.2) (zs V (zsz T) (fun _ => 0)) else none
  | _ => none
def zo_ret (a : Nat) (st : List zV) (T : zT) (V : zM) : Option zR := match st with
  | [x] => if (a = 0 ∧ x.1 = 0) ∨ (a = 1 ∧ x.1 = 1) ∨ (a = 2 ∧ x.1 = 2) ∨ (a = 3 ∧ x.1 = 0 ∧ 0 ≤ x.2 ∧ x.2 ≤ 1) ∨ (a = 4 ∧ x.1 = 0 ∧ -128 ≤ x.2 ∧ x.2 ≤ 127) ∨ (a = 5 ∧ x.1 = 0 ∧ 0 ≤ x.2 ∧ x.2 ≤ 65535) then some (.inr (.inr (x, T, V))) else none
  | _ => none
def zo_call (nx a : Nat) (b : Int) (l st : List zV) (T : zT) (V : zM) : Option zR :=
  if b.toNat ≤ st.length ∧ zcat (st.drop b.toNat) ≤ 8 then some (.inr (.inl (a, (st.take b.toNat).reverse, nx, l, st.drop b.toNat, T, V))) else none
/-- the receiver is a cell of the new ones -/
def zo_callI (nx a : Nat) (b : Int) (l st : List zV) (T : zT) (V : zM) : Option zR := match (st.take b.toNat).reverse with
  | x :: _ => if x.1 = 2 ∧ 0 ≤ x.2 then zo_call nx a b l st T V else none
  | [] => none
def zo_callV (nx a : Nat) (b : Int) (ts : List Nat) (l st : List zV) (T : zT) (V : zM) : Option zR := match (st.take b.toNat).reverse with
  | x :: _ => if x.1 = 2 ∧ (0 ≤ x.2 ∧ x.2 < zsz T ∧ zc T x.2 = ((ts.getD 0 0 : Nat) : Int) + 10) then zo_call nx a b l st T V else none
  | [] => none
def zo_callS (nx a : Nat) (b : Int) (l st : List zV) (T : zT) (V : zM) : Option zR := match (st.take b.toNat).reverse with
  | x :: _ => if x.1 = 3 ∧ 0 ≤ x.2 ∧ x.2 < 7 then zo_call nx a b l st T V else none
  | [] => none
def zo_obj (nx : Nat) (l st : List zV) (T : zT) (V : zM) : Option zR := match st with
  | x :: st => if x.1 = 2 ∧ 0 ≤ x.2 ∧ zcat st ≤ 8 then zgo nx l st T V else none
  | _ => none
def zcpy (f g : Int → Int) (sp dp n : Int) : Int → Int := fun k => if dp ≤ k ∧ k < dp + n then f (sp + (k - dp)) else g k
def zo_cpy (nx : Nat) (l st : List zV) (T : zT) (V : zM) : Option zR := match st with
  | n :: dp :: d :: sp :: s :: st =>
    if (n.1 = 0 ∧ dp.1 = 0 ∧ d.1 = 2 ∧ sp.1 = 0 ∧ s.1 = 2) ∧ (0 ≤ s.2 ∧ s.2 < zsz T ∧ 0 ≤ d.2 ∧ d.2 < zsz T) ∧ (zc T s.2 = zc T d.2 ∧ (zc T s.2 = 0 ∨ zc T s.2 = 1)) ∧ s.2 ≠ d.2 ∧ (0 ≤ n.2 ∧ 0 ≤ sp.2 ∧ 0 ≤ dp.2 ∧ sp.2 + n.2 ≤ zl T s.2 ∧ dp.2 + n.2 ≤ zl T d.2) ∧ zcat st ≤ 8
    then zgo nx l st T (zs V d.2 (zcpy (V s.2) (V d.2) sp.2 dp.2 n.2)) else none
  | _ => none
def zo_strv (nx : Nat) (l st : List zV) (T : zT) (V : zM) : Option zR := match st with
  | x :: st => if x.1 = 3 ∧ 0 ≤ x.2 ∧ x.2 < 7 then zgo nx l ((5, x.2) :: st) T V else none
  | _ => none
def zo_strc (nx : Nat) (l st : List zV) (T : zT) (V : zM) : Option zR := match st with
  | x :: st => if x.1 = 3 ∧ 0 ≤ x.2 ∧ x.2 < 7 then zgo nx l ((0, 0) :: st) T V else none
  | _ => none
def zo_mm (t : Nat) (f : Int → Int → Int) (nx : Nat) (l st : List zV) (T : zT) (V : zM) : Option zR := match st with
  | y :: x :: st => if y.1 = t ∧ x.1 = t ∧ zcat st ≤ 8 then zgo nx l ((t, f x.2 y.2) :: st) T V else none
  | _ => none
def z_step (I : zI) (l st : List zV) (T : zT) (V : zM) : Option zR :=
  let nx := I.2.1
  let a := I.2.2.1
  let b := I.2.2.2.1
  match I.1 with
  | 0 => if z32 b then zgo nx l ((0, b) :: st) T V else none
  | 1 => if z64 b then zgo nx l ((1, b) :: st) T V else none
  | 2 => zgo nx l ((2, -1) :: st) T V
  | 3 => if a < 7 then zgo nx l ((3, (a : Int)) :: st) T V else none
  | 4 => zo_ld 0 nx a l st T V
  | 5 => zo_ld 1 nx a l st T V
  | 6 => zo_lda nx a l st T V
  | 7 => zo_st1 (fun t => t == 0) nx a l st T V
  | 8 => zo_st2 nx a l st T V
  | 9 => zo_st1 (fun t => t == 2) nx a l st T V
  | 10 => zo_inc nx a b l st T V
  | 11 => zo_bin 0 (fun x y => z32 (x + y)) (fun _ _ => inferInstance) (fun x y => x + y) nx l st T V
  | 12 => zo_bin 0 (fun x y => z32 (x - y)) (fun _ _ => inferInstance) (fun x y => x - y) nx l st T V
  | 13 => zo_bin 0 (fun x y => z32 (x * y)) (fun _ _ => inferInstance) (fun x y => x * y) nx l st T V
  | 14 => zo_bin 0 (fun _ _ => True) (fun _ _ => inferInstance) zand nx l st T V
  | 15 => zo_bin 0 (fun _ _ => True) (fun _ _ => inferInstance) zor nx l st T V
  | 16 => zo_bin 0 (fun _ _ => True) (fun _ _ => inferInstance) zxor nx l st T V
  | 17 => zo_bin 0 (fun x y => 0 ≤ x ∧ 0 < y) (fun _ _ => inferInstance) (fun x y => x / y) nx l st T V
  | 18 => zo_bin 0 (fun x y => 0 ≤ x ∧ 0 < y) (fun _ _ => inferInstance) (fun x y => x % y) nx l st T V
  | 19 => zo_un 0 0 (fun x => z32 (-x)) (fun _ => inferInstance) (fun x => -x) nx l st T V
  | 20 => zo_bin 0 (fun x y => 0 ≤ y ∧ y < 32 ∧ z32 (x * 2 ^ y.toNat)) (fun _ _ => inferInstance) (fun x y => x * 2 ^ y.toNat) nx l st T V
  | 21 => zo_bin 0 (fun _ y => 0 ≤ y ∧ y < 32) (fun _ _ => inferInstance) (fun x y => x / 2 ^ y.toNat) nx l st T V
  | 22 => zo_bin 0 (fun _ y => 0 ≤ y ∧ y < 32) (fun _ _ => inferInstance) (fun x y => if y = 0 then x else (x % 4294967296) / 2 ^ y.toNat) nx l st T V
  | 23 => zo_bin 1 (fun x y => z64 (x + y)) (fun _ _ => inferInstance) (fun x y => x + y) nx l st T V
  | 24 => zo_bin 1 (fun x y => z64 (x - y)) (fun _ _ => inferInstance) (fun x y => x - y) nx l st T V
  | 25 => zo_bin 1 (fun x y => z64 (x * y)) (fun _ _ => inferInstance) (fun x y => x * y) nx l st T V
  | 26 => zo_bin 1 (fun _ _ => True) (fun _ _ => inferInstance) zlnd nx l st T V
  | 27 => zo_bin 1 (fun _ _ => True) (fun _ _ => inferInstance) zlor nx l st T V
  | 28 => zo_bin 1 (fun x y => 0 ≤ x ∧ 0 < y) (fun _ _ => inferInstance) (fun x y => x % y) nx l st T V
  | 29 => zo_lsh (fun x y => 0 ≤ y ∧ y < 64 ∧ z64 (x * 2 ^ y.toNat)) (fun _ _ => inferInstance) (fun x y => x * 2 ^ y.toNat) nx l st T V
  | 30 => zo_lsh (fun _ y => 0 ≤ y ∧ y < 64) (fun _ _ => inferInstance) (fun x y => x / 2 ^ y.toNat) nx l st T V
  | 31 => zo_cmp nx l st T V
  | 32 => zo_un 0 1 (fun _ => True) (fun _ => inferInstance) (fun x => x) nx l st T V
  | 33 => zo_un 1 0 (fun x => z32 x) (fun _ => inferInstance) (fun x => x) nx l st T V
  | 34 => zo_un 0 0 (fun _ => True) (fun _ => inferInstance) (fun x => (x + 128) % 256 - 128) nx l st T V
  | 35 => zo_un 0 0 (fun x => 0 ≤ x ∧ x ≤ 65535) (fun _ => inferInstance) (fun x => x) nx l st T V
  | 36 => zo_dup nx l st T V
  | 37 => zo_pop nx l st T V
  | 38 => zo_dup2 nx l st T V
  | 40 => zo_if1 (fun x => x = 0) (fun _ => inferInstance) nx a l st T V
  | 41 => zo_if1 (fun x => ¬ x = 0) (fun _ => inferInstance) nx a l st T V
  | 42 => zo_if1 (fun x => x < 0) (fun _ => inferInstance) nx a l st T V
  | 43 => zo_if1 (fun x => 0 ≤ x) (fun _ => inferInstance) nx a l st T V
  | 44 => zo_if1 (fun x => 0 < x) (fun _ => inferInstance) nx a l st T V
  | 45 => zo_if1 (fun x => x ≤ 0) (fun _ => inferInstance) nx a l st T V
  | 46 => zo_if2 (fun x y => x = y) (fun _ _ => inferInstance) nx a l st T V
  | 47 => zo_if2 (fun x y => ¬ x = y) (fun _ _ => inferInstance) nx a l st T V
  | 48 => zo_if2 (fun x y => x < y) (fun _ _ => inferInstance) nx a l st T V
  | 49 => zo_if2 (fun x y => y ≤ x) (fun _ _ => inferInstance) nx a l st T V
  | 50 => zo_if2 (fun x y => y < x) (fun _ _ => inferInstance) nx a l st T V
  | 51 => zo_if2 (fun x y => x ≤ y) (fun _ _ => inferInstance) nx a l st T V
  | 52 => zo_nn nx a l st T V
  | 53 => zgo a l st T V
  | 54 => zo_sw b I.2.2.2.2 l st T V
  | 55 => zo_get 0 V nx a b l st T V
  | 56 => zo_get 2 (zp T) nx a b l st T V
  | 57 => zo_put (fun _ => True) (fun _ => inferInstance) nx a b l st T V
  | 58 => zo_put (fun v => 0 ≤ v ∧ v ≤ 1) (fun _ => inferInstance) nx a b l st T V
  | 59 => zo_putr nx a b l st T V
  | 60 => zo_ild nx l st T V
  | 61 => zo_ald 1 V 1 nx l st T V
  | 62 => zo_bld nx l st T V
  | 63 => zo_ald 2 (zp T) 4 nx l st T V
  | 64 => zo_ast 0 0 (fun _ => True) (fun _ => inferInstance) nx l st T V
  | 65 => zo_ast 1 1 (fun _ => True) (fun _ => inferInstance) nx l st T V
  | 66 => zo_bst nx l st T V
  | 67 => zo_qst nx l st T V
  | 68 => zo_len nx l st T V
  | 69 => zo_new nx a l st T V
  | 70 => zo_nar (a : Int) nx l st T V
  | 71 => zo_nar 4 nx l st T V
  | 72 => zo_ret a st T V
  | 73 => match st with
    | [] => some (.inr (.inr ((9, 0), T, V)))
    | _ => none
  | 74 => zo_call nx a b l st T V
  | 75 => zo_callI nx a b l st T V
  | 76 => zo_callV nx a b I.2.2.2.2 l st T V
  | 77 => zo_callS nx a b l st T V
  | 78 => zo_obj nx l st T V
  | 79 => zo_cpy nx l st T V
  | 80 => zgo nx l ((0, 1) :: st) T V
  | 81 => zgo nx l ((6, 0) :: st) T V
  | 82 => zo_strv nx l st T V
  | 83 => zo_strc nx l st T V
  | 84 => zo_mm 0 (fun x y => max x y) nx l st T V
  | 85 => zo_mm 0 (fun x y => min x y) nx l st T V
  | 86 => zo_mm 1 (fun x y => min x y) nx l st T V
  | _ => none
def z_at : List (Nat × zI) → Nat → Option zI
  | [], _ => none
  | q :: r, pc => if q.1 = pc then some q.2 else z_at r pc
def z_sp : List zV → List zV
  | [] => []
  | v :: r => if v.1 = 1 then v :: (9, 0) :: z_sp r else v :: z_sp r
/-- the locals of a method of n locals at its start -/
def z_ent (n : Nat) (args : List zV) : List zV := z_sp args ++ List.replicate (n - (z_sp args).length) (9, 0)
def z_push (r : zV) (st : List zV) : List zV := if r.1 = 9 then st else r :: st
end
section
/-! printed by wip/whole/gen/emit_code.py: the code of every method as AM entries -/
/-- TwoWayWallLaw.law([I)Z -/
def zcd0 : List (Nat × zI) := [(0, 69, 3, 11, 0, []), (3, 36, 4, 0, 0, []), (4, 75, 7, 1, 1, []), (7, 9, 8, 1, 0, []), (8, 69, 11, 12, 0, []), (11, 36, 12, 0, 0, []), (12, 75, 15, 148, 1, []), (15, 9, 16, 2, 0, []), (16, 0, 17, 0, 0, []), (17, 7, 18, 3, 0, []), (18, 4, 19, 3, 0, []), (19, 6, 20, 0, 0, []), (20, 68, 21, 0, 0, []), (21, 0, 23, 0, 6, []), (23, 12, 24, 0, 0, []), (24, 50, 27, 1277, 0, []), (27, 6, 28, 0, 0, []), (28, 4, 29, 3, 0, []), (29, 60, 30, 0, 0, []), (30, 0, 32, 0, 63, []), (32, 14, 33, 0, 0, []), (33, 54, 208, 0, 0, [1271, 208, 231, 264, 287, 350, 373, 386, 399, 412, 425, 468, 511, 544, 577, 600, 643, 666, 679, 712, 735, 758, 781, 814, 837, 851, 864, 887, 910, 943, 957, 990, 1024, 1087, 1110, 1133, 1156, 1189, 1212, 1235, 1258]), (208, 6, 209, 1, 0, []), (209, 6, 210, 0, 0, []), (210, 4, 211, 3, 0, []), (211, 0, 212, 0, 1, []), (212, 11, 213, 0, 0, []), (213, 60, 214, 0, 0, []), (214, 76, 217, 23, 2, [11]), (217, 6, 218, 2, 0, []), (218, 6, 219, 0, 0, []), (219, 4, 220, 3, 0, []), (220, 0, 221, 0, 1, []), (221, 11, 222, 0, 0, []), (222, 60, 223, 0, 0, []), (223, 76, 226, 154, 2, [12]), (226, 46, 229, 1271, 0, []), (229, 0, 230, 0, 0, []), (230, 72, 231, 3, 0, []), (231, 6, 232, 1, 0, []), (232, 6, 233, 0, 0, []), (233, 4, 234, 3, 0, []), (234, 0, 235, 0, 1, []), (235, 11, 236, 0, 0, []), (236, 60, 237, 0, 0, []), (237, 6, 238, 0, 0, []), (238, 4, 239, 3, 0, []), (239, 0, 240, 0, 2, []), (240, 11, 241, 0, 0, []), (241, 60, 242, 0, 0, []), (242, 76, 245, 27, 3, [11]), (245, 6, 246, 2, 0, []), (246, 6, 247, 0, 0, []), (247, 4, 248, 3, 0, []), (248, 0, 249, 0, 1, []), (249, 11, 250, 0, 0, []), (250, 60, 251, 0, 0, []), (251, 6, 252, 0, 0, []), (252, 4, 253, 3, 0, []), (253, 0, 254, 0, 2, []), (254, 11, 255, 0, 0, []), (255, 60, 256, 0, 0, []), (256, 76, 259, 156, 3, [12]), (259, 46, 262, 1271, 0, []), (262, 0, 263, 0, 0, []), (263, 72, 264, 3, 0, []), (264, 6, 265, 1, 0, []), (265, 6, 266, 0, 0, []), (266, 4, 267, 3, 0, []), (267, 0, 268, 0, 1, []), (268, 11, 269, 0, 0, []), (269, 60, 270, 0, 0, []), (270, 76, 273, 30, 2, [11]), (273, 6, 274, 2, 0, []), (274, 6, 275, 0, 0, []), (275, 4, 276, 3, 0, []), (276, 0, 277, 0, 1, []), (277, 11, 278, 0, 0, []), (278, 60, 279, 0, 0, []), (279, 76, 282, 158, 2, [12]), (282, 46, 285, 1271, 0, []), (285, 0, 286, 0, 0, []), (286, 72, 287, 3, 0, []), (287, 6, 288, 1, 0, []), (288, 6, 289, 0, 0, []), (289, 4, 290, 3, 0, []), (290, 0, 291, 0, 1, []), (291, 11, 292, 0, 0, []), (292, 60, 293, 0, 0, []), (293, 6, 294, 0, 0, []), (294, 4, 295, 3, 0, []), (295, 0, 296, 0, 2, []), (296, 11, 297, 0, 0, []), (297, 60, 298, 0, 0, []), (298, 6, 299, 0, 0, []), (299, 4, 300, 3, 0, []), (300, 0, 301, 0, 3, []), (301, 11, 302, 0, 0, []), (302, 60, 303, 0, 0, []), (303, 6, 304, 0, 0, []), (304, 4, 305, 3, 0, []), (305, 0, 306, 0, 4, []), (306, 11, 307, 0, 0, []), (307, 60, 308, 0, 0, []), (308, 6, 309, 0, 0, []), (309, 4, 310, 3, 0, []), (310, 0, 311, 0, 5, []), (311, 11, 312, 0, 0, []), (312, 60, 313, 0, 0, []), (313, 76, 316, 31, 6, [11]), (316, 6, 317, 2, 0, []), (317, 6, 318, 0, 0, []), (318, 4, 319, 3, 0, []), (319, 0, 320, 0, 1, []), (320, 11, 321, 0, 0, []), (321, 60, 322, 0, 0, []), (322, 6, 323, 0, 0, []), (323, 4, 324, 3, 0, []), (324, 0, 325, 0, 2, []), (325, 11, 326, 0, 0, []), (326, 60, 327, 0, 0, []), (327, 6, 328, 0, 0, []), (328, 4, 329, 3, 0, []), (329, 0, 330, 0, 3, []), (330, 11, 331, 0, 0, []), (331, 60, 332, 0, 0, []), (332, 6, 333, 0, 0, []), (333, 4, 334, 3, 0, []), (334, 0, 335, 0, 4, []), (335, 11, 336, 0, 0, []), (336, 60, 337, 0, 0, []), (337, 6, 338, 0, 0, []), (338, 4, 339, 3, 0, []), (339, 0, 340, 0, 5, []), (340, 11, 341, 0, 0, []), (341, 60, 342, 0, 0, []), (342, 76, 345, 162, 6, [12]), (345, 46, 348, 1271, 0, []), (348, 0, 349, 0, 0, []), (349, 72, 350, 3, 0, []), (350, 6, 351, 1, 0, []), (351, 6, 352, 0, 0, []), (352, 4, 353, 3, 0, []), (353, 0, 354, 0, 1, []), (354, 11, 355, 0, 0, []), (355, 60, 356, 0, 0, []), (356, 76, 359, 33, 2, [11]), (359, 6, 360, 2, 0, []), (360, 6, 361, 0, 0, []), (361, 4, 362, 3, 0, []), (362, 0, 363, 0, 1, []), (363, 11, 364, 0, 0, []), (364, 60, 365, 0, 0, []), (365, 76, 368, 163, 2, [12]), (368, 46, 371, 1271, 0, []), (371, 0, 372, 0, 0, []), (372, 72, 373, 3, 0, []), (373, 6, 374, 1, 0, []), (374, 76, 377, 34, 1, [11]), (377, 6, 378, 2, 0, []), (378, 76, 381, 160, 1, [12]), (381, 46, 384, 1271, 0, []), (384, 0, 385, 0, 0, []), (385, 72, 386, 3, 0, []), (386, 6, 387, 1, 0, []), (387, 76, 390, 36, 1, [11]), (390, 6, 391, 2, 0, []), (391, 76, 394, 161, 1, [12]), (394, 46, 397, 1271, 0, []), (397, 0, 398, 0, 0, []), (398, 72, 399, 3, 0, []), (399, 6, 400, 1, 0, []), (400, 76, 403, 37, 1, [11]), (403, 6, 404, 2, 0, []), (404, 76, 407, 164, 1, [12]), (407, 46, 410, 1271, 0, []), (410, 0, 411, 0, 0, []), (411, 72, 412, 3, 0, []), (412, 6, 413, 1, 0, []), (413, 76, 416, 70, 1, [11]), (416, 6, 417, 2, 0, []), (417, 76, 420, 181, 1, [12]), (420, 46, 423, 1271, 0, []), (423, 0, 424, 0, 0, []), (424, 72, 425, 3, 0, []), (425, 6, 426, 1, 0, []), (426, 6, 427, 0, 0, []), (427, 4, 428, 3, 0, []), (428, 0, 429, 0, 1, []), (429, 11, 430, 0, 0, []), (430, 60, 431, 0, 0, []), (431, 6, 432, 0, 0, []), (432, 4, 433, 3, 0, []), (433, 0, 434, 0, 2, []), (434, 11, 435, 0, 0, []), (435, 60, 436, 0, 0, []), (436, 6, 437, 0, 0, []), (437, 4, 438, 3, 0, []), (438, 0, 439, 0, 3, []), (439, 11, 440, 0, 0, []), (440, 60, 441, 0, 0, []), (441, 76, 444, 71, 4, [11]), (444, 6, 445, 2, 0, []), (445, 6, 446, 0, 0, []), (446, 4, 447, 3, 0, []), (447, 0, 448, 0, 1, []), (448, 11, 449, 0, 0, []), (449, 60, 450, 0, 0, []), (450, 6, 451, 0, 0, []), (451, 4, 452, 3, 0, []), (452, 0, 453, 0, 2, []), (453, 11, 454, 0, 0, []), (454, 60, 455, 0, 0, []), (455, 6, 456, 0, 0, []), (456, 4, 457, 3, 0, []), (457, 0, 458, 0, 3, []), (458, 11, 459, 0, 0, []), (459, 60, 460, 0, 0, []), (460, 76, 463, 182, 4, [12]), (463, 46, 466, 1271, 0, []), (466, 0, 467, 0, 0, []), (467, 72, 468, 3, 0, []), (468, 6, 469, 1, 0, []), (469, 6, 470, 0, 0, []), (470, 4, 471, 3, 0, []), (471, 0, 472, 0, 1, []), (472, 11, 473, 0, 0, []), (473, 60, 474, 0, 0, []), (474, 6, 475, 0, 0, []), (475, 4, 476, 3, 0, []), (476, 0, 477, 0, 2, []), (477, 11, 478, 0, 0, []), (478, 60, 479, 0, 0, []), (479, 6, 480, 0, 0, []), (480, 4, 481, 3, 0, []), (481, 0, 482, 0, 3, []), (482, 11, 483, 0, 0, []), (483, 60, 484, 0, 0, []), (484, 76, 487, 75, 4, [11]), (487, 6, 488, 2, 0, []), (488, 6, 489, 0, 0, []), (489, 4, 490, 3, 0, []), (490, 0, 491, 0, 1, []), (491, 11, 492, 0, 0, []), (492, 60, 493, 0, 0, []), (493, 6, 494, 0, 0, []), (494, 4, 495, 3, 0, []), (495, 0, 496, 0, 2, []), (496, 11, 497, 0, 0, []), (497, 60, 498, 0, 0, []), (498, 6, 499, 0, 0, []), (499, 4, 500, 3, 0, []), (500, 0, 501, 0, 3, []), (501, 11, 502, 0, 0, []), (502, 60, 503, 0, 0, []), (503, 76, 506, 186, 4, [12]), (506, 46, 509, 1271, 0, []), (509, 0, 510, 0, 0, []), (510, 72, 511, 3, 0, []), (511, 6, 512, 1, 0, []), (512, 6, 513, 0, 0, []), (513, 4, 514, 3, 0, []), (514, 0, 515, 0, 1, []), (515, 11, 516, 0, 0, []), (516, 60, 517, 0, 0, []), (517, 6, 518, 0, 0, []), (518, 4, 519, 3, 0, []), (519, 0, 520, 0, 2, []), (520, 11, 521, 0, 0, []), (521, 60, 522, 0, 0, []), (522, 76, 525, 77, 3, [11]), (525, 6, 526, 2, 0, []), (526, 6, 527, 0, 0, []), (527, 4, 528, 3, 0, []), (528, 0, 529, 0, 1, []), (529, 11, 530, 0, 0, []), (530, 60, 531, 0, 0, []), (531, 6, 532, 0, 0, []), (532, 4, 533, 3, 0, []), (533, 0, 534, 0, 2, []), (534, 11, 535, 0, 0, []), (535, 60, 536, 0, 0, []), (536, 76, 539, 188, 3, [12]), (539, 46, 542, 1271, 0, []), (542, 0, 543, 0, 0, []), (543, 72, 544, 3, 0, []), (544, 6, 545, 1, 0, []), (545, 6, 546, 0, 0, []), (546, 4, 547, 3, 0, []), (547, 0, 548, 0, 1, []), (548, 11, 549, 0, 0, []), (549, 60, 550, 0, 0, []), (550, 6, 551, 0, 0, []), (551, 4, 552, 3, 0, []), (552, 0, 553, 0, 2, []), (553, 11, 554, 0, 0, []), (554, 60, 555, 0, 0, []), (555, 76, 558, 80, 3, [11]), (558, 6, 559, 2, 0, []), (559, 6, 560, 0, 0, []), (560, 4, 561, 3, 0, []), (561, 0, 562, 0, 1, []), (562, 11, 563, 0, 0, []), (563, 60, 564, 0, 0, []), (564, 6, 565, 0, 0, []), (565, 4, 566, 3, 0, []), (566, 0, 567, 0, 2, []), (567, 11, 568, 0, 0, []), (568, 60, 569, 0, 0, []), (569, 76, 572, 191, 3, [12]), (572, 46, 575, 1271, 0, []), (575, 0, 576, 0, 0, []), (576, 72, 577, 3, 0, []), (577, 6, 578, 1, 0, []), (578, 6, 579, 0, 0, []), (579, 4, 580, 3, 0, []), (580, 0, 581, 0, 1, []), (581, 11, 582, 0, 0, []), (582, 60, 583, 0, 0, []), (583, 76, 586, 82, 2, [11]), (586, 6, 587, 2, 0, []), (587, 6, 588, 0, 0, []), (588, 4, 589, 3, 0, []), (589, 0, 590, 0, 1, []), (590, 11, 591, 0, 0, []), (591, 60, 592, 0, 0, []), (592, 76, 595, 193, 2, [12]), (595, 46, 598, 1271, 0, []), (598, 0, 599, 0, 0, []), (599, 72, 600, 3, 0, []), (600, 6, 601, 1, 0, []), (601, 6, 602, 0, 0, []), (602, 4, 603, 3, 0, []), (603, 0, 604, 0, 1, []), (604, 11, 605, 0, 0, []), (605, 60, 606, 0, 0, []), (606, 6, 607, 0, 0, []), (607, 4, 608, 3, 0, []), (608, 0, 609, 0, 2, []), (609, 11, 610, 0, 0, []), (610, 60, 611, 0, 0, []), (611, 6, 612, 0, 0, []), (612, 4, 613, 3, 0, []), (613, 0, 614, 0, 3, []), (614, 11, 615, 0, 0, []), (615, 60, 616, 0, 0, []), (616, 76, 619, 85, 4, [11]), (619, 6, 620, 2, 0, []), (620, 6, 621, 0, 0, []), (621, 4, 622, 3, 0, []), (622, 0, 623, 0, 1, []), (623, 11, 624, 0, 0, []), (624, 60, 625, 0, 0, []), (625, 6, 626, 0, 0, []), (626, 4, 627, 3, 0, []), (627, 0, 628, 0, 2, []), (628, 11, 629, 0, 0, []), (629, 60, 630, 0, 0, []), (630, 6, 631, 0, 0, []), (631, 4, 632, 3, 0, []), (632, 0, 633, 0, 3, []), (633, 11, 634, 0, 0, []), (634, 60, 635, 0, 0, []), (635, 76, 638, 195, 4, [12]), (638, 46, 641, 1271, 0, []), (641, 0, 642, 0, 0, []), (642, 72, 643, 3, 0, []), (643, 6, 644, 1, 0, []), (644, 6, 645, 0, 0, []), (645, 4, 646, 3, 0, []), (646, 0, 647, 0, 1, []), (647, 11, 648, 0, 0, []), (648, 60, 649, 0, 0, []), (649, 76, 652, 88, 2, [11]), (652, 6, 653, 2, 0, []), (653, 6, 654, 0, 0, []), (654, 4, 655, 3, 0, []), (655, 0, 656, 0, 1, []), (656, 11, 657, 0, 0, []), (657, 60, 658, 0, 0, []), (658, 76, 661, 200, 2, [12]), (661, 46, 664, 1271, 0, []), (664, 0, 665, 0, 0, []), (665, 72, 666, 3, 0, []), (666, 6, 667, 1, 0, []), (667, 76, 670, 89, 1, [11]), (670, 6, 671, 2, 0, []), (671, 76, 674, 201, 1, [12]), (674, 46, 677, 1271, 0, []), (677, 0, 678, 0, 0, []), (678, 72, 679, 3, 0, []), (679, 6, 680, 1, 0, []), (680, 6, 681, 0, 0, []), (681, 4, 682, 3, 0, []), (682, 0, 683, 0, 1, []), (683, 11, 684, 0, 0, []), (684, 60, 685, 0, 0, []), (685, 6, 686, 0, 0, []), (686, 4, 687, 3, 0, []), (687, 0, 688, 0, 2, []), (688, 11, 689, 0, 0, []), (689, 60, 690, 0, 0, []), (690, 76, 693, 90, 3, [11]), (693, 6, 694, 2, 0, []), (694, 6, 695, 0, 0, []), (695, 4, 696, 3, 0, []), (696, 0, 697, 0, 1, []), (697, 11, 698, 0, 0, []), (698, 60, 699, 0, 0, []), (699, 6, 700, 0, 0, []), (700, 4, 701, 3, 0, []), (701, 0, 702, 0, 2, []), (702, 11, 703, 0, 0, []), (703, 60, 704, 0, 0, []), (704, 76, 707, 202, 3, [12]), (707, 46, 710, 1271, 0, []), (710, 0, 711, 0, 0, []), (711, 72, 712, 3, 0, []), (712, 6, 713, 1, 0, []), (713, 6, 714, 0, 0, []), (714, 4, 715, 3, 0, []), (715, 0, 716, 0, 1, []), (716, 11, 717, 0, 0, []), (717, 60, 718, 0, 0, []), (718, 76, 721, 91, 2, [11]), (721, 6, 722, 2, 0, []), (722, 6, 723, 0, 0, []), (723, 4, 724, 3, 0, []), (724, 0, 725, 0, 1, []), (725, 11, 726, 0, 0, []), (726, 60, 727, 0, 0, []), (727, 76, 730, 203, 2, [12]), (730, 46, 733, 1271, 0, []), (733, 0, 734, 0, 0, []), (734, 72, 735, 3, 0, []), (735, 6, 736, 1, 0, []), (736, 6, 737, 0, 0, []), (737, 4, 738, 3, 0, []), (738, 0, 739, 0, 1, []), (739, 11, 740, 0, 0, []), (740, 60, 741, 0, 0, []), (741, 76, 744, 92, 2, [11]), (744, 6, 745, 2, 0, []), (745, 6, 746, 0, 0, []), (746, 4, 747, 3, 0, []), (747, 0, 748, 0, 1, []), (748, 11, 749, 0, 0, []), (749, 60, 750, 0, 0, []), (750, 76, 753, 204, 2, [12]), (753, 46, 756, 1271, 0, []), (756, 0, 757, 0, 0, []), (757, 72, 758, 3, 0, []), (758, 6, 759, 1, 0, []), (759, 6, 760, 0, 0, []), (760, 4, 761, 3, 0, []), (761, 0, 762, 0, 1, []), (762, 11, 763, 0, 0, []), (763, 60, 764, 0, 0, []), (764, 76, 767, 97, 2, [11]), (767, 6, 768, 2, 0, []), (768, 6, 769, 0, 0, []), (769, 4, 770, 3, 0, []), (770, 0, 771, 0, 1, []), (771, 11, 772, 0, 0, []), (772, 60, 773, 0, 0, []), (773, 76, 776, 207, 2, [12]), (776, 46, 779, 1271, 0, []), (779, 0, 780, 0, 0, []), (780, 72, 781, 3, 0, []), (781, 6, 782, 1, 0, []), (782, 6, 783, 0, 0, []), (783, 4, 784, 3, 0, []), (784, 0, 785, 0, 1, []), (785, 11, 786, 0, 0, []), (786, 60, 787, 0, 0, []), (787, 6, 788, 0, 0, []), (788, 4, 789, 3, 0, []), (789, 0, 790, 0, 2, []), (790, 11, 791, 0, 0, []), (791, 60, 792, 0, 0, []), (792, 76, 795, 98, 3, [11]), (795, 6, 796, 2, 0, []), (796, 6, 797, 0, 0, []), (797, 4, 798, 3, 0, []), (798, 0, 799, 0, 1, []), (799, 11, 800, 0, 0, []), (800, 60, 801, 0, 0, []), (801, 6, 802, 0, 0, []), (802, 4, 803, 3, 0, []), (803, 0, 804, 0, 2, []), (804, 11, 805, 0, 0, []), (805, 60, 806, 0, 0, []), (806, 76, 809, 208, 3, [12]), (809, 46, 812, 1271, 0, []), (812, 0, 813, 0, 0, []), (813, 72, 814, 3, 0, []), (814, 6, 815, 1, 0, []), (815, 6, 816, 0, 0, []), (816, 4, 817, 3, 0, []), (817, 0, 818, 0, 1, []), (818, 11, 819, 0, 0, []), (819, 60, 820, 0, 0, []), (820, 76, 823, 99, 2, [11]), (823, 6, 824, 2, 0, []), (824, 6, 825, 0, 0, []), (825, 4, 826, 3, 0, []), (826, 0, 827, 0, 1, []), (827, 11, 828, 0, 0, []), (828, 60, 829, 0, 0, []), (829, 76, 832, 209, 2, [12]), (832, 46, 835, 1271, 0, []), (835, 0, 836, 0, 0, []), (836, 72, 837, 3, 0, []), (837, 6, 838, 1, 0, []), (838, 76, 841, 100, 1, [11]), (841, 6, 842, 2, 0, []), (842, 76, 845, 210, 1, [12]), (845, 31, 846, 0, 0, []), (846, 40, 849, 1271, 0, []), (849, 0, 850, 0, 0, []), (850, 72, 851, 3, 0, []), (851, 6, 852, 1, 0, []), (852, 76, 855, 119, 1, [11]), (855, 6, 856, 2, 0, []), (856, 76, 859, 224, 1, [12]), (859, 46, 862, 1271, 0, []), (862, 0, 863, 0, 0, []), (863, 72, 864, 3, 0, []), (864, 6, 865, 1, 0, []), (865, 6, 866, 0, 0, []), (866, 4, 867, 3, 0, []), (867, 0, 868, 0, 1, []), (868, 11, 869, 0, 0, []), (869, 60, 870, 0, 0, []), (870, 76, 873, 120, 2, [11]), (873, 6, 874, 2, 0, []), (874, 6, 875, 0, 0, []), (875, 4, 876, 3, 0, []), (876, 0, 877, 0, 1, []), (877, 11, 878, 0, 0, []), (878, 60, 879, 0, 0, []), (879, 76, 882, 228, 2, [12]), (882, 46, 885, 1271, 0, []), (885, 0, 886, 0, 0, []), (886, 72, 887, 3, 0, []), (887, 6, 888, 1, 0, []), (888, 6, 889, 0, 0, []), (889, 4, 890, 3, 0, []), (890, 0, 891, 0, 1, []), (891, 11, 892, 0, 0, []), (892, 60, 893, 0, 0, []), (893, 76, 896, 122, 2, [11]), (896, 6, 897, 2, 0, []), (897, 6, 898, 0, 0, []), (898, 4, 899, 3, 0, []), (899, 0, 900, 0, 1, []), (900, 11, 901, 0, 0, []), (901, 60, 902, 0, 0, []), (902, 76, 905, 223, 2, [12]), (905, 46, 908, 1271, 0, []), (908, 0, 909, 0, 0, []), (909, 72, 910, 3, 0, []), (910, 6, 911, 1, 0, []), (911, 6, 912, 0, 0, []), (912, 4, 913, 3, 0, []), (913, 0, 914, 0, 1, []), (914, 11, 915, 0, 0, []), (915, 60, 916, 0, 0, []), (916, 6, 917, 0, 0, []), (917, 4, 918, 3, 0, []), (918, 0, 919, 0, 2, []), (919, 11, 920, 0, 0, []), (920, 60, 921, 0, 0, []), (921, 76, 924, 123, 3, [11]), (924, 6, 925, 2, 0, []), (925, 6, 926, 0, 0, []), (926, 4, 927, 3, 0, []), (927, 0, 928, 0, 1, []), (928, 11, 929, 0, 0, []), (929, 60, 930, 0, 0, []), (930, 6, 931, 0, 0, []), (931, 4, 932, 3, 0, []), (932, 0, 933, 0, 2, []), (933, 11, 934, 0, 0, []), (934, 60, 935, 0, 0, []), (935, 76, 938, 159, 3, [12]), (938, 46, 941, 1271, 0, []), (941, 0, 942, 0, 0, []), (942, 72, 943, 3, 0, []), (943, 6, 944, 1, 0, []), (944, 76, 947, 124, 1, [11]), (947, 6, 948, 2, 0, []), (948, 76, 951, 230, 1, [12]), (951, 31, 952, 0, 0, []), (952, 40, 955, 1271, 0, []), (955, 0, 956, 0, 0, []), (956, 72, 957, 3, 0, []), (957, 6, 958, 1, 0, []), (958, 6, 959, 0, 0, []), (959, 4, 960, 3, 0, []), (960, 0, 961, 0, 1, []), (961, 11, 962, 0, 0, []), (962, 60, 963, 0, 0, []), (963, 6, 964, 0, 0, []), (964, 4, 965, 3, 0, []), (965, 0, 966, 0, 2, []), (966, 11, 967, 0, 0, []), (967, 60, 968, 0, 0, []), (968, 76, 971, 129, 3, [11]), (971, 6, 972, 2, 0, []), (972, 6, 973, 0, 0, []), (973, 4, 974, 3, 0, []), (974, 0, 975, 0, 1, []), (975, 11, 976, 0, 0, []), (976, 60, 977, 0, 0, []), (977, 6, 978, 0, 0, []), (978, 4, 979, 3, 0, []), (979, 0, 980, 0, 2, []), (980, 11, 981, 0, 0, []), (981, 60, 982, 0, 0, []), (982, 76, 985, 233, 3, [12]), (985, 46, 988, 1271, 0, []), (988, 0, 989, 0, 0, []), (989, 72, 990, 3, 0, []), (990, 6, 991, 1, 0, []), (991, 6, 992, 0, 0, []), (992, 4, 993, 3, 0, []), (993, 0, 994, 0, 1, []), (994, 11, 995, 0, 0, []), (995, 60, 996, 0, 0, []), (996, 6, 997, 0, 0, []), (997, 4, 998, 3, 0, []), (998, 0, 999, 0, 2, []), (999, 11, 1000, 0, 0, []), (1000, 60, 1001, 0, 0, []), (1001, 76, 1004, 130, 3, [11]), (1004, 6, 1005, 2, 0, []), (1005, 6, 1006, 0, 0, []), (1006, 4, 1007, 3, 0, []), (1007, 0, 1008, 0, 1, []), (1008, 11, 1009, 0, 0, []), (1009, 60, 1010, 0, 0, []), (1010, 6, 1011, 0, 0, []), (1011, 4, 1012, 3, 0, []), (1012, 0, 1013, 0, 2, []), (1013, 11, 1014, 0, 0, []), (1014, 60, 1015, 0, 0, []), (1015, 76, 1018, 232, 3, [12]), (1018, 31, 1019, 0, 0, []), (1019, 40, 1022, 1271, 0, []), (1022, 0, 1023, 0, 0, []), (1023, 72, 1024, 3, 0, []), (1024, 6, 1025, 1, 0, []), (1025, 6, 1026, 0, 0, []), (1026, 4, 1027, 3, 0, []), (1027, 0, 1028, 0, 1, []), (1028, 11, 1029, 0, 0, []), (1029, 60, 1030, 0, 0, []), (1030, 6, 1031, 0, 0, []), (1031, 4, 1032, 3, 0, []), (1032, 0, 1033, 0, 2, []), (1033, 11, 1034, 0, 0, []), (1034, 60, 1035, 0, 0, []), (1035, 6, 1036, 0, 0, []), (1036, 4, 1037, 3, 0, []), (1037, 0, 1038, 0, 3, []), (1038, 11, 1039, 0, 0, []), (1039, 60, 1040, 0, 0, []), (1040, 6, 1041, 0, 0, []), (1041, 4, 1042, 3, 0, []), (1042, 0, 1043, 0, 4, []), (1043, 11, 1044, 0, 0, []), (1044, 60, 1045, 0, 0, []), (1045, 6, 1046, 0, 0, []), (1046, 4, 1047, 3, 0, []), (1047, 0, 1048, 0, 5, []), (1048, 11, 1049, 0, 0, []), (1049, 60, 1050, 0, 0, []), (1050, 76, 1053, 131, 6, [11]), (1053, 6, 1054, 2, 0, []), (1054, 6, 1055, 0, 0, []), (1055, 4, 1056, 3, 0, []), (1056, 0, 1057, 0, 1, []), (1057, 11, 1058, 0, 0, []), (1058, 60, 1059, 0, 0, []), (1059, 6, 1060, 0, 0, []), (1060, 4, 1061, 3, 0, []), (1061, 0, 1062, 0, 2, []), (1062, 11, 1063, 0, 0, []), (1063, 60, 1064, 0, 0, []), (1064, 6, 1065, 0, 0, []), (1065, 4, 1066, 3, 0, []), (1066, 0, 1067, 0, 3, []), (1067, 11, 1068, 0, 0, []), (1068, 60, 1069, 0, 0, []), (1069, 6, 1070, 0, 0, []), (1070, 4, 1071, 3, 0, []), (1071, 0, 1072, 0, 4, []), (1072, 11, 1073, 0, 0, []), (1073, 60, 1074, 0, 0, []), (1074, 6, 1075, 0, 0, []), (1075, 4, 1076, 3, 0, []), (1076, 0, 1077, 0, 5, []), (1077, 11, 1078, 0, 0, []), (1078, 60, 1079, 0, 0, []), (1079, 76, 1082, 234, 6, [12]), (1082, 46, 1085, 1271, 0, []), (1085, 0, 1086, 0, 0, []), (1086, 72, 1087, 3, 0, []), (1087, 6, 1088, 1, 0, []), (1088, 6, 1089, 0, 0, []), (1089, 4, 1090, 3, 0, []), (1090, 0, 1091, 0, 1, []), (1091, 11, 1092, 0, 0, []), (1092, 60, 1093, 0, 0, []), (1093, 76, 1096, 133, 2, [11]), (1096, 6, 1097, 2, 0, []), (1097, 6, 1098, 0, 0, []), (1098, 4, 1099, 3, 0, []), (1099, 0, 1100, 0, 1, []), (1100, 11, 1101, 0, 0, []), (1101, 60, 1102, 0, 0, []), (1102, 76, 1105, 235, 2, [12]), (1105, 46, 1108, 1271, 0, []), (1108, 0, 1109, 0, 0, []), (1109, 72, 1110, 3, 0, []), (1110, 6, 1111, 1, 0, []), (1111, 6, 1112, 0, 0, []), (1112, 4, 1113, 3, 0, []), (1113, 0, 1114, 0, 1, []), (1114, 11, 1115, 0, 0, []), (1115, 60, 1116, 0, 0, []), (1116, 76, 1119, 135, 2, [11]), (1119, 6, 1120, 2, 0, []), (1120, 6, 1121, 0, 0, []), (1121, 4, 1122, 3, 0, []), (1122, 0, 1123, 0, 1, []), (1123, 11, 1124, 0, 0, []), (1124, 60, 1125, 0, 0, []), (1125, 76, 1128, 236, 2, [12]), (1128, 46, 1131, 1271, 0, []), (1131, 0, 1132, 0, 0, []), (1132, 72, 1133, 3, 0, []), (1133, 6, 1134, 1, 0, []), (1134, 6, 1135, 0, 0, []), (1135, 4, 1136, 3, 0, []), (1136, 0, 1137, 0, 1, []), (1137, 11, 1138, 0, 0, []), (1138, 60, 1139, 0, 0, []), (1139, 76, 1142, 139, 2, [11]), (1142, 6, 1143, 2, 0, []), (1143, 6, 1144, 0, 0, []), (1144, 4, 1145, 3, 0, []), (1145, 0, 1146, 0, 1, []), (1146, 11, 1147, 0, 0, []), (1147, 60, 1148, 0, 0, []), (1148, 76, 1151, 240, 2, [12]), (1151, 46, 1154, 1271, 0, []), (1154, 0, 1155, 0, 0, []), (1155, 72, 1156, 3, 0, []), (1156, 6, 1157, 1, 0, []), (1157, 6, 1158, 0, 0, []), (1158, 4, 1159, 3, 0, []), (1159, 0, 1160, 0, 1, []), (1160, 11, 1161, 0, 0, []), (1161, 60, 1162, 0, 0, []), (1162, 6, 1163, 0, 0, []), (1163, 4, 1164, 3, 0, []), (1164, 0, 1165, 0, 2, []), (1165, 11, 1166, 0, 0, []), (1166, 60, 1167, 0, 0, []), (1167, 76, 1170, 141, 3, [11]), (1170, 6, 1171, 2, 0, []), (1171, 6, 1172, 0, 0, []), (1172, 4, 1173, 3, 0, []), (1173, 0, 1174, 0, 1, []), (1174, 11, 1175, 0, 0, []), (1175, 60, 1176, 0, 0, []), (1176, 6, 1177, 0, 0, []), (1177, 4, 1178, 3, 0, []), (1178, 0, 1179, 0, 2, []), (1179, 11, 1180, 0, 0, []), (1180, 60, 1181, 0, 0, []), (1181, 76, 1184, 241, 3, [12]), (1184, 46, 1187, 1271, 0, []), (1187, 0, 1188, 0, 0, []), (1188, 72, 1189, 3, 0, []), (1189, 6, 1190, 1, 0, []), (1190, 6, 1191, 0, 0, []), (1191, 4, 1192, 3, 0, []), (1192, 0, 1193, 0, 1, []), (1193, 11, 1194, 0, 0, []), (1194, 60, 1195, 0, 0, []), (1195, 76, 1198, 143, 2, [11]), (1198, 6, 1199, 2, 0, []), (1199, 6, 1200, 0, 0, []), (1200, 4, 1201, 3, 0, []), (1201, 0, 1202, 0, 1, []), (1202, 11, 1203, 0, 0, []), (1203, 60, 1204, 0, 0, []), (1204, 76, 1207, 149, 2, [12]), (1207, 46, 1210, 1271, 0, []), (1210, 0, 1211, 0, 0, []), (1211, 72, 1212, 3, 0, []), (1212, 6, 1213, 1, 0, []), (1213, 6, 1214, 0, 0, []), (1214, 4, 1215, 3, 0, []), (1215, 0, 1216, 0, 1, []), (1216, 11, 1217, 0, 0, []), (1217, 60, 1218, 0, 0, []), (1218, 76, 1221, 144, 2, [11]), (1221, 6, 1222, 2, 0, []), (1222, 6, 1223, 0, 0, []), (1223, 4, 1224, 3, 0, []), (1224, 0, 1225, 0, 1, []), (1225, 11, 1226, 0, 0, []), (1226, 60, 1227, 0, 0, []), (1227, 76, 1230, 153, 2, [12]), (1230, 46, 1233, 1271, 0, []), (1233, 0, 1234, 0, 0, []), (1234, 72, 1235, 3, 0, []), (1235, 6, 1236, 1, 0, []), (1236, 6, 1237, 0, 0, []), (1237, 4, 1238, 3, 0, []), (1238, 0, 1239, 0, 1, []), (1239, 11, 1240, 0, 0, []), (1240, 60, 1241, 0, 0, []), (1241, 76, 1244, 145, 2, [11]), (1244, 6, 1245, 2, 0, []), (1245, 6, 1246, 0, 0, []), (1246, 4, 1247, 3, 0, []), (1247, 0, 1248, 0, 1, []), (1248, 11, 1249, 0, 0, []), (1249, 60, 1250, 0, 0, []), (1250, 76, 1253, 243, 2, [12]), (1253, 46, 1256, 1271, 0, []), (1256, 0, 1257, 0, 0, []), (1257, 72, 1258, 3, 0, []), (1258, 6, 1259, 1, 0, []), (1259, 76, 1262, 147, 1, [11]), (1262, 6, 1263, 2, 0, []), (1263, 76, 1266, 244, 1, [12]), (1266, 46, 1269, 1271, 0, []), (1269, 0, 1270, 0, 0, []), (1270, 72, 1271, 3, 0, []), (1271, 10, 1274, 3, 6, []), (1274, 53, 1277, 18, 0, []), (1277, 0, 1278, 0, 1, []), (1278, 72, 1279, 3, 0, [])]
/-- TwoWayWall.<init>()V -/
def zcd1 : List (Nat × zI) := [(0, 6, 1, 0, 0, []), (1, 78, 4, 0, 0, []), (4, 6, 5, 0, 0, []), (5, 69, 8, 6, 0, []), (8, 36, 9, 0, 0, []), (9, 75, 12, 3, 1, []), (12, 59, 15, 11, 0, []), (15, 6, 16, 0, 0, []), (16, 69, 19, 6, 0, []), (19, 36, 20, 0, 0, []), (20, 75, 23, 3, 1, []), (23, 59, 26, 11, 1, []), (26, 6, 27, 0, 0, []), (27, 0, 28, 0, 2, []), (28, 71, 31, 0, 0, []), (31, 59, 34, 11, 2, []), (34, 6, 35, 0, 0, []), (35, 69, 38, 8, 0, []), (38, 36, 39, 0, 0, []), (39, 75, 42, 6, 1, []), (42, 59, 45, 11, 3, []), (45, 6, 46, 0, 0, []), (46, 69, 49, 7, 0, []), (49, 36, 50, 0, 0, []), (50, 6, 51, 0, 0, []), (51, 56, 54, 11, 3, []), (54, 6, 55, 0, 0, []), (55, 56, 58, 11, 1, []), (58, 75, 61, 7, 3, []), (61, 59, 64, 11, 4, []), (64, 6, 65, 0, 0, []), (65, 69, 68, 4, 0, []), (68, 36, 69, 0, 0, []), (69, 75, 72, 8, 1, []), (72, 59, 75, 11, 5, []), (75, 6, 76, 0, 0, []), (76, 69, 79, 3, 0, []), (79, 36, 80, 0, 0, []), (80, 75, 83, 9, 1, []), (83, 59, 86, 11, 6, []), (86, 6, 87, 0, 0, []), (87, 69, 90, 3, 0, []), (90, 36, 91, 0, 0, []), (91, 75, 94, 9, 1, []), (94, 59, 97, 11, 7, []), (97, 6, 98, 0, 0, []), (98, 69, 101, 2, 0, []), (101, 36, 102, 0, 0, []), (102, 75, 105, 10, 1, []), (105, 59, 108, 11, 8, []), (108, 6, 109, 0, 0, []), (109, 69, 112, 0, 0, []), (112, 36, 113, 0, 0, []), (113, 75, 116, 11, 1, []), (116, 59, 119, 11, 9, []), (119, 6, 120, 0, 0, []), (120, 69, 123, 1, 0, []), (123, 36, 124, 0, 0, []), (124, 0, 126, 0, 17, []), (126, 75, 129, 13, 2, []), (129, 59, 132, 11, 10, []), (132, 6, 133, 0, 0, []), (133, 69, 136, 1, 0, []), (136, 36, 137, 0, 0, []), (137, 0, 138, 0, 1, []), (138, 75, 141, 13, 2, []), (141, 59, 144, 11, 11, []), (144, 6, 145, 0, 0, []), (145, 0, 148, 0, 1024, []), (148, 70, 150, 0, 0, []), (150, 59, 153, 11, 12, []), (153, 6, 154, 0, 0, []), (154, 0, 155, 0, 4, []), (155, 70, 157, 0, 0, []), (157, 59, 160, 11, 13, []), (160, 6, 161, 0, 0, []), (161, 0, 162, 0, (-1), []), (162, 57, 165, 11, 15, []), (165, 6, 166, 0, 0, []), (166, 76, 169, 15, 1, [11]), (169, 73, 170, 0, 0, [])]
/-- java/lang/Object.<init>()V -/
def zcd2 : List (Nat × zI) := []
/-- TwoWayWall$State.<init>()V -/
def zcd3 : List (Nat × zI) := [(0, 6, 1, 0, 0, []), (1, 78, 4, 0, 0, []), (4, 6, 5, 0, 0, []), (5, 0, 7, 0, 8, []), (7, 57, 10, 6, 0, []), (10, 6, 11, 0, 0, []), (11, 0, 13, 0, 16, []), (13, 70, 15, 0, 0, []), (15, 59, 18, 6, 1, []), (18, 6, 19, 0, 0, []), (19, 0, 21, 0, 16, []), (21, 70, 23, 0, 0, []), (23, 59, 26, 6, 2, []), (26, 6, 27, 0, 0, []), (27, 0, 29, 0, 7, []), (29, 70, 31, 0, 0, []), (31, 59, 34, 6, 3, []), (34, 6, 35, 0, 0, []), (35, 0, 37, 0, 7, []), (37, 70, 39, 0, 0, []), (39, 59, 42, 6, 4, []), (42, 6, 43, 0, 0, []), (43, 69, 46, 9, 0, []), (46, 36, 47, 0, 0, []), (47, 75, 50, 4, 1, []), (50, 59, 53, 6, 5, []), (53, 6, 54, 0, 0, []), (54, 69, 57, 9, 0, []), (57, 36, 58, 0, 0, []), (58, 75, 61, 4, 1, []), (61, 59, 64, 6, 6, []), (64, 6, 65, 0, 0, []), (65, 69, 68, 10, 0, []), (68, 36, 69, 0, 0, []), (69, 75, 72, 5, 1, []), (72, 59, 75, 6, 7, []), (75, 0, 76, 0, 0, []), (76, 7, 77, 1, 0, []), (77, 4, 78, 1, 0, []), (78, 0, 80, 0, 7, []), (80, 49, 83, 105, 0, []), (83, 6, 84, 0, 0, []), (84, 56, 87, 6, 3, []), (87, 4, 88, 1, 0, []), (88, 4, 89, 1, 0, []), (89, 0, 90, 0, 1, []), (90, 11, 91, 0, 0, []), (91, 64, 92, 0, 0, []), (92, 6, 93, 0, 0, []), (93, 56, 96, 6, 4, []), (96, 4, 97, 1, 0, []), (97, 0, 98, 0, 1, []), (98, 64, 99, 0, 0, []), (99, 10, 102, 1, 1, []), (102, 53, 105, 77, 0, []), (105, 73, 106, 0, 0, [])]
/-- TwoWayWall$Tongue.<init>()V -/
def zcd4 : List (Nat × zI) := [(0, 6, 1, 0, 0, []), (1, 78, 4, 0, 0, []), (4, 6, 5, 0, 0, []), (5, 0, 7, 0, 26, []), (7, 70, 9, 0, 0, []), (9, 59, 12, 9, 0, []), (12, 6, 13, 0, 0, []), (13, 0, 15, 0, 26, []), (15, 70, 17, 0, 0, []), (17, 59, 20, 9, 1, []), (20, 6, 21, 0, 0, []), (21, 0, 23, 0, 8, []), (23, 70, 25, 0, 0, []), (25, 59, 28, 9, 2, []), (28, 6, 29, 0, 0, []), (29, 0, 31, 0, 8, []), (31, 70, 33, 0, 0, []), (33, 59, 36, 9, 3, []), (36, 6, 37, 0, 0, []), (37, 0, 39, 0, 48, []), (39, 70, 41, 0, 0, []), (41, 59, 44, 9, 4, []), (44, 6, 45, 0, 0, []), (45, 0, 47, 0, 16, []), (47, 70, 49, 0, 0, []), (49, 59, 52, 9, 6, []), (52, 6, 53, 0, 0, []), (53, 0, 54, 0, 4, []), (54, 70, 56, 0, 0, []), (56, 59, 59, 9, 8, []), (59, 73, 60, 0, 0, [])]
/-- TwoWayWall$Yards.<init>()V -/
def zcd5 : List (Nat × zI) := [(0, 6, 1, 0, 0, []), (1, 78, 4, 0, 0, []), (4, 6, 5, 0, 0, []), (5, 0, 7, 0, 10, []), (7, 70, 9, 0, 0, []), (9, 59, 12, 10, 0, []), (12, 6, 13, 0, 0, []), (13, 0, 15, 0, 10, []), (15, 70, 17, 0, 0, []), (17, 59, 20, 10, 1, []), (20, 6, 21, 0, 0, []), (21, 0, 23, 0, 10, []), (23, 70, 25, 0, 0, []), (25, 59, 28, 10, 2, []), (28, 6, 29, 0, 0, []), (29, 0, 31, 0, 10, []), (31, 70, 33, 0, 0, []), (33, 59, 36, 10, 3, []), (36, 6, 37, 0, 0, []), (37, 0, 39, 0, 10, []), (39, 70, 41, 0, 0, []), (41, 59, 44, 10, 4, []), (44, 73, 45, 0, 0, [])]
/-- TwoWayWall$Tape.<init>()V -/
def zcd6 : List (Nat × zI) := [(0, 6, 1, 0, 0, []), (1, 78, 4, 0, 0, []), (4, 6, 5, 0, 0, []), (5, 0, 8, 0, 400, []), (8, 70, 10, 0, 0, []), (10, 59, 13, 8, 0, []), (13, 73, 14, 0, 0, [])]
/-- TwoWayWall$TableReader.<init>(LTwoWayWall$Tape;LTwoWayWall$State;)V -/
def zcd7 : List (Nat × zI) := [(0, 6, 1, 0, 0, []), (1, 78, 4, 0, 0, []), (4, 6, 5, 0, 0, []), (5, 0, 6, 0, (-1), []), (6, 57, 9, 7, 5, []), (9, 6, 10, 0, 0, []), (10, 6, 11, 1, 0, []), (11, 59, 14, 7, 0, []), (14, 6, 15, 0, 0, []), (15, 6, 16, 2, 0, []), (16, 59, 19, 7, 1, []), (19, 73, 20, 0, 0, [])]
/-- TwoWayWall$Readings.<init>()V -/
def zcd8 : List (Nat × zI) := [(0, 6, 1, 0, 0, []), (1, 78, 4, 0, 0, []), (4, 6, 5, 0, 0, []), (5, 0, 8, 0, 128, []), (8, 70, 10, 0, 0, []), (10, 59, 13, 4, 0, []), (13, 6, 14, 0, 0, []), (14, 0, 17, 0, 128, []), (17, 70, 19, 0, 0, []), (19, 59, 22, 4, 1, []), (22, 6, 23, 0, 0, []), (23, 0, 26, 0, 128, []), (26, 70, 28, 0, 0, []), (28, 59, 31, 4, 2, []), (31, 6, 32, 0, 0, []), (32, 0, 35, 0, 128, []), (35, 70, 37, 0, 0, []), (37, 59, 40, 4, 3, []), (40, 6, 41, 0, 0, []), (41, 0, 44, 0, 128, []), (44, 70, 46, 0, 0, []), (46, 59, 49, 4, 4, []), (49, 73, 50, 0, 0, [])]
/-- TwoWayWall$PairTable.<init>()V -/
def zcd9 : List (Nat × zI) := [(0, 6, 1, 0, 0, []), (1, 78, 4, 0, 0, []), (4, 6, 5, 0, 0, []), (5, 0, 8, 0, 729, []), (8, 70, 10, 0, 0, []), (10, 59, 13, 3, 0, []), (13, 6, 14, 0, 0, []), (14, 0, 17, 0, 729, []), (17, 70, 19, 0, 0, []), (19, 59, 22, 3, 1, []), (22, 6, 23, 0, 0, []), (23, 0, 26, 0, 729, []), (26, 70, 28, 0, 0, []), (28, 59, 31, 3, 2, []), (31, 6, 32, 0, 0, []), (32, 0, 35, 0, 729, []), (35, 70, 37, 0, 0, []), (37, 59, 40, 3, 3, []), (40, 6, 41, 0, 0, []), (41, 0, 44, 0, 128, []), (44, 70, 46, 0, 0, []), (46, 59, 49, 3, 4, []), (49, 73, 50, 0, 0, [])]
/-- TwoWayWall$Nearest.<init>()V -/
def zcd10 : List (Nat × zI) := [(0, 6, 1, 0, 0, []), (1, 78, 4, 0, 0, []), (4, 73, 5, 0, 0, [])]
/-- TwoWayWall$Crossing.<init>()V -/
def zcd11 : List (Nat × zI) := [(0, 6, 1, 0, 0, []), (1, 78, 4, 0, 0, []), (4, 6, 5, 0, 0, []), (5, 69, 8, 5, 0, []), (8, 36, 9, 0, 0, []), (9, 75, 12, 12, 1, []), (12, 59, 15, 0, 0, []), (15, 6, 16, 0, 0, []), (16, 69, 19, 5, 0, []), (19, 36, 20, 0, 0, []), (20, 75, 23, 12, 1, []), (23, 59, 26, 0, 1, []), (26, 6, 27, 0, 0, []), (27, 69, 30, 1, 0, []), (30, 36, 31, 0, 0, []), (31, 0, 33, 0, 16, []), (33, 75, 36, 13, 2, []), (36, 59, 39, 0, 2, []), (39, 6, 40, 0, 0, []), (40, 69, 43, 1, 0, []), (43, 36, 44, 0, 0, []), (44, 0, 46, 0, 16, []), (46, 75, 49, 13, 2, []), (49, 59, 52, 0, 3, []), (52, 6, 53, 0, 0, []), (53, 0, 54, 0, 0, []), (54, 70, 56, 0, 0, []), (56, 59, 59, 0, 4, []), (59, 73, 60, 0, 0, [])]
/-- TwoWayWall$Rows.<init>()V -/
def zcd12 : List (Nat × zI) := [(0, 6, 1, 0, 0, []), (1, 78, 4, 0, 0, []), (4, 6, 5, 0, 0, []), (5, 0, 8, 0, 196, []), (8, 70, 10, 0, 0, []), (10, 59, 13, 5, 0, []), (13, 6, 14, 0, 0, []), (14, 0, 17, 0, 196, []), (17, 70, 19, 0, 0, []), (19, 59, 22, 5, 1, []), (22, 6, 23, 0, 0, []), (23, 0, 26, 0, 196, []), (26, 70, 28, 0, 0, []), (28, 59, 31, 5, 2, []), (31, 6, 32, 0, 0, []), (32, 0, 35, 0, 196, []), (35, 70, 37, 0, 0, []), (37, 59, 40, 5, 3, []), (40, 6, 41, 0, 0, []), (41, 0, 44, 0, 196, []), (44, 70, 46, 3, 0, []), (46, 59, 49, 5, 4, []), (49, 6, 50, 0, 0, []), (50, 0, 52, 0, 9, []), (52, 70, 54, 0, 0, []), (54, 59, 57, 5, 6, []), (57, 6, 58, 0, 0, []), (58, 0, 60, 0, 9, []), (60, 70, 62, 0, 0, []), (62, 59, 65, 5, 7, []), (65, 73, 66, 0, 0, [])]
/-- TwoWayWall$Layer.<init>(I)V -/
def zcd13 : List (Nat × zI) := [(0, 6, 1, 0, 0, []), (1, 78, 4, 0, 0, []), (4, 0, 5, 0, 1, []), (5, 4, 6, 1, 0, []), (6, 84, 9, 0, 0, []), (9, 7, 10, 2, 0, []), (10, 6, 11, 0, 0, []), (11, 4, 12, 2, 0, []), (12, 70, 14, 0, 0, []), (14, 59, 17, 1, 1, []), (17, 6, 18, 0, 0, []), (18, 4, 19, 2, 0, []), (19, 70, 21, 0, 0, []), (21, 59, 24, 1, 2, []), (24, 6, 25, 0, 0, []), (25, 4, 26, 2, 0, []), (26, 70, 28, 1, 0, []), (28, 59, 31, 1, 3, []), (31, 6, 32, 0, 0, []), (32, 4, 33, 2, 0, []), (33, 70, 35, 0, 0, []), (35, 59, 38, 1, 4, []), (38, 6, 39, 0, 0, []), (39, 4, 40, 2, 0, []), (40, 70, 42, 1, 0, []), (42, 59, 45, 1, 5, []), (45, 6, 46, 0, 0, []), (46, 4, 47, 2, 0, []), (47, 70, 49, 1, 0, []), (49, 59, 52, 1, 6, []), (52, 6, 53, 0, 0, []), (53, 4, 54, 2, 0, []), (54, 70, 56, 0, 0, []), (56, 59, 59, 1, 7, []), (59, 73, 60, 0, 0, [])]
/-- java/lang/Math.max(II)I -/
def zcd14 : List (Nat × zI) := []
/-- TwoWayWall.renewReadings()V -/
def zcd15 : List (Nat × zI) := [(0, 6, 1, 0, 0, []), (1, 56, 4, 11, 5, []), (4, 6, 5, 0, 0, []), (5, 56, 8, 11, 0, []), (8, 76, 11, 16, 2, [4]), (11, 6, 12, 0, 0, []), (12, 56, 15, 11, 6, []), (15, 76, 18, 20, 1, [3]), (18, 0, 19, 0, 0, []), (19, 7, 20, 1, 0, []), (20, 4, 21, 1, 0, []), (21, 0, 24, 0, 128, []), (24, 49, 27, 46, 0, []), (27, 6, 28, 0, 0, []), (28, 56, 31, 11, 6, []), (31, 6, 32, 0, 0, []), (32, 56, 35, 11, 5, []), (35, 4, 36, 1, 0, []), (36, 0, 37, 0, 0, []), (37, 76, 40, 21, 4, [3]), (40, 10, 43, 1, 1, []), (43, 53, 46, 20, 0, []), (46, 6, 47, 0, 0, []), (47, 0, 48, 0, 0, []), (48, 58, 51, 11, 14, []), (51, 73, 52, 0, 0, [])]
/-- TwoWayWall$Readings.make(LTwoWayWall$State;)V -/
def zcd16 : List (Nat × zI) := [(0, 0, 1, 0, 0, []), (1, 7, 2, 2, 0, []), (2, 4, 3, 2, 0, []), (3, 0, 5, 0, 7, []), (5, 49, 8, 96, 0, []), (8, 0, 9, 0, 1, []), (9, 4, 10, 2, 0, []), (10, 20, 11, 0, 0, []), (11, 7, 12, 3, 0, []), (12, 0, 13, 0, 0, []), (13, 7, 15, 4, 0, []), (15, 4, 17, 4, 0, []), (17, 4, 18, 3, 0, []), (18, 49, 21, 90, 0, []), (21, 6, 22, 0, 0, []), (22, 56, 25, 4, 2, []), (25, 4, 26, 3, 0, []), (26, 4, 28, 4, 0, []), (28, 11, 29, 0, 0, []), (29, 6, 30, 0, 0, []), (30, 56, 33, 4, 2, []), (33, 4, 35, 4, 0, []), (35, 60, 36, 0, 0, []), (36, 6, 37, 1, 0, []), (37, 56, 40, 6, 4, []), (40, 4, 41, 2, 0, []), (41, 60, 42, 0, 0, []), (42, 11, 43, 0, 0, []), (43, 64, 44, 0, 0, []), (44, 6, 45, 0, 0, []), (45, 56, 48, 4, 3, []), (48, 4, 49, 3, 0, []), (49, 4, 51, 4, 0, []), (51, 11, 52, 0, 0, []), (52, 4, 53, 3, 0, []), (53, 4, 55, 4, 0, []), (55, 11, 56, 0, 0, []), (56, 64, 57, 0, 0, []), (57, 6, 58, 0, 0, []), (58, 56, 61, 4, 4, []), (61, 4, 62, 3, 0, []), (62, 4, 64, 4, 0, []), (64, 11, 65, 0, 0, []), (65, 6, 66, 0, 0, []), (66, 56, 69, 4, 4, []), (69, 4, 71, 4, 0, []), (71, 60, 72, 0, 0, []), (72, 0, 73, 0, 1, []), (73, 6, 74, 1, 0, []), (74, 56, 77, 6, 3, []), (77, 4, 78, 2, 0, []), (78, 60, 79, 0, 0, []), (79, 0, 80, 0, 1, []), (80, 12, 81, 0, 0, []), (81, 20, 82, 0, 0, []), (82, 15, 83, 0, 0, []), (83, 64, 84, 0, 0, []), (84, 10, 87, 4, 1, []), (87, 53, 90, 15, 0, []), (90, 10, 93, 2, 1, []), (93, 53, 96, 2, 0, []), (96, 6, 97, 1, 0, []), (97, 56, 100, 6, 5, []), (100, 6, 101, 0, 0, []), (101, 56, 104, 4, 3, []), (104, 6, 105, 0, 0, []), (105, 56, 108, 4, 0, []), (108, 74, 111, 17, 3, []), (111, 6, 112, 1, 0, []), (112, 56, 115, 6, 6, []), (115, 6, 116, 0, 0, []), (116, 56, 119, 4, 4, []), (119, 6, 120, 0, 0, []), (120, 56, 123, 4, 1, []), (123, 74, 126, 17, 3, []), (126, 73, 127, 0, 0, [])]
/-- TwoWayWall$Readings.listKinds(LTwoWayWall$Tongue;[I[I)V -/
def zcd17 : List (Nat × zI) := [(0, 6, 1, 2, 0, []), (1, 0, 3, 0, 26, []), (3, 74, 6, 18, 2, []), (6, 0, 8, 0, 25, []), (8, 7, 9, 3, 0, []), (9, 4, 10, 3, 0, []), (10, 42, 13, 80, 0, []), (13, 6, 14, 0, 0, []), (14, 4, 15, 3, 0, []), (15, 76, 18, 19, 2, [9]), (18, 40, 21, 74, 0, []), (21, 6, 22, 0, 0, []), (22, 56, 25, 9, 0, []), (25, 4, 26, 3, 0, []), (26, 60, 27, 0, 0, []), (27, 7, 29, 4, 0, []), (29, 4, 31, 4, 0, []), (31, 6, 32, 0, 0, []), (32, 56, 35, 9, 1, []), (35, 4, 36, 3, 0, []), (36, 60, 37, 0, 0, []), (37, 15, 38, 0, 0, []), (38, 7, 40, 5, 0, []), (40, 0, 41, 0, 0, []), (41, 7, 43, 6, 0, []), (43, 4, 45, 6, 0, []), (45, 0, 48, 0, 128, []), (48, 49, 51, 74, 0, []), (51, 6, 52, 1, 0, []), (52, 4, 54, 6, 0, []), (54, 60, 55, 0, 0, []), (55, 4, 57, 5, 0, []), (57, 14, 58, 0, 0, []), (58, 4, 60, 4, 0, []), (60, 47, 63, 68, 0, []), (63, 6, 64, 2, 0, []), (64, 4, 66, 6, 0, []), (66, 4, 67, 3, 0, []), (67, 64, 68, 0, 0, []), (68, 10, 71, 6, 1, []), (71, 53, 74, 43, 0, []), (74, 10, 77, 3, (-1), []), (77, 53, 80, 9, 0, []), (80, 73, 81, 0, 0, [])]
/-- java/util/Arrays.fill([II)V -/
def zcd18 : List (Nat × zI) := [(0, 0, 1, 0, 0, []), (1, 7, 2, 2, 0, []), (2, 6, 3, 0, 0, []), (3, 68, 4, 0, 0, []), (4, 7, 5, 3, 0, []), (5, 4, 6, 2, 0, []), (6, 4, 7, 3, 0, []), (7, 49, 10, 20, 0, []), (10, 6, 11, 0, 0, []), (11, 4, 12, 2, 0, []), (12, 4, 13, 1, 0, []), (13, 64, 14, 0, 0, []), (14, 10, 17, 2, 1, []), (17, 53, 20, 5, 0, []), (20, 73, 21, 0, 0, [])]
/-- TwoWayWall$Tongue.isTold(I)Z -/
def zcd19 : List (Nat × zI) := [(0, 6, 1, 0, 0, []), (1, 56, 4, 9, 0, []), (4, 4, 5, 1, 0, []), (5, 60, 6, 0, 0, []), (6, 40, 9, 13, 0, []), (9, 0, 10, 0, 1, []), (10, 53, 13, 14, 0, []), (13, 0, 14, 0, 0, []), (14, 72, 15, 3, 0, [])]
/-- TwoWayWall$PairTable.clear()V -/
def zcd20 : List (Nat × zI) := [(0, 0, 1, 0, 0, []), (1, 7, 2, 1, 0, []), (2, 4, 3, 1, 0, []), (3, 6, 4, 0, 0, []), (4, 55, 7, 3, 5, []), (7, 49, 10, 28, 0, []), (10, 6, 11, 0, 0, []), (11, 56, 14, 3, 0, []), (14, 6, 15, 0, 0, []), (15, 56, 18, 3, 4, []), (18, 4, 19, 1, 0, []), (19, 60, 20, 0, 0, []), (20, 0, 21, 0, 0, []), (21, 64, 22, 0, 0, []), (22, 10, 25, 1, 1, []), (25, 53, 28, 2, 0, []), (28, 6, 29, 0, 0, []), (29, 0, 30, 0, 0, []), (30, 57, 33, 3, 5, []), (33, 73, 34, 0, 0, [])]
/-- TwoWayWall$PairTable.add(LTwoWayWall$Readings;II)V -/
def zcd21 : List (Nat × zI) := [(0, 6, 1, 1, 0, []), (1, 56, 4, 4, 0, []), (4, 4, 5, 2, 0, []), (5, 60, 6, 0, 0, []), (6, 6, 7, 1, 0, []), (7, 56, 10, 4, 1, []), (10, 4, 11, 2, 0, []), (11, 60, 12, 0, 0, []), (12, 74, 15, 22, 2, []), (15, 7, 17, 4, 0, []), (17, 6, 18, 0, 0, []), (18, 56, 21, 3, 0, []), (21, 4, 23, 4, 0, []), (23, 60, 24, 0, 0, []), (24, 41, 27, 76, 0, []), (27, 6, 28, 0, 0, []), (28, 55, 31, 3, 5, []), (31, 0, 34, 0, 128, []), (34, 48, 37, 38, 0, []), (37, 73, 38, 0, 0, []), (38, 6, 39, 0, 0, []), (39, 56, 42, 3, 4, []), (42, 6, 43, 0, 0, []), (43, 55, 46, 3, 5, []), (46, 4, 48, 4, 0, []), (48, 64, 49, 0, 0, []), (49, 6, 50, 0, 0, []), (50, 36, 51, 0, 0, []), (51, 55, 54, 3, 5, []), (54, 0, 55, 0, 1, []), (55, 11, 56, 0, 0, []), (56, 57, 59, 3, 5, []), (59, 6, 60, 0, 0, []), (60, 56, 63, 3, 2, []), (63, 4, 65, 4, 0, []), (65, 0, 67, 0, 1000000, []), (67, 64, 68, 0, 0, []), (68, 6, 69, 0, 0, []), (69, 56, 72, 3, 3, []), (72, 4, 74, 4, 0, []), (74, 0, 75, 0, 0, []), (75, 64, 76, 0, 0, []), (76, 6, 77, 0, 0, []), (77, 56, 80, 3, 0, []), (80, 4, 82, 4, 0, []), (82, 38, 83, 0, 0, []), (83, 60, 84, 0, 0, []), (84, 0, 85, 0, 1, []), (85, 11, 86, 0, 0, []), (86, 64, 87, 0, 0, []), (87, 6, 88, 0, 0, []), (88, 56, 91, 3, 3, []), (91, 4, 93, 4, 0, []), (93, 38, 94, 0, 0, []), (94, 60, 95, 0, 0, []), (95, 4, 96, 3, 0, []), (96, 15, 97, 0, 0, []), (97, 64, 98, 0, 0, []), (98, 6, 99, 1, 0, []), (99, 56, 102, 4, 2, []), (102, 4, 103, 2, 0, []), (103, 60, 104, 0, 0, []), (104, 6, 105, 0, 0, []), (105, 56, 108, 3, 2, []), (108, 4, 110, 4, 0, []), (110, 60, 111, 0, 0, []), (111, 49, 114, 135, 0, []), (114, 6, 115, 0, 0, []), (115, 56, 118, 3, 2, []), (118, 4, 120, 4, 0, []), (120, 6, 121, 1, 0, []), (121, 56, 124, 4, 2, []), (124, 4, 125, 2, 0, []), (125, 60, 126, 0, 0, []), (126, 64, 127, 0, 0, []), (127, 6, 128, 0, 0, []), (128, 56, 131, 3, 1, []), (131, 4, 133, 4, 0, []), (133, 4, 134, 2, 0, []), (134, 64, 135, 0, 0, []), (135, 73, 136, 0, 0, [])]
/-- TwoWayWall.pairOf(II)I -/
def zcd22 : List (Nat × zI) := [(0, 4, 1, 0, 0, []), (1, 0, 3, 0, 27, []), (3, 13, 4, 0, 0, []), (4, 4, 5, 1, 0, []), (5, 11, 6, 0, 0, []), (6, 72, 7, 0, 0, [])]
/-- TwoWayWall.size(I)I -/
def zcd23 : List (Nat × zI) := [(0, 4, 1, 1, 0, []), (1, 0, 2, 0, 1, []), (2, 48, 5, 11, 0, []), (5, 4, 6, 1, 0, []), (6, 0, 8, 0, 16, []), (8, 51, 11, 17, 0, []), (11, 6, 12, 0, 0, []), (12, 0, 13, 0, (-1), []), (13, 76, 16, 24, 2, [11]), (16, 72, 17, 0, 0, []), (17, 6, 18, 0, 0, []), (18, 56, 21, 11, 0, []), (21, 55, 24, 6, 0, []), (24, 7, 25, 2, 0, []), (25, 6, 26, 0, 0, []), (26, 56, 29, 11, 0, []), (29, 4, 30, 1, 0, []), (30, 76, 33, 25, 2, [6]), (33, 6, 34, 0, 0, []), (34, 4, 35, 2, 0, []), (35, 76, 38, 26, 2, [11]), (38, 72, 39, 0, 0, [])]
/-- TwoWayWall.refuse(I)I -/
def zcd24 : List (Nat × zI) := [(0, 6, 1, 0, 0, []), (1, 4, 2, 1, 0, []), (2, 57, 5, 11, 17, []), (5, 4, 6, 1, 0, []), (6, 54, 40, 0, (-5), [79, 66, 79, 79, 53, 40]), (40, 6, 41, 0, 0, []), (41, 56, 44, 11, 13, []), (44, 0, 45, 0, 0, []), (45, 38, 46, 0, 0, []), (46, 60, 47, 0, 0, []), (47, 0, 48, 0, 1, []), (48, 11, 49, 0, 0, []), (49, 64, 50, 0, 0, []), (50, 53, 53, 89, 0, []), (53, 6, 54, 0, 0, []), (54, 56, 57, 11, 13, []), (57, 0, 58, 0, 1, []), (58, 38, 59, 0, 0, []), (59, 60, 60, 0, 0, []), (60, 0, 61, 0, 1, []), (61, 11, 62, 0, 0, []), (62, 64, 63, 0, 0, []), (63, 53, 66, 89, 0, []), (66, 6, 67, 0, 0, []), (67, 56, 70, 11, 13, []), (70, 0, 71, 0, 2, []), (71, 38, 72, 0, 0, []), (72, 60, 73, 0, 0, []), (73, 0, 74, 0, 1, []), (74, 11, 75, 0, 0, []), (75, 64, 76, 0, 0, []), (76, 53, 79, 89, 0, []), (79, 6, 80, 0, 0, []), (80, 56, 83, 11, 13, []), (83, 0, 84, 0, 3, []), (84, 38, 85, 0, 0, []), (85, 60, 86, 0, 0, []), (86, 0, 87, 0, 1, []), (87, 11, 88, 0, 0, []), (88, 64, 89, 0, 0, []), (89, 4, 90, 1, 0, []), (90, 72, 91, 0, 0, [])]
/-- TwoWayWall$State.resize(I)V -/
def zcd25 : List (Nat × zI) := [(0, 4, 1, 1, 0, []), (1, 7, 2, 2, 0, []), (2, 4, 3, 2, 0, []), (3, 0, 5, 0, 16, []), (5, 49, 8, 28, 0, []), (8, 6, 9, 0, 0, []), (9, 56, 12, 6, 1, []), (12, 4, 13, 2, 0, []), (13, 0, 14, 0, 0, []), (14, 64, 15, 0, 0, []), (15, 6, 16, 0, 0, []), (16, 56, 19, 6, 2, []), (19, 4, 20, 2, 0, []), (20, 0, 21, 0, 0, []), (21, 64, 22, 0, 0, []), (22, 10, 25, 2, 1, []), (25, 53, 28, 2, 0, []), (28, 6, 29, 0, 0, []), (29, 4, 30, 1, 0, []), (30, 57, 33, 6, 0, []), (33, 73, 34, 0, 0, [])]
/-- TwoWayWall.grant(I)I -/
def zcd26 : List (Nat × zI) := [(0, 6, 1, 0, 0, []), (1, 0, 2, 0, 0, []), (2, 57, 5, 11, 17, []), (5, 4, 6, 1, 0, []), (6, 72, 7, 0, 0, [])]
/-- TwoWayWall.paint(II)I -/
def zcd27 : List (Nat × zI) := [(0, 6, 1, 0, 0, []), (1, 56, 4, 11, 0, []), (4, 4, 5, 1, 0, []), (5, 76, 8, 28, 2, [6]), (8, 40, 11, 18, 0, []), (11, 4, 12, 2, 0, []), (12, 74, 15, 29, 1, []), (15, 41, 18, 24, 0, []), (18, 6, 19, 0, 0, []), (19, 0, 20, 0, (-1), []), (20, 76, 23, 24, 2, [11]), (23, 72, 24, 0, 0, []), (24, 6, 25, 0, 0, []), (25, 56, 28, 11, 0, []), (28, 56, 31, 6, 1, []), (31, 4, 32, 1, 0, []), (32, 60, 33, 0, 0, []), (33, 7, 34, 3, 0, []), (34, 6, 35, 0, 0, []), (35, 56, 38, 11, 0, []), (38, 56, 41, 6, 1, []), (41, 4, 42, 1, 0, []), (42, 4, 43, 2, 0, []), (43, 64, 44, 0, 0, []), (44, 6, 45, 0, 0, []), (45, 4, 46, 3, 0, []), (46, 76, 49, 26, 2, [11]), (49, 72, 50, 0, 0, [])]
/-- TwoWayWall$State.hasCell(I)Z -/
def zcd28 : List (Nat × zI) := [(0, 4, 1, 1, 0, []), (1, 42, 4, 16, 0, []), (4, 4, 5, 1, 0, []), (5, 6, 6, 0, 0, []), (6, 55, 9, 6, 0, []), (9, 49, 12, 16, 0, []), (12, 0, 13, 0, 1, []), (13, 53, 16, 17, 0, []), (16, 0, 17, 0, 0, []), (17, 72, 18, 3, 0, [])]
/-- TwoWayWall.isSet(I)Z -/
def zcd29 : List (Nat × zI) := [(0, 4, 1, 0, 0, []), (1, 42, 4, 15, 0, []), (4, 4, 5, 0, 0, []), (5, 0, 8, 0, 128, []), (8, 49, 11, 15, 0, []), (11, 0, 12, 0, 1, []), (12, 53, 15, 16, 0, []), (15, 0, 16, 0, 0, []), (16, 72, 17, 3, 0, [])]
/-- TwoWayWall.of(I)I -/
def zcd30 : List (Nat × zI) := [(0, 6, 1, 0, 0, []), (1, 56, 4, 11, 0, []), (4, 4, 5, 1, 0, []), (5, 76, 8, 28, 2, [6]), (8, 40, 11, 23, 0, []), (11, 6, 12, 0, 0, []), (12, 56, 15, 11, 0, []), (15, 56, 18, 6, 1, []), (18, 4, 19, 1, 0, []), (19, 60, 20, 0, 0, []), (20, 53, 23, 24, 0, []), (23, 0, 24, 0, (-1), []), (24, 72, 25, 0, 0, [])]
/-- TwoWayWall.feed(IIIII)I -/
def zcd31 : List (Nat × zI) := [(0, 6, 1, 0, 0, []), (1, 56, 4, 11, 3, []), (4, 55, 7, 8, 1, []), (7, 0, 9, 0, 20, []), (9, 11, 10, 0, 0, []), (10, 0, 13, 0, 400, []), (13, 51, 16, 18, 0, []), (16, 0, 17, 0, (-1), []), (17, 72, 18, 0, 0, []), (18, 6, 19, 0, 0, []), (19, 56, 22, 11, 3, []), (22, 4, 23, 1, 0, []), (23, 76, 26, 32, 2, [8]), (26, 6, 27, 0, 0, []), (27, 56, 30, 11, 3, []), (30, 4, 31, 2, 0, []), (31, 76, 34, 32, 2, [8]), (34, 6, 35, 0, 0, []), (35, 56, 38, 11, 3, []), (38, 4, 39, 3, 0, []), (39, 76, 42, 32, 2, [8]), (42, 6, 43, 0, 0, []), (43, 56, 46, 11, 3, []), (46, 4, 48, 4, 0, []), (48, 76, 51, 32, 2, [8]), (51, 6, 52, 0, 0, []), (52, 56, 55, 11, 3, []), (55, 4, 57, 5, 0, []), (57, 76, 60, 32, 2, [8]), (60, 6, 61, 0, 0, []), (61, 56, 64, 11, 3, []), (64, 55, 67, 8, 1, []), (67, 72, 68, 0, 0, [])]
/-- TwoWayWall$Tape.append(I)V -/
def zcd32 : List (Nat × zI) := [(0, 0, 2, 0, 24, []), (2, 7, 3, 2, 0, []), (3, 4, 4, 2, 0, []), (4, 42, 7, 49, 0, []), (7, 6, 8, 0, 0, []), (8, 55, 11, 8, 1, []), (11, 0, 14, 0, 400, []), (14, 49, 17, 49, 0, []), (17, 6, 18, 0, 0, []), (18, 56, 21, 8, 0, []), (21, 6, 22, 0, 0, []), (22, 55, 25, 8, 1, []), (25, 4, 26, 1, 0, []), (26, 4, 27, 2, 0, []), (27, 22, 28, 0, 0, []), (28, 0, 31, 0, 255, []), (31, 14, 32, 0, 0, []), (32, 64, 33, 0, 0, []), (33, 6, 34, 0, 0, []), (34, 36, 35, 0, 0, []), (35, 55, 38, 8, 1, []), (38, 0, 39, 0, 1, []), (39, 11, 40, 0, 0, []), (40, 57, 43, 8, 1, []), (43, 10, 46, 2, (-8), []), (46, 53, 49, 3, 0, []), (49, 73, 50, 0, 0, [])]
/-- TwoWayWall.end(I)I -/
def zcd33 : List (Nat × zI) := [(0, 4, 1, 1, 0, []), (1, 42, 4, 15, 0, []), (4, 4, 5, 1, 0, []), (5, 6, 6, 0, 0, []), (6, 56, 9, 11, 3, []), (9, 55, 12, 8, 1, []), (12, 51, 15, 17, 0, []), (15, 0, 16, 0, (-1), []), (16, 72, 17, 0, 0, []), (17, 6, 18, 0, 0, []), (18, 56, 21, 11, 3, []), (21, 4, 22, 1, 0, []), (22, 57, 25, 8, 1, []), (25, 4, 26, 1, 0, []), (26, 72, 27, 0, 0, [])]
/-- TwoWayWall.row()I -/
def zcd34 : List (Nat × zI) := [(0, 6, 1, 0, 0, []), (1, 56, 4, 11, 3, []), (4, 55, 7, 8, 1, []), (7, 41, 10, 17, 0, []), (10, 6, 11, 0, 0, []), (11, 0, 13, 0, (-6), []), (13, 76, 16, 24, 2, [11]), (16, 72, 17, 0, 0, []), (17, 6, 18, 0, 0, []), (18, 56, 21, 11, 3, []), (21, 55, 24, 8, 1, []), (24, 0, 26, 0, 16, []), (26, 85, 29, 0, 0, []), (29, 7, 30, 1, 0, []), (30, 6, 31, 0, 0, []), (31, 56, 34, 11, 0, []), (34, 4, 35, 1, 0, []), (35, 76, 38, 25, 2, [6]), (38, 0, 39, 0, 0, []), (39, 7, 40, 2, 0, []), (40, 4, 41, 2, 0, []), (41, 4, 42, 1, 0, []), (42, 49, 45, 84, 0, []), (45, 6, 46, 0, 0, []), (46, 56, 49, 11, 3, []), (49, 56, 52, 8, 0, []), (52, 4, 53, 2, 0, []), (53, 60, 54, 0, 0, []), (54, 74, 57, 29, 1, []), (57, 40, 60, 78, 0, []), (60, 6, 61, 0, 0, []), (61, 56, 64, 11, 0, []), (64, 56, 67, 6, 1, []), (67, 4, 68, 2, 0, []), (68, 6, 69, 0, 0, []), (69, 56, 72, 11, 3, []), (72, 56, 75, 8, 0, []), (75, 4, 76, 2, 0, []), (76, 60, 77, 0, 0, []), (77, 64, 78, 0, 0, []), (78, 10, 81, 2, 1, []), (81, 53, 84, 40, 0, []), (84, 6, 85, 0, 0, []), (85, 6, 86, 0, 0, []), (86, 56, 89, 11, 3, []), (89, 55, 92, 8, 1, []), (92, 4, 93, 1, 0, []), (93, 12, 94, 0, 0, []), (94, 57, 97, 11, 16, []), (97, 6, 98, 0, 0, []), (98, 56, 101, 11, 3, []), (101, 0, 102, 0, 0, []), (102, 57, 105, 8, 1, []), (105, 6, 106, 0, 0, []), (106, 4, 107, 1, 0, []), (107, 76, 110, 26, 2, [11]), (110, 72, 111, 0, 0, [])]
/-- java/lang/Math.min(II)I -/
def zcd35 : List (Nat × zI) := []
/-- TwoWayWall.spilt()I -/
def zcd36 : List (Nat × zI) := [(0, 6, 1, 0, 0, []), (1, 55, 4, 11, 16, []), (4, 72, 5, 0, 0, [])]
/-- TwoWayWall.tables()I -/
def zcd37 : List (Nat × zI) := [(0, 6, 1, 0, 0, []), (1, 56, 4, 11, 1, []), (4, 6, 5, 0, 0, []), (5, 56, 8, 11, 0, []), (8, 76, 11, 38, 2, [6]), (11, 6, 12, 0, 0, []), (12, 56, 15, 11, 4, []), (15, 76, 18, 42, 1, [7]), (18, 7, 19, 1, 0, []), (19, 6, 20, 0, 0, []), (20, 6, 21, 0, 0, []), (21, 56, 24, 11, 4, []), (24, 55, 27, 7, 5, []), (27, 57, 30, 11, 15, []), (30, 6, 31, 0, 0, []), (31, 56, 34, 11, 3, []), (34, 0, 35, 0, 0, []), (35, 57, 38, 8, 1, []), (38, 4, 39, 1, 0, []), (39, 0, 40, 0, (-1), []), (40, 47, 43, 50, 0, []), (43, 6, 44, 0, 0, []), (44, 0, 46, 0, (-6), []), (46, 76, 49, 24, 2, [11]), (49, 72, 50, 0, 0, []), (50, 6, 51, 0, 0, []), (51, 56, 54, 11, 0, []), (54, 6, 55, 0, 0, []), (55, 56, 58, 11, 1, []), (58, 76, 61, 38, 2, [6]), (61, 6, 62, 0, 0, []), (62, 76, 65, 15, 1, [11]), (65, 6, 66, 0, 0, []), (66, 4, 67, 1, 0, []), (67, 76, 70, 26, 2, [11]), (70, 72, 71, 0, 0, [])]
/-- TwoWayWall$State.copyFrom(LTwoWayWall$State;)V -/
def zcd38 : List (Nat × zI) := [(0, 6, 1, 0, 0, []), (1, 6, 2, 1, 0, []), (2, 55, 5, 6, 0, []), (5, 57, 8, 6, 0, []), (8, 6, 9, 1, 0, []), (9, 56, 12, 6, 1, []), (12, 0, 13, 0, 0, []), (13, 6, 14, 0, 0, []), (14, 56, 17, 6, 1, []), (17, 0, 18, 0, 0, []), (18, 0, 20, 0, 16, []), (20, 79, 23, 0, 0, []), (23, 6, 24, 1, 0, []), (24, 56, 27, 6, 2, []), (27, 0, 28, 0, 0, []), (28, 6, 29, 0, 0, []), (29, 56, 32, 6, 2, []), (32, 0, 33, 0, 0, []), (33, 0, 35, 0, 16, []), (35, 79, 38, 0, 0, []), (38, 6, 39, 1, 0, []), (39, 56, 42, 6, 3, []), (42, 0, 43, 0, 0, []), (43, 6, 44, 0, 0, []), (44, 56, 47, 6, 3, []), (47, 0, 48, 0, 0, []), (48, 0, 50, 0, 7, []), (50, 79, 53, 0, 0, []), (53, 6, 54, 1, 0, []), (54, 56, 57, 6, 4, []), (57, 0, 58, 0, 0, []), (58, 6, 59, 0, 0, []), (59, 56, 62, 6, 4, []), (62, 0, 63, 0, 0, []), (63, 0, 65, 0, 7, []), (65, 79, 68, 0, 0, []), (68, 6, 69, 0, 0, []), (69, 56, 72, 6, 5, []), (72, 6, 73, 1, 0, []), (73, 56, 76, 6, 5, []), (76, 76, 79, 39, 2, [9]), (79, 6, 80, 0, 0, []), (80, 56, 83, 6, 6, []), (83, 6, 84, 1, 0, []), (84, 56, 87, 6, 6, []), (87, 76, 90, 39, 2, [9]), (90, 6, 91, 0, 0, []), (91, 56, 94, 6, 7, []), (94, 6, 95, 1, 0, []), (95, 56, 98, 6, 7, []), (98, 76, 101, 40, 2, [10]), (101, 73, 102, 0, 0, [])]
/-- TwoWayWall$Tongue.copyTongue(LTwoWayWall$Tongue;)V -/
def zcd39 : List (Nat × zI) := [(0, 6, 1, 1, 0, []), (1, 56, 4, 9, 0, []), (4, 0, 5, 0, 0, []), (5, 6, 6, 0, 0, []), (6, 56, 9, 9, 0, []), (9, 0, 10, 0, 0, []), (10, 0, 12, 0, 26, []), (12, 79, 15, 0, 0, []), (15, 6, 16, 1, 0, []), (16, 56, 19, 9, 1, []), (19, 0, 20, 0, 0, []), (20, 6, 21, 0, 0, []), (21, 56, 24, 9, 1, []), (24, 0, 25, 0, 0, []), (25, 0, 27, 0, 26, []), (27, 79, 30, 0, 0, []), (30, 6, 31, 1, 0, []), (31, 56, 34, 9, 2, []), (34, 0, 35, 0, 0, []), (35, 6, 36, 0, 0, []), (36, 56, 39, 9, 2, []), (39, 0, 40, 0, 0, []), (40, 0, 42, 0, 8, []), (42, 79, 45, 0, 0, []), (45, 6, 46, 1, 0, []), (46, 56, 49, 9, 3, []), (49, 0, 50, 0, 0, []), (50, 6, 51, 0, 0, []), (51, 56, 54, 9, 3, []), (54, 0, 55, 0, 0, []), (55, 0, 57, 0, 8, []), (57, 79, 60, 0, 0, []), (60, 6, 61, 1, 0, []), (61, 56, 64, 9, 4, []), (64, 0, 65, 0, 0, []), (65, 6, 66, 0, 0, []), (66, 56, 69, 9, 4, []), (69, 0, 70, 0, 0, []), (70, 0, 72, 0, 48, []), (72, 79, 75, 0, 0, []), (75, 6, 76, 0, 0, []), (76, 6, 77, 1, 0, []), (77, 55, 80, 9, 5, []), (80, 57, 83, 9, 5, []), (83, 6, 84, 1, 0, []), (84, 56, 87, 9, 6, []), (87, 0, 88, 0, 0, []), (88, 6, 89, 0, 0, []), (89, 56, 92, 9, 6, []), (92, 0, 93, 0, 0, []), (93, 0, 95, 0, 16, []), (95, 79, 98, 0, 0, []), (98, 6, 99, 0, 0, []), (99, 6, 100, 1, 0, []), (100, 55, 103, 9, 7, []), (103, 57, 106, 9, 7, []), (106, 6, 107, 1, 0, []), (107, 56, 110, 9, 8, []), (110, 0, 111, 0, 0, []), (111, 6, 112, 0, 0, []), (112, 56, 115, 9, 8, []), (115, 0, 116, 0, 0, []), (116, 0, 117, 0, 4, []), (117, 79, 120, 0, 0, []), (120, 6, 121, 0, 0, []), (121, 6, 122, 1, 0, []), (122, 55, 125, 9, 9, []), (125, 57, 128, 9, 9, []), (128, 73, 129, 0, 0, [])]
/-- TwoWayWall$Yards.copyYards(LTwoWayWall$Yards;)V -/
def zcd40 : List (Nat × zI) := [(0, 0, 1, 0, 0, []), (1, 7, 2, 2, 0, []), (2, 4, 3, 2, 0, []), (3, 0, 5, 0, 10, []), (5, 49, 8, 21, 0, []), (8, 6, 9, 0, 0, []), (9, 6, 10, 1, 0, []), (10, 4, 11, 2, 0, []), (11, 4, 12, 2, 0, []), (12, 76, 15, 41, 4, [10]), (15, 10, 18, 2, 1, []), (18, 53, 21, 2, 0, []), (21, 6, 22, 0, 0, []), (22, 6, 23, 1, 0, []), (23, 55, 26, 10, 5, []), (26, 57, 29, 10, 5, []), (29, 73, 30, 0, 0, [])]
/-- TwoWayWall$Yards.copyYard(LTwoWayWall$Yards;II)V -/
def zcd41 : List (Nat × zI) := [(0, 6, 1, 0, 0, []), (1, 56, 4, 10, 0, []), (4, 4, 5, 3, 0, []), (5, 6, 6, 1, 0, []), (6, 56, 9, 10, 0, []), (9, 4, 10, 2, 0, []), (10, 60, 11, 0, 0, []), (11, 64, 12, 0, 0, []), (12, 6, 13, 0, 0, []), (13, 56, 16, 10, 1, []), (16, 4, 17, 3, 0, []), (17, 6, 18, 1, 0, []), (18, 56, 21, 10, 1, []), (21, 4, 22, 2, 0, []), (22, 60, 23, 0, 0, []), (23, 64, 24, 0, 0, []), (24, 6, 25, 0, 0, []), (25, 56, 28, 10, 2, []), (28, 4, 29, 3, 0, []), (29, 6, 30, 1, 0, []), (30, 56, 33, 10, 2, []), (33, 4, 34, 2, 0, []), (34, 60, 35, 0, 0, []), (35, 64, 36, 0, 0, []), (36, 6, 37, 0, 0, []), (37, 56, 40, 10, 3, []), (40, 4, 41, 3, 0, []), (41, 6, 42, 1, 0, []), (42, 56, 45, 10, 3, []), (45, 4, 46, 2, 0, []), (46, 60, 47, 0, 0, []), (47, 64, 48, 0, 0, []), (48, 6, 49, 0, 0, []), (49, 56, 52, 10, 4, []), (52, 4, 53, 3, 0, []), (53, 6, 54, 1, 0, []), (54, 56, 57, 10, 4, []), (57, 4, 58, 2, 0, []), (58, 60, 59, 0, 0, []), (59, 64, 60, 0, 0, []), (60, 73, 61, 0, 0, [])]
/-- TwoWayWall$TableReader.tell()I -/
def zcd42 : List (Nat × zI) := [(0, 6, 1, 0, 0, []), (1, 0, 2, 0, 0, []), (2, 57, 5, 7, 3, []), (5, 6, 6, 0, 0, []), (6, 0, 7, 0, (-1), []), (7, 57, 10, 7, 5, []), (10, 6, 11, 0, 0, []), (11, 76, 14, 43, 1, [7]), (14, 0, 15, 0, 0, []), (15, 7, 16, 1, 0, []), (16, 4, 17, 1, 0, []), (17, 0, 19, 0, 24, []), (19, 49, 22, 72, 0, []), (22, 6, 23, 0, 0, []), (23, 76, 26, 45, 1, [7]), (26, 41, 29, 31, 0, []), (29, 0, 30, 0, (-1), []), (30, 72, 31, 0, 0, []), (31, 6, 32, 0, 0, []), (32, 55, 35, 7, 4, []), (35, 41, 38, 42, 0, []), (38, 4, 39, 1, 0, []), (39, 0, 40, 0, 1, []), (40, 11, 41, 0, 0, []), (41, 72, 42, 0, 0, []), (42, 6, 43, 0, 0, []), (43, 0, 45, 0, 59, []), (45, 76, 48, 69, 2, [7]), (48, 41, 51, 62, 0, []), (51, 6, 52, 0, 0, []), (52, 6, 53, 0, 0, []), (53, 55, 56, 7, 2, []), (56, 76, 59, 60, 2, [7]), (59, 37, 60, 0, 0, []), (60, 0, 61, 0, (-1), []), (61, 72, 62, 0, 0, []), (62, 6, 63, 0, 0, []), (63, 76, 66, 43, 1, [7]), (66, 10, 69, 1, 1, []), (69, 53, 72, 16, 0, []), (72, 6, 73, 0, 0, []), (73, 6, 74, 0, 0, []), (74, 55, 77, 7, 2, []), (77, 76, 80, 60, 2, [7]), (80, 37, 81, 0, 0, []), (81, 0, 82, 0, (-1), []), (82, 72, 83, 0, 0, [])]
/-- TwoWayWall$TableReader.step()V -/
def zcd43 : List (Nat × zI) := [(0, 6, 1, 0, 0, []), (1, 6, 2, 0, 0, []), (2, 55, 5, 7, 3, []), (5, 57, 8, 7, 2, []), (8, 6, 9, 0, 0, []), (9, 55, 12, 7, 2, []), (12, 6, 13, 0, 0, []), (13, 56, 16, 7, 0, []), (16, 55, 19, 8, 1, []), (19, 49, 22, 52, 0, []), (22, 6, 23, 0, 0, []), (23, 56, 26, 7, 0, []), (26, 56, 29, 8, 0, []), (29, 6, 30, 0, 0, []), (30, 55, 33, 7, 2, []), (33, 60, 34, 0, 0, []), (34, 0, 36, 0, 32, []), (36, 47, 39, 52, 0, []), (39, 6, 40, 0, 0, []), (40, 36, 41, 0, 0, []), (41, 55, 44, 7, 2, []), (44, 0, 45, 0, 1, []), (45, 11, 46, 0, 0, []), (46, 57, 49, 7, 2, []), (49, 53, 52, 8, 0, []), (52, 6, 53, 0, 0, []), (53, 6, 54, 0, 0, []), (54, 55, 57, 7, 2, []), (57, 57, 60, 7, 3, []), (60, 6, 61, 0, 0, []), (61, 55, 64, 7, 2, []), (64, 6, 65, 0, 0, []), (65, 56, 68, 7, 0, []), (68, 55, 71, 8, 1, []), (71, 48, 74, 80, 0, []), (74, 6, 75, 0, 0, []), (75, 0, 76, 0, 0, []), (76, 57, 79, 7, 4, []), (79, 73, 80, 0, 0, []), (80, 6, 81, 0, 0, []), (81, 6, 82, 0, 0, []), (82, 56, 85, 7, 0, []), (85, 56, 88, 8, 0, []), (88, 6, 89, 0, 0, []), (89, 55, 92, 7, 2, []), (92, 60, 93, 0, 0, []), (93, 74, 96, 44, 1, []), (96, 57, 99, 7, 4, []), (99, 6, 100, 0, 0, []), (100, 36, 101, 0, 0, []), (101, 55, 104, 7, 3, []), (104, 0, 105, 0, 1, []), (105, 11, 106, 0, 0, []), (106, 57, 109, 7, 3, []), (109, 6, 110, 0, 0, []), (110, 55, 113, 7, 4, []), (113, 0, 114, 0, 3, []), (114, 46, 117, 166, 0, []), (117, 6, 118, 0, 0, []), (118, 55, 121, 7, 3, []), (121, 6, 122, 0, 0, []), (122, 56, 125, 7, 0, []), (125, 55, 128, 8, 1, []), (128, 49, 131, 166, 0, []), (131, 6, 132, 0, 0, []), (132, 56, 135, 7, 0, []), (135, 56, 138, 8, 0, []), (138, 6, 139, 0, 0, []), (139, 55, 142, 7, 3, []), (142, 60, 143, 0, 0, []), (143, 74, 146, 44, 1, []), (146, 6, 147, 0, 0, []), (147, 55, 150, 7, 4, []), (150, 47, 153, 166, 0, []), (153, 6, 154, 0, 0, []), (154, 36, 155, 0, 0, []), (155, 55, 158, 7, 3, []), (158, 0, 159, 0, 1, []), (159, 11, 160, 0, 0, []), (160, 57, 163, 7, 3, []), (163, 53, 166, 109, 0, []), (166, 73, 167, 0, 0, [])]
/-- TwoWayWall$TableReader.kindOfByte(I)I -/
def zcd44 : List (Nat × zI) := [(0, 4, 1, 0, 0, []), (1, 0, 3, 0, 97, []), (3, 48, 6, 14, 0, []), (6, 4, 7, 0, 0, []), (7, 0, 9, 0, 122, []), (9, 50, 12, 14, 0, []), (12, 0, 13, 0, 1, []), (13, 72, 14, 0, 0, []), (14, 4, 15, 0, 0, []), (15, 0, 17, 0, 48, []), (17, 48, 20, 30, 0, []), (20, 4, 21, 0, 0, []), (21, 0, 23, 0, 57, []), (23, 50, 26, 30, 0, []), (26, 0, 27, 0, 2, []), (27, 53, 30, 31, 0, []), (30, 0, 31, 0, 3, []), (31, 72, 32, 0, 0, [])]
/-- TwoWayWall$TableReader.tellClause()Z -/
def zcd45 : List (Nat × zI) := [(0, 6, 1, 0, 0, []), (1, 3, 3, 0, 0, []), (3, 76, 6, 46, 2, [7]), (6, 40, 9, 21, 0, []), (9, 6, 10, 0, 0, []), (10, 6, 11, 0, 0, []), (11, 56, 14, 7, 1, []), (14, 56, 17, 6, 5, []), (17, 76, 20, 58, 2, [7]), (20, 72, 21, 3, 0, []), (21, 6, 22, 0, 0, []), (22, 3, 24, 1, 0, []), (24, 76, 27, 46, 2, [7]), (27, 40, 30, 42, 0, []), (30, 6, 31, 0, 0, []), (31, 6, 32, 0, 0, []), (32, 56, 35, 7, 1, []), (35, 56, 38, 6, 6, []), (38, 76, 41, 58, 2, [7]), (41, 72, 42, 3, 0, []), (42, 6, 43, 0, 0, []), (43, 3, 45, 2, 0, []), (45, 76, 48, 46, 2, [7]), (48, 40, 51, 56, 0, []), (51, 6, 52, 0, 0, []), (52, 76, 55, 62, 1, [7]), (55, 72, 56, 3, 0, []), (56, 6, 57, 0, 0, []), (57, 3, 59, 3, 0, []), (59, 76, 62, 46, 2, [7]), (62, 40, 65, 70, 0, []), (65, 6, 66, 0, 0, []), (66, 76, 69, 66, 1, [7]), (69, 72, 70, 3, 0, []), (70, 6, 71, 0, 0, []), (71, 3, 73, 4, 0, []), (73, 76, 76, 46, 2, [7]), (76, 40, 79, 84, 0, []), (79, 6, 80, 0, 0, []), (80, 76, 83, 67, 1, [7]), (83, 72, 84, 3, 0, []), (84, 6, 85, 0, 0, []), (85, 3, 87, 5, 0, []), (87, 76, 90, 46, 2, [7]), (90, 40, 93, 100, 0, []), (93, 6, 94, 0, 0, []), (94, 76, 97, 68, 1, [7]), (97, 53, 100, 108, 0, []), (100, 6, 101, 0, 0, []), (101, 6, 102, 0, 0, []), (102, 55, 105, 7, 2, []), (105, 76, 108, 60, 2, [7]), (108, 72, 109, 3, 0, [])]
/-- TwoWayWall$TableReader.isName(Ljava/lang/String;)Z -/
def zcd46 : List (Nat × zI) := [(0, 6, 1, 0, 0, []), (1, 55, 4, 7, 4, []), (4, 0, 5, 0, 1, []), (5, 47, 8, 24, 0, []), (8, 6, 9, 0, 0, []), (9, 55, 12, 7, 3, []), (12, 6, 13, 0, 0, []), (13, 55, 16, 7, 2, []), (16, 12, 17, 0, 0, []), (17, 6, 18, 1, 0, []), (18, 77, 21, 47, 1, []), (21, 46, 24, 26, 0, []), (24, 0, 25, 0, 0, []), (25, 72, 26, 3, 0, []), (26, 0, 27, 0, 0, []), (27, 7, 28, 2, 0, []), (28, 4, 29, 2, 0, []), (29, 6, 30, 1, 0, []), (30, 77, 33, 47, 1, []), (33, 49, 36, 66, 0, []), (36, 6, 37, 0, 0, []), (37, 56, 40, 7, 0, []), (40, 56, 43, 8, 0, []), (43, 6, 44, 0, 0, []), (44, 55, 47, 7, 2, []), (47, 4, 48, 2, 0, []), (48, 11, 49, 0, 0, []), (49, 60, 50, 0, 0, []), (50, 6, 51, 1, 0, []), (51, 4, 52, 2, 0, []), (52, 77, 55, 49, 2, []), (55, 46, 58, 60, 0, []), (58, 0, 59, 0, 0, []), (59, 72, 60, 3, 0, []), (60, 10, 63, 2, 1, []), (63, 53, 66, 28, 0, []), (66, 0, 67, 0, 1, []), (67, 72, 68, 3, 0, [])]
/-- java/lang/String.length()I -/
def zcd47 : List (Nat × zI) := [(0, 6, 1, 0, 0, []), (1, 82, 4, 0, 0, []), (4, 68, 5, 0, 0, []), (5, 6, 6, 0, 0, []), (6, 77, 9, 48, 1, []), (9, 21, 10, 0, 0, []), (10, 72, 11, 0, 0, [])]
/-- java/lang/String.coder()B -/
def zcd48 : List (Nat × zI) := [(0, 80, 3, 0, 1, []), (3, 40, 6, 13, 0, []), (6, 6, 7, 0, 0, []), (7, 83, 10, 0, 0, []), (10, 53, 13, 14, 0, []), (13, 0, 14, 0, 1, []), (14, 72, 15, 4, 0, [])]
/-- java/lang/String.charAt(I)C -/
def zcd49 : List (Nat × zI) := [(0, 6, 1, 0, 0, []), (1, 77, 4, 50, 1, []), (4, 40, 7, 16, 0, []), (7, 6, 8, 0, 0, []), (8, 82, 11, 0, 0, []), (11, 4, 12, 1, 0, []), (12, 74, 15, 51, 2, []), (15, 72, 16, 5, 0, []), (16, 6, 17, 0, 0, []), (17, 82, 20, 0, 0, []), (20, 4, 21, 1, 0, []), (24, 72, 25, 5, 0, [])]
/-- java/lang/String.isLatin1()Z -/
def zcd50 : List (Nat × zI) := [(0, 80, 3, 0, 1, []), (3, 40, 6, 17, 0, []), (6, 6, 7, 0, 0, []), (7, 83, 10, 0, 0, []), (10, 41, 13, 17, 0, []), (13, 0, 14, 0, 1, []), (14, 53, 17, 18, 0, []), (17, 0, 18, 0, 0, []), (18, 72, 19, 3, 0, [])]
/-- java/lang/StringLatin1.charAt([BI)C -/
def zcd51 : List (Nat × zI) := [(0, 4, 1, 1, 0, []), (1, 6, 2, 0, 0, []), (2, 68, 3, 0, 0, []), (3, 74, 6, 52, 2, []), (6, 6, 7, 0, 0, []), (7, 4, 8, 1, 0, []), (8, 62, 9, 0, 0, []), (9, 0, 12, 0, 255, []), (12, 14, 13, 0, 0, []), (13, 35, 14, 0, 0, []), (14, 72, 15, 5, 0, [])]
/-- java/lang/String.checkIndex(II)V -/
def zcd52 : List (Nat × zI) := [(0, 4, 1, 0, 0, []), (1, 4, 2, 1, 0, []), (2, 81, 5, 0, 0, []), (5, 74, 8, 53, 3, []), (8, 37, 9, 0, 0, []), (9, 73, 10, 0, 0, [])]
/-- jdk/internal/util/Preconditions.checkIndex(IILjava/util/function/BiFunction;)I -/
def zcd53 : List (Nat × zI) := [(0, 4, 1, 0, 0, []), (1, 42, 4, 9, 0, []), (4, 4, 5, 0, 0, []), (5, 4, 6, 1, 0, []), (6, 48, 9, 16, 0, []), (9, 6, 10, 2, 0, []), (10, 4, 11, 0, 0, []), (11, 4, 12, 1, 0, []), (16, 4, 17, 0, 0, []), (17, 72, 18, 0, 0, [])]
/-- java/lang/StringUTF16.charAt([BI)C -/
def zcd54 : List (Nat × zI) := []
/-- java/lang/StringUTF16.checkIndex(I[B)V -/
def zcd55 : List (Nat × zI) := []
/-- java/lang/StringUTF16.length([B)I -/
def zcd56 : List (Nat × zI) := []
/-- java/lang/StringUTF16.getChar([BI)C -/
def zcd57 : List (Nat × zI) := []
/-- TwoWayWall$TableReader.tellLetter(LTwoWayWall$Tongue;)Z -/
def zcd58 : List (Nat × zI) := [(0, 6, 1, 0, 0, []), (1, 76, 4, 43, 1, [7]), (4, 6, 5, 0, 0, []), (5, 76, 8, 59, 1, [7]), (8, 7, 9, 2, 0, []), (9, 4, 10, 2, 0, []), (10, 0, 11, 0, (-1), []), (11, 47, 14, 23, 0, []), (14, 6, 15, 0, 0, []), (15, 6, 16, 0, 0, []), (16, 55, 19, 7, 2, []), (19, 76, 22, 60, 2, [7]), (22, 72, 23, 3, 0, []), (23, 6, 24, 0, 0, []), (24, 76, 27, 43, 1, [7]), (27, 6, 28, 0, 0, []), (28, 76, 31, 61, 1, [7]), (31, 7, 32, 3, 0, []), (32, 4, 33, 3, 0, []), (33, 41, 36, 45, 0, []), (36, 6, 37, 0, 0, []), (37, 6, 38, 0, 0, []), (38, 55, 41, 7, 2, []), (41, 76, 44, 60, 2, [7]), (44, 72, 45, 3, 0, []), (45, 6, 46, 0, 0, []), (46, 76, 49, 43, 1, [7]), (49, 0, 50, 0, 0, []), (50, 7, 52, 4, 0, []), (52, 6, 53, 0, 0, []), (53, 3, 55, 6, 0, []), (55, 76, 58, 46, 2, [7]), (58, 40, 61, 96, 0, []), (61, 6, 62, 0, 0, []), (62, 76, 65, 43, 1, [7]), (65, 6, 66, 0, 0, []), (66, 76, 69, 61, 1, [7]), (69, 7, 71, 4, 0, []), (71, 4, 73, 4, 0, []), (73, 40, 76, 83, 0, []), (76, 4, 78, 4, 0, []), (78, 4, 79, 3, 0, []), (79, 14, 80, 0, 0, []), (80, 40, 83, 92, 0, []), (83, 6, 84, 0, 0, []), (84, 6, 85, 0, 0, []), (85, 55, 88, 7, 2, []), (88, 76, 91, 60, 2, [7]), (91, 72, 92, 3, 0, []), (92, 6, 93, 0, 0, []), (93, 76, 96, 43, 1, [7]), (96, 6, 97, 1, 0, []), (97, 56, 100, 9, 0, []), (100, 4, 101, 2, 0, []), (101, 4, 102, 3, 0, []), (102, 64, 103, 0, 0, []), (103, 6, 104, 1, 0, []), (104, 56, 107, 9, 1, []), (107, 4, 108, 2, 0, []), (108, 4, 110, 4, 0, []), (110, 64, 111, 0, 0, []), (111, 0, 112, 0, 1, []), (112, 72, 113, 3, 0, [])]
/-- TwoWayWall$TableReader.oneLetter()I -/
def zcd59 : List (Nat × zI) := [(0, 6, 1, 0, 0, []), (1, 55, 4, 7, 4, []), (4, 0, 5, 0, 1, []), (5, 47, 8, 39, 0, []), (8, 6, 9, 0, 0, []), (9, 55, 12, 7, 3, []), (12, 6, 13, 0, 0, []), (13, 55, 16, 7, 2, []), (16, 12, 17, 0, 0, []), (17, 0, 18, 0, 1, []), (18, 47, 21, 39, 0, []), (21, 6, 22, 0, 0, []), (22, 56, 25, 7, 0, []), (25, 56, 28, 8, 0, []), (28, 6, 29, 0, 0, []), (29, 55, 32, 7, 2, []), (32, 60, 33, 0, 0, []), (33, 0, 35, 0, 97, []), (35, 12, 36, 0, 0, []), (36, 53, 39, 40, 0, []), (39, 0, 40, 0, (-1), []), (40, 72, 41, 0, 0, [])]
/-- TwoWayWall$TableReader.failAt(I)Z -/
def zcd60 : List (Nat × zI) := [(0, 6, 1, 0, 0, []), (1, 4, 2, 1, 0, []), (2, 57, 5, 7, 5, []), (5, 0, 6, 0, 0, []), (6, 72, 7, 3, 0, [])]
/-- TwoWayWall$TableReader.strokeRow()I -/
def zcd61 : List (Nat × zI) := [(0, 6, 1, 0, 0, []), (1, 55, 4, 7, 4, []), (4, 0, 5, 0, 2, []), (5, 46, 8, 10, 0, []), (8, 0, 9, 0, 0, []), (9, 72, 10, 0, 0, []), (10, 0, 11, 0, 0, []), (11, 7, 12, 1, 0, []), (12, 6, 13, 0, 0, []), (13, 55, 16, 7, 2, []), (16, 7, 17, 2, 0, []), (17, 4, 18, 2, 0, []), (18, 6, 19, 0, 0, []), (19, 55, 22, 7, 3, []), (22, 49, 25, 75, 0, []), (25, 6, 26, 0, 0, []), (26, 56, 29, 7, 0, []), (29, 56, 32, 8, 0, []), (32, 4, 33, 2, 0, []), (33, 60, 34, 0, 0, []), (34, 0, 36, 0, 48, []), (36, 12, 37, 0, 0, []), (37, 7, 38, 3, 0, []), (38, 4, 39, 3, 0, []), (39, 0, 40, 0, 1, []), (40, 48, 43, 59, 0, []), (43, 4, 44, 3, 0, []), (44, 0, 46, 0, 7, []), (46, 50, 49, 59, 0, []), (49, 4, 50, 1, 0, []), (50, 4, 51, 3, 0, []), (51, 0, 52, 0, 1, []), (52, 12, 53, 0, 0, []), (53, 21, 54, 0, 0, []), (54, 0, 55, 0, 1, []), (55, 14, 56, 0, 0, []), (56, 40, 59, 61, 0, []), (59, 0, 60, 0, 0, []), (60, 72, 61, 0, 0, []), (61, 4, 62, 1, 0, []), (62, 0, 63, 0, 1, []), (63, 4, 64, 3, 0, []), (64, 0, 65, 0, 1, []), (65, 12, 66, 0, 0, []), (66, 20, 67, 0, 0, []), (67, 15, 68, 0, 0, []), (68, 7, 69, 1, 0, []), (69, 10, 72, 2, 1, []), (72, 53, 75, 17, 0, []), (75, 4, 76, 1, 0, []), (76, 72, 77, 0, 0, [])]
/-- TwoWayWall$TableReader.tellWord()Z -/
def zcd62 : List (Nat × zI) := [(0, 6, 1, 0, 0, []), (1, 55, 4, 7, 2, []), (4, 7, 5, 1, 0, []), (5, 6, 6, 0, 0, []), (6, 76, 9, 43, 1, [7]), (9, 6, 10, 0, 0, []), (10, 76, 13, 63, 1, [7]), (13, 9, 14, 2, 0, []), (14, 6, 15, 2, 0, []), (15, 52, 18, 27, 0, []), (18, 6, 19, 0, 0, []), (19, 6, 20, 0, 0, []), (20, 55, 23, 7, 2, []), (23, 76, 26, 60, 2, [7]), (26, 72, 27, 3, 0, []), (27, 6, 28, 2, 0, []), (28, 55, 31, 9, 5, []), (31, 0, 33, 0, 8, []), (33, 48, 36, 42, 0, []), (36, 6, 37, 0, 0, []), (37, 4, 38, 1, 0, []), (38, 76, 41, 60, 2, [7]), (41, 72, 42, 3, 0, []), (42, 6, 43, 0, 0, []), (43, 76, 46, 43, 1, [7]), (46, 6, 47, 0, 0, []), (47, 76, 50, 64, 1, [7]), (50, 7, 51, 3, 0, []), (51, 4, 52, 3, 0, []), (52, 42, 55, 61, 0, []), (55, 4, 56, 3, 0, []), (56, 0, 58, 0, 8, []), (58, 48, 61, 70, 0, []), (61, 6, 62, 0, 0, []), (62, 6, 63, 0, 0, []), (63, 55, 66, 7, 2, []), (66, 76, 69, 60, 2, [7]), (69, 72, 70, 3, 0, []), (70, 6, 71, 0, 0, []), (71, 76, 74, 43, 1, [7]), (74, 6, 75, 0, 0, []), (75, 55, 78, 7, 4, []), (78, 0, 79, 0, 1, []), (79, 47, 82, 96, 0, []), (82, 6, 83, 0, 0, []), (83, 55, 86, 7, 3, []), (86, 6, 87, 0, 0, []), (87, 55, 90, 7, 2, []), (90, 12, 91, 0, 0, []), (91, 0, 93, 0, 6, []), (93, 51, 96, 105, 0, []), (96, 6, 97, 0, 0, []), (97, 6, 98, 0, 0, []), (98, 55, 101, 7, 2, []), (101, 76, 104, 60, 2, [7]), (104, 72, 105, 3, 0, []), (105, 6, 106, 0, 0, []), (106, 6, 107, 2, 0, []), (107, 4, 108, 3, 0, []), (108, 76, 111, 65, 3, [7]), (111, 6, 112, 0, 0, []), (112, 76, 115, 43, 1, [7]), (115, 0, 116, 0, 1, []), (116, 72, 117, 3, 0, [])]
/-- TwoWayWall$TableReader.namedTongue()LTwoWayWall$Tongue; -/
def zcd63 : List (Nat × zI) := [(0, 6, 1, 0, 0, []), (1, 3, 3, 0, 0, []), (3, 76, 6, 46, 2, [7]), (6, 40, 9, 17, 0, []), (9, 6, 10, 0, 0, []), (10, 56, 13, 7, 1, []), (13, 56, 16, 6, 5, []), (16, 72, 17, 2, 0, []), (17, 6, 18, 0, 0, []), (18, 3, 20, 1, 0, []), (20, 76, 23, 46, 2, [7]), (23, 40, 26, 36, 0, []), (26, 6, 27, 0, 0, []), (27, 56, 30, 7, 1, []), (30, 56, 33, 6, 6, []), (33, 53, 36, 37, 0, []), (36, 2, 37, 0, 0, []), (37, 72, 38, 2, 0, [])]
/-- TwoWayWall$TableReader.number()I -/
def zcd64 : List (Nat × zI) := [(0, 6, 1, 0, 0, []), (1, 55, 4, 7, 4, []), (4, 0, 5, 0, 2, []), (5, 46, 8, 10, 0, []), (8, 0, 9, 0, (-1), []), (9, 72, 10, 0, 0, []), (10, 0, 11, 0, 0, []), (11, 7, 12, 1, 0, []), (12, 6, 13, 0, 0, []), (13, 55, 16, 7, 2, []), (16, 7, 17, 2, 0, []), (17, 4, 18, 2, 0, []), (18, 6, 19, 0, 0, []), (19, 55, 22, 7, 3, []), (22, 49, 25, 55, 0, []), (25, 0, 28, 0, 1000, []), (28, 4, 29, 1, 0, []), (29, 0, 31, 0, 10, []), (31, 13, 32, 0, 0, []), (32, 6, 33, 0, 0, []), (33, 56, 36, 7, 0, []), (36, 56, 39, 8, 0, []), (39, 4, 40, 2, 0, []), (40, 60, 41, 0, 0, []), (41, 11, 42, 0, 0, []), (42, 0, 44, 0, 48, []), (44, 12, 45, 0, 0, []), (45, 85, 48, 0, 0, []), (48, 7, 49, 1, 0, []), (49, 10, 52, 2, 1, []), (52, 53, 55, 17, 0, []), (55, 4, 56, 1, 0, []), (56, 72, 57, 0, 0, [])]
/-- TwoWayWall$TableReader.addWord(LTwoWayWall$Tongue;I)V -/
def zcd65 : List (Nat × zI) := [(0, 6, 1, 1, 0, []), (1, 55, 4, 9, 5, []), (4, 7, 5, 3, 0, []), (5, 6, 6, 1, 0, []), (6, 56, 9, 9, 2, []), (9, 4, 10, 3, 0, []), (10, 4, 11, 2, 0, []), (11, 64, 12, 0, 0, []), (12, 6, 13, 1, 0, []), (13, 56, 16, 9, 3, []), (16, 4, 17, 3, 0, []), (17, 6, 18, 0, 0, []), (18, 55, 21, 7, 3, []), (21, 6, 22, 0, 0, []), (22, 55, 25, 7, 2, []), (25, 12, 26, 0, 0, []), (26, 64, 27, 0, 0, []), (27, 0, 28, 0, 0, []), (28, 7, 30, 4, 0, []), (30, 4, 32, 4, 0, []), (32, 6, 33, 0, 0, []), (33, 55, 36, 7, 3, []), (36, 6, 37, 0, 0, []), (37, 55, 40, 7, 2, []), (40, 12, 41, 0, 0, []), (41, 49, 44, 87, 0, []), (44, 4, 46, 4, 0, []), (46, 0, 48, 0, 6, []), (48, 49, 51, 87, 0, []), (51, 6, 52, 1, 0, []), (52, 56, 55, 9, 4, []), (55, 4, 56, 3, 0, []), (56, 0, 58, 0, 6, []), (58, 13, 59, 0, 0, []), (59, 4, 61, 4, 0, []), (61, 11, 62, 0, 0, []), (62, 6, 63, 0, 0, []), (63, 56, 66, 7, 0, []), (66, 56, 69, 8, 0, []), (69, 6, 70, 0, 0, []), (70, 55, 73, 7, 2, []), (73, 4, 75, 4, 0, []), (75, 11, 76, 0, 0, []), (76, 60, 77, 0, 0, []), (77, 0, 79, 0, 97, []), (79, 12, 80, 0, 0, []), (80, 64, 81, 0, 0, []), (81, 10, 84, 4, 1, []), (84, 53, 87, 30, 0, []), (87, 6, 88, 1, 0, []), (88, 36, 89, 0, 0, []), (89, 55, 92, 9, 5, []), (92, 0, 93, 0, 1, []), (93, 11, 94, 0, 0, []), (94, 57, 97, 9, 5, []), (97, 73, 98, 0, 0, [])]
/-- TwoWayWall$TableReader.tellMirror()Z -/
def zcd66 : List (Nat × zI) := [(0, 6, 1, 0, 0, []), (1, 76, 4, 43, 1, [7]), (4, 6, 5, 0, 0, []), (5, 55, 8, 7, 3, []), (8, 6, 9, 0, 0, []), (9, 55, 12, 7, 2, []), (12, 12, 13, 0, 0, []), (13, 0, 15, 0, 7, []), (15, 47, 18, 27, 0, []), (18, 6, 19, 0, 0, []), (19, 76, 22, 61, 1, [7]), (22, 0, 24, 0, 127, []), (24, 46, 27, 36, 0, []), (27, 6, 28, 0, 0, []), (28, 6, 29, 0, 0, []), (29, 55, 32, 7, 2, []), (32, 76, 35, 60, 2, [7]), (35, 72, 36, 3, 0, []), (36, 0, 37, 0, 0, []), (37, 7, 38, 1, 0, []), (38, 4, 39, 1, 0, []), (39, 0, 41, 0, 7, []), (41, 49, 44, 76, 0, []), (44, 6, 45, 0, 0, []), (45, 56, 48, 7, 1, []), (48, 56, 51, 6, 3, []), (51, 4, 52, 1, 0, []), (52, 6, 53, 0, 0, []), (53, 56, 56, 7, 0, []), (56, 56, 59, 8, 0, []), (59, 6, 60, 0, 0, []), (60, 55, 63, 7, 2, []), (63, 4, 64, 1, 0, []), (64, 11, 65, 0, 0, []), (65, 60, 66, 0, 0, []), (66, 0, 68, 0, 48, []), (68, 12, 69, 0, 0, []), (69, 64, 70, 0, 0, []), (70, 10, 73, 1, 1, []), (73, 53, 76, 38, 0, []), (76, 6, 77, 0, 0, []), (77, 76, 80, 43, 1, [7]), (80, 0, 81, 0, 1, []), (81, 72, 82, 3, 0, [])]
/-- TwoWayWall$TableReader.tellCost()Z -/
def zcd67 : List (Nat × zI) := [(0, 6, 1, 0, 0, []), (1, 76, 4, 43, 1, [7]), (4, 6, 5, 0, 0, []), (5, 76, 8, 64, 1, [7]), (8, 7, 9, 1, 0, []), (9, 4, 10, 1, 0, []), (10, 0, 11, 0, 1, []), (11, 48, 14, 20, 0, []), (14, 4, 15, 1, 0, []), (15, 0, 17, 0, 7, []), (17, 51, 20, 29, 0, []), (20, 6, 21, 0, 0, []), (21, 6, 22, 0, 0, []), (22, 55, 25, 7, 2, []), (25, 76, 28, 60, 2, [7]), (28, 72, 29, 3, 0, []), (29, 6, 30, 0, 0, []), (30, 76, 33, 43, 1, [7]), (33, 6, 34, 0, 0, []), (34, 76, 37, 64, 1, [7]), (37, 7, 38, 2, 0, []), (38, 4, 39, 2, 0, []), (39, 42, 42, 48, 0, []), (42, 4, 43, 2, 0, []), (43, 0, 45, 0, 99, []), (45, 51, 48, 57, 0, []), (48, 6, 49, 0, 0, []), (49, 6, 50, 0, 0, []), (50, 55, 53, 7, 2, []), (53, 76, 56, 60, 2, [7]), (56, 72, 57, 3, 0, []), (57, 6, 58, 0, 0, []), (58, 56, 61, 7, 1, []), (61, 56, 64, 6, 4, []), (64, 4, 65, 1, 0, []), (65, 0, 66, 0, 1, []), (66, 12, 67, 0, 0, []), (67, 4, 68, 2, 0, []), (68, 64, 69, 0, 0, []), (69, 6, 70, 0, 0, []), (70, 76, 73, 43, 1, [7]), (73, 0, 74, 0, 1, []), (74, 72, 75, 3, 0, [])]
/-- TwoWayWall$TableReader.tellDrop()Z -/
def zcd68 : List (Nat × zI) := [(0, 6, 1, 0, 0, []), (1, 76, 4, 43, 1, [7]), (4, 6, 5, 0, 0, []), (5, 76, 8, 63, 1, [7]), (8, 9, 9, 1, 0, []), (9, 6, 10, 1, 0, []), (10, 52, 13, 22, 0, []), (13, 6, 14, 0, 0, []), (14, 6, 15, 0, 0, []), (15, 55, 18, 7, 2, []), (18, 76, 21, 60, 2, [7]), (21, 72, 22, 3, 0, []), (22, 6, 23, 0, 0, []), (23, 76, 26, 43, 1, [7]), (26, 6, 27, 0, 0, []), (27, 76, 30, 59, 1, [7]), (30, 7, 31, 2, 0, []), (31, 4, 32, 2, 0, []), (32, 0, 33, 0, (-1), []), (33, 47, 36, 45, 0, []), (36, 6, 37, 0, 0, []), (37, 6, 38, 0, 0, []), (38, 55, 41, 7, 2, []), (41, 76, 44, 60, 2, [7]), (44, 72, 45, 3, 0, []), (45, 6, 46, 1, 0, []), (46, 56, 49, 9, 0, []), (49, 4, 50, 2, 0, []), (50, 0, 51, 0, 0, []), (51, 64, 52, 0, 0, []), (52, 6, 53, 1, 0, []), (53, 56, 56, 9, 1, []), (56, 4, 57, 2, 0, []), (57, 0, 58, 0, 0, []), (58, 64, 59, 0, 0, []), (59, 6, 60, 0, 0, []), (60, 76, 63, 43, 1, [7]), (63, 0, 64, 0, 1, []), (64, 72, 65, 3, 0, [])]
/-- TwoWayWall$TableReader.isSign(C)Z -/
def zcd69 : List (Nat × zI) := [(0, 6, 1, 0, 0, []), (1, 55, 4, 7, 4, []), (4, 0, 5, 0, 3, []), (5, 47, 8, 28, 0, []), (8, 6, 9, 0, 0, []), (9, 56, 12, 7, 0, []), (12, 56, 15, 8, 0, []), (15, 6, 16, 0, 0, []), (16, 55, 19, 7, 2, []), (19, 60, 20, 0, 0, []), (20, 4, 21, 1, 0, []), (21, 47, 24, 28, 0, []), (24, 0, 25, 0, 1, []), (25, 53, 28, 29, 0, []), (28, 0, 29, 0, 0, []), (29, 72, 30, 3, 0, [])]
/-- TwoWayWall.fault()I -/
def zcd70 : List (Nat × zI) := [(0, 6, 1, 0, 0, []), (1, 55, 4, 11, 15, []), (4, 72, 5, 0, 0, [])]
/-- TwoWayWall.letter(III)I -/
def zcd71 : List (Nat × zI) := [(0, 4, 1, 1, 0, []), (1, 74, 4, 72, 1, []), (4, 40, 7, 29, 0, []), (7, 4, 8, 2, 0, []), (8, 74, 11, 73, 1, []), (11, 40, 14, 29, 0, []), (14, 6, 15, 0, 0, []), (15, 56, 18, 11, 0, []), (18, 4, 19, 1, 0, []), (19, 76, 22, 74, 2, [6]), (22, 4, 23, 2, 0, []), (23, 76, 26, 19, 2, [9]), (26, 41, 29, 31, 0, []), (29, 0, 30, 0, (-1), []), (30, 72, 31, 0, 0, []), (31, 4, 32, 3, 0, []), (32, 41, 35, 49, 0, []), (35, 6, 36, 0, 0, []), (36, 56, 39, 11, 0, []), (39, 4, 40, 1, 0, []), (40, 76, 43, 74, 2, [6]), (43, 56, 46, 9, 0, []), (46, 4, 47, 2, 0, []), (47, 60, 48, 0, 0, []), (48, 72, 49, 0, 0, []), (49, 4, 50, 3, 0, []), (50, 0, 51, 0, 1, []), (51, 47, 54, 70, 0, []), (54, 6, 55, 0, 0, []), (55, 56, 58, 11, 0, []), (58, 4, 59, 1, 0, []), (59, 76, 62, 74, 2, [6]), (62, 56, 65, 9, 1, []), (65, 4, 66, 2, 0, []), (66, 60, 67, 0, 0, []), (67, 53, 70, 71, 0, []), (70, 0, 71, 0, (-1), []), (71, 72, 72, 0, 0, [])]
/-- TwoWayWall.isTongue(I)Z -/
def zcd72 : List (Nat × zI) := [(0, 4, 1, 0, 0, []), (1, 40, 4, 9, 0, []), (4, 4, 5, 0, 0, []), (5, 0, 6, 0, 1, []), (6, 47, 9, 13, 0, []), (9, 0, 10, 0, 1, []), (10, 53, 13, 14, 0, []), (13, 0, 14, 0, 0, []), (14, 72, 15, 3, 0, [])]
/-- TwoWayWall.isLetter(I)Z -/
def zcd73 : List (Nat × zI) := [(0, 4, 1, 0, 0, []), (1, 42, 4, 14, 0, []), (4, 4, 5, 0, 0, []), (5, 0, 7, 0, 26, []), (7, 49, 10, 14, 0, []), (10, 0, 11, 0, 1, []), (11, 53, 14, 15, 0, []), (14, 0, 15, 0, 0, []), (15, 72, 16, 3, 0, [])]
/-- TwoWayWall$State.tongue(I)LTwoWayWall$Tongue; -/
def zcd74 : List (Nat × zI) := [(0, 4, 1, 1, 0, []), (1, 41, 4, 11, 0, []), (4, 6, 5, 0, 0, []), (5, 56, 8, 6, 5, []), (8, 53, 11, 15, 0, []), (11, 6, 12, 0, 0, []), (12, 56, 15, 6, 6, []), (15, 72, 16, 2, 0, [])]
/-- TwoWayWall.word(III)I -/
def zcd75 : List (Nat × zI) := [(0, 4, 1, 1, 0, []), (1, 74, 4, 72, 1, []), (4, 40, 7, 26, 0, []), (7, 4, 8, 2, 0, []), (8, 42, 11, 26, 0, []), (11, 4, 12, 2, 0, []), (12, 6, 13, 0, 0, []), (13, 56, 16, 11, 0, []), (16, 4, 17, 1, 0, []), (17, 76, 20, 74, 2, [6]), (20, 55, 23, 9, 5, []), (23, 48, 26, 28, 0, []), (26, 0, 27, 0, (-1), []), (27, 72, 28, 0, 0, []), (28, 6, 29, 0, 0, []), (29, 56, 32, 11, 0, []), (32, 4, 33, 1, 0, []), (33, 76, 36, 74, 2, [6]), (36, 9, 38, 4, 0, []), (38, 4, 39, 3, 0, []), (39, 41, 42, 50, 0, []), (42, 6, 44, 4, 0, []), (44, 56, 47, 9, 2, []), (47, 4, 48, 2, 0, []), (48, 60, 49, 0, 0, []), (49, 72, 50, 0, 0, []), (50, 4, 51, 3, 0, []), (51, 0, 52, 0, 1, []), (52, 47, 55, 63, 0, []), (55, 6, 57, 4, 0, []), (57, 56, 60, 9, 3, []), (60, 4, 61, 2, 0, []), (61, 60, 62, 0, 0, []), (62, 72, 63, 0, 0, []), (63, 4, 64, 3, 0, []), (64, 0, 65, 0, 2, []), (65, 48, 68, 81, 0, []), (68, 4, 69, 3, 0, []), (69, 0, 70, 0, 2, []), (70, 12, 71, 0, 0, []), (71, 6, 73, 4, 0, []), (73, 56, 76, 9, 3, []), (76, 4, 77, 2, 0, []), (77, 60, 78, 0, 0, []), (78, 48, 81, 83, 0, []), (81, 0, 82, 0, (-1), []), (82, 72, 83, 0, 0, []), (83, 6, 85, 4, 0, []), (85, 4, 86, 2, 0, []), (86, 4, 87, 3, 0, []), (87, 0, 88, 0, 2, []), (88, 12, 89, 0, 0, []), (89, 76, 92, 76, 3, [9]), (92, 72, 93, 0, 0, [])]
/-- TwoWayWall$Tongue.letterOf(II)I -/
def zcd76 : List (Nat × zI) := [(0, 6, 1, 0, 0, []), (1, 56, 4, 9, 4, []), (4, 4, 5, 1, 0, []), (5, 0, 7, 0, 6, []), (7, 13, 8, 0, 0, []), (8, 4, 9, 2, 0, []), (9, 11, 10, 0, 0, []), (10, 60, 11, 0, 0, []), (11, 72, 12, 0, 0, [])]
/-- TwoWayWall.reads(II)I -/
def zcd77 : List (Nat × zI) := [(0, 4, 1, 1, 0, []), (1, 74, 4, 72, 1, []), (4, 40, 7, 14, 0, []), (7, 4, 8, 2, 0, []), (8, 74, 11, 29, 1, []), (11, 41, 14, 16, 0, []), (14, 0, 15, 0, (-1), []), (15, 72, 16, 0, 0, []), (16, 6, 17, 0, 0, []), (17, 56, 20, 11, 5, []), (20, 4, 21, 1, 0, []), (21, 4, 22, 2, 0, []), (22, 76, 25, 78, 3, [4]), (25, 74, 28, 79, 1, []), (28, 72, 29, 0, 0, [])]
/-- TwoWayWall$Readings.kindOf(II)I -/
def zcd78 : List (Nat × zI) := [(0, 4, 1, 1, 0, []), (1, 41, 4, 13, 0, []), (4, 6, 5, 0, 0, []), (5, 56, 8, 4, 0, []), (8, 4, 9, 2, 0, []), (9, 60, 10, 0, 0, []), (10, 53, 13, 19, 0, []), (13, 6, 14, 0, 0, []), (14, 56, 17, 4, 1, []), (17, 4, 18, 2, 0, []), (18, 60, 19, 0, 0, []), (19, 72, 20, 0, 0, [])]
/-- TwoWayWall.noneForGap(I)I -/
def zcd79 : List (Nat × zI) := [(0, 4, 1, 0, 0, []), (1, 0, 3, 0, 26, []), (3, 47, 6, 10, 0, []), (6, 0, 7, 0, (-1), []), (7, 53, 10, 11, 0, []), (10, 4, 11, 0, 0, []), (11, 72, 12, 0, 0, [])]
/-- TwoWayWall.read(II)I -/
def zcd80 : List (Nat × zI) := [(0, 4, 1, 1, 0, []), (1, 74, 4, 72, 1, []), (4, 40, 7, 18, 0, []), (7, 6, 8, 0, 0, []), (8, 56, 11, 11, 0, []), (11, 4, 12, 2, 0, []), (12, 76, 15, 28, 2, [6]), (15, 41, 18, 20, 0, []), (18, 0, 19, 0, (-1), []), (19, 72, 20, 0, 0, []), (20, 6, 21, 0, 0, []), (21, 4, 22, 1, 0, []), (22, 4, 23, 2, 0, []), (23, 76, 26, 81, 3, [11]), (26, 74, 29, 79, 1, []), (29, 72, 30, 0, 0, [])]
/-- TwoWayWall.kindAt(II)I -/
def zcd81 : List (Nat × zI) := [(0, 4, 1, 1, 0, []), (1, 41, 4, 8, 0, []), (4, 4, 5, 2, 0, []), (5, 53, 8, 19, 0, []), (8, 6, 9, 0, 0, []), (9, 56, 12, 11, 0, []), (12, 55, 15, 6, 0, []), (15, 0, 16, 0, 1, []), (16, 12, 17, 0, 0, []), (17, 4, 18, 2, 0, []), (18, 12, 19, 0, 0, []), (19, 7, 20, 3, 0, []), (20, 6, 21, 0, 0, []), (21, 56, 24, 11, 5, []), (24, 4, 25, 1, 0, []), (25, 6, 26, 0, 0, []), (26, 56, 29, 11, 0, []), (29, 56, 32, 6, 1, []), (32, 4, 33, 3, 0, []), (33, 60, 34, 0, 0, []), (34, 76, 37, 78, 3, [4]), (37, 72, 38, 0, 0, [])]
/-- TwoWayWall.spoken(I)I -/
def zcd82 : List (Nat × zI) := [(0, 4, 1, 1, 0, []), (1, 74, 4, 72, 1, []), (4, 41, 7, 9, 0, []), (7, 0, 8, 0, (-1), []), (8, 72, 9, 0, 0, []), (9, 0, 10, 0, 0, []), (10, 7, 11, 2, 0, []), (11, 0, 12, 0, 0, []), (12, 7, 13, 3, 0, []), (13, 0, 14, 0, 0, []), (14, 7, 16, 4, 0, []), (16, 4, 18, 4, 0, []), (18, 6, 19, 0, 0, []), (19, 56, 22, 11, 0, []), (22, 55, 25, 6, 0, []), (25, 50, 28, 79, 0, []), (28, 4, 30, 4, 0, []), (30, 6, 31, 0, 0, []), (31, 56, 34, 11, 0, []), (34, 55, 37, 6, 0, []), (37, 46, 40, 52, 0, []), (40, 6, 41, 0, 0, []), (41, 4, 42, 1, 0, []), (42, 4, 44, 4, 0, []), (44, 76, 47, 81, 3, [11]), (47, 0, 49, 0, 26, []), (49, 47, 52, 73, 0, []), (52, 6, 53, 0, 0, []), (53, 4, 54, 1, 0, []), (54, 4, 55, 3, 0, []), (55, 4, 57, 4, 0, []), (57, 76, 60, 83, 4, [11]), (60, 41, 63, 65, 0, []), (63, 0, 64, 0, 0, []), (64, 72, 65, 0, 0, []), (65, 10, 68, 2, 1, []), (68, 4, 70, 4, 0, []), (70, 0, 71, 0, 1, []), (71, 11, 72, 0, 0, []), (72, 7, 73, 3, 0, []), (73, 10, 76, 4, 1, []), (76, 53, 79, 16, 0, []), (79, 4, 80, 2, 0, []), (80, 72, 81, 0, 0, [])]
/-- TwoWayWall.isWord(III)Z -/
def zcd83 : List (Nat × zI) := [(0, 6, 1, 0, 0, []), (1, 56, 4, 11, 0, []), (4, 4, 5, 1, 0, []), (5, 76, 8, 74, 2, [6]), (8, 9, 10, 4, 0, []), (10, 0, 11, 0, 0, []), (11, 7, 13, 5, 0, []), (13, 4, 15, 5, 0, []), (15, 6, 17, 4, 0, []), (17, 55, 20, 9, 5, []), (20, 49, 23, 56, 0, []), (23, 6, 25, 4, 0, []), (25, 56, 28, 9, 3, []), (28, 4, 30, 5, 0, []), (30, 60, 31, 0, 0, []), (31, 4, 32, 3, 0, []), (32, 4, 33, 2, 0, []), (33, 12, 34, 0, 0, []), (34, 47, 37, 50, 0, []), (37, 6, 38, 0, 0, []), (38, 4, 39, 1, 0, []), (39, 4, 41, 5, 0, []), (41, 4, 42, 2, 0, []), (42, 76, 45, 84, 4, [11]), (45, 40, 48, 50, 0, []), (48, 0, 49, 0, 1, []), (49, 72, 50, 3, 0, []), (50, 10, 53, 5, 1, []), (53, 53, 56, 13, 0, []), (56, 0, 57, 0, 0, []), (57, 72, 58, 3, 0, [])]
/-- TwoWayWall.isWordAt(III)Z -/
def zcd84 : List (Nat × zI) := [(0, 6, 1, 0, 0, []), (1, 56, 4, 11, 0, []), (4, 4, 5, 1, 0, []), (5, 76, 8, 74, 2, [6]), (8, 9, 10, 4, 0, []), (10, 0, 11, 0, 0, []), (11, 7, 13, 5, 0, []), (13, 4, 15, 5, 0, []), (15, 6, 17, 4, 0, []), (17, 56, 20, 9, 3, []), (20, 4, 21, 2, 0, []), (21, 60, 22, 0, 0, []), (22, 49, 25, 53, 0, []), (25, 6, 26, 0, 0, []), (26, 4, 27, 1, 0, []), (27, 4, 28, 3, 0, []), (28, 4, 30, 5, 0, []), (30, 11, 31, 0, 0, []), (31, 76, 34, 81, 3, [11]), (34, 6, 36, 4, 0, []), (36, 4, 37, 2, 0, []), (37, 4, 39, 5, 0, []), (39, 76, 42, 76, 3, [9]), (42, 46, 45, 47, 0, []), (45, 0, 46, 0, 0, []), (46, 72, 47, 3, 0, []), (47, 10, 50, 5, 1, []), (50, 53, 53, 13, 0, []), (53, 0, 54, 0, 1, []), (54, 72, 55, 3, 0, [])]
/-- TwoWayWall.pair(III)I -/
def zcd85 : List (Nat × zI) := [(0, 4, 1, 1, 0, []), (1, 74, 4, 86, 1, []), (4, 40, 7, 14, 0, []), (7, 4, 8, 2, 0, []), (8, 74, 11, 86, 1, []), (11, 41, 14, 16, 0, []), (14, 0, 15, 0, (-1), []), (15, 72, 16, 0, 0, []), (16, 4, 17, 1, 0, []), (17, 74, 20, 87, 1, []), (20, 4, 21, 2, 0, []), (21, 74, 24, 87, 1, []), (24, 74, 27, 22, 2, []), (27, 7, 29, 4, 0, []), (29, 4, 30, 3, 0, []), (30, 41, 33, 44, 0, []), (33, 6, 34, 0, 0, []), (34, 56, 37, 11, 6, []), (37, 56, 40, 3, 0, []), (40, 4, 42, 4, 0, []), (42, 60, 43, 0, 0, []), (43, 72, 44, 0, 0, []), (44, 4, 45, 3, 0, []), (45, 0, 46, 0, 1, []), (46, 47, 49, 75, 0, []), (49, 6, 50, 0, 0, []), (50, 56, 53, 11, 6, []), (53, 56, 56, 3, 0, []), (56, 4, 58, 4, 0, []), (58, 60, 59, 0, 0, []), (59, 45, 62, 75, 0, []), (62, 6, 63, 0, 0, []), (63, 56, 66, 11, 6, []), (66, 56, 69, 3, 1, []), (69, 4, 71, 4, 0, []), (71, 60, 72, 0, 0, []), (72, 53, 75, 76, 0, []), (75, 0, 76, 0, (-1), []), (76, 72, 77, 0, 0, [])]
/-- TwoWayWall.isLetterOrGap(I)Z -/
def zcd86 : List (Nat × zI) := [(0, 4, 1, 0, 0, []), (1, 0, 2, 0, (-1), []), (2, 46, 5, 12, 0, []), (5, 4, 6, 0, 0, []), (6, 74, 9, 73, 1, []), (9, 40, 12, 16, 0, []), (12, 0, 13, 0, 1, []), (13, 53, 16, 17, 0, []), (16, 0, 17, 0, 0, []), (17, 72, 18, 3, 0, [])]
/-- TwoWayWall.gapForNone(I)I -/
def zcd87 : List (Nat × zI) := [(0, 4, 1, 0, 0, []), (1, 0, 2, 0, (-1), []), (2, 47, 5, 10, 0, []), (5, 0, 7, 0, 26, []), (7, 53, 10, 11, 0, []), (10, 4, 11, 0, 0, []), (11, 72, 12, 0, 0, [])]
/-- TwoWayWall.partners(I)I -/
def zcd88 : List (Nat × zI) := [(0, 4, 1, 1, 0, []), (1, 74, 4, 86, 1, []), (4, 41, 7, 9, 0, []), (7, 0, 8, 0, (-1), []), (8, 72, 9, 0, 0, []), (9, 0, 10, 0, 0, []), (10, 7, 11, 2, 0, []), (11, 0, 12, 0, 0, []), (12, 7, 13, 3, 0, []), (13, 4, 14, 3, 0, []), (14, 0, 16, 0, 27, []), (16, 49, 19, 50, 0, []), (19, 6, 20, 0, 0, []), (20, 56, 23, 11, 6, []), (23, 56, 26, 3, 0, []), (26, 4, 27, 1, 0, []), (27, 74, 30, 87, 1, []), (30, 4, 31, 3, 0, []), (31, 74, 34, 22, 2, []), (34, 60, 35, 0, 0, []), (35, 45, 38, 44, 0, []), (38, 4, 39, 2, 0, []), (39, 0, 40, 0, 1, []), (40, 4, 41, 3, 0, []), (41, 20, 42, 0, 0, []), (42, 15, 43, 0, 0, []), (43, 7, 44, 2, 0, []), (44, 10, 47, 3, 1, []), (47, 53, 50, 13, 0, []), (50, 4, 51, 2, 0, []), (51, 72, 52, 0, 0, [])]
/-- TwoWayWall.pairs()I -/
def zcd89 : List (Nat × zI) := [(0, 0, 1, 0, 0, []), (1, 7, 2, 1, 0, []), (2, 0, 3, 0, 0, []), (3, 7, 4, 2, 0, []), (4, 4, 5, 2, 0, []), (5, 6, 6, 0, 0, []), (6, 56, 9, 11, 6, []), (9, 55, 12, 3, 5, []), (12, 49, 15, 52, 0, []), (15, 6, 16, 0, 0, []), (16, 56, 19, 11, 6, []), (19, 56, 22, 3, 4, []), (22, 4, 23, 2, 0, []), (23, 60, 24, 0, 0, []), (24, 7, 25, 3, 0, []), (25, 4, 26, 3, 0, []), (26, 0, 28, 0, 27, []), (28, 17, 29, 0, 0, []), (29, 0, 31, 0, 26, []), (31, 46, 34, 46, 0, []), (34, 4, 35, 3, 0, []), (35, 0, 37, 0, 27, []), (37, 18, 38, 0, 0, []), (38, 0, 40, 0, 26, []), (40, 46, 43, 46, 0, []), (43, 10, 46, 1, 1, []), (46, 10, 49, 2, 1, []), (49, 53, 52, 4, 0, []), (52, 4, 53, 1, 0, []), (53, 72, 54, 0, 0, [])]
/-- TwoWayWall.say(II)I -/
def zcd90 : List (Nat × zI) := [(0, 4, 1, 1, 0, []), (1, 74, 4, 72, 1, []), (4, 40, 7, 14, 0, []), (7, 4, 8, 2, 0, []), (8, 74, 11, 86, 1, []), (11, 41, 14, 20, 0, []), (14, 6, 15, 0, 0, []), (15, 0, 16, 0, (-1), []), (16, 76, 19, 24, 2, [11]), (19, 72, 20, 0, 0, []), (20, 6, 21, 0, 0, []), (21, 56, 24, 11, 0, []), (24, 4, 25, 1, 0, []), (25, 76, 28, 74, 2, [6]), (28, 9, 29, 3, 0, []), (29, 6, 30, 3, 0, []), (30, 55, 33, 9, 7, []), (33, 0, 35, 0, 16, []), (35, 48, 38, 45, 0, []), (38, 6, 39, 0, 0, []), (39, 0, 41, 0, (-5), []), (41, 76, 44, 24, 2, [11]), (44, 72, 45, 0, 0, []), (45, 6, 46, 3, 0, []), (46, 56, 49, 9, 6, []), (49, 6, 50, 3, 0, []), (50, 55, 53, 9, 7, []), (53, 4, 54, 2, 0, []), (54, 74, 57, 87, 1, []), (57, 64, 58, 0, 0, []), (58, 6, 59, 3, 0, []), (59, 36, 60, 0, 0, []), (60, 55, 63, 9, 7, []), (63, 0, 64, 0, 1, []), (64, 11, 65, 0, 0, []), (65, 57, 68, 9, 7, []), (68, 6, 69, 0, 0, []), (69, 6, 70, 3, 0, []), (70, 55, 73, 9, 7, []), (73, 76, 76, 26, 2, [11]), (76, 72, 77, 0, 0, [])]
/-- TwoWayWall.hush(I)I -/
def zcd91 : List (Nat × zI) := [(0, 4, 1, 1, 0, []), (1, 74, 4, 72, 1, []), (4, 41, 7, 13, 0, []), (7, 6, 8, 0, 0, []), (8, 0, 9, 0, (-1), []), (9, 76, 12, 24, 2, [11]), (12, 72, 13, 0, 0, []), (13, 6, 14, 0, 0, []), (14, 56, 17, 11, 0, []), (17, 4, 18, 1, 0, []), (18, 76, 21, 74, 2, [6]), (21, 55, 24, 9, 7, []), (24, 7, 25, 2, 0, []), (25, 6, 26, 0, 0, []), (26, 56, 29, 11, 0, []), (29, 4, 30, 1, 0, []), (30, 76, 33, 74, 2, [6]), (33, 0, 34, 0, 0, []), (34, 57, 37, 9, 7, []), (37, 6, 38, 0, 0, []), (38, 4, 39, 2, 0, []), (39, 76, 42, 26, 2, [11]), (42, 72, 43, 0, 0, [])]
/-- TwoWayWall.near(I)I -/
def zcd92 : List (Nat × zI) := [(0, 6, 1, 0, 0, []), (1, 56, 4, 11, 0, []), (4, 56, 7, 6, 5, []), (7, 55, 10, 9, 7, []), (10, 7, 11, 2, 0, []), (11, 4, 12, 1, 0, []), (12, 42, 15, 34, 0, []), (15, 4, 16, 1, 0, []), (16, 0, 17, 0, 2, []), (17, 50, 20, 34, 0, []), (20, 4, 21, 2, 0, []), (21, 6, 22, 0, 0, []), (22, 56, 25, 11, 0, []), (25, 56, 28, 6, 6, []), (28, 55, 31, 9, 7, []), (31, 46, 34, 36, 0, []), (34, 0, 35, 0, (-1), []), (35, 72, 36, 0, 0, []), (36, 0, 37, 0, 0, []), (37, 7, 38, 3, 0, []), (38, 0, 39, 0, 0, []), (39, 7, 41, 4, 0, []), (41, 1, 42, 0, 1, []), (42, 8, 44, 5, 0, []), (44, 0, 45, 0, 0, []), (45, 7, 47, 7, 0, []), (47, 4, 49, 7, 0, []), (49, 4, 50, 2, 0, []), (50, 49, 53, 107, 0, []), (53, 6, 54, 0, 0, []), (54, 4, 56, 7, 0, []), (56, 4, 57, 2, 0, []), (57, 76, 60, 93, 3, [11]), (60, 4, 61, 3, 0, []), (61, 6, 62, 0, 0, []), (62, 56, 65, 11, 8, []), (65, 55, 68, 2, 0, []), (68, 11, 69, 0, 0, []), (69, 7, 70, 3, 0, []), (70, 4, 72, 4, 0, []), (72, 6, 73, 0, 0, []), (73, 56, 76, 11, 8, []), (76, 55, 79, 2, 1, []), (79, 11, 80, 0, 0, []), (80, 7, 82, 4, 0, []), (82, 1, 85, 0, 1000000000, []), (85, 5, 87, 5, 0, []), (87, 6, 88, 0, 0, []), (88, 56, 91, 11, 8, []), (91, 55, 94, 2, 3, []), (94, 32, 95, 0, 0, []), (95, 25, 96, 0, 0, []), (96, 86, 99, 0, 0, []), (99, 8, 101, 5, 0, []), (101, 10, 104, 7, 1, []), (104, 53, 107, 47, 0, []), (107, 4, 108, 1, 0, []), (108, 41, 111, 113, 0, []), (111, 4, 112, 3, 0, []), (112, 72, 113, 0, 0, []), (113, 4, 114, 1, 0, []), (114, 0, 115, 0, 1, []), (115, 47, 118, 123, 0, []), (118, 4, 120, 4, 0, []), (120, 53, 123, 126, 0, []), (123, 5, 125, 5, 0, []), (125, 33, 126, 0, 0, []), (126, 72, 127, 0, 0, [])]
/-- TwoWayWall.findNearest(II)V -/
def zcd93 : List (Nat × zI) := [(0, 6, 1, 0, 0, []), (1, 56, 4, 11, 8, []), (4, 6, 5, 0, 0, []), (5, 56, 8, 11, 6, []), (8, 6, 9, 0, 0, []), (9, 56, 12, 11, 0, []), (12, 56, 15, 6, 5, []), (15, 56, 18, 9, 6, []), (18, 4, 19, 1, 0, []), (19, 60, 20, 0, 0, []), (20, 6, 21, 0, 0, []), (21, 56, 24, 11, 0, []), (24, 56, 27, 6, 6, []), (27, 56, 30, 9, 6, []), (30, 4, 31, 2, 0, []), (31, 0, 32, 0, 1, []), (32, 12, 33, 0, 0, []), (33, 4, 34, 1, 0, []), (34, 12, 35, 0, 0, []), (35, 60, 36, 0, 0, []), (36, 76, 39, 94, 4, [2]), (39, 73, 40, 0, 0, [])]
/-- TwoWayWall$Nearest.find(LTwoWayWall$PairTable;II)V -/
def zcd94 : List (Nat × zI) := [(0, 6, 1, 0, 0, []), (1, 0, 3, 0, 1000000, []), (3, 57, 6, 2, 0, []), (6, 0, 7, 0, 0, []), (7, 7, 9, 4, 0, []), (9, 4, 11, 4, 0, []), (11, 6, 12, 1, 0, []), (12, 55, 15, 3, 5, []), (15, 49, 18, 103, 0, []), (18, 6, 19, 1, 0, []), (19, 56, 22, 3, 4, []), (22, 4, 24, 4, 0, []), (24, 60, 25, 0, 0, []), (25, 7, 27, 5, 0, []), (27, 4, 29, 5, 0, []), (29, 0, 31, 0, 27, []), (31, 17, 32, 0, 0, []), (32, 4, 33, 2, 0, []), (33, 47, 36, 40, 0, []), (36, 0, 37, 0, 0, []), (37, 53, 40, 41, 0, []), (40, 0, 41, 0, 1, []), (41, 7, 43, 6, 0, []), (43, 4, 45, 5, 0, []), (45, 0, 47, 0, 27, []), (47, 18, 48, 0, 0, []), (48, 4, 49, 3, 0, []), (49, 46, 52, 55, 0, []), (52, 10, 55, 6, 1, []), (55, 4, 57, 6, 0, []), (57, 6, 58, 0, 0, []), (58, 55, 61, 2, 0, []), (61, 49, 64, 81, 0, []), (64, 6, 65, 0, 0, []), (65, 4, 67, 6, 0, []), (67, 57, 70, 2, 0, []), (70, 6, 71, 0, 0, []), (71, 0, 73, 0, 1000000, []), (73, 57, 76, 2, 1, []), (76, 6, 77, 0, 0, []), (77, 0, 78, 0, 0, []), (78, 57, 81, 2, 3, []), (81, 4, 83, 6, 0, []), (83, 6, 84, 0, 0, []), (84, 55, 87, 2, 0, []), (87, 47, 90, 97, 0, []), (90, 6, 91, 0, 0, []), (91, 6, 92, 1, 0, []), (92, 4, 94, 5, 0, []), (94, 76, 97, 95, 3, [2]), (97, 10, 100, 4, 1, []), (100, 53, 103, 9, 0, []), (103, 73, 104, 0, 0, [])]
/-- TwoWayWall$Nearest.choose(LTwoWayWall$PairTable;I)V -/
def zcd95 : List (Nat × zI) := [(0, 6, 1, 0, 0, []), (1, 36, 2, 0, 0, []), (2, 55, 5, 2, 3, []), (5, 6, 6, 1, 0, []), (6, 56, 9, 3, 0, []), (9, 4, 10, 2, 0, []), (10, 60, 11, 0, 0, []), (11, 11, 12, 0, 0, []), (12, 57, 15, 2, 3, []), (15, 6, 16, 1, 0, []), (16, 56, 19, 3, 2, []), (19, 4, 20, 2, 0, []), (20, 60, 21, 0, 0, []), (21, 6, 22, 0, 0, []), (22, 55, 25, 2, 1, []), (25, 47, 28, 32, 0, []), (28, 0, 29, 0, 1, []), (29, 53, 32, 33, 0, []), (32, 0, 33, 0, 0, []), (33, 7, 34, 3, 0, []), (34, 6, 35, 1, 0, []), (35, 56, 38, 3, 2, []), (38, 4, 39, 2, 0, []), (39, 60, 40, 0, 0, []), (40, 6, 41, 0, 0, []), (41, 55, 44, 2, 1, []), (44, 48, 47, 64, 0, []), (47, 4, 48, 3, 0, []), (48, 40, 51, 84, 0, []), (51, 6, 52, 1, 0, []), (52, 56, 55, 3, 1, []), (55, 4, 56, 2, 0, []), (56, 60, 57, 0, 0, []), (57, 6, 58, 0, 0, []), (58, 55, 61, 2, 2, []), (61, 49, 64, 84, 0, []), (64, 6, 65, 0, 0, []), (65, 6, 66, 1, 0, []), (66, 56, 69, 3, 2, []), (69, 4, 70, 2, 0, []), (70, 60, 71, 0, 0, []), (71, 57, 74, 2, 1, []), (74, 6, 75, 0, 0, []), (75, 6, 76, 1, 0, []), (76, 56, 79, 3, 1, []), (79, 4, 80, 2, 0, []), (80, 60, 81, 0, 0, []), (81, 57, 84, 2, 2, []), (84, 73, 85, 0, 0, [])]
/-- java/lang/Math.min(JJ)J -/
def zcd96 : List (Nat × zI) := []
/-- TwoWayWall.nearAt(I)I -/
def zcd97 : List (Nat × zI) := [(0, 6, 1, 0, 0, []), (1, 56, 4, 11, 0, []), (4, 56, 7, 6, 5, []), (7, 55, 10, 9, 7, []), (10, 7, 11, 2, 0, []), (11, 4, 12, 2, 0, []), (12, 6, 13, 0, 0, []), (13, 56, 16, 11, 0, []), (16, 56, 19, 6, 6, []), (19, 55, 22, 9, 7, []), (22, 47, 25, 34, 0, []), (25, 4, 26, 1, 0, []), (26, 42, 29, 34, 0, []), (29, 4, 30, 1, 0, []), (30, 4, 31, 2, 0, []), (31, 48, 34, 36, 0, []), (34, 0, 35, 0, (-1), []), (35, 72, 36, 0, 0, []), (36, 6, 37, 0, 0, []), (37, 4, 38, 1, 0, []), (38, 4, 39, 2, 0, []), (39, 76, 42, 93, 3, [11]), (42, 6, 43, 0, 0, []), (43, 56, 46, 11, 8, []), (46, 55, 49, 2, 2, []), (49, 72, 50, 0, 0, [])]
/-- TwoWayWall.mean(II)I -/
def zcd98 : List (Nat × zI) := [(0, 4, 1, 1, 0, []), (1, 74, 4, 72, 1, []), (4, 40, 7, 17, 0, []), (7, 4, 8, 2, 0, []), (8, 42, 11, 17, 0, []), (11, 4, 12, 2, 0, []), (12, 0, 14, 0, 8, []), (14, 48, 17, 23, 0, []), (17, 6, 18, 0, 0, []), (18, 0, 19, 0, (-1), []), (19, 76, 22, 24, 2, [11]), (22, 72, 23, 0, 0, []), (23, 6, 24, 0, 0, []), (24, 56, 27, 11, 0, []), (27, 4, 28, 1, 0, []), (28, 76, 31, 74, 2, [6]), (31, 9, 32, 3, 0, []), (32, 6, 33, 3, 0, []), (33, 55, 36, 9, 9, []), (36, 0, 37, 0, 4, []), (37, 48, 40, 47, 0, []), (40, 6, 41, 0, 0, []), (41, 0, 43, 0, (-5), []), (43, 76, 46, 24, 2, [11]), (46, 72, 47, 0, 0, []), (47, 6, 48, 3, 0, []), (48, 56, 51, 9, 8, []), (51, 6, 52, 3, 0, []), (52, 55, 55, 9, 9, []), (55, 4, 56, 2, 0, []), (56, 64, 57, 0, 0, []), (57, 6, 58, 3, 0, []), (58, 36, 59, 0, 0, []), (59, 55, 62, 9, 9, []), (62, 0, 63, 0, 1, []), (63, 11, 64, 0, 0, []), (64, 57, 67, 9, 9, []), (67, 6, 68, 0, 0, []), (68, 0, 69, 0, 0, []), (69, 58, 72, 11, 14, []), (72, 6, 73, 0, 0, []), (73, 6, 74, 3, 0, []), (74, 55, 77, 9, 9, []), (77, 76, 80, 26, 2, [11]), (80, 72, 81, 0, 0, [])]
/-- TwoWayWall.forget(I)I -/
def zcd99 : List (Nat × zI) := [(0, 4, 1, 1, 0, []), (1, 74, 4, 72, 1, []), (4, 41, 7, 13, 0, []), (7, 6, 8, 0, 0, []), (8, 0, 9, 0, (-1), []), (9, 76, 12, 24, 2, [11]), (12, 72, 13, 0, 0, []), (13, 6, 14, 0, 0, []), (14, 56, 17, 11, 0, []), (17, 4, 18, 1, 0, []), (18, 76, 21, 74, 2, [6]), (21, 55, 24, 9, 9, []), (24, 7, 25, 2, 0, []), (25, 6, 26, 0, 0, []), (26, 56, 29, 11, 0, []), (29, 4, 30, 1, 0, []), (30, 76, 33, 74, 2, [6]), (33, 0, 34, 0, 0, []), (34, 57, 37, 9, 9, []), (37, 6, 38, 0, 0, []), (38, 0, 39, 0, 0, []), (39, 58, 42, 11, 14, []), (42, 6, 43, 0, 0, []), (43, 4, 44, 2, 0, []), (44, 76, 47, 26, 2, [11]), (47, 72, 48, 0, 0, [])]
/-- TwoWayWall.tells()J -/
def zcd100 : List (Nat × zI) := [(0, 6, 1, 0, 0, []), (1, 76, 4, 101, 1, [11]), (4, 6, 5, 0, 0, []), (5, 56, 8, 11, 10, []), (8, 56, 11, 1, 3, []), (11, 6, 12, 0, 0, []), (12, 56, 15, 11, 0, []), (15, 55, 18, 6, 0, []), (18, 61, 19, 0, 0, []), (19, 72, 20, 1, 0, [])]
/-- TwoWayWall.findTellings()V -/
def zcd101 : List (Nat × zI) := [(0, 6, 1, 0, 0, []), (1, 55, 4, 11, 14, []), (4, 40, 7, 8, 0, []), (7, 73, 8, 0, 0, []), (8, 6, 9, 0, 0, []), (9, 56, 12, 11, 9, []), (12, 56, 15, 0, 0, []), (15, 6, 16, 0, 0, []), (16, 56, 19, 11, 0, []), (19, 56, 22, 6, 5, []), (22, 0, 23, 0, 0, []), (23, 76, 26, 102, 3, [5]), (26, 6, 27, 0, 0, []), (27, 56, 30, 11, 9, []), (30, 56, 33, 0, 1, []), (33, 6, 34, 0, 0, []), (34, 56, 37, 11, 0, []), (37, 56, 40, 6, 6, []), (40, 0, 41, 0, 1, []), (41, 76, 44, 102, 3, [5]), (44, 6, 45, 0, 0, []), (45, 56, 48, 11, 9, []), (48, 76, 51, 106, 1, [0]), (51, 0, 52, 0, 0, []), (52, 7, 53, 1, 0, []), (53, 4, 54, 1, 0, []), (54, 0, 56, 0, 16, []), (56, 49, 59, 91, 0, []), (59, 6, 60, 0, 0, []), (60, 56, 63, 11, 9, []), (63, 6, 64, 0, 0, []), (64, 56, 67, 11, 6, []), (67, 4, 68, 1, 0, []), (68, 76, 71, 113, 3, [0]), (71, 6, 72, 0, 0, []), (72, 56, 75, 11, 9, []), (75, 6, 76, 0, 0, []), (76, 56, 79, 11, 10, []), (79, 4, 80, 1, 0, []), (80, 0, 81, 0, 1, []), (81, 11, 82, 0, 0, []), (82, 76, 85, 118, 3, [0]), (85, 10, 88, 1, 1, []), (88, 53, 91, 53, 0, []), (91, 6, 92, 0, 0, []), (92, 0, 93, 0, 1, []), (93, 58, 96, 11, 14, []), (96, 73, 97, 0, 0, [])]
/-- TwoWayWall$Rows.makeStory(LTwoWayWall$Tongue;Z)V -/
def zcd102 : List (Nat × zI) := [(0, 6, 1, 1, 0, []), (1, 55, 4, 9, 9, []), (4, 7, 5, 3, 0, []), (5, 6, 6, 0, 0, []), (6, 0, 7, 0, 0, []), (7, 57, 10, 5, 5, []), (10, 6, 11, 0, 0, []), (11, 0, 13, 0, 26, []), (13, 76, 16, 103, 2, [5]), (16, 7, 18, 4, 0, []), (18, 4, 19, 3, 0, []), (19, 41, 22, 39, 0, []), (22, 6, 23, 0, 0, []), (23, 56, 26, 5, 3, []), (26, 4, 28, 4, 0, []), (28, 4, 30, 4, 0, []), (30, 64, 31, 0, 0, []), (31, 6, 32, 0, 0, []), (32, 56, 35, 5, 4, []), (35, 4, 37, 4, 0, []), (37, 0, 38, 0, 1, []), (38, 66, 39, 0, 0, []), (39, 0, 40, 0, 1, []), (40, 7, 42, 5, 0, []), (42, 4, 44, 5, 0, []), (44, 4, 45, 3, 0, []), (45, 49, 48, 61, 0, []), (48, 6, 49, 0, 0, []), (49, 0, 51, 0, 26, []), (51, 76, 54, 103, 2, [5]), (54, 37, 55, 0, 0, []), (55, 10, 58, 5, 1, []), (58, 53, 61, 42, 0, []), (61, 0, 62, 0, 0, []), (62, 7, 64, 5, 0, []), (64, 4, 66, 5, 0, []), (66, 4, 67, 3, 0, []), (67, 49, 70, 183, 0, []), (70, 6, 71, 1, 0, []), (71, 56, 74, 9, 8, []), (74, 4, 75, 2, 0, []), (75, 40, 78, 87, 0, []), (78, 4, 79, 3, 0, []), (79, 0, 80, 0, 1, []), (80, 12, 81, 0, 0, []), (81, 4, 83, 5, 0, []), (83, 12, 84, 0, 0, []), (84, 53, 87, 89, 0, []), (87, 4, 89, 5, 0, []), (89, 60, 90, 0, 0, []), (90, 7, 92, 6, 0, []), (92, 0, 93, 0, 0, []), (93, 7, 95, 7, 0, []), (95, 4, 97, 7, 0, []), (97, 6, 98, 1, 0, []), (98, 55, 101, 9, 5, []), (101, 49, 104, 177, 0, []), (104, 6, 105, 1, 0, []), (105, 56, 108, 9, 2, []), (108, 4, 110, 7, 0, []), (110, 60, 111, 0, 0, []), (111, 4, 113, 6, 0, []), (113, 47, 116, 171, 0, []), (116, 6, 117, 0, 0, []), (117, 4, 119, 5, 0, []), (119, 6, 120, 1, 0, []), (120, 4, 122, 7, 0, []), (122, 4, 123, 2, 0, []), (123, 76, 126, 104, 5, [5]), (126, 7, 128, 8, 0, []), (128, 6, 129, 0, 0, []), (129, 56, 132, 5, 4, []), (132, 4, 134, 8, 0, []), (134, 4, 136, 5, 0, []), (136, 4, 137, 3, 0, []), (137, 0, 138, 0, 1, []), (138, 12, 139, 0, 0, []), (139, 47, 142, 146, 0, []), (142, 0, 143, 0, 1, []), (143, 53, 146, 147, 0, []), (146, 0, 147, 0, 0, []), (147, 66, 148, 0, 0, []), (148, 6, 149, 0, 0, []), (149, 56, 152, 5, 3, []), (152, 4, 154, 8, 0, []), (154, 4, 156, 5, 0, []), (156, 4, 157, 3, 0, []), (157, 0, 158, 0, 1, []), (158, 12, 159, 0, 0, []), (159, 47, 162, 166, 0, []), (162, 0, 163, 0, (-1), []), (163, 53, 166, 170, 0, []), (166, 4, 168, 5, 0, []), (168, 0, 169, 0, 1, []), (169, 11, 170, 0, 0, []), (170, 64, 171, 0, 0, []), (171, 10, 174, 7, 1, []), (174, 53, 177, 95, 0, []), (177, 10, 180, 5, 1, []), (180, 53, 183, 64, 0, []), (183, 73, 184, 0, 0, [])]
/-- TwoWayWall$Rows.addNode(I)I -/
def zcd103 : List (Nat × zI) := [(0, 6, 1, 0, 0, []), (1, 55, 4, 5, 5, []), (4, 0, 7, 0, 195, []), (7, 85, 10, 0, 0, []), (10, 7, 11, 2, 0, []), (11, 6, 12, 0, 0, []), (12, 56, 15, 5, 0, []), (15, 4, 16, 2, 0, []), (16, 4, 17, 1, 0, []), (17, 64, 18, 0, 0, []), (18, 6, 19, 0, 0, []), (19, 56, 22, 5, 1, []), (22, 4, 23, 2, 0, []), (23, 0, 24, 0, (-1), []), (24, 64, 25, 0, 0, []), (25, 6, 26, 0, 0, []), (26, 56, 29, 5, 2, []), (29, 4, 30, 2, 0, []), (30, 0, 31, 0, (-1), []), (31, 64, 32, 0, 0, []), (32, 6, 33, 0, 0, []), (33, 56, 36, 5, 3, []), (36, 4, 37, 2, 0, []), (37, 0, 38, 0, (-1), []), (38, 64, 39, 0, 0, []), (39, 6, 40, 0, 0, []), (40, 56, 43, 5, 4, []), (43, 4, 44, 2, 0, []), (44, 0, 45, 0, 0, []), (45, 66, 46, 0, 0, []), (46, 6, 47, 0, 0, []), (47, 4, 48, 2, 0, []), (48, 0, 49, 0, 1, []), (49, 11, 50, 0, 0, []), (50, 57, 53, 5, 5, []), (53, 4, 54, 2, 0, []), (54, 72, 55, 0, 0, [])]
/-- TwoWayWall$Rows.addWord(ILTwoWayWall$Tongue;IZ)I -/
def zcd104 : List (Nat × zI) := [(0, 6, 1, 2, 0, []), (1, 56, 4, 9, 3, []), (4, 4, 5, 3, 0, []), (5, 60, 6, 0, 0, []), (6, 7, 8, 5, 0, []), (8, 4, 9, 1, 0, []), (9, 7, 11, 6, 0, []), (11, 0, 12, 0, 0, []), (12, 7, 14, 7, 0, []), (14, 4, 16, 7, 0, []), (16, 4, 18, 5, 0, []), (18, 49, 21, 57, 0, []), (21, 6, 22, 0, 0, []), (22, 4, 24, 6, 0, []), (24, 6, 25, 2, 0, []), (25, 4, 26, 3, 0, []), (26, 4, 28, 4, 0, []), (28, 40, 31, 41, 0, []), (31, 4, 33, 5, 0, []), (33, 0, 34, 0, 1, []), (34, 12, 35, 0, 0, []), (35, 4, 37, 7, 0, []), (37, 12, 38, 0, 0, []), (38, 53, 41, 43, 0, []), (41, 4, 43, 7, 0, []), (43, 76, 46, 76, 3, [9]), (46, 76, 49, 105, 3, [5]), (49, 7, 51, 6, 0, []), (51, 10, 54, 7, 1, []), (54, 53, 57, 14, 0, []), (57, 4, 59, 6, 0, []), (59, 72, 60, 0, 0, [])]
/-- TwoWayWall$Rows.childOf(II)I -/
def zcd105 : List (Nat × zI) := [(0, 6, 1, 0, 0, []), (1, 56, 4, 5, 1, []), (4, 4, 5, 1, 0, []), (5, 60, 6, 0, 0, []), (6, 7, 7, 3, 0, []), (7, 0, 8, 0, 0, []), (8, 7, 10, 4, 0, []), (10, 4, 12, 4, 0, []), (12, 0, 14, 0, 8, []), (14, 49, 17, 47, 0, []), (17, 4, 18, 3, 0, []), (18, 0, 19, 0, (-1), []), (19, 46, 22, 47, 0, []), (22, 6, 23, 0, 0, []), (23, 56, 26, 5, 0, []), (26, 4, 27, 3, 0, []), (27, 60, 28, 0, 0, []), (28, 4, 29, 2, 0, []), (29, 47, 32, 34, 0, []), (32, 4, 33, 3, 0, []), (33, 72, 34, 0, 0, []), (34, 6, 35, 0, 0, []), (35, 56, 38, 5, 2, []), (38, 4, 39, 3, 0, []), (39, 60, 40, 0, 0, []), (40, 7, 41, 3, 0, []), (41, 10, 44, 4, 1, []), (44, 53, 47, 10, 0, []), (47, 6, 48, 0, 0, []), (48, 4, 49, 2, 0, []), (49, 76, 52, 103, 2, [5]), (52, 7, 54, 4, 0, []), (54, 4, 56, 4, 0, []), (56, 4, 57, 1, 0, []), (57, 46, 60, 81, 0, []), (60, 6, 61, 0, 0, []), (61, 56, 64, 5, 2, []), (64, 4, 66, 4, 0, []), (66, 6, 67, 0, 0, []), (67, 56, 70, 5, 1, []), (70, 4, 71, 1, 0, []), (71, 60, 72, 0, 0, []), (72, 64, 73, 0, 0, []), (73, 6, 74, 0, 0, []), (74, 56, 77, 5, 1, []), (77, 4, 78, 1, 0, []), (78, 4, 80, 4, 0, []), (80, 64, 81, 0, 0, []), (81, 4, 83, 4, 0, []), (83, 72, 84, 0, 0, [])]
/-- TwoWayWall$Crossing.begin()V -/
def zcd106 : List (Nat × zI) := [(0, 6, 1, 0, 0, []), (1, 56, 4, 0, 0, []), (4, 55, 7, 5, 5, []), (7, 6, 8, 0, 0, []), (8, 56, 11, 0, 1, []), (11, 55, 14, 5, 5, []), (14, 13, 15, 0, 0, []), (15, 7, 16, 1, 0, []), (16, 6, 17, 0, 0, []), (17, 56, 20, 0, 4, []), (20, 68, 21, 0, 0, []), (21, 4, 22, 1, 0, []), (22, 49, 25, 47, 0, []), (25, 6, 26, 0, 0, []), (26, 0, 27, 0, 2, []), (27, 4, 28, 1, 0, []), (28, 13, 29, 0, 0, []), (29, 0, 31, 0, 38416, []), (31, 85, 34, 0, 0, []), (34, 70, 36, 0, 0, []), (36, 59, 39, 0, 4, []), (39, 6, 40, 0, 0, []), (40, 56, 43, 0, 4, []), (43, 0, 44, 0, (-1), []), (44, 74, 47, 18, 2, []), (47, 6, 48, 0, 0, []), (48, 56, 51, 0, 2, []), (51, 0, 52, 0, 0, []), (52, 57, 55, 1, 0, []), (55, 6, 56, 0, 0, []), (56, 56, 59, 0, 2, []), (59, 0, 60, 0, 0, []), (60, 0, 61, 0, 0, []), (61, 76, 64, 107, 3, [1]), (64, 7, 65, 2, 0, []), (65, 6, 66, 0, 0, []), (66, 56, 69, 0, 2, []), (69, 4, 70, 2, 0, []), (70, 1, 71, 0, 1, []), (71, 0, 72, 0, 0, []), (72, 1, 73, 0, 0, []), (73, 1, 74, 0, 0, []), (74, 0, 75, 0, 0, []), (75, 76, 78, 112, 7, [1]), (78, 73, 79, 0, 0, [])]
/-- TwoWayWall$Layer.open(II)I -/
def zcd107 : List (Nat × zI) := [(0, 6, 1, 0, 0, []), (1, 55, 4, 1, 0, []), (4, 6, 5, 0, 0, []), (5, 56, 8, 1, 3, []), (8, 68, 9, 0, 0, []), (9, 48, 12, 22, 0, []), (12, 6, 13, 0, 0, []), (13, 0, 14, 0, 2, []), (14, 6, 15, 0, 0, []), (15, 55, 18, 1, 0, []), (18, 13, 19, 0, 0, []), (19, 76, 22, 108, 2, [1]), (22, 6, 23, 0, 0, []), (23, 55, 26, 1, 0, []), (26, 7, 27, 3, 0, []), (27, 6, 28, 0, 0, []), (28, 36, 29, 0, 0, []), (29, 55, 32, 1, 0, []), (32, 0, 33, 0, 1, []), (33, 11, 34, 0, 0, []), (34, 57, 37, 1, 0, []), (37, 6, 38, 0, 0, []), (38, 56, 41, 1, 1, []), (41, 4, 42, 3, 0, []), (42, 4, 43, 1, 0, []), (43, 64, 44, 0, 0, []), (44, 6, 45, 0, 0, []), (45, 56, 48, 1, 2, []), (48, 4, 49, 3, 0, []), (49, 4, 50, 2, 0, []), (50, 64, 51, 0, 0, []), (51, 6, 52, 0, 0, []), (52, 4, 53, 3, 0, []), (53, 76, 56, 111, 2, [1]), (56, 4, 57, 3, 0, []), (57, 72, 58, 0, 0, [])]
/-- TwoWayWall$Layer.grow(I)V -/
def zcd108 : List (Nat × zI) := [(0, 6, 1, 0, 0, []), (1, 6, 2, 0, 0, []), (2, 56, 5, 1, 1, []), (5, 4, 6, 1, 0, []), (6, 74, 9, 109, 2, []), (9, 59, 12, 1, 1, []), (12, 6, 13, 0, 0, []), (13, 6, 14, 0, 0, []), (14, 56, 17, 1, 2, []), (17, 4, 18, 1, 0, []), (18, 74, 21, 109, 2, []), (21, 59, 24, 1, 2, []), (24, 6, 25, 0, 0, []), (25, 6, 26, 0, 0, []), (26, 56, 29, 1, 3, []), (29, 4, 30, 1, 0, []), (30, 74, 33, 110, 2, []), (33, 59, 36, 1, 3, []), (36, 6, 37, 0, 0, []), (37, 6, 38, 0, 0, []), (38, 56, 41, 1, 4, []), (41, 4, 42, 1, 0, []), (42, 74, 45, 109, 2, []), (45, 59, 48, 1, 4, []), (48, 6, 49, 0, 0, []), (49, 6, 50, 0, 0, []), (50, 56, 53, 1, 5, []), (53, 4, 54, 1, 0, []), (54, 74, 57, 110, 2, []), (57, 59, 60, 1, 5, []), (60, 6, 61, 0, 0, []), (61, 6, 62, 0, 0, []), (62, 56, 65, 1, 6, []), (65, 4, 66, 1, 0, []), (66, 74, 69, 110, 2, []), (69, 59, 72, 1, 6, []), (72, 6, 73, 0, 0, []), (73, 6, 74, 0, 0, []), (74, 56, 77, 1, 7, []), (77, 4, 78, 1, 0, []), (78, 74, 81, 109, 2, []), (81, 59, 84, 1, 7, []), (84, 73, 85, 0, 0, [])]
/-- java/util/Arrays.copyOf([II)[I -/
def zcd109 : List (Nat × zI) := [(0, 4, 1, 1, 0, []), (1, 6, 2, 0, 0, []), (2, 68, 3, 0, 0, []), (3, 47, 6, 14, 0, []), (6, 6, 7, 0, 0, []), (13, 72, 14, 2, 0, []), (14, 4, 15, 1, 0, []), (15, 70, 17, 0, 0, []), (17, 9, 18, 2, 0, []), (18, 6, 19, 0, 0, []), (19, 0, 20, 0, 0, []), (20, 6, 21, 2, 0, []), (21, 0, 22, 0, 0, []), (22, 6, 23, 0, 0, []), (23, 68, 24, 0, 0, []), (24, 4, 25, 1, 0, []), (25, 85, 28, 0, 0, []), (28, 79, 31, 0, 0, []), (31, 6, 32, 2, 0, []), (32, 72, 33, 2, 0, [])]
/-- java/util/Arrays.copyOf([JI)[J -/
def zcd110 : List (Nat × zI) := [(0, 4, 1, 1, 0, []), (1, 6, 2, 0, 0, []), (2, 68, 3, 0, 0, []), (3, 47, 6, 14, 0, []), (6, 6, 7, 0, 0, []), (13, 72, 14, 2, 0, []), (14, 4, 15, 1, 0, []), (15, 70, 17, 1, 0, []), (17, 9, 18, 2, 0, []), (18, 6, 19, 0, 0, []), (19, 0, 20, 0, 0, []), (20, 6, 21, 2, 0, []), (21, 0, 22, 0, 0, []), (22, 6, 23, 0, 0, []), (23, 68, 24, 0, 0, []), (24, 4, 25, 1, 0, []), (25, 85, 28, 0, 0, []), (28, 79, 31, 0, 0, []), (31, 6, 32, 2, 0, []), (32, 72, 33, 2, 0, [])]
/-- TwoWayWall$Layer.blank(I)V -/
def zcd111 : List (Nat × zI) := [(0, 6, 1, 0, 0, []), (1, 56, 4, 1, 3, []), (4, 4, 5, 1, 0, []), (5, 1, 6, 0, 0, []), (6, 65, 7, 0, 0, []), (7, 6, 8, 0, 0, []), (8, 56, 11, 1, 4, []), (11, 4, 12, 1, 0, []), (12, 0, 14, 0, 1000000, []), (14, 64, 15, 0, 0, []), (15, 6, 16, 0, 0, []), (16, 56, 19, 1, 5, []), (19, 4, 20, 1, 0, []), (20, 1, 21, 0, 0, []), (21, 65, 22, 0, 0, []), (22, 6, 23, 0, 0, []), (23, 56, 26, 1, 6, []), (26, 4, 27, 1, 0, []), (27, 1, 28, 0, 0, []), (28, 65, 29, 0, 0, []), (29, 6, 30, 0, 0, []), (30, 56, 33, 1, 7, []), (33, 4, 34, 1, 0, []), (34, 0, 35, 0, 0, []), (35, 64, 36, 0, 0, []), (36, 73, 37, 0, 0, [])]
/-- TwoWayWall$Layer.take(IJIJJI)V -/
def zcd112 : List (Nat × zI) := [(0, 6, 1, 0, 0, []), (1, 56, 4, 1, 3, []), (4, 4, 5, 1, 0, []), (5, 1, 8, 0, 1000000000000, []), (8, 6, 9, 0, 0, []), (9, 56, 12, 1, 3, []), (12, 4, 13, 1, 0, []), (13, 61, 14, 0, 0, []), (14, 5, 15, 2, 0, []), (15, 23, 16, 0, 0, []), (16, 86, 19, 0, 0, []), (19, 65, 20, 0, 0, []), (20, 6, 21, 0, 0, []), (21, 56, 24, 1, 7, []), (24, 4, 25, 1, 0, []), (25, 38, 26, 0, 0, []), (26, 60, 27, 0, 0, []), (27, 4, 29, 9, 0, []), (29, 15, 30, 0, 0, []), (30, 64, 31, 0, 0, []), (31, 5, 33, 5, 0, []), (33, 6, 34, 0, 0, []), (34, 56, 37, 1, 5, []), (37, 4, 38, 1, 0, []), (38, 61, 39, 0, 0, []), (39, 31, 40, 0, 0, []), (40, 42, 43, 67, 0, []), (43, 5, 45, 5, 0, []), (45, 6, 46, 0, 0, []), (46, 56, 49, 1, 5, []), (49, 4, 50, 1, 0, []), (50, 61, 51, 0, 0, []), (51, 31, 52, 0, 0, []), (52, 41, 55, 71, 0, []), (55, 5, 57, 7, 0, []), (57, 6, 58, 0, 0, []), (58, 56, 61, 1, 6, []), (61, 4, 62, 1, 0, []), (62, 61, 63, 0, 0, []), (63, 31, 64, 0, 0, []), (64, 43, 67, 71, 0, []), (67, 0, 68, 0, 1, []), (68, 53, 71, 72, 0, []), (71, 0, 72, 0, 0, []), (72, 7, 74, 10, 0, []), (74, 4, 76, 4, 0, []), (76, 6, 77, 0, 0, []), (77, 56, 80, 1, 4, []), (80, 4, 81, 1, 0, []), (81, 60, 82, 0, 0, []), (82, 48, 85, 101, 0, []), (85, 4, 87, 4, 0, []), (87, 6, 88, 0, 0, []), (88, 56, 91, 1, 4, []), (91, 4, 92, 1, 0, []), (92, 60, 93, 0, 0, []), (93, 47, 96, 125, 0, []), (96, 4, 98, 10, 0, []), (98, 40, 101, 125, 0, []), (101, 6, 102, 0, 0, []), (102, 56, 105, 1, 4, []), (105, 4, 106, 1, 0, []), (106, 4, 108, 4, 0, []), (108, 64, 109, 0, 0, []), (109, 6, 110, 0, 0, []), (110, 56, 113, 1, 5, []), (113, 4, 114, 1, 0, []), (114, 5, 116, 5, 0, []), (116, 65, 117, 0, 0, []), (117, 6, 118, 0, 0, []), (118, 56, 121, 1, 6, []), (121, 4, 122, 1, 0, []), (122, 5, 124, 7, 0, []), (124, 65, 125, 0, 0, []), (125, 73, 126, 0, 0, [])]
/-- TwoWayWall$Crossing.step(LTwoWayWall$PairTable;I)V -/
def zcd113 : List (Nat × zI) := [(0, 6, 1, 0, 0, []), (1, 56, 4, 0, 3, []), (4, 0, 5, 0, 0, []), (5, 57, 8, 1, 0, []), (8, 0, 9, 0, 0, []), (9, 7, 10, 3, 0, []), (10, 4, 11, 3, 0, []), (11, 6, 12, 0, 0, []), (12, 56, 15, 0, 2, []), (15, 55, 18, 1, 0, []), (18, 49, 21, 173, 0, []), (21, 6, 22, 0, 0, []), (22, 56, 25, 0, 0, []), (25, 6, 26, 0, 0, []), (26, 56, 29, 0, 2, []), (29, 56, 32, 1, 1, []), (32, 4, 33, 3, 0, []), (33, 60, 34, 0, 0, []), (34, 76, 37, 114, 2, [5]), (37, 6, 38, 0, 0, []), (38, 56, 41, 0, 1, []), (41, 6, 42, 0, 0, []), (42, 56, 45, 0, 2, []), (45, 56, 48, 1, 2, []), (48, 4, 49, 3, 0, []), (49, 60, 50, 0, 0, []), (50, 76, 53, 114, 2, [5]), (53, 0, 54, 0, 0, []), (54, 7, 56, 4, 0, []), (56, 4, 58, 4, 0, []), (58, 6, 59, 0, 0, []), (59, 56, 62, 0, 0, []), (62, 55, 65, 5, 8, []), (65, 49, 68, 167, 0, []), (68, 0, 69, 0, 0, []), (69, 7, 71, 5, 0, []), (71, 4, 73, 5, 0, []), (73, 6, 74, 0, 0, []), (74, 56, 77, 0, 1, []), (77, 55, 80, 5, 8, []), (80, 49, 83, 161, 0, []), (83, 6, 84, 0, 0, []), (84, 56, 87, 0, 0, []), (87, 56, 90, 5, 6, []), (90, 4, 92, 4, 0, []), (92, 60, 93, 0, 0, []), (93, 6, 94, 0, 0, []), (94, 56, 97, 0, 1, []), (97, 56, 100, 5, 6, []), (100, 4, 102, 5, 0, []), (102, 60, 103, 0, 0, []), (103, 74, 106, 22, 2, []), (106, 7, 108, 6, 0, []), (108, 6, 109, 1, 0, []), (109, 56, 112, 3, 0, []), (112, 4, 114, 6, 0, []), (114, 60, 115, 0, 0, []), (115, 45, 118, 155, 0, []), (118, 6, 119, 0, 0, []), (119, 6, 120, 0, 0, []), (120, 56, 123, 0, 0, []), (123, 56, 126, 5, 7, []), (126, 4, 128, 4, 0, []), (128, 60, 129, 0, 0, []), (129, 6, 130, 0, 0, []), (130, 56, 133, 0, 1, []), (133, 56, 136, 5, 7, []), (136, 4, 138, 5, 0, []), (138, 60, 139, 0, 0, []), (139, 76, 142, 116, 3, [0]), (142, 7, 144, 7, 0, []), (144, 6, 145, 0, 0, []), (145, 4, 146, 3, 0, []), (146, 4, 148, 7, 0, []), (148, 6, 149, 1, 0, []), (149, 4, 151, 6, 0, []), (151, 4, 152, 2, 0, []), (152, 76, 155, 117, 6, [0]), (155, 10, 158, 5, 1, []), (158, 53, 161, 71, 0, []), (161, 10, 164, 4, 1, []), (164, 53, 167, 56, 0, []), (167, 10, 170, 3, 1, []), (170, 53, 173, 10, 0, []), (173, 0, 174, 0, 0, []), (174, 7, 175, 3, 0, []), (175, 4, 176, 3, 0, []), (176, 6, 177, 0, 0, []), (177, 56, 180, 0, 3, []), (180, 55, 183, 1, 0, []), (183, 49, 186, 225, 0, []), (186, 6, 187, 0, 0, []), (187, 56, 190, 0, 4, []), (190, 6, 191, 0, 0, []), (191, 56, 194, 0, 3, []), (194, 56, 197, 1, 1, []), (197, 4, 198, 3, 0, []), (198, 60, 199, 0, 0, []), (199, 6, 200, 0, 0, []), (200, 56, 203, 0, 1, []), (203, 55, 206, 5, 5, []), (206, 13, 207, 0, 0, []), (207, 6, 208, 0, 0, []), (208, 56, 211, 0, 3, []), (211, 56, 214, 1, 2, []), (214, 4, 215, 3, 0, []), (215, 60, 216, 0, 0, []), (216, 11, 217, 0, 0, []), (217, 0, 218, 0, (-1), []), (218, 64, 219, 0, 0, []), (219, 10, 222, 3, 1, []), (222, 53, 225, 175, 0, []), (225, 6, 226, 0, 0, []), (226, 56, 229, 0, 2, []), (229, 9, 230, 3, 0, []), (230, 6, 231, 0, 0, []), (231, 6, 232, 0, 0, []), (232, 56, 235, 0, 3, []), (235, 59, 238, 0, 2, []), (238, 6, 239, 0, 0, []), (239, 6, 240, 3, 0, []), (240, 59, 243, 0, 3, []), (243, 73, 244, 0, 0, [])]
/-- TwoWayWall$Rows.listMoves(I)V -/
def zcd114 : List (Nat × zI) := [(0, 6, 1, 0, 0, []), (1, 0, 2, 0, 0, []), (2, 57, 5, 5, 8, []), (5, 6, 6, 0, 0, []), (6, 56, 9, 5, 3, []), (9, 4, 10, 1, 0, []), (10, 60, 11, 0, 0, []), (11, 0, 12, 0, (-1), []), (12, 46, 15, 27, 0, []), (15, 6, 16, 0, 0, []), (16, 0, 18, 0, 26, []), (18, 6, 19, 0, 0, []), (19, 56, 22, 5, 3, []), (22, 4, 23, 1, 0, []), (23, 60, 24, 0, 0, []), (24, 76, 27, 115, 3, [5]), (27, 6, 28, 0, 0, []), (28, 56, 31, 5, 1, []), (31, 4, 32, 1, 0, []), (32, 60, 33, 0, 0, []), (33, 7, 34, 2, 0, []), (34, 0, 35, 0, 0, []), (35, 7, 36, 3, 0, []), (36, 4, 37, 3, 0, []), (37, 0, 39, 0, 8, []), (39, 49, 42, 71, 0, []), (42, 4, 43, 2, 0, []), (43, 0, 44, 0, (-1), []), (44, 46, 47, 71, 0, []), (47, 6, 48, 0, 0, []), (48, 6, 49, 0, 0, []), (49, 56, 52, 5, 0, []), (52, 4, 53, 2, 0, []), (53, 60, 54, 0, 0, []), (54, 4, 55, 2, 0, []), (55, 76, 58, 115, 3, [5]), (58, 6, 59, 0, 0, []), (59, 56, 62, 5, 2, []), (62, 4, 63, 2, 0, []), (63, 60, 64, 0, 0, []), (64, 7, 65, 2, 0, []), (65, 10, 68, 3, 1, []), (68, 53, 71, 36, 0, []), (71, 73, 72, 0, 0, [])]
/-- TwoWayWall$Rows.addMove(II)V -/
def zcd115 : List (Nat × zI) := [(0, 6, 1, 0, 0, []), (1, 55, 4, 5, 8, []), (4, 0, 6, 0, 9, []), (6, 49, 9, 39, 0, []), (9, 6, 10, 0, 0, []), (10, 56, 13, 5, 6, []), (13, 6, 14, 0, 0, []), (14, 55, 17, 5, 8, []), (17, 4, 18, 1, 0, []), (18, 64, 19, 0, 0, []), (19, 6, 20, 0, 0, []), (20, 56, 23, 5, 7, []), (23, 6, 24, 0, 0, []), (24, 55, 27, 5, 8, []), (27, 4, 28, 2, 0, []), (28, 64, 29, 0, 0, []), (29, 6, 30, 0, 0, []), (30, 36, 31, 0, 0, []), (31, 55, 34, 5, 8, []), (34, 0, 35, 0, 1, []), (35, 11, 36, 0, 0, []), (36, 57, 39, 5, 8, []), (39, 73, 40, 0, 0, [])]
/-- TwoWayWall$Crossing.placeFor(II)I -/
def zcd116 : List (Nat × zI) := [(0, 4, 1, 1, 0, []), (1, 6, 2, 0, 0, []), (2, 56, 5, 0, 1, []), (5, 55, 8, 5, 5, []), (8, 13, 9, 0, 0, []), (9, 4, 10, 2, 0, []), (10, 11, 11, 0, 0, []), (11, 7, 12, 3, 0, []), (12, 6, 13, 0, 0, []), (13, 56, 16, 0, 4, []), (16, 4, 17, 3, 0, []), (17, 60, 18, 0, 0, []), (18, 0, 19, 0, (-1), []), (19, 47, 22, 37, 0, []), (22, 6, 23, 0, 0, []), (23, 56, 26, 0, 4, []), (26, 4, 27, 3, 0, []), (27, 6, 28, 0, 0, []), (28, 56, 31, 0, 3, []), (31, 4, 32, 1, 0, []), (32, 4, 33, 2, 0, []), (33, 76, 36, 107, 3, [1]), (36, 64, 37, 0, 0, []), (37, 6, 38, 0, 0, []), (38, 56, 41, 0, 4, []), (41, 4, 42, 3, 0, []), (42, 60, 43, 0, 0, []), (43, 72, 44, 0, 0, [])]
/-- TwoWayWall$Crossing.carry(IILTwoWayWall$PairTable;II)V -/
def zcd117 : List (Nat × zI) := [(0, 6, 1, 0, 0, []), (1, 56, 4, 0, 2, []), (4, 56, 7, 1, 3, []), (7, 4, 8, 1, 0, []), (8, 61, 9, 0, 0, []), (9, 6, 10, 3, 0, []), (10, 56, 13, 3, 0, []), (13, 4, 15, 4, 0, []), (15, 60, 16, 0, 0, []), (16, 32, 17, 0, 0, []), (17, 25, 18, 0, 0, []), (18, 8, 20, 6, 0, []), (20, 6, 21, 0, 0, []), (21, 56, 24, 0, 2, []), (24, 56, 27, 1, 4, []), (27, 4, 28, 1, 0, []), (28, 60, 29, 0, 0, []), (29, 6, 30, 3, 0, []), (30, 56, 33, 3, 2, []), (33, 4, 35, 4, 0, []), (35, 60, 36, 0, 0, []), (36, 11, 37, 0, 0, []), (37, 7, 39, 8, 0, []), (39, 6, 40, 0, 0, []), (40, 56, 43, 0, 2, []), (43, 56, 46, 1, 5, []), (46, 4, 47, 1, 0, []), (47, 61, 48, 0, 0, []), (48, 8, 50, 9, 0, []), (50, 6, 51, 0, 0, []), (51, 56, 54, 0, 2, []), (54, 56, 57, 1, 6, []), (57, 4, 58, 1, 0, []), (58, 61, 59, 0, 0, []), (59, 8, 61, 11, 0, []), (61, 4, 63, 5, 0, []), (63, 0, 65, 0, 8, []), (65, 49, 68, 87, 0, []), (68, 5, 70, 9, 0, []), (70, 0, 72, 0, 7, []), (72, 29, 73, 0, 0, []), (73, 6, 74, 3, 0, []), (74, 56, 77, 3, 1, []), (77, 4, 79, 4, 0, []), (79, 60, 80, 0, 0, []), (80, 32, 81, 0, 0, []), (81, 27, 82, 0, 0, []), (82, 8, 84, 9, 0, []), (84, 53, 87, 103, 0, []), (87, 5, 89, 11, 0, []), (89, 0, 91, 0, 7, []), (91, 29, 92, 0, 0, []), (92, 6, 93, 3, 0, []), (93, 56, 96, 3, 1, []), (96, 4, 98, 4, 0, []), (98, 60, 99, 0, 0, []), (99, 32, 100, 0, 0, []), (100, 27, 101, 0, 0, []), (101, 8, 103, 11, 0, []), (103, 6, 104, 0, 0, []), (104, 56, 107, 0, 3, []), (107, 4, 108, 2, 0, []), (108, 5, 110, 6, 0, []), (110, 4, 112, 8, 0, []), (112, 5, 114, 9, 0, []), (114, 5, 116, 11, 0, []), (116, 6, 117, 0, 0, []), (117, 56, 120, 0, 2, []), (120, 56, 123, 1, 7, []), (123, 4, 124, 1, 0, []), (124, 60, 125, 0, 0, []), (125, 6, 126, 3, 0, []), (126, 56, 129, 3, 3, []), (129, 4, 131, 4, 0, []), (131, 60, 132, 0, 0, []), (132, 15, 133, 0, 0, []), (133, 76, 136, 112, 7, [1]), (136, 73, 137, 0, 0, [])]
/-- TwoWayWall$Crossing.gather(LTwoWayWall$Layer;I)V -/
def zcd118 : List (Nat × zI) := [(0, 6, 1, 1, 0, []), (1, 4, 2, 2, 0, []), (2, 76, 5, 111, 2, [1]), (5, 0, 6, 0, 0, []), (6, 7, 7, 3, 0, []), (7, 4, 8, 3, 0, []), (8, 6, 9, 0, 0, []), (9, 56, 12, 0, 2, []), (12, 55, 15, 1, 0, []), (15, 49, 18, 114, 0, []), (18, 6, 19, 0, 0, []), (19, 56, 22, 0, 0, []), (22, 56, 25, 5, 4, []), (25, 6, 26, 0, 0, []), (26, 56, 29, 0, 2, []), (29, 56, 32, 1, 1, []), (32, 4, 33, 3, 0, []), (33, 60, 34, 0, 0, []), (34, 62, 35, 0, 0, []), (35, 40, 38, 108, 0, []), (38, 6, 39, 0, 0, []), (39, 56, 42, 0, 1, []), (42, 56, 45, 5, 4, []), (45, 6, 46, 0, 0, []), (46, 56, 49, 0, 2, []), (49, 56, 52, 1, 2, []), (52, 4, 53, 3, 0, []), (53, 60, 54, 0, 0, []), (54, 62, 55, 0, 0, []), (55, 40, 58, 108, 0, []), (58, 6, 59, 1, 0, []), (59, 4, 60, 2, 0, []), (60, 6, 61, 0, 0, []), (61, 56, 64, 0, 2, []), (64, 56, 67, 1, 3, []), (67, 4, 68, 3, 0, []), (68, 61, 69, 0, 0, []), (69, 6, 70, 0, 0, []), (70, 56, 73, 0, 2, []), (73, 56, 76, 1, 4, []), (76, 4, 77, 3, 0, []), (77, 60, 78, 0, 0, []), (78, 6, 79, 0, 0, []), (79, 56, 82, 0, 2, []), (82, 56, 85, 1, 5, []), (85, 4, 86, 3, 0, []), (86, 61, 87, 0, 0, []), (87, 6, 88, 0, 0, []), (88, 56, 91, 0, 2, []), (91, 56, 94, 1, 6, []), (94, 4, 95, 3, 0, []), (95, 61, 96, 0, 0, []), (96, 6, 97, 0, 0, []), (97, 56, 100, 0, 2, []), (100, 56, 103, 1, 7, []), (103, 4, 104, 3, 0, []), (104, 60, 105, 0, 0, []), (105, 76, 108, 112, 7, [1]), (108, 10, 111, 3, 1, []), (111, 53, 114, 7, 0, []), (114, 73, 115, 0, 0, [])]
/-- TwoWayWall.price()I -/
def zcd119 : List (Nat × zI) := [(0, 6, 1, 0, 0, []), (1, 76, 4, 101, 1, [11]), (4, 6, 5, 0, 0, []), (5, 56, 8, 11, 10, []), (8, 56, 11, 1, 3, []), (11, 6, 12, 0, 0, []), (12, 56, 15, 11, 0, []), (15, 55, 18, 6, 0, []), (18, 61, 19, 0, 0, []), (19, 1, 20, 0, 0, []), (20, 31, 21, 0, 0, []), (21, 45, 24, 42, 0, []), (24, 6, 25, 0, 0, []), (25, 56, 28, 11, 10, []), (28, 56, 31, 1, 4, []), (31, 6, 32, 0, 0, []), (32, 56, 35, 11, 0, []), (35, 55, 38, 6, 0, []), (38, 60, 39, 0, 0, []), (39, 53, 42, 43, 0, []), (42, 0, 43, 0, (-1), []), (43, 72, 44, 0, 0, [])]
/-- TwoWayWall.first(I)I -/
def zcd120 : List (Nat × zI) := [(0, 6, 1, 0, 0, []), (1, 76, 4, 101, 1, [11]), (4, 6, 5, 0, 0, []), (5, 56, 8, 11, 0, []), (8, 55, 11, 6, 0, []), (11, 7, 12, 2, 0, []), (12, 6, 13, 0, 0, []), (13, 56, 16, 11, 0, []), (16, 4, 17, 1, 0, []), (17, 76, 20, 28, 2, [6]), (20, 40, 23, 37, 0, []), (23, 6, 24, 0, 0, []), (24, 56, 27, 11, 10, []), (27, 56, 30, 1, 3, []), (30, 4, 31, 2, 0, []), (31, 61, 32, 0, 0, []), (32, 1, 33, 0, 0, []), (33, 31, 34, 0, 0, []), (34, 41, 37, 39, 0, []), (37, 0, 38, 0, (-1), []), (38, 72, 39, 0, 0, []), (39, 6, 40, 0, 0, []), (40, 56, 43, 11, 10, []), (43, 4, 44, 2, 0, []), (44, 4, 45, 1, 0, []), (45, 4, 46, 2, 0, []), (46, 76, 49, 121, 4, [1]), (49, 72, 50, 0, 0, [])]
/-- TwoWayWall$Layer.cellOf(III)I -/
def zcd121 : List (Nat × zI) := [(0, 0, 2, 0, 8, []), (2, 7, 4, 4, 0, []), (4, 4, 5, 2, 0, []), (5, 4, 7, 4, 0, []), (7, 49, 10, 36, 0, []), (10, 6, 11, 0, 0, []), (11, 56, 14, 1, 5, []), (14, 4, 15, 1, 0, []), (15, 61, 16, 0, 0, []), (16, 0, 18, 0, 7, []), (18, 4, 19, 3, 0, []), (19, 4, 21, 4, 0, []), (21, 85, 24, 0, 0, []), (24, 0, 25, 0, 1, []), (25, 12, 26, 0, 0, []), (26, 4, 27, 2, 0, []), (27, 12, 28, 0, 0, []), (28, 13, 29, 0, 0, []), (29, 30, 30, 0, 0, []), (30, 1, 33, 0, 127, []), (33, 26, 34, 0, 0, []), (34, 33, 35, 0, 0, []), (35, 72, 36, 0, 0, []), (36, 6, 37, 0, 0, []), (37, 56, 40, 1, 6, []), (40, 4, 41, 1, 0, []), (41, 61, 42, 0, 0, []), (42, 0, 44, 0, 7, []), (44, 4, 45, 3, 0, []), (45, 0, 46, 0, 1, []), (46, 12, 47, 0, 0, []), (47, 4, 48, 2, 0, []), (48, 12, 49, 0, 0, []), (49, 13, 50, 0, 0, []), (50, 30, 51, 0, 0, []), (51, 1, 54, 0, 127, []), (54, 26, 55, 0, 0, []), (55, 33, 56, 0, 0, []), (56, 72, 57, 0, 0, [])]
/-- TwoWayWall.lengths(I)I -/
def zcd122 : List (Nat × zI) := [(0, 6, 1, 0, 0, []), (1, 76, 4, 101, 1, [11]), (4, 0, 5, 0, 0, []), (5, 7, 6, 2, 0, []), (6, 0, 7, 0, 1, []), (7, 7, 8, 3, 0, []), (8, 4, 9, 3, 0, []), (9, 0, 11, 0, 16, []), (11, 50, 14, 44, 0, []), (14, 6, 15, 0, 0, []), (15, 56, 18, 11, 10, []), (18, 56, 21, 1, 3, []), (21, 4, 22, 3, 0, []), (22, 61, 23, 0, 0, []), (23, 1, 24, 0, 0, []), (24, 31, 25, 0, 0, []), (25, 45, 28, 38, 0, []), (28, 4, 29, 2, 0, []), (29, 4, 30, 1, 0, []), (30, 47, 33, 35, 0, []), (33, 4, 34, 3, 0, []), (34, 72, 35, 0, 0, []), (35, 10, 38, 2, 1, []), (38, 10, 41, 3, 1, []), (41, 53, 44, 8, 0, []), (44, 4, 45, 1, 0, []), (45, 0, 46, 0, (-1), []), (46, 47, 49, 53, 0, []), (49, 4, 50, 2, 0, []), (50, 53, 53, 54, 0, []), (53, 0, 54, 0, (-1), []), (54, 72, 55, 0, 0, [])]
/-- TwoWayWall.lost(II)I -/
def zcd123 : List (Nat × zI) := [(0, 6, 1, 0, 0, []), (1, 56, 4, 11, 0, []), (4, 4, 5, 1, 0, []), (5, 76, 8, 28, 2, [6]), (8, 40, 11, 18, 0, []), (11, 4, 12, 2, 0, []), (12, 74, 15, 29, 1, []), (15, 41, 18, 24, 0, []), (18, 6, 19, 0, 0, []), (19, 0, 20, 0, (-1), []), (20, 76, 23, 24, 2, [11]), (23, 72, 24, 0, 0, []), (24, 6, 25, 0, 0, []), (25, 56, 28, 11, 0, []), (28, 56, 31, 6, 2, []), (31, 4, 32, 1, 0, []), (32, 60, 33, 0, 0, []), (33, 7, 34, 3, 0, []), (34, 6, 35, 0, 0, []), (35, 56, 38, 11, 0, []), (38, 56, 41, 6, 2, []), (41, 4, 42, 1, 0, []), (42, 4, 43, 2, 0, []), (43, 64, 44, 0, 0, []), (44, 6, 45, 0, 0, []), (45, 4, 46, 3, 0, []), (46, 76, 49, 26, 2, [11]), (49, 72, 50, 0, 0, [])]
/-- TwoWayWall.may()J -/
def zcd124 : List (Nat × zI) := [(0, 6, 1, 0, 0, []), (1, 0, 2, 0, (-1), []), (2, 0, 3, 0, 0, []), (3, 76, 6, 125, 3, [11]), (6, 6, 7, 0, 0, []), (7, 56, 10, 11, 11, []), (10, 56, 13, 1, 3, []), (13, 0, 14, 0, 0, []), (14, 61, 15, 0, 0, []), (15, 72, 16, 1, 0, [])]
/-- TwoWayWall.findWalls(II)V -/
def zcd125 : List (Nat × zI) := [(0, 6, 1, 0, 0, []), (1, 56, 4, 11, 9, []), (4, 56, 7, 0, 0, []), (7, 6, 8, 0, 0, []), (8, 56, 11, 11, 0, []), (11, 56, 14, 6, 5, []), (14, 0, 15, 0, 0, []), (15, 76, 18, 126, 3, [5]), (18, 6, 19, 0, 0, []), (19, 56, 22, 11, 9, []), (22, 56, 25, 0, 1, []), (25, 6, 26, 0, 0, []), (26, 56, 29, 11, 0, []), (29, 56, 32, 6, 6, []), (32, 0, 33, 0, 1, []), (33, 76, 36, 126, 3, [5]), (36, 6, 37, 0, 0, []), (37, 56, 40, 11, 9, []), (40, 76, 43, 106, 1, [0]), (43, 0, 44, 0, 0, []), (44, 7, 45, 3, 0, []), (45, 4, 46, 3, 0, []), (46, 6, 47, 0, 0, []), (47, 56, 50, 11, 0, []), (50, 55, 53, 6, 0, []), (53, 49, 56, 90, 0, []), (56, 6, 57, 0, 0, []), (57, 4, 58, 3, 0, []), (58, 4, 59, 3, 0, []), (59, 4, 60, 1, 0, []), (60, 47, 63, 67, 0, []), (63, 0, 64, 0, 1, []), (64, 53, 67, 68, 0, []), (67, 0, 68, 0, 0, []), (68, 4, 69, 2, 0, []), (69, 76, 72, 127, 4, [11]), (72, 6, 73, 0, 0, []), (73, 56, 76, 11, 9, []), (76, 6, 77, 0, 0, []), (77, 56, 80, 11, 7, []), (80, 4, 81, 3, 0, []), (81, 76, 84, 113, 3, [0]), (84, 10, 87, 3, 1, []), (87, 53, 90, 45, 0, []), (90, 6, 91, 0, 0, []), (91, 56, 94, 11, 9, []), (94, 6, 95, 0, 0, []), (95, 56, 98, 11, 11, []), (98, 0, 99, 0, 0, []), (99, 76, 102, 118, 3, [0]), (102, 73, 103, 0, 0, [])]
/-- TwoWayWall$Rows.makeWords(LTwoWayWall$Tongue;Z)V -/
def zcd126 : List (Nat × zI) := [(0, 6, 1, 0, 0, []), (1, 0, 2, 0, 0, []), (2, 57, 5, 5, 5, []), (5, 6, 6, 0, 0, []), (6, 0, 8, 0, 26, []), (8, 76, 11, 103, 2, [5]), (11, 7, 12, 3, 0, []), (12, 0, 13, 0, 0, []), (13, 7, 15, 4, 0, []), (15, 4, 17, 4, 0, []), (17, 6, 18, 1, 0, []), (18, 55, 21, 9, 5, []), (21, 49, 24, 57, 0, []), (24, 6, 25, 0, 0, []), (25, 4, 26, 3, 0, []), (26, 6, 27, 1, 0, []), (27, 4, 29, 4, 0, []), (29, 4, 30, 2, 0, []), (30, 76, 33, 104, 5, [5]), (33, 7, 35, 5, 0, []), (35, 6, 36, 0, 0, []), (36, 56, 39, 5, 4, []), (39, 4, 41, 5, 0, []), (41, 0, 42, 0, 1, []), (42, 66, 43, 0, 0, []), (43, 6, 44, 0, 0, []), (44, 56, 47, 5, 3, []), (47, 4, 49, 5, 0, []), (49, 4, 50, 3, 0, []), (50, 64, 51, 0, 0, []), (51, 10, 54, 4, 1, []), (54, 53, 57, 15, 0, []), (57, 73, 58, 0, 0, [])]
/-- TwoWayWall.listSets(IZI)V -/
def zcd127 : List (Nat × zI) := [(0, 6, 1, 0, 0, []), (1, 56, 4, 11, 0, []), (4, 56, 7, 6, 2, []), (7, 4, 8, 1, 0, []), (8, 60, 9, 0, 0, []), (9, 7, 11, 4, 0, []), (11, 6, 12, 0, 0, []), (12, 56, 15, 11, 0, []), (15, 56, 18, 6, 1, []), (18, 4, 19, 1, 0, []), (19, 60, 20, 0, 0, []), (20, 4, 22, 4, 0, []), (22, 0, 23, 0, (-1), []), (23, 16, 24, 0, 0, []), (24, 14, 25, 0, 0, []), (25, 7, 27, 5, 0, []), (27, 0, 28, 0, 0, []), (28, 7, 30, 6, 0, []), (30, 6, 31, 0, 0, []), (31, 56, 34, 11, 7, []), (34, 76, 37, 20, 1, [3]), (37, 0, 38, 0, 0, []), (38, 7, 40, 7, 0, []), (40, 4, 42, 7, 0, []), (42, 0, 43, 0, 1, []), (43, 4, 45, 4, 0, []), (45, 74, 48, 128, 1, []), (48, 20, 49, 0, 0, []), (49, 49, 52, 130, 0, []), (52, 4, 54, 5, 0, []), (54, 4, 56, 6, 0, []), (56, 15, 57, 0, 0, []), (57, 7, 59, 8, 0, []), (59, 4, 60, 2, 0, []), (60, 41, 63, 80, 0, []), (63, 6, 64, 0, 0, []), (64, 56, 67, 11, 7, []), (67, 6, 68, 0, 0, []), (68, 56, 71, 11, 5, []), (71, 4, 73, 8, 0, []), (73, 0, 74, 0, 0, []), (74, 76, 77, 21, 4, [3]), (77, 53, 80, 114, 0, []), (80, 4, 82, 8, 0, []), (82, 4, 83, 3, 0, []), (83, 14, 84, 0, 0, []), (84, 4, 85, 3, 0, []), (85, 47, 88, 114, 0, []), (88, 6, 89, 0, 0, []), (89, 56, 92, 11, 7, []), (92, 6, 93, 0, 0, []), (93, 56, 96, 11, 5, []), (96, 4, 98, 8, 0, []), (98, 4, 100, 8, 0, []), (100, 0, 102, 0, 127, []), (102, 4, 104, 8, 0, []), (104, 0, 105, 0, (-1), []), (105, 16, 106, 0, 0, []), (106, 14, 107, 0, 0, []), (107, 0, 109, 0, 7, []), (109, 20, 110, 0, 0, []), (110, 15, 111, 0, 0, []), (111, 76, 114, 21, 4, [3]), (114, 4, 116, 6, 0, []), (116, 4, 118, 4, 0, []), (118, 12, 119, 0, 0, []), (119, 4, 121, 4, 0, []), (121, 14, 122, 0, 0, []), (122, 7, 124, 6, 0, []), (124, 10, 127, 7, 1, []), (127, 53, 130, 40, 0, []), (130, 73, 131, 0, 0, [])]
/-- java/lang/Integer.bitCount(I)I -/
def zcd128 : List (Nat × zI) := [(0, 4, 1, 0, 0, []), (1, 4, 2, 0, 0, []), (2, 0, 3, 0, 1, []), (3, 22, 4, 0, 0, []), (4, 0, 7, 0, 1431655765, []), (7, 14, 8, 0, 0, []), (8, 12, 9, 0, 0, []), (9, 7, 10, 0, 0, []), (10, 4, 11, 0, 0, []), (11, 0, 14, 0, 858993459, []), (14, 14, 15, 0, 0, []), (15, 4, 16, 0, 0, []), (16, 0, 17, 0, 2, []), (17, 22, 18, 0, 0, []), (18, 0, 21, 0, 858993459, []), (21, 14, 22, 0, 0, []), (22, 11, 23, 0, 0, []), (23, 7, 24, 0, 0, []), (24, 4, 25, 0, 0, []), (25, 4, 26, 0, 0, []), (26, 0, 27, 0, 4, []), (27, 22, 28, 0, 0, []), (28, 11, 29, 0, 0, []), (29, 0, 32, 0, 252645135, []), (32, 14, 33, 0, 0, []), (33, 7, 34, 0, 0, []), (34, 4, 35, 0, 0, []), (35, 4, 36, 0, 0, []), (36, 0, 38, 0, 8, []), (38, 22, 39, 0, 0, []), (39, 11, 40, 0, 0, []), (40, 7, 41, 0, 0, []), (41, 4, 42, 0, 0, []), (42, 4, 43, 0, 0, []), (43, 0, 45, 0, 16, []), (45, 22, 46, 0, 0, []), (46, 11, 47, 0, 0, []), (47, 7, 48, 0, 0, []), (48, 4, 49, 0, 0, []), (49, 0, 51, 0, 63, []), (51, 14, 52, 0, 0, []), (52, 72, 53, 0, 0, [])]
/-- TwoWayWall.sure(II)I -/
def zcd129 : List (Nat × zI) := [(0, 6, 1, 0, 0, []), (1, 56, 4, 11, 0, []), (4, 4, 5, 1, 0, []), (5, 76, 8, 28, 2, [6]), (8, 40, 11, 20, 0, []), (11, 4, 12, 2, 0, []), (12, 42, 15, 20, 0, []), (15, 4, 16, 2, 0, []), (16, 0, 17, 0, 2, []), (17, 51, 20, 22, 0, []), (20, 0, 21, 0, (-1), []), (21, 72, 22, 0, 0, []), (22, 6, 23, 0, 0, []), (23, 4, 24, 1, 0, []), (24, 0, 25, 0, 0, []), (25, 76, 28, 125, 3, [11]), (28, 6, 29, 0, 0, []), (29, 56, 32, 11, 11, []), (32, 56, 35, 1, 3, []), (35, 0, 36, 0, 0, []), (36, 61, 37, 0, 0, []), (37, 1, 38, 0, 0, []), (38, 31, 39, 0, 0, []), (39, 41, 42, 44, 0, []), (42, 0, 43, 0, (-1), []), (43, 72, 44, 0, 0, []), (44, 6, 45, 0, 0, []), (45, 56, 48, 11, 11, []), (48, 56, 51, 1, 7, []), (51, 0, 52, 0, 0, []), (52, 60, 53, 0, 0, []), (53, 0, 55, 0, 127, []), (55, 14, 56, 0, 0, []), (56, 7, 57, 3, 0, []), (57, 6, 58, 0, 0, []), (58, 56, 61, 11, 11, []), (61, 56, 64, 1, 7, []), (64, 0, 65, 0, 0, []), (65, 60, 66, 0, 0, []), (66, 0, 68, 0, 7, []), (68, 21, 69, 0, 0, []), (69, 0, 71, 0, 127, []), (71, 14, 72, 0, 0, []), (72, 7, 74, 4, 0, []), (74, 4, 75, 2, 0, []), (75, 41, 78, 95, 0, []), (78, 6, 79, 0, 0, []), (79, 56, 82, 11, 0, []), (82, 56, 85, 6, 2, []), (85, 4, 86, 1, 0, []), (86, 60, 87, 0, 0, []), (87, 4, 88, 3, 0, []), (88, 14, 89, 0, 0, []), (89, 4, 91, 4, 0, []), (91, 0, 92, 0, (-1), []), (92, 16, 93, 0, 0, []), (93, 14, 94, 0, 0, []), (94, 72, 95, 0, 0, []), (95, 6, 96, 0, 0, []), (96, 56, 99, 11, 0, []), (99, 56, 102, 6, 2, []), (102, 4, 103, 1, 0, []), (103, 60, 104, 0, 0, []), (104, 4, 106, 4, 0, []), (106, 14, 107, 0, 0, []), (107, 4, 108, 2, 0, []), (108, 0, 109, 0, 1, []), (109, 47, 112, 118, 0, []), (112, 4, 113, 3, 0, []), (113, 0, 114, 0, (-1), []), (114, 16, 115, 0, 0, []), (115, 53, 118, 119, 0, []), (118, 4, 119, 3, 0, []), (119, 14, 120, 0, 0, []), (120, 72, 121, 0, 0, [])]
/-- TwoWayWall.often(II)J -/
def zcd130 : List (Nat × zI) := [(0, 6, 1, 0, 0, []), (1, 56, 4, 11, 0, []), (4, 4, 5, 1, 0, []), (5, 76, 8, 28, 2, [6]), (8, 40, 11, 22, 0, []), (11, 4, 12, 2, 0, []), (12, 0, 13, 0, 1, []), (13, 48, 16, 22, 0, []), (16, 4, 17, 2, 0, []), (17, 0, 19, 0, 7, []), (19, 51, 22, 26, 0, []), (22, 1, 25, 0, (-1), []), (25, 72, 26, 1, 0, []), (26, 6, 27, 0, 0, []), (27, 4, 28, 1, 0, []), (28, 0, 29, 0, 1, []), (29, 4, 30, 2, 0, []), (30, 0, 31, 0, 1, []), (31, 12, 32, 0, 0, []), (32, 20, 33, 0, 0, []), (33, 76, 36, 125, 3, [11]), (36, 6, 37, 0, 0, []), (37, 56, 40, 11, 11, []), (40, 56, 43, 1, 3, []), (43, 0, 44, 0, 0, []), (44, 61, 45, 0, 0, []), (45, 72, 46, 1, 0, [])]
/-- TwoWayWall.yard(IIIII)I -/
def zcd131 : List (Nat × zI) := [(0, 6, 1, 0, 0, []), (1, 56, 4, 11, 0, []), (4, 4, 5, 1, 0, []), (5, 76, 8, 28, 2, [6]), (8, 40, 11, 31, 0, []), (11, 6, 12, 0, 0, []), (12, 56, 15, 11, 0, []), (15, 4, 16, 2, 0, []), (16, 76, 19, 28, 2, [6]), (19, 40, 22, 31, 0, []), (22, 4, 23, 1, 0, []), (23, 4, 24, 2, 0, []), (24, 50, 27, 31, 0, []), (27, 0, 28, 0, 1, []), (28, 53, 31, 32, 0, []), (31, 0, 32, 0, 0, []), (32, 7, 34, 6, 0, []), (34, 4, 35, 3, 0, []), (35, 42, 38, 55, 0, []), (38, 4, 39, 3, 0, []), (39, 4, 41, 4, 0, []), (41, 50, 44, 55, 0, []), (44, 4, 46, 4, 0, []), (46, 0, 48, 0, 51, []), (48, 50, 51, 55, 0, []), (51, 0, 52, 0, 1, []), (52, 53, 55, 56, 0, []), (55, 0, 56, 0, 0, []), (56, 7, 58, 7, 0, []), (58, 4, 60, 6, 0, []), (60, 40, 63, 81, 0, []), (63, 4, 65, 7, 0, []), (65, 40, 68, 81, 0, []), (68, 4, 70, 5, 0, []), (70, 42, 73, 81, 0, []), (73, 4, 75, 5, 0, []), (75, 0, 78, 0, 999, []), (78, 51, 81, 87, 0, []), (81, 6, 82, 0, 0, []), (82, 0, 83, 0, (-1), []), (83, 76, 86, 24, 2, [11]), (86, 72, 87, 0, 0, []), (87, 6, 88, 0, 0, []), (88, 56, 91, 11, 0, []), (91, 56, 94, 6, 7, []), (94, 55, 97, 10, 5, []), (97, 0, 99, 0, 10, []), (99, 48, 102, 109, 0, []), (102, 6, 103, 0, 0, []), (103, 0, 105, 0, (-5), []), (105, 76, 108, 24, 2, [11]), (108, 72, 109, 0, 0, []), (109, 6, 110, 0, 0, []), (110, 6, 111, 0, 0, []), (111, 56, 114, 11, 0, []), (114, 56, 117, 6, 7, []), (117, 4, 118, 1, 0, []), (118, 4, 119, 2, 0, []), (119, 4, 120, 3, 0, []), (120, 4, 122, 4, 0, []), (122, 4, 124, 5, 0, []), (124, 76, 127, 132, 6, [10]), (127, 76, 130, 26, 2, [11]), (130, 72, 131, 0, 0, [])]
/-- TwoWayWall$Yards.take(IIIII)I -/
def zcd132 : List (Nat × zI) := [(0, 6, 1, 0, 0, []), (1, 55, 4, 10, 5, []), (4, 0, 6, 0, 10, []), (6, 48, 9, 11, 0, []), (9, 0, 10, 0, (-1), []), (10, 72, 11, 0, 0, []), (11, 6, 12, 0, 0, []), (12, 56, 15, 10, 0, []), (15, 6, 16, 0, 0, []), (16, 55, 19, 10, 5, []), (19, 4, 20, 1, 0, []), (20, 64, 21, 0, 0, []), (21, 6, 22, 0, 0, []), (22, 56, 25, 10, 1, []), (25, 6, 26, 0, 0, []), (26, 55, 29, 10, 5, []), (29, 4, 30, 2, 0, []), (30, 64, 31, 0, 0, []), (31, 6, 32, 0, 0, []), (32, 56, 35, 10, 2, []), (35, 6, 36, 0, 0, []), (36, 55, 39, 10, 5, []), (39, 4, 40, 3, 0, []), (40, 64, 41, 0, 0, []), (41, 6, 42, 0, 0, []), (42, 56, 45, 10, 3, []), (45, 6, 46, 0, 0, []), (46, 55, 49, 10, 5, []), (49, 4, 51, 4, 0, []), (51, 64, 52, 0, 0, []), (52, 6, 53, 0, 0, []), (53, 56, 56, 10, 4, []), (56, 6, 57, 0, 0, []), (57, 55, 60, 10, 5, []), (60, 4, 62, 5, 0, []), (62, 64, 63, 0, 0, []), (63, 6, 64, 0, 0, []), (64, 36, 65, 0, 0, []), (65, 55, 68, 10, 5, []), (68, 0, 69, 0, 1, []), (69, 11, 70, 0, 0, []), (70, 57, 73, 10, 5, []), (73, 6, 74, 0, 0, []), (74, 55, 77, 10, 5, []), (77, 0, 78, 0, 1, []), (78, 12, 79, 0, 0, []), (79, 72, 80, 0, 0, [])]
/-- TwoWayWall.drop(I)I -/
def zcd133 : List (Nat × zI) := [(0, 4, 1, 1, 0, []), (1, 42, 4, 18, 0, []), (4, 4, 5, 1, 0, []), (5, 6, 6, 0, 0, []), (6, 56, 9, 11, 0, []), (9, 56, 12, 6, 7, []), (12, 55, 15, 10, 5, []), (15, 48, 18, 25, 0, []), (18, 6, 19, 0, 0, []), (19, 0, 21, 0, (-2), []), (21, 76, 24, 24, 2, [11]), (24, 72, 25, 0, 0, []), (25, 6, 26, 0, 0, []), (26, 56, 29, 11, 0, []), (29, 56, 32, 6, 7, []), (32, 4, 33, 1, 0, []), (33, 76, 36, 134, 2, [10]), (36, 6, 37, 0, 0, []), (37, 6, 38, 0, 0, []), (38, 56, 41, 11, 0, []), (41, 56, 44, 6, 7, []), (44, 55, 47, 10, 5, []), (47, 76, 50, 26, 2, [11]), (50, 72, 51, 0, 0, [])]
/-- TwoWayWall$Yards.remove(I)V -/
def zcd134 : List (Nat × zI) := [(0, 4, 1, 1, 0, []), (1, 7, 2, 2, 0, []), (2, 4, 3, 2, 0, []), (3, 0, 4, 0, 1, []), (4, 11, 5, 0, 0, []), (5, 6, 6, 0, 0, []), (6, 55, 9, 10, 5, []), (9, 49, 12, 27, 0, []), (12, 6, 13, 0, 0, []), (13, 6, 14, 0, 0, []), (14, 4, 15, 2, 0, []), (15, 0, 16, 0, 1, []), (16, 11, 17, 0, 0, []), (17, 4, 18, 2, 0, []), (18, 76, 21, 41, 4, [10]), (21, 10, 24, 2, 1, []), (24, 53, 27, 2, 0, []), (27, 6, 28, 0, 0, []), (28, 36, 29, 0, 0, []), (29, 55, 32, 10, 5, []), (32, 0, 33, 0, 1, []), (33, 12, 34, 0, 0, []), (34, 57, 37, 10, 5, []), (37, 73, 38, 0, 0, [])]
/-- TwoWayWall.letting(I)I -/
def zcd135 : List (Nat × zI) := [(0, 4, 1, 1, 0, []), (1, 42, 4, 20, 0, []), (4, 4, 5, 1, 0, []), (5, 0, 6, 0, 1, []), (6, 6, 7, 0, 0, []), (7, 56, 10, 11, 0, []), (10, 56, 13, 6, 7, []), (13, 55, 16, 10, 5, []), (16, 20, 17, 0, 0, []), (17, 48, 20, 22, 0, []), (20, 0, 21, 0, (-1), []), (21, 72, 22, 0, 0, []), (22, 6, 23, 0, 0, []), (23, 56, 26, 11, 0, []), (26, 56, 29, 6, 7, []), (29, 4, 30, 1, 0, []), (30, 76, 33, 136, 2, [10]), (33, 72, 34, 0, 0, [])]
/-- TwoWayWall$Yards.rentOf(I)I -/
def zcd136 : List (Nat × zI) := [(0, 0, 1, 0, 0, []), (1, 7, 2, 2, 0, []), (2, 0, 3, 0, 0, []), (3, 7, 4, 3, 0, []), (4, 4, 5, 3, 0, []), (5, 6, 6, 0, 0, []), (6, 55, 9, 10, 5, []), (9, 49, 12, 47, 0, []), (12, 4, 13, 1, 0, []), (13, 4, 14, 3, 0, []), (14, 21, 15, 0, 0, []), (15, 0, 16, 0, 1, []), (16, 14, 17, 0, 0, []), (17, 40, 20, 41, 0, []), (20, 6, 21, 0, 0, []), (21, 4, 22, 3, 0, []), (22, 76, 25, 137, 2, [10]), (25, 4, 26, 1, 0, []), (26, 14, 27, 0, 0, []), (27, 40, 30, 32, 0, []), (30, 0, 31, 0, (-1), []), (31, 72, 32, 0, 0, []), (32, 4, 33, 2, 0, []), (33, 6, 34, 0, 0, []), (34, 56, 37, 10, 4, []), (37, 4, 38, 3, 0, []), (38, 60, 39, 0, 0, []), (39, 11, 40, 0, 0, []), (40, 7, 41, 2, 0, []), (41, 10, 44, 3, 1, []), (44, 53, 47, 4, 0, []), (47, 4, 48, 2, 0, []), (48, 72, 49, 0, 0, [])]
/-- TwoWayWall$Yards.clashesOf(I)I -/
def zcd137 : List (Nat × zI) := [(0, 0, 1, 0, 0, []), (1, 7, 2, 2, 0, []), (2, 0, 3, 0, 0, []), (3, 7, 4, 3, 0, []), (4, 4, 5, 3, 0, []), (5, 6, 6, 0, 0, []), (6, 55, 9, 10, 5, []), (9, 49, 12, 38, 0, []), (12, 4, 13, 3, 0, []), (13, 4, 14, 1, 0, []), (14, 46, 17, 32, 0, []), (17, 6, 18, 0, 0, []), (18, 4, 19, 1, 0, []), (19, 4, 20, 3, 0, []), (20, 76, 23, 138, 3, [10]), (23, 40, 26, 32, 0, []), (26, 4, 27, 2, 0, []), (27, 0, 28, 0, 1, []), (28, 4, 29, 3, 0, []), (29, 20, 30, 0, 0, []), (30, 15, 31, 0, 0, []), (31, 7, 32, 2, 0, []), (32, 10, 35, 3, 1, []), (35, 53, 38, 4, 0, []), (38, 4, 39, 2, 0, []), (39, 72, 40, 0, 0, [])]
/-- TwoWayWall$Yards.clash(II)Z -/
def zcd138 : List (Nat × zI) := [(0, 6, 1, 0, 0, []), (1, 56, 4, 10, 0, []), (4, 4, 5, 1, 0, []), (5, 60, 6, 0, 0, []), (6, 6, 7, 0, 0, []), (7, 56, 10, 10, 1, []), (10, 4, 11, 2, 0, []), (11, 60, 12, 0, 0, []), (12, 50, 15, 34, 0, []), (15, 6, 16, 0, 0, []), (16, 56, 19, 10, 0, []), (19, 4, 20, 2, 0, []), (20, 60, 21, 0, 0, []), (21, 6, 22, 0, 0, []), (22, 56, 25, 10, 1, []), (25, 4, 26, 1, 0, []), (26, 60, 27, 0, 0, []), (27, 50, 30, 34, 0, []), (30, 0, 31, 0, 1, []), (31, 53, 34, 35, 0, []), (34, 0, 35, 0, 0, []), (35, 7, 36, 3, 0, []), (36, 4, 37, 3, 0, []), (37, 40, 40, 74, 0, []), (40, 6, 41, 0, 0, []), (41, 56, 44, 10, 2, []), (44, 4, 45, 1, 0, []), (45, 60, 46, 0, 0, []), (46, 6, 47, 0, 0, []), (47, 56, 50, 10, 3, []), (50, 4, 51, 2, 0, []), (51, 60, 52, 0, 0, []), (52, 50, 55, 74, 0, []), (55, 6, 56, 0, 0, []), (56, 56, 59, 10, 2, []), (59, 4, 60, 2, 0, []), (60, 60, 61, 0, 0, []), (61, 6, 62, 0, 0, []), (62, 56, 65, 10, 3, []), (65, 4, 66, 1, 0, []), (66, 60, 67, 0, 0, []), (67, 50, 70, 74, 0, []), (70, 0, 71, 0, 1, []), (71, 53, 74, 75, 0, []), (74, 0, 75, 0, 0, []), (75, 72, 76, 3, 0, [])]
/-- TwoWayWall.best(I)I -/
def zcd139 : List (Nat × zI) := [(0, 4, 1, 1, 0, []), (1, 42, 4, 9, 0, []), (4, 4, 5, 1, 0, []), (5, 0, 6, 0, 2, []), (6, 51, 9, 11, 0, []), (9, 0, 10, 0, (-1), []), (10, 72, 11, 0, 0, []), (11, 6, 12, 0, 0, []), (12, 56, 15, 11, 0, []), (15, 56, 18, 6, 7, []), (18, 6, 19, 0, 0, []), (19, 56, 22, 11, 12, []), (22, 76, 25, 140, 2, [10]), (25, 0, 26, 0, 1, []), (26, 6, 27, 0, 0, []), (27, 56, 30, 11, 0, []), (30, 56, 33, 6, 7, []), (33, 55, 36, 10, 5, []), (36, 20, 37, 0, 0, []), (37, 7, 38, 2, 0, []), (38, 0, 39, 0, 0, []), (39, 7, 40, 3, 0, []), (40, 0, 41, 0, 0, []), (41, 7, 43, 4, 0, []), (43, 0, 44, 0, 0, []), (44, 7, 46, 5, 0, []), (46, 4, 48, 5, 0, []), (48, 4, 49, 2, 0, []), (49, 49, 52, 99, 0, []), (52, 6, 53, 0, 0, []), (53, 56, 56, 11, 12, []), (56, 4, 58, 5, 0, []), (58, 60, 59, 0, 0, []), (59, 6, 60, 0, 0, []), (60, 56, 63, 11, 12, []), (63, 4, 64, 3, 0, []), (64, 60, 65, 0, 0, []), (65, 51, 68, 74, 0, []), (68, 4, 70, 5, 0, []), (70, 7, 71, 3, 0, []), (71, 0, 72, 0, 0, []), (72, 7, 74, 4, 0, []), (74, 6, 75, 0, 0, []), (75, 56, 78, 11, 12, []), (78, 4, 80, 5, 0, []), (80, 60, 81, 0, 0, []), (81, 6, 82, 0, 0, []), (82, 56, 85, 11, 12, []), (85, 4, 86, 3, 0, []), (86, 60, 87, 0, 0, []), (87, 47, 90, 93, 0, []), (90, 10, 93, 4, 1, []), (93, 10, 96, 5, 1, []), (96, 53, 99, 46, 0, []), (99, 4, 100, 1, 0, []), (100, 41, 103, 110, 0, []), (103, 6, 104, 0, 0, []), (104, 56, 107, 11, 12, []), (107, 4, 108, 3, 0, []), (108, 60, 109, 0, 0, []), (109, 72, 110, 0, 0, []), (110, 4, 111, 1, 0, []), (111, 0, 112, 0, 1, []), (112, 47, 115, 119, 0, []), (115, 4, 116, 3, 0, []), (116, 53, 119, 121, 0, []), (119, 4, 121, 4, 0, []), (121, 72, 122, 0, 0, [])]
/-- TwoWayWall$Yards.listRents([I)V -/
def zcd140 : List (Nat × zI) := [(0, 6, 1, 1, 0, []), (1, 0, 2, 0, 0, []), (2, 0, 3, 0, 0, []), (3, 64, 4, 0, 0, []), (4, 0, 5, 0, 0, []), (5, 7, 6, 2, 0, []), (6, 4, 7, 2, 0, []), (7, 6, 8, 0, 0, []), (8, 55, 11, 10, 5, []), (11, 49, 14, 96, 0, []), (14, 6, 15, 0, 0, []), (15, 4, 16, 2, 0, []), (16, 76, 19, 137, 2, [10]), (19, 7, 20, 3, 0, []), (20, 0, 21, 0, 1, []), (21, 4, 22, 2, 0, []), (22, 20, 23, 0, 0, []), (23, 7, 25, 4, 0, []), (25, 0, 26, 0, 0, []), (26, 7, 28, 5, 0, []), (28, 4, 30, 5, 0, []), (30, 4, 32, 4, 0, []), (32, 49, 35, 90, 0, []), (35, 6, 36, 1, 0, []), (36, 4, 38, 5, 0, []), (38, 60, 39, 0, 0, []), (39, 0, 40, 0, (-1), []), (40, 46, 43, 54, 0, []), (43, 4, 45, 5, 0, []), (45, 4, 46, 3, 0, []), (46, 14, 47, 0, 0, []), (47, 41, 50, 54, 0, []), (50, 0, 51, 0, 1, []), (51, 53, 54, 55, 0, []), (54, 0, 55, 0, 0, []), (55, 7, 57, 6, 0, []), (57, 6, 58, 1, 0, []), (58, 4, 60, 4, 0, []), (60, 4, 62, 5, 0, []), (62, 11, 63, 0, 0, []), (63, 4, 65, 6, 0, []), (65, 40, 68, 82, 0, []), (68, 6, 69, 1, 0, []), (69, 4, 71, 5, 0, []), (71, 60, 72, 0, 0, []), (72, 6, 73, 0, 0, []), (73, 56, 76, 10, 4, []), (76, 4, 77, 2, 0, []), (77, 60, 78, 0, 0, []), (78, 11, 79, 0, 0, []), (79, 53, 82, 83, 0, []), (82, 0, 83, 0, (-1), []), (83, 64, 84, 0, 0, []), (84, 10, 87, 5, 1, []), (87, 53, 90, 28, 0, []), (90, 10, 93, 2, 1, []), (93, 53, 96, 6, 0, []), (96, 73, 97, 0, 0, [])]
/-- TwoWayWall.rain(II)I -/
def zcd141 : List (Nat × zI) := [(0, 4, 1, 1, 0, []), (1, 42, 4, 21, 0, []), (4, 4, 5, 1, 0, []), (5, 0, 8, 0, 1000000, []), (8, 50, 11, 21, 0, []), (11, 4, 12, 2, 0, []), (12, 42, 15, 21, 0, []), (15, 4, 16, 2, 0, []), (16, 0, 18, 0, 100, []), (18, 51, 21, 27, 0, []), (21, 6, 22, 0, 0, []), (22, 0, 23, 0, (-1), []), (23, 76, 26, 24, 2, [11]), (26, 72, 27, 0, 0, []), (27, 6, 28, 0, 0, []), (28, 6, 29, 0, 0, []), (29, 56, 32, 11, 0, []), (32, 4, 33, 1, 0, []), (33, 4, 34, 2, 0, []), (34, 76, 37, 142, 3, [6]), (37, 76, 40, 26, 2, [11]), (40, 72, 41, 0, 0, [])]
/-- TwoWayWall$State.wash(II)I -/
def zcd142 : List (Nat × zI) := [(0, 4, 1, 1, 0, []), (1, 32, 2, 0, 0, []), (2, 8, 3, 3, 0, []), (3, 0, 4, 0, 0, []), (4, 7, 6, 5, 0, []), (6, 0, 7, 0, 0, []), (7, 7, 9, 6, 0, []), (9, 4, 11, 6, 0, []), (11, 6, 12, 0, 0, []), (12, 55, 15, 6, 0, []), (15, 49, 18, 99, 0, []), (18, 0, 19, 0, 0, []), (19, 7, 21, 7, 0, []), (21, 4, 23, 7, 0, []), (23, 0, 25, 0, 7, []), (25, 49, 28, 93, 0, []), (28, 6, 29, 0, 0, []), (29, 56, 32, 6, 1, []), (32, 4, 34, 6, 0, []), (34, 60, 35, 0, 0, []), (35, 4, 37, 7, 0, []), (37, 21, 38, 0, 0, []), (38, 0, 39, 0, 1, []), (39, 14, 40, 0, 0, []), (40, 40, 43, 87, 0, []), (43, 5, 44, 3, 0, []), (44, 1, 47, 0, 1103, []), (47, 25, 48, 0, 0, []), (48, 1, 51, 0, 12345, []), (51, 23, 52, 0, 0, []), (52, 1, 55, 0, 1000003, []), (55, 28, 56, 0, 0, []), (56, 8, 57, 3, 0, []), (57, 5, 58, 3, 0, []), (58, 1, 61, 0, 100, []), (61, 28, 62, 0, 0, []), (62, 4, 63, 2, 0, []), (63, 32, 64, 0, 0, []), (64, 31, 65, 0, 0, []), (65, 43, 68, 87, 0, []), (68, 6, 69, 0, 0, []), (69, 56, 72, 6, 1, []), (72, 4, 74, 6, 0, []), (74, 38, 75, 0, 0, []), (75, 60, 76, 0, 0, []), (76, 0, 77, 0, 1, []), (77, 4, 79, 7, 0, []), (79, 20, 80, 0, 0, []), (80, 0, 81, 0, (-1), []), (81, 16, 82, 0, 0, []), (82, 14, 83, 0, 0, []), (83, 64, 84, 0, 0, []), (84, 10, 87, 5, 1, []), (87, 10, 90, 7, 1, []), (90, 53, 93, 21, 0, []), (93, 10, 96, 6, 1, []), (96, 53, 99, 9, 0, []), (99, 4, 101, 5, 0, []), (101, 72, 102, 0, 0, [])]
/-- TwoWayWall.image(I)I -/
def zcd143 : List (Nat × zI) := [(0, 4, 1, 1, 0, []), (1, 42, 4, 13, 0, []), (4, 4, 5, 1, 0, []), (5, 6, 6, 0, 0, []), (6, 56, 9, 11, 2, []), (9, 68, 10, 0, 0, []), (10, 48, 13, 19, 0, []), (13, 6, 14, 0, 0, []), (14, 0, 15, 0, (-1), []), (15, 76, 18, 24, 2, [11]), (18, 72, 19, 0, 0, []), (19, 6, 20, 0, 0, []), (20, 56, 23, 11, 2, []), (23, 4, 24, 1, 0, []), (24, 63, 25, 0, 0, []), (25, 52, 28, 41, 0, []), (28, 6, 29, 0, 0, []), (29, 56, 32, 11, 2, []), (32, 4, 33, 1, 0, []), (33, 69, 36, 6, 0, []), (36, 36, 37, 0, 0, []), (37, 75, 40, 3, 1, []), (40, 67, 41, 0, 0, []), (41, 6, 42, 0, 0, []), (42, 56, 45, 11, 2, []), (45, 4, 46, 1, 0, []), (46, 63, 47, 0, 0, []), (47, 6, 48, 0, 0, []), (48, 56, 51, 11, 0, []), (51, 76, 54, 38, 2, [6]), (54, 6, 55, 0, 0, []), (55, 0, 56, 0, 0, []), (56, 76, 59, 26, 2, [11]), (59, 72, 60, 0, 0, [])]
/-- TwoWayWall.back(I)I -/
def zcd144 : List (Nat × zI) := [(0, 4, 1, 1, 0, []), (1, 42, 4, 13, 0, []), (4, 4, 5, 1, 0, []), (5, 6, 6, 0, 0, []), (6, 56, 9, 11, 2, []), (9, 68, 10, 0, 0, []), (10, 48, 13, 19, 0, []), (13, 6, 14, 0, 0, []), (14, 0, 15, 0, (-1), []), (15, 76, 18, 24, 2, [11]), (18, 72, 19, 0, 0, []), (19, 6, 20, 0, 0, []), (20, 56, 23, 11, 2, []), (23, 4, 24, 1, 0, []), (24, 63, 25, 0, 0, []), (25, 52, 28, 35, 0, []), (28, 6, 29, 0, 0, []), (29, 0, 31, 0, (-2), []), (31, 76, 34, 24, 2, [11]), (34, 72, 35, 0, 0, []), (35, 6, 36, 0, 0, []), (36, 56, 39, 11, 0, []), (39, 6, 40, 0, 0, []), (40, 56, 43, 11, 2, []), (43, 4, 44, 1, 0, []), (44, 63, 45, 0, 0, []), (45, 76, 48, 38, 2, [6]), (48, 6, 49, 0, 0, []), (49, 76, 52, 15, 1, [11]), (52, 6, 53, 0, 0, []), (53, 0, 54, 0, 0, []), (54, 76, 57, 26, 2, [11]), (57, 72, 58, 0, 0, [])]
/-- TwoWayWall.count(I)I -/
def zcd145 : List (Nat × zI) := [(0, 4, 1, 1, 0, []), (1, 0, 3, 0, 11, []), (3, 48, 6, 22, 0, []), (6, 4, 7, 1, 0, []), (7, 0, 9, 0, 14, []), (9, 50, 12, 22, 0, []), (12, 6, 13, 0, 0, []), (13, 56, 16, 11, 13, []), (16, 4, 17, 1, 0, []), (17, 0, 19, 0, 11, []), (19, 12, 20, 0, 0, []), (20, 60, 21, 0, 0, []), (21, 72, 22, 0, 0, []), (22, 4, 23, 1, 0, []), (23, 0, 25, 0, 15, []), (25, 48, 28, 47, 0, []), (28, 4, 29, 1, 0, []), (29, 0, 31, 0, 22, []), (31, 49, 34, 47, 0, []), (34, 6, 35, 0, 0, []), (35, 56, 38, 11, 0, []), (38, 56, 41, 6, 3, []), (41, 4, 42, 1, 0, []), (42, 0, 44, 0, 15, []), (44, 12, 45, 0, 0, []), (45, 60, 46, 0, 0, []), (46, 72, 47, 0, 0, []), (47, 4, 48, 1, 0, []), (48, 0, 50, 0, 22, []), (50, 48, 53, 72, 0, []), (53, 4, 54, 1, 0, []), (54, 0, 56, 0, 29, []), (56, 49, 59, 72, 0, []), (59, 6, 60, 0, 0, []), (60, 56, 63, 11, 0, []), (63, 56, 66, 6, 4, []), (66, 4, 67, 1, 0, []), (67, 0, 69, 0, 22, []), (69, 12, 70, 0, 0, []), (70, 60, 71, 0, 0, []), (71, 72, 72, 0, 0, []), (72, 4, 73, 1, 0, []), (73, 54, 132, 0, 0, [247, 132, 140, 151, 162, 173, 184, 195, 206, 217, 228, 239]), (132, 6, 133, 0, 0, []), (133, 56, 136, 11, 0, []), (136, 55, 139, 6, 0, []), (139, 72, 140, 0, 0, []), (140, 6, 141, 0, 0, []), (141, 56, 144, 11, 0, []), (144, 56, 147, 6, 5, []), (147, 76, 150, 146, 1, [9]), (150, 72, 151, 0, 0, []), (151, 6, 152, 0, 0, []), (152, 56, 155, 11, 0, []), (155, 56, 158, 6, 6, []), (158, 76, 161, 146, 1, [9]), (161, 72, 162, 0, 0, []), (162, 6, 163, 0, 0, []), (163, 56, 166, 11, 0, []), (166, 56, 169, 6, 5, []), (169, 55, 172, 9, 5, []), (172, 72, 173, 0, 0, []), (173, 6, 174, 0, 0, []), (174, 56, 177, 11, 0, []), (177, 56, 180, 6, 6, []), (180, 55, 183, 9, 5, []), (183, 72, 184, 0, 0, []), (184, 6, 185, 0, 0, []), (185, 56, 188, 11, 0, []), (188, 56, 191, 6, 5, []), (191, 55, 194, 9, 7, []), (194, 72, 195, 0, 0, []), (195, 6, 196, 0, 0, []), (196, 56, 199, 11, 0, []), (199, 56, 202, 6, 6, []), (202, 55, 205, 9, 7, []), (205, 72, 206, 0, 0, []), (206, 6, 207, 0, 0, []), (207, 56, 210, 11, 0, []), (210, 56, 213, 6, 5, []), (213, 55, 216, 9, 9, []), (216, 72, 217, 0, 0, []), (217, 6, 218, 0, 0, []), (218, 56, 221, 11, 0, []), (221, 56, 224, 6, 6, []), (224, 55, 227, 9, 9, []), (227, 72, 228, 0, 0, []), (228, 6, 229, 0, 0, []), (229, 56, 232, 11, 0, []), (232, 56, 235, 6, 7, []), (235, 55, 238, 10, 5, []), (238, 72, 239, 0, 0, []), (239, 6, 240, 0, 0, []), (240, 56, 243, 11, 3, []), (243, 55, 246, 8, 1, []), (246, 72, 247, 0, 0, []), (247, 0, 248, 0, (-1), []), (248, 72, 249, 0, 0, [])]
/-- TwoWayWall$Tongue.toldLetters()I -/
def zcd146 : List (Nat × zI) := [(0, 0, 1, 0, 0, []), (1, 7, 2, 1, 0, []), (2, 0, 3, 0, 0, []), (3, 7, 4, 2, 0, []), (4, 4, 5, 2, 0, []), (5, 0, 7, 0, 26, []), (7, 49, 10, 27, 0, []), (10, 6, 11, 0, 0, []), (11, 4, 12, 2, 0, []), (12, 76, 15, 19, 2, [9]), (15, 40, 18, 21, 0, []), (18, 10, 21, 1, 1, []), (21, 10, 24, 2, 1, []), (24, 53, 27, 4, 0, []), (27, 4, 28, 1, 0, []), (28, 72, 29, 0, 0, [])]
/-- TwoWayWall.status()I -/
def zcd147 : List (Nat × zI) := [(0, 6, 1, 0, 0, []), (1, 55, 4, 11, 17, []), (4, 72, 5, 0, 0, [])]
/-- TwoWayWallModel.<init>()V -/
def zcd148 : List (Nat × zI) := [(0, 6, 1, 0, 0, []), (1, 78, 4, 0, 0, []), (4, 6, 5, 0, 0, []), (5, 0, 6, 0, (-1), []), (6, 57, 9, 12, 2, []), (9, 6, 10, 0, 0, []), (10, 0, 12, 0, 7, []), (12, 70, 14, 0, 0, []), (14, 59, 17, 12, 3, []), (17, 6, 18, 0, 0, []), (18, 0, 21, 0, 428, []), (21, 70, 23, 0, 0, []), (23, 59, 26, 12, 4, []), (26, 6, 27, 0, 0, []), (27, 0, 30, 0, 856, []), (30, 70, 32, 0, 0, []), (32, 59, 35, 12, 5, []), (35, 6, 36, 0, 0, []), (36, 0, 37, 0, 2, []), (37, 70, 39, 3, 0, []), (39, 59, 42, 12, 6, []), (42, 6, 43, 0, 0, []), (43, 0, 46, 0, 300, []), (46, 70, 48, 0, 0, []), (48, 59, 51, 12, 7, []), (51, 6, 52, 0, 0, []), (52, 0, 54, 0, 36, []), (54, 70, 56, 2, 0, []), (56, 36, 57, 0, 0, []), (57, 0, 58, 0, 0, []), (58, 0, 60, 0, 101, []), (60, 66, 61, 0, 0, []), (61, 36, 62, 0, 0, []), (62, 0, 63, 0, 1, []), (63, 0, 65, 0, 97, []), (65, 66, 66, 0, 0, []), (66, 36, 67, 0, 0, []), (67, 0, 68, 0, 2, []), (68, 0, 70, 0, 115, []), (70, 66, 71, 0, 0, []), (71, 36, 72, 0, 0, []), (72, 0, 73, 0, 3, []), (73, 0, 75, 0, 116, []), (75, 66, 76, 0, 0, []), (76, 36, 77, 0, 0, []), (77, 0, 78, 0, 4, []), (78, 0, 80, 0, 32, []), (80, 66, 81, 0, 0, []), (81, 36, 82, 0, 0, []), (82, 0, 83, 0, 5, []), (83, 0, 85, 0, 119, []), (85, 66, 86, 0, 0, []), (86, 36, 87, 0, 0, []), (87, 0, 89, 0, 6, []), (89, 0, 91, 0, 101, []), (91, 66, 92, 0, 0, []), (92, 36, 93, 0, 0, []), (93, 0, 95, 0, 7, []), (95, 0, 97, 0, 115, []), (97, 66, 98, 0, 0, []), (98, 36, 99, 0, 0, []), (99, 0, 101, 0, 8, []), (101, 0, 103, 0, 116, []), (103, 66, 104, 0, 0, []), (104, 36, 105, 0, 0, []), (105, 0, 107, 0, 9, []), (107, 0, 109, 0, 32, []), (109, 66, 110, 0, 0, []), (110, 36, 111, 0, 0, []), (111, 0, 113, 0, 10, []), (113, 0, 115, 0, 119, []), (115, 66, 116, 0, 0, []), (116, 36, 117, 0, 0, []), (117, 0, 119, 0, 11, []), (119, 0, 121, 0, 111, []), (121, 66, 122, 0, 0, []), (122, 36, 123, 0, 0, []), (123, 0, 125, 0, 12, []), (125, 0, 127, 0, 114, []), (127, 66, 128, 0, 0, []), (128, 36, 129, 0, 0, []), (129, 0, 131, 0, 13, []), (131, 0, 133, 0, 100, []), (133, 66, 134, 0, 0, []), (134, 36, 135, 0, 0, []), (135, 0, 137, 0, 14, []), (137, 0, 139, 0, 32, []), (139, 66, 140, 0, 0, []), (140, 36, 141, 0, 0, []), (141, 0, 143, 0, 15, []), (143, 0, 145, 0, 109, []), (145, 66, 146, 0, 0, []), (146, 36, 147, 0, 0, []), (147, 0, 149, 0, 16, []), (149, 0, 151, 0, 105, []), (151, 66, 152, 0, 0, []), (152, 36, 153, 0, 0, []), (153, 0, 155, 0, 17, []), (155, 0, 157, 0, 114, []), (157, 66, 158, 0, 0, []), (158, 36, 159, 0, 0, []), (159, 0, 161, 0, 18, []), (161, 0, 163, 0, 114, []), (163, 66, 164, 0, 0, []), (164, 36, 165, 0, 0, []), (165, 0, 167, 0, 19, []), (167, 0, 169, 0, 111, []), (169, 66, 170, 0, 0, []), (170, 36, 171, 0, 0, []), (171, 0, 173, 0, 20, []), (173, 0, 175, 0, 114, []), (175, 66, 176, 0, 0, []), (176, 36, 177, 0, 0, []), (177, 0, 179, 0, 21, []), (179, 0, 181, 0, 32, []), (181, 66, 182, 0, 0, []), (182, 36, 183, 0, 0, []), (183, 0, 185, 0, 22, []), (185, 0, 187, 0, 99, []), (187, 66, 188, 0, 0, []), (188, 36, 189, 0, 0, []), (189, 0, 191, 0, 23, []), (191, 0, 193, 0, 111, []), (193, 66, 194, 0, 0, []), (194, 36, 195, 0, 0, []), (195, 0, 197, 0, 24, []), (197, 0, 199, 0, 115, []), (199, 66, 200, 0, 0, []), (200, 36, 201, 0, 0, []), (201, 0, 203, 0, 25, []), (203, 0, 205, 0, 116, []), (205, 66, 206, 0, 0, []), (206, 36, 207, 0, 0, []), (207, 0, 209, 0, 26, []), (209, 0, 211, 0, 32, []), (211, 66, 212, 0, 0, []), (212, 36, 213, 0, 0, []), (213, 0, 215, 0, 27, []), (215, 0, 217, 0, 100, []), (217, 66, 218, 0, 0, []), (218, 36, 219, 0, 0, []), (219, 0, 221, 0, 28, []), (221, 0, 223, 0, 114, []), (223, 66, 224, 0, 0, []), (224, 36, 225, 0, 0, []), (225, 0, 227, 0, 29, []), (227, 0, 229, 0, 111, []), (229, 66, 230, 0, 0, []), (230, 36, 231, 0, 0, []), (231, 0, 233, 0, 30, []), (233, 0, 235, 0, 112, []), (235, 66, 236, 0, 0, []), (236, 36, 237, 0, 0, []), (237, 0, 239, 0, 31, []), (239, 0, 241, 0, 32, []), (241, 66, 242, 0, 0, []), (242, 36, 243, 0, 0, []), (243, 0, 245, 0, 32, []), (245, 0, 247, 0, 110, []), (247, 66, 248, 0, 0, []), (248, 36, 249, 0, 0, []), (249, 0, 251, 0, 33, []), (251, 0, 253, 0, 111, []), (253, 66, 254, 0, 0, []), (254, 36, 255, 0, 0, []), (255, 0, 257, 0, 34, []), (257, 0, 259, 0, 116, []), (259, 66, 260, 0, 0, []), (260, 36, 261, 0, 0, []), (261, 0, 263, 0, 35, []), (263, 0, 265, 0, 32, []), (265, 66, 266, 0, 0, []), (266, 59, 269, 12, 9, []), (269, 6, 270, 0, 0, []), (270, 0, 273, 0, 400, []), (273, 70, 275, 2, 0, []), (275, 59, 278, 12, 10, []), (278, 6, 279, 0, 0, []), (279, 0, 280, 0, 5, []), (280, 70, 282, 0, 0, []), (282, 59, 285, 12, 11, []), (285, 6, 286, 0, 0, []), (286, 0, 287, 0, (-1), []), (287, 57, 290, 12, 13, []), (290, 6, 291, 0, 0, []), (291, 0, 294, 0, 401, []), (294, 70, 296, 0, 0, []), (296, 59, 299, 12, 14, []), (299, 6, 300, 0, 0, []), (300, 0, 303, 0, 401, []), (303, 70, 305, 0, 0, []), (305, 59, 308, 12, 15, []), (308, 6, 309, 0, 0, []), (309, 0, 312, 0, 401, []), (312, 70, 314, 0, 0, []), (314, 59, 317, 12, 16, []), (317, 6, 318, 0, 0, []), (318, 0, 321, 0, 128, []), (321, 70, 323, 0, 0, []), (323, 59, 326, 12, 22, []), (326, 6, 327, 0, 0, []), (327, 0, 330, 0, 128, []), (330, 70, 332, 0, 0, []), (332, 59, 335, 12, 23, []), (335, 6, 336, 0, 0, []), (336, 0, 339, 0, 729, []), (339, 70, 341, 3, 0, []), (341, 59, 344, 12, 24, []), (344, 6, 345, 0, 0, []), (345, 0, 348, 0, 12096, []), (348, 70, 350, 0, 0, []), (350, 59, 353, 12, 28, []), (353, 6, 354, 0, 0, []), (354, 0, 357, 0, 448, []), (357, 70, 359, 3, 0, []), (359, 59, 362, 12, 29, []), (362, 6, 363, 0, 0, []), (363, 0, 364, 0, 2, []), (364, 70, 366, 0, 0, []), (366, 59, 369, 12, 30, []), (369, 6, 370, 0, 0, []), (370, 0, 372, 0, 50176, []), (372, 70, 374, 1, 0, []), (374, 59, 377, 12, 32, []), (377, 6, 378, 0, 0, []), (378, 0, 380, 0, 50176, []), (380, 70, 382, 1, 0, []), (382, 59, 385, 12, 33, []), (385, 6, 386, 0, 0, []), (386, 0, 389, 0, 729, []), (389, 70, 391, 0, 0, []), (391, 59, 394, 12, 34, []), (394, 6, 395, 0, 0, []), (395, 0, 397, 0, 852992, []), (397, 70, 399, 0, 0, []), (399, 59, 402, 12, 35, []), (402, 6, 403, 0, 0, []), (403, 0, 406, 0, 729, []), (406, 70, 408, 0, 0, []), (408, 59, 411, 12, 36, []), (411, 6, 412, 0, 0, []), (412, 56, 415, 12, 4, []), (415, 0, 418, 0, 427, []), (418, 0, 420, 0, 8, []), (420, 64, 421, 0, 0, []), (421, 0, 422, 0, 0, []), (422, 7, 423, 1, 0, []), (423, 4, 424, 1, 0, []), (424, 0, 426, 0, 7, []), (426, 49, 429, 457, 0, []), (429, 6, 430, 0, 0, []), (430, 56, 433, 12, 4, []), (433, 0, 436, 0, 286, []), (436, 4, 437, 1, 0, []), (437, 11, 438, 0, 0, []), (438, 4, 439, 1, 0, []), (439, 64, 440, 0, 0, []), (440, 6, 441, 0, 0, []), (441, 56, 444, 12, 4, []), (444, 0, 447, 0, 293, []), (447, 4, 448, 1, 0, []), (448, 11, 449, 0, 0, []), (449, 0, 450, 0, 1, []), (450, 64, 451, 0, 0, []), (451, 10, 454, 1, 1, []), (454, 53, 457, 423, 0, []), (457, 73, 458, 0, 0, [])]
/-- TwoWayWallModel.image(I)I -/
def zcd149 : List (Nat × zI) := [(0, 4, 1, 1, 0, []), (1, 0, 2, 0, 0, []), (2, 0, 3, 0, 1, []), (3, 74, 6, 150, 3, []), (6, 41, 9, 15, 0, []), (9, 6, 10, 0, 0, []), (10, 0, 11, 0, (-1), []), (11, 76, 14, 151, 2, [12]), (14, 72, 15, 0, 0, []), (15, 0, 16, 0, 0, []), (16, 7, 17, 2, 0, []), (17, 4, 18, 2, 0, []), (18, 0, 21, 0, 428, []), (21, 49, 24, 48, 0, []), (24, 6, 25, 0, 0, []), (25, 56, 28, 12, 5, []), (28, 0, 31, 0, 428, []), (31, 4, 32, 1, 0, []), (32, 13, 33, 0, 0, []), (33, 4, 34, 2, 0, []), (34, 11, 35, 0, 0, []), (35, 6, 36, 0, 0, []), (36, 56, 39, 12, 4, []), (39, 4, 40, 2, 0, []), (40, 60, 41, 0, 0, []), (41, 64, 42, 0, 0, []), (42, 10, 45, 2, 1, []), (45, 53, 48, 17, 0, []), (48, 6, 49, 0, 0, []), (49, 56, 52, 12, 6, []), (52, 4, 53, 1, 0, []), (53, 0, 54, 0, 1, []), (54, 66, 55, 0, 0, []), (55, 6, 56, 0, 0, []), (56, 0, 57, 0, 0, []), (57, 76, 60, 152, 2, [12]), (60, 72, 61, 0, 0, [])]
/-- TwoWayWallModel.lies(III)Z -/
def zcd150 : List (Nat × zI) := [(0, 4, 1, 0, 0, []), (1, 4, 2, 1, 0, []), (2, 48, 5, 14, 0, []), (5, 4, 6, 0, 0, []), (6, 4, 7, 2, 0, []), (7, 50, 10, 14, 0, []), (10, 0, 11, 0, 1, []), (11, 53, 14, 15, 0, []), (14, 0, 15, 0, 0, []), (15, 72, 16, 3, 0, [])]
/-- TwoWayWallModel.refuses(I)I -/
def zcd151 : List (Nat × zI) := [(0, 6, 1, 0, 0, []), (1, 4, 2, 1, 0, []), (2, 57, 5, 12, 0, []), (5, 6, 6, 0, 0, []), (6, 56, 9, 12, 3, []), (9, 4, 10, 1, 0, []), (10, 19, 11, 0, 0, []), (11, 38, 12, 0, 0, []), (12, 60, 13, 0, 0, []), (13, 0, 14, 0, 1, []), (14, 11, 15, 0, 0, []), (15, 64, 16, 0, 0, []), (16, 4, 17, 1, 0, []), (17, 72, 18, 0, 0, [])]
/-- TwoWayWallModel.good(I)I -/
def zcd152 : List (Nat × zI) := [(0, 6, 1, 0, 0, []), (1, 0, 2, 0, 0, []), (2, 57, 5, 12, 0, []), (5, 4, 6, 1, 0, []), (6, 72, 7, 0, 0, [])]
/-- TwoWayWallModel.back(I)I -/
def zcd153 : List (Nat × zI) := [(0, 4, 1, 1, 0, []), (1, 0, 2, 0, 0, []), (2, 0, 3, 0, 1, []), (3, 74, 6, 150, 3, []), (6, 41, 9, 15, 0, []), (9, 6, 10, 0, 0, []), (10, 0, 11, 0, (-1), []), (11, 76, 14, 151, 2, [12]), (14, 72, 15, 0, 0, []), (15, 6, 16, 0, 0, []), (16, 56, 19, 12, 6, []), (19, 4, 20, 1, 0, []), (20, 62, 21, 0, 0, []), (21, 41, 24, 31, 0, []), (24, 6, 25, 0, 0, []), (25, 0, 27, 0, (-2), []), (27, 76, 30, 151, 2, [12]), (30, 72, 31, 0, 0, []), (31, 0, 32, 0, 0, []), (32, 7, 33, 2, 0, []), (33, 4, 34, 2, 0, []), (34, 0, 37, 0, 428, []), (37, 49, 40, 64, 0, []), (40, 6, 41, 0, 0, []), (41, 56, 44, 12, 4, []), (44, 4, 45, 2, 0, []), (45, 6, 46, 0, 0, []), (46, 56, 49, 12, 5, []), (49, 0, 52, 0, 428, []), (52, 4, 53, 1, 0, []), (53, 13, 54, 0, 0, []), (54, 4, 55, 2, 0, []), (55, 11, 56, 0, 0, []), (56, 60, 57, 0, 0, []), (57, 64, 58, 0, 0, []), (58, 10, 61, 2, 1, []), (61, 53, 64, 33, 0, []), (64, 6, 65, 0, 0, []), (65, 36, 66, 0, 0, []), (66, 55, 69, 12, 1, []), (69, 0, 70, 0, 1, []), (70, 11, 71, 0, 0, []), (71, 57, 74, 12, 1, []), (74, 6, 75, 0, 0, []), (75, 0, 76, 0, 0, []), (76, 76, 79, 152, 2, [12]), (79, 72, 80, 0, 0, [])]
/-- TwoWayWallModel.size(I)I -/
def zcd154 : List (Nat × zI) := [(0, 4, 1, 1, 0, []), (1, 0, 2, 0, 1, []), (2, 0, 4, 0, 16, []), (4, 74, 7, 150, 3, []), (7, 41, 10, 16, 0, []), (10, 6, 11, 0, 0, []), (11, 0, 12, 0, (-1), []), (12, 76, 15, 151, 2, [12]), (15, 72, 16, 0, 0, []), (16, 6, 17, 0, 0, []), (17, 56, 20, 12, 4, []), (20, 0, 23, 0, 427, []), (23, 60, 24, 0, 0, []), (24, 7, 25, 2, 0, []), (25, 6, 26, 0, 0, []), (26, 4, 27, 1, 0, []), (27, 76, 30, 155, 2, [12]), (30, 6, 31, 0, 0, []), (31, 4, 32, 2, 0, []), (32, 76, 35, 152, 2, [12]), (35, 72, 36, 0, 0, [])]
/-- TwoWayWallModel.sizes(I)V -/
def zcd155 : List (Nat × zI) := [(0, 4, 1, 1, 0, []), (1, 7, 2, 2, 0, []), (2, 4, 3, 2, 0, []), (3, 0, 5, 0, 16, []), (5, 49, 8, 36, 0, []), (8, 6, 9, 0, 0, []), (9, 56, 12, 12, 4, []), (12, 0, 15, 0, 300, []), (15, 4, 16, 2, 0, []), (16, 11, 17, 0, 0, []), (17, 0, 18, 0, 0, []), (18, 64, 19, 0, 0, []), (19, 6, 20, 0, 0, []), (20, 56, 23, 12, 4, []), (23, 0, 26, 0, 316, []), (26, 4, 27, 2, 0, []), (27, 11, 28, 0, 0, []), (28, 0, 29, 0, 0, []), (29, 64, 30, 0, 0, []), (30, 10, 33, 2, 1, []), (33, 53, 36, 2, 0, []), (36, 6, 37, 0, 0, []), (37, 56, 40, 12, 4, []), (40, 0, 43, 0, 427, []), (43, 4, 44, 1, 0, []), (44, 64, 45, 0, 0, []), (45, 6, 46, 0, 0, []), (46, 36, 47, 0, 0, []), (47, 55, 50, 12, 1, []), (50, 0, 51, 0, 1, []), (51, 11, 52, 0, 0, []), (52, 57, 55, 12, 1, []), (55, 73, 56, 0, 0, [])]
/-- TwoWayWallModel.paint(II)I -/
def zcd156 : List (Nat × zI) := [(0, 6, 1, 0, 0, []), (1, 4, 2, 1, 0, []), (2, 76, 5, 157, 2, [12]), (5, 40, 8, 18, 0, []), (8, 4, 9, 2, 0, []), (9, 0, 10, 0, 0, []), (10, 0, 12, 0, 127, []), (12, 74, 15, 150, 3, []), (15, 41, 18, 24, 0, []), (18, 6, 19, 0, 0, []), (19, 0, 20, 0, (-1), []), (20, 76, 23, 151, 2, [12]), (23, 72, 24, 0, 0, []), (24, 6, 25, 0, 0, []), (25, 56, 28, 12, 4, []), (28, 0, 31, 0, 300, []), (31, 4, 32, 1, 0, []), (32, 11, 33, 0, 0, []), (33, 60, 34, 0, 0, []), (34, 7, 35, 3, 0, []), (35, 6, 36, 0, 0, []), (36, 56, 39, 12, 4, []), (39, 0, 42, 0, 300, []), (42, 4, 43, 1, 0, []), (43, 11, 44, 0, 0, []), (44, 4, 45, 2, 0, []), (45, 64, 46, 0, 0, []), (46, 6, 47, 0, 0, []), (47, 4, 48, 3, 0, []), (48, 76, 51, 152, 2, [12]), (51, 72, 52, 0, 0, [])]
/-- TwoWayWallModel.isCell(I)Z -/
def zcd157 : List (Nat × zI) := [(0, 4, 1, 1, 0, []), (1, 0, 2, 0, 0, []), (2, 6, 3, 0, 0, []), (3, 56, 6, 12, 4, []), (6, 0, 9, 0, 427, []), (9, 60, 10, 0, 0, []), (10, 0, 11, 0, 1, []), (11, 12, 12, 0, 0, []), (12, 74, 15, 150, 3, []), (15, 72, 16, 3, 0, [])]
/-- TwoWayWallModel.of(I)I -/
def zcd158 : List (Nat × zI) := [(0, 6, 1, 0, 0, []), (1, 4, 2, 1, 0, []), (2, 76, 5, 157, 2, [12]), (5, 40, 8, 21, 0, []), (8, 6, 9, 0, 0, []), (9, 56, 12, 12, 4, []), (12, 0, 15, 0, 300, []), (15, 4, 16, 1, 0, []), (16, 11, 17, 0, 0, []), (17, 60, 18, 0, 0, []), (18, 53, 21, 22, 0, []), (21, 0, 22, 0, (-1), []), (22, 72, 23, 0, 0, [])]
/-- TwoWayWallModel.lost(II)I -/
def zcd159 : List (Nat × zI) := [(0, 6, 1, 0, 0, []), (1, 4, 2, 1, 0, []), (2, 76, 5, 157, 2, [12]), (5, 40, 8, 18, 0, []), (8, 4, 9, 2, 0, []), (9, 0, 10, 0, 0, []), (10, 0, 12, 0, 127, []), (12, 74, 15, 150, 3, []), (15, 41, 18, 24, 0, []), (18, 6, 19, 0, 0, []), (19, 0, 20, 0, (-1), []), (20, 76, 23, 151, 2, [12]), (23, 72, 24, 0, 0, []), (24, 6, 25, 0, 0, []), (25, 56, 28, 12, 4, []), (28, 0, 31, 0, 316, []), (31, 4, 32, 1, 0, []), (32, 11, 33, 0, 0, []), (33, 60, 34, 0, 0, []), (34, 7, 35, 3, 0, []), (35, 6, 36, 0, 0, []), (36, 56, 39, 12, 4, []), (39, 0, 42, 0, 316, []), (42, 4, 43, 1, 0, []), (43, 11, 44, 0, 0, []), (44, 4, 45, 2, 0, []), (45, 64, 46, 0, 0, []), (46, 6, 47, 0, 0, []), (47, 4, 48, 3, 0, []), (48, 76, 51, 152, 2, [12]), (51, 72, 52, 0, 0, [])]
/-- TwoWayWallModel.row()I -/
def zcd160 : List (Nat × zI) := [(0, 6, 1, 0, 0, []), (1, 55, 4, 12, 12, []), (4, 7, 5, 1, 0, []), (5, 6, 6, 0, 0, []), (6, 0, 7, 0, 0, []), (7, 57, 10, 12, 12, []), (10, 4, 11, 1, 0, []), (11, 41, 14, 21, 0, []), (14, 6, 15, 0, 0, []), (15, 0, 17, 0, (-6), []), (17, 76, 20, 151, 2, [12]), (20, 72, 21, 0, 0, []), (21, 4, 22, 1, 0, []), (22, 0, 24, 0, 16, []), (24, 49, 27, 31, 0, []), (27, 4, 28, 1, 0, []), (28, 53, 31, 33, 0, []), (31, 0, 33, 0, 16, []), (33, 7, 34, 2, 0, []), (34, 6, 35, 0, 0, []), (35, 4, 36, 2, 0, []), (36, 76, 39, 155, 2, [12]), (39, 0, 40, 0, 0, []), (40, 7, 41, 3, 0, []), (41, 4, 42, 3, 0, []), (42, 4, 43, 2, 0, []), (43, 49, 46, 77, 0, []), (46, 6, 47, 0, 0, []), (47, 56, 50, 12, 10, []), (50, 4, 51, 3, 0, []), (51, 62, 52, 0, 0, []), (52, 42, 55, 71, 0, []), (55, 6, 56, 0, 0, []), (56, 56, 59, 12, 4, []), (59, 0, 62, 0, 300, []), (62, 4, 63, 3, 0, []), (63, 11, 64, 0, 0, []), (64, 6, 65, 0, 0, []), (65, 56, 68, 12, 10, []), (68, 4, 69, 3, 0, []), (69, 62, 70, 0, 0, []), (70, 64, 71, 0, 0, []), (71, 10, 74, 3, 1, []), (74, 53, 77, 41, 0, []), (77, 6, 78, 0, 0, []), (78, 4, 79, 1, 0, []), (79, 4, 80, 2, 0, []), (80, 12, 81, 0, 0, []), (81, 57, 84, 12, 8, []), (84, 6, 85, 0, 0, []), (85, 4, 86, 2, 0, []), (86, 76, 89, 152, 2, [12]), (89, 72, 90, 0, 0, [])]
/-- TwoWayWallModel.spilt()I -/
def zcd161 : List (Nat × zI) := [(0, 6, 1, 0, 0, []), (1, 55, 4, 12, 8, []), (4, 72, 5, 0, 0, [])]
/-- TwoWayWallModel.feed(IIIII)I -/
def zcd162 : List (Nat × zI) := [(0, 6, 1, 0, 0, []), (1, 55, 4, 12, 12, []), (4, 0, 6, 0, 20, []), (6, 11, 7, 0, 0, []), (7, 0, 10, 0, 400, []), (10, 51, 13, 15, 0, []), (13, 0, 14, 0, (-1), []), (14, 72, 15, 0, 0, []), (15, 6, 16, 0, 0, []), (16, 56, 19, 12, 11, []), (19, 0, 20, 0, 0, []), (20, 4, 21, 1, 0, []), (21, 64, 22, 0, 0, []), (22, 6, 23, 0, 0, []), (23, 56, 26, 12, 11, []), (26, 0, 27, 0, 1, []), (27, 4, 28, 2, 0, []), (28, 64, 29, 0, 0, []), (29, 6, 30, 0, 0, []), (30, 56, 33, 12, 11, []), (33, 0, 34, 0, 2, []), (34, 4, 35, 3, 0, []), (35, 64, 36, 0, 0, []), (36, 6, 37, 0, 0, []), (37, 56, 40, 12, 11, []), (40, 0, 41, 0, 3, []), (41, 4, 43, 4, 0, []), (43, 64, 44, 0, 0, []), (44, 6, 45, 0, 0, []), (45, 56, 48, 12, 11, []), (48, 0, 49, 0, 4, []), (49, 4, 51, 5, 0, []), (51, 64, 52, 0, 0, []), (52, 0, 53, 0, 0, []), (53, 7, 55, 6, 0, []), (55, 4, 57, 6, 0, []), (57, 0, 59, 0, 20, []), (59, 49, 62, 101, 0, []), (62, 6, 63, 0, 0, []), (63, 56, 66, 12, 10, []), (66, 6, 67, 0, 0, []), (67, 55, 70, 12, 12, []), (70, 4, 72, 6, 0, []), (72, 11, 73, 0, 0, []), (73, 6, 74, 0, 0, []), (74, 56, 77, 12, 11, []), (77, 4, 79, 6, 0, []), (79, 0, 80, 0, 4, []), (80, 17, 81, 0, 0, []), (81, 60, 82, 0, 0, []), (82, 0, 84, 0, 24, []), (84, 0, 86, 0, 8, []), (86, 4, 88, 6, 0, []), (88, 0, 89, 0, 4, []), (89, 18, 90, 0, 0, []), (90, 13, 91, 0, 0, []), (91, 12, 92, 0, 0, []), (92, 21, 93, 0, 0, []), (93, 34, 94, 0, 0, []), (94, 66, 95, 0, 0, []), (95, 10, 98, 6, 1, []), (98, 53, 101, 55, 0, []), (101, 6, 102, 0, 0, []), (102, 36, 103, 0, 0, []), (103, 55, 106, 12, 12, []), (106, 0, 108, 0, 20, []), (108, 11, 109, 0, 0, []), (109, 57, 112, 12, 12, []), (112, 6, 113, 0, 0, []), (113, 55, 116, 12, 12, []), (116, 72, 117, 0, 0, [])]
/-- TwoWayWallModel.end(I)I -/
def zcd163 : List (Nat × zI) := [(0, 4, 1, 1, 0, []), (1, 0, 2, 0, 0, []), (2, 6, 3, 0, 0, []), (3, 55, 6, 12, 12, []), (6, 74, 9, 150, 3, []), (9, 41, 12, 14, 0, []), (12, 0, 13, 0, (-1), []), (13, 72, 14, 0, 0, []), (14, 6, 15, 0, 0, []), (15, 4, 16, 1, 0, []), (16, 57, 19, 12, 12, []), (19, 4, 20, 1, 0, []), (20, 72, 21, 0, 0, [])]
/-- TwoWayWallModel.tables()I -/
def zcd164 : List (Nat × zI) := [(0, 6, 1, 0, 0, []), (1, 6, 2, 0, 0, []), (2, 55, 5, 12, 12, []), (5, 57, 8, 12, 20, []), (8, 6, 9, 0, 0, []), (9, 6, 10, 0, 0, []), (10, 55, 13, 12, 12, []), (13, 76, 16, 165, 2, [12]), (16, 6, 17, 0, 0, []), (17, 0, 18, 0, 0, []), (18, 57, 21, 12, 12, []), (21, 6, 22, 0, 0, []), (22, 0, 23, 0, 0, []), (23, 57, 26, 12, 18, []), (26, 6, 27, 0, 0, []), (27, 0, 28, 0, (-1), []), (28, 57, 31, 12, 19, []), (31, 0, 32, 0, 0, []), (32, 7, 33, 1, 0, []), (33, 4, 34, 1, 0, []), (34, 0, 37, 0, 300, []), (37, 49, 40, 58, 0, []), (40, 6, 41, 0, 0, []), (41, 56, 44, 12, 7, []), (44, 4, 45, 1, 0, []), (45, 6, 46, 0, 0, []), (46, 56, 49, 12, 4, []), (49, 4, 50, 1, 0, []), (50, 60, 51, 0, 0, []), (51, 64, 52, 0, 0, []), (52, 10, 55, 1, 1, []), (55, 53, 58, 33, 0, []), (58, 6, 59, 0, 0, []), (59, 76, 62, 169, 1, [12]), (62, 0, 63, 0, 1, []), (63, 7, 64, 1, 0, []), (64, 6, 65, 0, 0, []), (65, 0, 67, 0, 59, []), (67, 74, 70, 180, 1, []), (70, 76, 73, 170, 2, [12]), (73, 40, 76, 103, 0, []), (76, 4, 77, 1, 0, []), (77, 0, 79, 0, 24, []), (79, 47, 82, 86, 0, []), (82, 6, 83, 0, 0, []), (83, 76, 86, 174, 1, [12]), (86, 6, 87, 0, 0, []), (87, 76, 90, 171, 1, [12]), (90, 40, 93, 97, 0, []), (93, 6, 94, 0, 0, []), (94, 76, 97, 169, 1, [12]), (97, 10, 100, 1, 1, []), (100, 53, 103, 64, 0, []), (103, 6, 104, 0, 0, []), (104, 76, 107, 171, 1, [12]), (107, 40, 110, 125, 0, []), (110, 6, 111, 0, 0, []), (111, 55, 114, 12, 18, []), (114, 6, 115, 0, 0, []), (115, 55, 118, 12, 17, []), (118, 49, 121, 125, 0, []), (121, 6, 122, 0, 0, []), (122, 76, 125, 174, 1, [12]), (125, 6, 126, 0, 0, []), (126, 6, 127, 0, 0, []), (127, 55, 130, 12, 19, []), (130, 57, 133, 12, 13, []), (133, 6, 134, 0, 0, []), (134, 76, 137, 171, 1, [12]), (137, 41, 140, 147, 0, []), (140, 6, 141, 0, 0, []), (141, 0, 143, 0, (-6), []), (143, 76, 146, 151, 2, [12]), (146, 72, 147, 0, 0, []), (147, 0, 148, 0, 0, []), (148, 7, 149, 2, 0, []), (149, 4, 150, 2, 0, []), (150, 0, 153, 0, 300, []), (153, 49, 156, 174, 0, []), (156, 6, 157, 0, 0, []), (157, 56, 160, 12, 4, []), (160, 4, 161, 2, 0, []), (161, 6, 162, 0, 0, []), (162, 56, 165, 12, 7, []), (165, 4, 166, 2, 0, []), (166, 60, 167, 0, 0, []), (167, 64, 168, 0, 0, []), (168, 10, 171, 2, 1, []), (171, 53, 174, 149, 0, []), (174, 6, 175, 0, 0, []), (175, 36, 176, 0, 0, []), (176, 55, 179, 12, 1, []), (179, 0, 180, 0, 1, []), (180, 11, 181, 0, 0, []), (181, 57, 184, 12, 1, []), (184, 6, 185, 0, 0, []), (185, 4, 186, 1, 0, []), (186, 76, 189, 152, 2, [12]), (189, 72, 190, 0, 0, [])]
/-- TwoWayWallModel.splits(I)V -/
def zcd165 : List (Nat × zI) := [(0, 6, 1, 0, 0, []), (1, 0, 2, 0, 0, []), (2, 57, 5, 12, 17, []), (5, 0, 6, 0, 0, []), (6, 7, 7, 2, 0, []), (7, 4, 8, 2, 0, []), (8, 4, 9, 1, 0, []), (9, 49, 12, 263, 0, []), (12, 6, 13, 0, 0, []), (13, 56, 16, 12, 10, []), (16, 4, 17, 2, 0, []), (17, 62, 18, 0, 0, []), (18, 7, 19, 3, 0, []), (19, 4, 20, 3, 0, []), (20, 0, 22, 0, 32, []), (22, 47, 25, 31, 0, []), (25, 10, 28, 2, 1, []), (28, 53, 31, 7, 0, []), (31, 4, 32, 2, 0, []), (32, 0, 33, 0, 1, []), (33, 11, 34, 0, 0, []), (34, 7, 36, 4, 0, []), (36, 4, 37, 3, 0, []), (37, 74, 40, 166, 1, []), (40, 40, 43, 68, 0, []), (43, 4, 45, 4, 0, []), (45, 4, 46, 1, 0, []), (46, 49, 49, 68, 0, []), (49, 6, 50, 0, 0, []), (50, 56, 53, 12, 10, []), (53, 4, 55, 4, 0, []), (55, 62, 56, 0, 0, []), (56, 74, 59, 166, 1, []), (59, 40, 62, 68, 0, []), (62, 10, 65, 4, 1, []), (65, 53, 68, 43, 0, []), (68, 4, 69, 3, 0, []), (69, 74, 72, 167, 1, []), (72, 40, 75, 100, 0, []), (75, 4, 77, 4, 0, []), (77, 4, 78, 1, 0, []), (78, 49, 81, 100, 0, []), (81, 6, 82, 0, 0, []), (82, 56, 85, 12, 10, []), (85, 4, 87, 4, 0, []), (87, 62, 88, 0, 0, []), (88, 74, 91, 167, 1, []), (91, 40, 94, 100, 0, []), (94, 10, 97, 4, 1, []), (97, 53, 100, 75, 0, []), (100, 6, 101, 0, 0, []), (101, 56, 104, 12, 16, []), (104, 6, 105, 0, 0, []), (105, 55, 108, 12, 17, []), (108, 4, 109, 2, 0, []), (109, 64, 110, 0, 0, []), (110, 6, 111, 0, 0, []), (111, 56, 114, 12, 15, []), (114, 6, 115, 0, 0, []), (115, 55, 118, 12, 17, []), (118, 0, 119, 0, 0, []), (119, 64, 120, 0, 0, []), (120, 6, 121, 0, 0, []), (121, 56, 124, 12, 14, []), (124, 6, 125, 0, 0, []), (125, 55, 128, 12, 17, []), (128, 4, 129, 3, 0, []), (129, 74, 132, 166, 1, []), (132, 40, 135, 145, 0, []), (135, 6, 136, 0, 0, []), (136, 4, 137, 2, 0, []), (137, 4, 139, 4, 0, []), (139, 76, 142, 168, 3, [12]), (142, 53, 145, 165, 0, []), (145, 4, 146, 3, 0, []), (146, 74, 149, 167, 1, []), (149, 40, 152, 157, 0, []), (152, 0, 154, 0, 90, []), (154, 53, 157, 165, 0, []), (157, 0, 159, 0, 100, []), (159, 4, 160, 3, 0, []), (160, 0, 163, 0, 255, []), (163, 14, 164, 0, 0, []), (164, 11, 165, 0, 0, []), (165, 64, 166, 0, 0, []), (166, 4, 167, 2, 0, []), (167, 7, 169, 5, 0, []), (169, 4, 171, 5, 0, []), (171, 4, 173, 4, 0, []), (173, 49, 176, 247, 0, []), (176, 4, 177, 3, 0, []), (177, 74, 180, 167, 1, []), (180, 40, 183, 247, 0, []), (183, 6, 184, 0, 0, []), (184, 56, 187, 12, 15, []), (187, 6, 188, 0, 0, []), (188, 55, 191, 12, 17, []), (191, 6, 192, 0, 0, []), (192, 56, 195, 12, 15, []), (195, 6, 196, 0, 0, []), (196, 55, 199, 12, 17, []), (199, 60, 200, 0, 0, []), (200, 0, 202, 0, 1000000, []), (202, 51, 205, 217, 0, []), (205, 6, 206, 0, 0, []), (206, 56, 209, 12, 15, []), (209, 6, 210, 0, 0, []), (210, 55, 213, 12, 17, []), (213, 60, 214, 0, 0, []), (214, 53, 217, 240, 0, []), (217, 0, 219, 0, 10, []), (219, 6, 220, 0, 0, []), (220, 56, 223, 12, 15, []), (223, 6, 224, 0, 0, []), (224, 55, 227, 12, 17, []), (227, 60, 228, 0, 0, []), (228, 13, 229, 0, 0, []), (229, 6, 230, 0, 0, []), (230, 56, 233, 12, 10, []), (233, 4, 235, 5, 0, []), (235, 62, 236, 0, 0, []), (236, 11, 237, 0, 0, []), (237, 0, 239, 0, 48, []), (239, 12, 240, 0, 0, []), (240, 64, 241, 0, 0, []), (241, 10, 244, 5, 1, []), (244, 53, 247, 169, 0, []), (247, 6, 248, 0, 0, []), (248, 36, 249, 0, 0, []), (249, 55, 252, 12, 17, []), (252, 0, 253, 0, 1, []), (253, 11, 254, 0, 0, []), (254, 57, 257, 12, 17, []), (257, 4, 259, 4, 0, []), (259, 7, 260, 2, 0, []), (260, 53, 263, 7, 0, []), (263, 6, 264, 0, 0, []), (264, 56, 267, 12, 16, []), (267, 6, 268, 0, 0, []), (268, 55, 271, 12, 17, []), (271, 4, 272, 1, 0, []), (272, 64, 273, 0, 0, []), (273, 6, 274, 0, 0, []), (274, 56, 277, 12, 14, []), (277, 6, 278, 0, 0, []), (278, 55, 281, 12, 17, []), (281, 0, 282, 0, 0, []), (282, 64, 283, 0, 0, []), (283, 6, 284, 0, 0, []), (284, 56, 287, 12, 15, []), (287, 6, 288, 0, 0, []), (288, 55, 291, 12, 17, []), (291, 0, 292, 0, 0, []), (292, 64, 293, 0, 0, []), (293, 73, 294, 0, 0, [])]
/-- TwoWayWallModel.isSmall(I)Z -/
def zcd166 : List (Nat × zI) := [(0, 4, 1, 0, 0, []), (1, 0, 3, 0, 97, []), (3, 48, 6, 16, 0, []), (6, 4, 7, 0, 0, []), (7, 0, 9, 0, 122, []), (9, 50, 12, 16, 0, []), (12, 0, 13, 0, 1, []), (13, 53, 16, 17, 0, []), (16, 0, 17, 0, 0, []), (17, 72, 18, 3, 0, [])]
/-- TwoWayWallModel.isDigit(I)Z -/
def zcd167 : List (Nat × zI) := [(0, 4, 1, 0, 0, []), (1, 0, 3, 0, 48, []), (3, 48, 6, 16, 0, []), (6, 4, 7, 0, 0, []), (7, 0, 9, 0, 57, []), (9, 50, 12, 16, 0, []), (12, 0, 13, 0, 1, []), (13, 53, 16, 17, 0, []), (16, 0, 17, 0, 0, []), (17, 72, 18, 3, 0, [])]
/-- TwoWayWallModel.wordAt(II)I -/
def zcd168 : List (Nat × zI) := [(0, 0, 1, 0, 1, []), (1, 7, 2, 3, 0, []), (2, 0, 3, 0, 0, []), (3, 7, 5, 4, 0, []), (5, 4, 7, 4, 0, []), (7, 6, 8, 0, 0, []), (8, 56, 11, 12, 9, []), (11, 68, 12, 0, 0, []), (12, 49, 15, 126, 0, []), (15, 0, 16, 0, 0, []), (16, 7, 18, 5, 0, []), (18, 6, 19, 0, 0, []), (19, 56, 22, 12, 9, []), (22, 4, 24, 4, 0, []), (24, 4, 26, 5, 0, []), (26, 11, 27, 0, 0, []), (27, 62, 28, 0, 0, []), (28, 0, 30, 0, 32, []), (30, 46, 33, 39, 0, []), (33, 10, 36, 5, 1, []), (36, 53, 39, 18, 0, []), (39, 4, 41, 5, 0, []), (41, 4, 42, 2, 0, []), (42, 4, 43, 1, 0, []), (43, 12, 44, 0, 0, []), (44, 47, 47, 51, 0, []), (47, 0, 48, 0, 1, []), (48, 53, 51, 52, 0, []), (51, 0, 52, 0, 0, []), (52, 7, 54, 6, 0, []), (54, 0, 55, 0, 0, []), (55, 7, 57, 7, 0, []), (57, 4, 59, 7, 0, []), (59, 4, 61, 5, 0, []), (61, 49, 64, 104, 0, []), (64, 4, 66, 6, 0, []), (66, 40, 69, 104, 0, []), (69, 6, 70, 0, 0, []), (70, 56, 73, 12, 9, []), (73, 4, 75, 4, 0, []), (75, 4, 77, 7, 0, []), (77, 11, 78, 0, 0, []), (78, 62, 79, 0, 0, []), (79, 6, 80, 0, 0, []), (80, 56, 83, 12, 10, []), (83, 4, 84, 1, 0, []), (84, 4, 86, 7, 0, []), (86, 11, 87, 0, 0, []), (87, 62, 88, 0, 0, []), (88, 47, 91, 95, 0, []), (91, 0, 92, 0, 1, []), (92, 53, 95, 96, 0, []), (95, 0, 96, 0, 0, []), (96, 7, 98, 6, 0, []), (98, 10, 101, 7, 1, []), (101, 53, 104, 57, 0, []), (104, 4, 106, 6, 0, []), (106, 40, 109, 111, 0, []), (109, 4, 110, 3, 0, []), (110, 72, 111, 0, 0, []), (111, 4, 113, 4, 0, []), (113, 4, 115, 5, 0, []), (115, 0, 116, 0, 1, []), (116, 11, 117, 0, 0, []), (117, 11, 118, 0, 0, []), (118, 7, 120, 4, 0, []), (120, 10, 123, 3, 1, []), (123, 53, 126, 5, 0, []), (126, 0, 127, 0, 0, []), (127, 72, 128, 0, 0, [])]
/-- TwoWayWallModel.readClause()V -/
def zcd169 : List (Nat × zI) := [(0, 6, 1, 0, 0, []), (1, 0, 2, 0, 3, []), (2, 76, 5, 170, 2, [12]), (5, 40, 8, 15, 0, []), (8, 6, 9, 0, 0, []), (9, 76, 12, 172, 1, [12]), (12, 53, 15, 212, 0, []), (15, 6, 16, 0, 0, []), (16, 0, 17, 0, 4, []), (17, 76, 20, 170, 2, [12]), (20, 40, 23, 104, 0, []), (23, 6, 24, 0, 0, []), (24, 76, 27, 171, 1, [12]), (27, 40, 30, 53, 0, []), (30, 6, 31, 0, 0, []), (31, 55, 34, 12, 18, []), (34, 6, 35, 0, 0, []), (35, 55, 38, 12, 17, []), (38, 49, 41, 53, 0, []), (41, 6, 42, 0, 0, []), (42, 56, 45, 12, 16, []), (45, 6, 46, 0, 0, []), (46, 55, 49, 12, 18, []), (49, 60, 50, 0, 0, []), (50, 53, 53, 54, 0, []), (53, 0, 54, 0, 0, []), (54, 7, 55, 1, 0, []), (55, 6, 56, 0, 0, []), (56, 0, 57, 0, 0, []), (57, 0, 59, 0, 7, []), (59, 76, 62, 177, 3, [12]), (62, 41, 65, 66, 0, []), (65, 73, 66, 0, 0, []), (66, 0, 67, 0, 0, []), (67, 7, 68, 2, 0, []), (68, 4, 69, 2, 0, []), (69, 0, 71, 0, 7, []), (71, 49, 74, 101, 0, []), (74, 6, 75, 0, 0, []), (75, 56, 78, 12, 7, []), (78, 0, 81, 0, 286, []), (81, 4, 82, 2, 0, []), (82, 11, 83, 0, 0, []), (83, 6, 84, 0, 0, []), (84, 56, 87, 12, 10, []), (87, 4, 88, 1, 0, []), (88, 4, 89, 2, 0, []), (89, 11, 90, 0, 0, []), (90, 62, 91, 0, 0, []), (91, 0, 93, 0, 49, []), (93, 12, 94, 0, 0, []), (94, 64, 95, 0, 0, []), (95, 10, 98, 2, 1, []), (98, 53, 101, 68, 0, []), (101, 53, 104, 212, 0, []), (104, 6, 105, 0, 0, []), (105, 0, 106, 0, 5, []), (106, 76, 109, 170, 2, [12]), (109, 40, 112, 157, 0, []), (112, 6, 113, 0, 0, []), (113, 0, 114, 0, 1, []), (114, 0, 116, 0, 7, []), (116, 76, 119, 175, 3, [12]), (119, 41, 122, 123, 0, []), (122, 73, 123, 0, 0, []), (123, 6, 124, 0, 0, []), (124, 55, 127, 12, 21, []), (127, 0, 128, 0, 1, []), (128, 12, 129, 0, 0, []), (129, 7, 130, 1, 0, []), (130, 6, 131, 0, 0, []), (131, 0, 132, 0, 0, []), (132, 0, 134, 0, 99, []), (134, 76, 137, 175, 3, [12]), (137, 40, 140, 154, 0, []), (140, 6, 141, 0, 0, []), (141, 56, 144, 12, 7, []), (144, 0, 147, 0, 293, []), (147, 4, 148, 1, 0, []), (148, 11, 149, 0, 0, []), (149, 6, 150, 0, 0, []), (150, 55, 153, 12, 21, []), (153, 64, 154, 0, 0, []), (154, 53, 157, 212, 0, []), (157, 6, 158, 0, 0, []), (158, 0, 160, 0, 6, []), (160, 76, 163, 170, 2, [12]), (163, 40, 166, 208, 0, []), (166, 6, 167, 0, 0, []), (167, 76, 170, 173, 1, [12]), (170, 41, 173, 174, 0, []), (173, 73, 174, 0, 0, []), (174, 6, 175, 0, 0, []), (175, 55, 178, 12, 21, []), (178, 7, 179, 1, 0, []), (179, 6, 180, 0, 0, []), (180, 76, 183, 178, 1, [12]), (183, 40, 186, 205, 0, []), (186, 6, 187, 0, 0, []), (187, 56, 190, 12, 7, []), (190, 0, 191, 0, 0, []), (191, 0, 192, 0, 3, []), (192, 0, 194, 0, 26, []), (194, 4, 195, 1, 0, []), (195, 13, 196, 0, 0, []), (196, 6, 197, 0, 0, []), (197, 55, 200, 12, 21, []), (200, 11, 201, 0, 0, []), (201, 13, 202, 0, 0, []), (202, 11, 203, 0, 0, []), (203, 0, 204, 0, 0, []), (204, 64, 205, 0, 0, []), (205, 53, 208, 212, 0, []), (208, 6, 209, 0, 0, []), (209, 76, 212, 179, 1, [12]), (212, 73, 213, 0, 0, [])]
/-- TwoWayWallModel.takes0(I)Z -/
def zcd170 : List (Nat × zI) := [(0, 6, 1, 0, 0, []), (1, 76, 4, 171, 1, [12]), (4, 40, 7, 24, 0, []), (7, 6, 8, 0, 0, []), (8, 56, 11, 12, 14, []), (11, 6, 12, 0, 0, []), (12, 55, 15, 12, 18, []), (15, 60, 16, 0, 0, []), (16, 4, 17, 1, 0, []), (17, 47, 20, 24, 0, []), (20, 0, 21, 0, 1, []), (21, 53, 24, 25, 0, []), (24, 0, 25, 0, 0, []), (25, 7, 26, 2, 0, []), (26, 4, 27, 2, 0, []), (27, 40, 30, 40, 0, []), (30, 6, 31, 0, 0, []), (31, 36, 32, 0, 0, []), (32, 55, 35, 12, 18, []), (35, 0, 36, 0, 1, []), (36, 11, 37, 0, 0, []), (37, 57, 40, 12, 18, []), (40, 4, 41, 2, 0, []), (41, 72, 42, 3, 0, [])]
/-- TwoWayWallModel.fine()Z -/
def zcd171 : List (Nat × zI) := [(0, 6, 1, 0, 0, []), (1, 55, 4, 12, 19, []), (4, 0, 5, 0, (-1), []), (5, 47, 8, 12, 0, []), (8, 0, 9, 0, 1, []), (9, 53, 12, 13, 0, []), (12, 0, 13, 0, 0, []), (13, 72, 14, 3, 0, [])]
/-- TwoWayWallModel.readWord()V -/
def zcd172 : List (Nat × zI) := [(0, 6, 1, 0, 0, []), (1, 55, 4, 12, 18, []), (4, 0, 5, 0, 1, []), (5, 12, 6, 0, 0, []), (6, 7, 7, 1, 0, []), (7, 6, 8, 0, 0, []), (8, 76, 11, 173, 1, [12]), (11, 41, 14, 15, 0, []), (14, 73, 15, 0, 0, []), (15, 6, 16, 0, 0, []), (16, 55, 19, 12, 21, []), (19, 7, 20, 2, 0, []), (20, 6, 21, 0, 0, []), (21, 56, 24, 12, 7, []), (24, 0, 27, 0, 284, []), (27, 4, 28, 2, 0, []), (28, 11, 29, 0, 0, []), (29, 60, 30, 0, 0, []), (30, 0, 32, 0, 8, []), (32, 47, 35, 45, 0, []), (35, 6, 36, 0, 0, []), (36, 4, 37, 1, 0, []), (37, 57, 40, 12, 18, []), (40, 6, 41, 0, 0, []), (41, 76, 44, 174, 1, [12]), (44, 73, 45, 0, 0, []), (45, 6, 46, 0, 0, []), (46, 0, 47, 0, 0, []), (47, 0, 49, 0, 7, []), (49, 76, 52, 175, 3, [12]), (52, 41, 55, 56, 0, []), (55, 73, 56, 0, 0, []), (56, 6, 57, 0, 0, []), (57, 55, 60, 12, 21, []), (60, 7, 61, 3, 0, []), (61, 6, 62, 0, 0, []), (62, 76, 65, 171, 1, [12]), (65, 40, 68, 86, 0, []), (68, 6, 69, 0, 0, []), (69, 55, 72, 12, 18, []), (72, 6, 73, 0, 0, []), (73, 55, 76, 12, 17, []), (76, 49, 79, 86, 0, []), (79, 6, 80, 0, 0, []), (80, 76, 83, 176, 1, [12]), (83, 53, 86, 87, 0, []), (86, 0, 87, 0, 0, []), (87, 7, 89, 4, 0, []), (89, 4, 91, 4, 0, []), (91, 0, 92, 0, 1, []), (92, 0, 94, 0, 6, []), (94, 74, 97, 150, 3, []), (97, 41, 100, 105, 0, []), (100, 6, 101, 0, 0, []), (101, 76, 104, 174, 1, [12]), (104, 73, 105, 0, 0, []), (105, 0, 108, 0, 156, []), (108, 0, 110, 0, 8, []), (110, 0, 112, 0, 8, []), (112, 4, 113, 2, 0, []), (113, 13, 114, 0, 0, []), (114, 6, 115, 0, 0, []), (115, 56, 118, 12, 7, []), (118, 0, 121, 0, 284, []), (121, 4, 122, 2, 0, []), (122, 11, 123, 0, 0, []), (123, 60, 124, 0, 0, []), (124, 11, 125, 0, 0, []), (125, 13, 126, 0, 0, []), (126, 11, 127, 0, 0, []), (127, 7, 129, 5, 0, []), (129, 6, 130, 0, 0, []), (130, 56, 133, 12, 7, []), (133, 4, 135, 5, 0, []), (135, 4, 136, 3, 0, []), (136, 64, 137, 0, 0, []), (137, 6, 138, 0, 0, []), (138, 56, 141, 12, 7, []), (141, 4, 143, 5, 0, []), (143, 0, 144, 0, 1, []), (144, 11, 145, 0, 0, []), (145, 4, 147, 4, 0, []), (147, 64, 148, 0, 0, []), (148, 0, 149, 0, 0, []), (149, 7, 151, 6, 0, []), (151, 4, 153, 6, 0, []), (153, 4, 155, 4, 0, []), (155, 49, 158, 196, 0, []), (158, 6, 159, 0, 0, []), (159, 56, 162, 12, 7, []), (162, 4, 164, 5, 0, []), (164, 0, 165, 0, 2, []), (165, 11, 166, 0, 0, []), (166, 4, 168, 6, 0, []), (168, 11, 169, 0, 0, []), (169, 6, 170, 0, 0, []), (170, 56, 173, 12, 10, []), (173, 6, 174, 0, 0, []), (174, 56, 177, 12, 16, []), (177, 6, 178, 0, 0, []), (178, 55, 181, 12, 18, []), (181, 60, 182, 0, 0, []), (182, 4, 184, 6, 0, []), (184, 11, 185, 0, 0, []), (185, 62, 186, 0, 0, []), (186, 0, 188, 0, 97, []), (188, 12, 189, 0, 0, []), (189, 64, 190, 0, 0, []), (190, 10, 193, 6, 1, []), (193, 53, 196, 151, 0, []), (196, 6, 197, 0, 0, []), (197, 56, 200, 12, 7, []), (200, 0, 203, 0, 284, []), (203, 4, 204, 2, 0, []), (204, 11, 205, 0, 0, []), (205, 38, 206, 0, 0, []), (206, 60, 207, 0, 0, []), (207, 0, 208, 0, 1, []), (208, 11, 209, 0, 0, []), (209, 64, 210, 0, 0, []), (210, 6, 211, 0, 0, []), (211, 36, 212, 0, 0, []), (212, 55, 215, 12, 18, []), (215, 0, 216, 0, 1, []), (216, 11, 217, 0, 0, []), (217, 57, 220, 12, 18, []), (220, 73, 221, 0, 0, [])]
/-- TwoWayWallModel.tongue()Z -/
def zcd173 : List (Nat × zI) := [(0, 6, 1, 0, 0, []), (1, 76, 4, 171, 1, [12]), (4, 40, 7, 60, 0, []), (7, 6, 8, 0, 0, []), (8, 56, 11, 12, 14, []), (11, 6, 12, 0, 0, []), (12, 55, 15, 12, 18, []), (15, 60, 16, 0, 0, []), (16, 0, 17, 0, 1, []), (17, 46, 20, 33, 0, []), (20, 6, 21, 0, 0, []), (21, 56, 24, 12, 14, []), (24, 6, 25, 0, 0, []), (25, 55, 28, 12, 18, []), (28, 60, 29, 0, 0, []), (29, 0, 30, 0, 2, []), (30, 47, 33, 60, 0, []), (33, 6, 34, 0, 0, []), (34, 6, 35, 0, 0, []), (35, 56, 38, 12, 14, []), (38, 6, 39, 0, 0, []), (39, 55, 42, 12, 18, []), (42, 60, 43, 0, 0, []), (43, 0, 44, 0, 1, []), (44, 12, 45, 0, 0, []), (45, 57, 48, 12, 21, []), (48, 6, 49, 0, 0, []), (49, 36, 50, 0, 0, []), (50, 55, 53, 12, 18, []), (53, 0, 54, 0, 1, []), (54, 11, 55, 0, 0, []), (55, 57, 58, 12, 18, []), (58, 0, 59, 0, 1, []), (59, 72, 60, 3, 0, []), (60, 6, 61, 0, 0, []), (61, 76, 64, 174, 1, [12]), (64, 0, 65, 0, 0, []), (65, 72, 66, 3, 0, [])]
/-- TwoWayWallModel.faults()V -/
def zcd174 : List (Nat × zI) := [(0, 6, 1, 0, 0, []), (1, 76, 4, 171, 1, [12]), (4, 40, 7, 20, 0, []), (7, 6, 8, 0, 0, []), (8, 6, 9, 0, 0, []), (9, 56, 12, 12, 16, []), (12, 6, 13, 0, 0, []), (13, 55, 16, 12, 18, []), (16, 60, 17, 0, 0, []), (17, 57, 20, 12, 19, []), (20, 73, 21, 0, 0, [])]
/-- TwoWayWallModel.number(II)Z -/
def zcd175 : List (Nat × zI) := [(0, 6, 1, 0, 0, []), (1, 76, 4, 171, 1, [12]), (4, 40, 7, 63, 0, []), (7, 6, 8, 0, 0, []), (8, 56, 11, 12, 14, []), (11, 6, 12, 0, 0, []), (12, 55, 15, 12, 18, []), (15, 60, 16, 0, 0, []), (16, 0, 18, 0, 90, []), (18, 47, 21, 63, 0, []), (21, 6, 22, 0, 0, []), (22, 56, 25, 12, 15, []), (25, 6, 26, 0, 0, []), (26, 55, 29, 12, 18, []), (29, 60, 30, 0, 0, []), (30, 4, 31, 1, 0, []), (31, 4, 32, 2, 0, []), (32, 74, 35, 150, 3, []), (35, 40, 38, 63, 0, []), (38, 6, 39, 0, 0, []), (39, 6, 40, 0, 0, []), (40, 56, 43, 12, 15, []), (43, 6, 44, 0, 0, []), (44, 55, 47, 12, 18, []), (47, 60, 48, 0, 0, []), (48, 57, 51, 12, 21, []), (51, 6, 52, 0, 0, []), (52, 36, 53, 0, 0, []), (53, 55, 56, 12, 18, []), (56, 0, 57, 0, 1, []), (57, 11, 58, 0, 0, []), (58, 57, 61, 12, 18, []), (61, 0, 62, 0, 1, []), (62, 72, 63, 3, 0, []), (63, 6, 64, 0, 0, []), (64, 76, 67, 174, 1, [12]), (67, 0, 68, 0, 0, []), (68, 72, 69, 3, 0, [])]
/-- TwoWayWallModel.lettersOf()I -/
def zcd176 : List (Nat × zI) := [(0, 0, 1, 0, 0, []), (1, 7, 2, 1, 0, []), (2, 6, 3, 0, 0, []), (3, 56, 6, 12, 16, []), (6, 6, 7, 0, 0, []), (7, 55, 10, 12, 18, []), (10, 60, 11, 0, 0, []), (11, 7, 12, 2, 0, []), (12, 4, 13, 2, 0, []), (13, 6, 14, 0, 0, []), (14, 55, 17, 12, 20, []), (17, 49, 20, 41, 0, []), (20, 6, 21, 0, 0, []), (21, 56, 24, 12, 10, []), (24, 4, 25, 2, 0, []), (25, 62, 26, 0, 0, []), (26, 74, 29, 166, 1, []), (29, 40, 32, 41, 0, []), (32, 10, 35, 1, 1, []), (35, 10, 38, 2, 1, []), (38, 53, 41, 12, 0, []), (41, 4, 42, 1, 0, []), (42, 72, 43, 0, 0, [])]
/-- TwoWayWallModel.digits(II)Z -/
def zcd177 : List (Nat × zI) := [(0, 6, 1, 0, 0, []), (1, 76, 4, 171, 1, [12]), (4, 40, 7, 25, 0, []), (7, 6, 8, 0, 0, []), (8, 56, 11, 12, 14, []), (11, 6, 12, 0, 0, []), (12, 55, 15, 12, 18, []), (15, 60, 16, 0, 0, []), (16, 0, 18, 0, 90, []), (18, 47, 21, 25, 0, []), (21, 0, 22, 0, 1, []), (22, 53, 25, 26, 0, []), (25, 0, 26, 0, 0, []), (26, 7, 27, 3, 0, []), (27, 0, 28, 0, 0, []), (28, 7, 30, 4, 0, []), (30, 0, 31, 0, 0, []), (31, 7, 33, 5, 0, []), (33, 4, 34, 3, 0, []), (34, 40, 37, 49, 0, []), (37, 6, 38, 0, 0, []), (38, 56, 41, 12, 16, []), (41, 6, 42, 0, 0, []), (42, 55, 45, 12, 18, []), (45, 60, 46, 0, 0, []), (46, 53, 49, 53, 0, []), (49, 6, 50, 0, 0, []), (50, 55, 53, 12, 20, []), (53, 7, 55, 6, 0, []), (55, 4, 57, 6, 0, []), (57, 6, 58, 0, 0, []), (58, 55, 61, 12, 20, []), (61, 49, 64, 148, 0, []), (64, 6, 65, 0, 0, []), (65, 56, 68, 12, 10, []), (68, 4, 70, 6, 0, []), (70, 62, 71, 0, 0, []), (71, 74, 74, 167, 1, []), (74, 40, 77, 148, 0, []), (77, 4, 78, 3, 0, []), (78, 40, 81, 148, 0, []), (81, 6, 82, 0, 0, []), (82, 56, 85, 12, 10, []), (85, 4, 87, 6, 0, []), (87, 62, 88, 0, 0, []), (88, 0, 90, 0, 49, []), (90, 12, 91, 0, 0, []), (91, 7, 93, 7, 0, []), (93, 4, 95, 7, 0, []), (95, 0, 96, 0, 0, []), (96, 0, 98, 0, 6, []), (98, 74, 101, 150, 3, []), (101, 40, 104, 120, 0, []), (104, 4, 106, 4, 0, []), (106, 4, 107, 1, 0, []), (107, 15, 108, 0, 0, []), (108, 4, 110, 7, 0, []), (110, 21, 111, 0, 0, []), (111, 0, 112, 0, 1, []), (112, 14, 113, 0, 0, []), (113, 41, 116, 120, 0, []), (116, 0, 117, 0, 1, []), (117, 53, 120, 121, 0, []), (120, 0, 121, 0, 0, []), (121, 7, 122, 3, 0, []), (122, 4, 124, 4, 0, []), (124, 4, 125, 3, 0, []), (125, 40, 128, 135, 0, []), (128, 0, 129, 0, 1, []), (129, 4, 131, 7, 0, []), (131, 20, 132, 0, 0, []), (132, 53, 135, 136, 0, []), (135, 0, 136, 0, 0, []), (136, 15, 137, 0, 0, []), (137, 7, 139, 4, 0, []), (139, 10, 142, 5, 1, []), (142, 10, 145, 6, 1, []), (145, 53, 148, 55, 0, []), (148, 4, 149, 3, 0, []), (149, 40, 152, 162, 0, []), (152, 4, 153, 2, 0, []), (153, 45, 156, 168, 0, []), (156, 4, 158, 5, 0, []), (158, 4, 159, 2, 0, []), (159, 46, 162, 168, 0, []), (162, 6, 163, 0, 0, []), (163, 76, 166, 174, 1, [12]), (166, 0, 167, 0, 0, []), (167, 72, 168, 3, 0, []), (168, 6, 169, 0, 0, []), (169, 4, 171, 4, 0, []), (171, 57, 174, 12, 21, []), (174, 6, 175, 0, 0, []), (175, 36, 176, 0, 0, []), (176, 55, 179, 12, 18, []), (179, 0, 180, 0, 1, []), (180, 11, 181, 0, 0, []), (181, 57, 184, 12, 18, []), (184, 0, 185, 0, 1, []), (185, 72, 186, 3, 0, [])]
/-- TwoWayWallModel.oneLetter()Z -/
def zcd178 : List (Nat × zI) := [(0, 6, 1, 0, 0, []), (1, 76, 4, 171, 1, [12]), (4, 40, 7, 59, 0, []), (7, 6, 8, 0, 0, []), (8, 55, 11, 12, 18, []), (11, 6, 12, 0, 0, []), (12, 55, 15, 12, 17, []), (15, 49, 18, 59, 0, []), (18, 6, 19, 0, 0, []), (19, 76, 22, 176, 1, [12]), (22, 0, 23, 0, 1, []), (23, 47, 26, 59, 0, []), (26, 6, 27, 0, 0, []), (27, 6, 28, 0, 0, []), (28, 56, 31, 12, 10, []), (31, 6, 32, 0, 0, []), (32, 56, 35, 12, 16, []), (35, 6, 36, 0, 0, []), (36, 55, 39, 12, 18, []), (39, 60, 40, 0, 0, []), (40, 62, 41, 0, 0, []), (41, 0, 43, 0, 97, []), (43, 12, 44, 0, 0, []), (44, 57, 47, 12, 21, []), (47, 6, 48, 0, 0, []), (48, 36, 49, 0, 0, []), (49, 55, 52, 12, 18, []), (52, 0, 53, 0, 1, []), (53, 11, 54, 0, 0, []), (54, 57, 57, 12, 18, []), (57, 0, 58, 0, 1, []), (58, 72, 59, 3, 0, []), (59, 6, 60, 0, 0, []), (60, 76, 63, 174, 1, [12]), (63, 0, 64, 0, 0, []), (64, 72, 65, 3, 0, [])]
/-- TwoWayWallModel.readLetter()V -/
def zcd179 : List (Nat × zI) := [(0, 6, 1, 0, 0, []), (1, 76, 4, 173, 1, [12]), (4, 41, 7, 8, 0, []), (7, 73, 8, 0, 0, []), (8, 6, 9, 0, 0, []), (9, 55, 12, 12, 21, []), (12, 7, 13, 1, 0, []), (13, 6, 14, 0, 0, []), (14, 76, 17, 178, 1, [12]), (17, 41, 20, 21, 0, []), (20, 73, 21, 0, 0, []), (21, 0, 22, 0, 0, []), (22, 0, 23, 0, 3, []), (23, 0, 25, 0, 26, []), (25, 4, 26, 1, 0, []), (26, 13, 27, 0, 0, []), (27, 6, 28, 0, 0, []), (28, 55, 31, 12, 21, []), (31, 11, 32, 0, 0, []), (32, 13, 33, 0, 0, []), (33, 11, 34, 0, 0, []), (34, 7, 35, 2, 0, []), (35, 6, 36, 0, 0, []), (36, 0, 37, 0, 0, []), (37, 0, 38, 0, 0, []), (38, 76, 41, 177, 3, [12]), (41, 41, 44, 45, 0, []), (44, 73, 45, 0, 0, []), (45, 6, 46, 0, 0, []), (46, 55, 49, 12, 21, []), (49, 7, 50, 3, 0, []), (50, 0, 51, 0, 0, []), (51, 7, 53, 4, 0, []), (53, 6, 54, 0, 0, []), (54, 0, 56, 0, 7, []), (56, 76, 59, 170, 2, [12]), (59, 40, 62, 78, 0, []), (62, 6, 63, 0, 0, []), (63, 4, 64, 3, 0, []), (64, 0, 65, 0, 0, []), (65, 76, 68, 177, 3, [12]), (68, 41, 71, 72, 0, []), (71, 73, 72, 0, 0, []), (72, 6, 73, 0, 0, []), (73, 55, 76, 12, 21, []), (76, 7, 78, 4, 0, []), (78, 6, 79, 0, 0, []), (79, 56, 82, 12, 7, []), (82, 4, 83, 2, 0, []), (83, 0, 84, 0, 1, []), (84, 64, 85, 0, 0, []), (85, 6, 86, 0, 0, []), (86, 56, 89, 12, 7, []), (89, 4, 90, 2, 0, []), (90, 0, 91, 0, 1, []), (91, 11, 92, 0, 0, []), (92, 4, 93, 3, 0, []), (93, 64, 94, 0, 0, []), (94, 6, 95, 0, 0, []), (95, 56, 98, 12, 7, []), (98, 4, 99, 2, 0, []), (99, 0, 100, 0, 2, []), (100, 11, 101, 0, 0, []), (101, 4, 103, 4, 0, []), (103, 64, 104, 0, 0, []), (104, 73, 105, 0, 0, [])]
/-- TwoWayWallModel.sign(C)I -/
def zcd180 : List (Nat × zI) := [(0, 0, 2, 0, 100, []), (2, 4, 3, 0, 0, []), (3, 11, 4, 0, 0, []), (4, 72, 5, 0, 0, [])]
/-- TwoWayWallModel.fault()I -/
def zcd181 : List (Nat × zI) := [(0, 6, 1, 0, 0, []), (1, 55, 4, 12, 13, []), (4, 72, 5, 0, 0, [])]
/-- TwoWayWallModel.letter(III)I -/
def zcd182 : List (Nat × zI) := [(0, 4, 1, 1, 0, []), (1, 74, 4, 183, 1, []), (4, 40, 7, 33, 0, []), (7, 4, 8, 2, 0, []), (8, 74, 11, 184, 1, []), (11, 40, 14, 33, 0, []), (14, 4, 15, 3, 0, []), (15, 0, 16, 0, 0, []), (16, 0, 17, 0, 1, []), (17, 74, 20, 150, 3, []), (20, 40, 23, 33, 0, []), (23, 6, 24, 0, 0, []), (24, 4, 25, 1, 0, []), (25, 4, 26, 2, 0, []), (26, 0, 27, 0, 0, []), (27, 76, 30, 185, 4, [12]), (30, 41, 33, 35, 0, []), (33, 0, 34, 0, (-1), []), (34, 72, 35, 0, 0, []), (35, 6, 36, 0, 0, []), (36, 4, 37, 1, 0, []), (37, 4, 38, 2, 0, []), (38, 0, 39, 0, 1, []), (39, 4, 40, 3, 0, []), (40, 11, 41, 0, 0, []), (41, 76, 44, 185, 4, [12]), (44, 72, 45, 0, 0, [])]
/-- TwoWayWallModel.isTongue(I)Z -/
def zcd183 : List (Nat × zI) := [(0, 4, 1, 0, 0, []), (1, 0, 2, 0, 0, []), (2, 0, 3, 0, 1, []), (3, 74, 6, 150, 3, []), (6, 72, 7, 3, 0, [])]
/-- TwoWayWallModel.isLetter(I)Z -/
def zcd184 : List (Nat × zI) := [(0, 4, 1, 0, 0, []), (1, 0, 2, 0, 0, []), (2, 0, 4, 0, 25, []), (4, 74, 7, 150, 3, []), (7, 72, 8, 3, 0, [])]
/-- TwoWayWallModel.letterOf(III)I -/
def zcd185 : List (Nat × zI) := [(0, 6, 1, 0, 0, []), (1, 56, 4, 12, 4, []), (4, 0, 5, 0, 0, []), (5, 0, 6, 0, 3, []), (6, 0, 8, 0, 26, []), (8, 4, 9, 1, 0, []), (9, 13, 10, 0, 0, []), (10, 4, 11, 2, 0, []), (11, 11, 12, 0, 0, []), (12, 13, 13, 0, 0, []), (13, 11, 14, 0, 0, []), (14, 4, 15, 3, 0, []), (15, 11, 16, 0, 0, []), (16, 60, 17, 0, 0, []), (17, 72, 18, 0, 0, [])]
/-- TwoWayWallModel.word(III)I -/
def zcd186 : List (Nat × zI) := [(0, 4, 1, 1, 0, []), (1, 74, 4, 183, 1, []), (4, 40, 7, 37, 0, []), (7, 4, 8, 2, 0, []), (8, 0, 9, 0, 0, []), (9, 6, 10, 0, 0, []), (10, 56, 13, 12, 4, []), (13, 0, 16, 0, 284, []), (16, 4, 17, 1, 0, []), (17, 11, 18, 0, 0, []), (18, 60, 19, 0, 0, []), (19, 0, 20, 0, 1, []), (20, 12, 21, 0, 0, []), (21, 74, 24, 150, 3, []), (24, 40, 27, 37, 0, []), (27, 4, 28, 3, 0, []), (28, 0, 29, 0, 0, []), (29, 0, 31, 0, 7, []), (31, 74, 34, 150, 3, []), (34, 41, 37, 39, 0, []), (37, 0, 38, 0, (-1), []), (38, 72, 39, 0, 0, []), (39, 4, 40, 3, 0, []), (40, 0, 41, 0, 2, []), (41, 48, 44, 57, 0, []), (44, 4, 45, 3, 0, []), (45, 0, 46, 0, 2, []), (46, 12, 47, 0, 0, []), (47, 6, 48, 0, 0, []), (48, 4, 49, 1, 0, []), (49, 4, 50, 2, 0, []), (50, 0, 51, 0, 1, []), (51, 76, 54, 187, 4, [12]), (54, 49, 57, 67, 0, []), (57, 6, 58, 0, 0, []), (58, 4, 59, 1, 0, []), (59, 4, 60, 2, 0, []), (60, 4, 61, 3, 0, []), (61, 76, 64, 187, 4, [12]), (64, 53, 67, 68, 0, []), (67, 0, 68, 0, (-1), []), (68, 72, 69, 0, 0, [])]
/-- TwoWayWallModel.wordOf(III)I -/
def zcd187 : List (Nat × zI) := [(0, 6, 1, 0, 0, []), (1, 56, 4, 12, 4, []), (4, 0, 7, 0, 156, []), (7, 0, 9, 0, 8, []), (9, 0, 11, 0, 8, []), (11, 4, 12, 1, 0, []), (12, 13, 13, 0, 0, []), (13, 4, 14, 2, 0, []), (14, 11, 15, 0, 0, []), (15, 13, 16, 0, 0, []), (16, 11, 17, 0, 0, []), (17, 4, 18, 3, 0, []), (18, 11, 19, 0, 0, []), (19, 60, 20, 0, 0, []), (20, 72, 21, 0, 0, [])]
/-- TwoWayWallModel.reads(II)I -/
def zcd188 : List (Nat × zI) := [(0, 4, 1, 1, 0, []), (1, 74, 4, 183, 1, []), (4, 40, 7, 29, 0, []), (7, 4, 8, 2, 0, []), (8, 0, 9, 0, 0, []), (9, 0, 11, 0, 127, []), (11, 74, 14, 150, 3, []), (14, 40, 17, 29, 0, []), (17, 6, 18, 0, 0, []), (18, 4, 19, 1, 0, []), (19, 4, 20, 2, 0, []), (20, 76, 23, 189, 3, [12]), (23, 74, 26, 190, 1, []), (26, 53, 29, 30, 0, []), (29, 0, 30, 0, (-1), []), (30, 72, 31, 0, 0, [])]
/-- TwoWayWallModel.signOf(II)I -/
def zcd189 : List (Nat × zI) := [(0, 4, 1, 2, 0, []), (1, 7, 2, 3, 0, []), (2, 4, 3, 1, 0, []), (3, 0, 4, 0, 1, []), (4, 47, 7, 51, 0, []), (7, 0, 8, 0, 0, []), (8, 7, 9, 3, 0, []), (9, 0, 10, 0, 0, []), (10, 7, 12, 4, 0, []), (12, 4, 14, 4, 0, []), (14, 0, 16, 0, 7, []), (16, 49, 19, 51, 0, []), (19, 4, 20, 2, 0, []), (20, 4, 22, 4, 0, []), (22, 21, 23, 0, 0, []), (23, 0, 24, 0, 1, []), (24, 14, 25, 0, 0, []), (25, 0, 26, 0, 1, []), (26, 47, 29, 45, 0, []), (29, 4, 30, 3, 0, []), (30, 0, 31, 0, 1, []), (31, 6, 32, 0, 0, []), (32, 56, 35, 12, 4, []), (35, 0, 38, 0, 286, []), (38, 4, 40, 4, 0, []), (40, 11, 41, 0, 0, []), (41, 60, 42, 0, 0, []), (42, 20, 43, 0, 0, []), (43, 15, 44, 0, 0, []), (44, 7, 45, 3, 0, []), (45, 10, 48, 4, 1, []), (48, 53, 51, 12, 0, []), (51, 0, 52, 0, 0, []), (52, 7, 54, 4, 0, []), (54, 4, 56, 4, 0, []), (56, 0, 58, 0, 26, []), (58, 49, 61, 116, 0, []), (61, 6, 62, 0, 0, []), (62, 4, 63, 1, 0, []), (63, 4, 65, 4, 0, []), (65, 0, 66, 0, 0, []), (66, 76, 69, 185, 4, [12]), (69, 0, 70, 0, 1, []), (70, 47, 73, 110, 0, []), (73, 4, 74, 3, 0, []), (74, 6, 75, 0, 0, []), (75, 4, 76, 1, 0, []), (76, 4, 78, 4, 0, []), (78, 0, 79, 0, 1, []), (79, 76, 82, 185, 4, [12]), (82, 14, 83, 0, 0, []), (83, 6, 84, 0, 0, []), (84, 4, 85, 1, 0, []), (85, 4, 87, 4, 0, []), (87, 0, 88, 0, 1, []), (88, 76, 91, 185, 4, [12]), (91, 47, 94, 110, 0, []), (94, 4, 95, 3, 0, []), (95, 6, 96, 0, 0, []), (96, 4, 97, 1, 0, []), (97, 4, 99, 4, 0, []), (99, 0, 100, 0, 2, []), (100, 76, 103, 185, 4, [12]), (103, 14, 104, 0, 0, []), (104, 41, 107, 110, 0, []), (107, 4, 109, 4, 0, []), (109, 72, 110, 0, 0, []), (110, 10, 113, 4, 1, []), (113, 53, 116, 54, 0, []), (116, 0, 118, 0, 26, []), (118, 72, 119, 0, 0, [])]
/-- TwoWayWallModel.orNone(I)I -/
def zcd190 : List (Nat × zI) := [(0, 4, 1, 0, 0, []), (1, 0, 3, 0, 26, []), (3, 47, 6, 10, 0, []), (6, 0, 7, 0, (-1), []), (7, 53, 10, 11, 0, []), (10, 4, 11, 0, 0, []), (11, 72, 12, 0, 0, [])]
/-- TwoWayWallModel.read(II)I -/
def zcd191 : List (Nat × zI) := [(0, 4, 1, 1, 0, []), (1, 74, 4, 183, 1, []), (4, 40, 7, 41, 0, []), (7, 6, 8, 0, 0, []), (8, 4, 9, 2, 0, []), (9, 76, 12, 157, 2, [12]), (12, 40, 15, 41, 0, []), (15, 6, 16, 0, 0, []), (16, 4, 17, 1, 0, []), (17, 6, 18, 0, 0, []), (18, 56, 21, 12, 4, []), (21, 0, 24, 0, 300, []), (24, 6, 25, 0, 0, []), (25, 4, 26, 1, 0, []), (26, 4, 27, 2, 0, []), (27, 76, 30, 192, 3, [12]), (30, 11, 31, 0, 0, []), (31, 60, 32, 0, 0, []), (32, 76, 35, 189, 3, [12]), (35, 74, 38, 190, 1, []), (38, 53, 41, 42, 0, []), (41, 0, 42, 0, (-1), []), (42, 72, 43, 0, 0, [])]
/-- TwoWayWallModel.cellOf(II)I -/
def zcd192 : List (Nat × zI) := [(0, 4, 1, 1, 0, []), (1, 41, 4, 8, 0, []), (4, 4, 5, 2, 0, []), (5, 53, 8, 20, 0, []), (8, 6, 9, 0, 0, []), (9, 56, 12, 12, 4, []), (12, 0, 15, 0, 427, []), (15, 60, 16, 0, 0, []), (16, 0, 17, 0, 1, []), (17, 12, 18, 0, 0, []), (18, 4, 19, 2, 0, []), (19, 12, 20, 0, 0, []), (20, 72, 21, 0, 0, [])]
/-- TwoWayWallModel.spoken(I)I -/
def zcd193 : List (Nat × zI) := [(0, 4, 1, 1, 0, []), (1, 74, 4, 183, 1, []), (4, 41, 7, 9, 0, []), (7, 0, 8, 0, (-1), []), (8, 72, 9, 0, 0, []), (9, 0, 10, 0, 0, []), (10, 7, 11, 2, 0, []), (11, 0, 12, 0, 0, []), (12, 7, 13, 3, 0, []), (13, 4, 14, 3, 0, []), (14, 6, 15, 0, 0, []), (15, 56, 18, 12, 4, []), (18, 0, 21, 0, 427, []), (21, 60, 22, 0, 0, []), (22, 50, 25, 97, 0, []), (25, 4, 26, 3, 0, []), (26, 7, 28, 4, 0, []), (28, 4, 30, 4, 0, []), (30, 6, 31, 0, 0, []), (31, 56, 34, 12, 4, []), (34, 0, 37, 0, 427, []), (37, 60, 38, 0, 0, []), (38, 49, 41, 73, 0, []), (41, 6, 42, 0, 0, []), (42, 4, 43, 1, 0, []), (43, 6, 44, 0, 0, []), (44, 56, 47, 12, 4, []), (47, 0, 50, 0, 300, []), (50, 6, 51, 0, 0, []), (51, 4, 52, 1, 0, []), (52, 4, 54, 4, 0, []), (54, 76, 57, 192, 3, [12]), (57, 11, 58, 0, 0, []), (58, 60, 59, 0, 0, []), (59, 76, 62, 189, 3, [12]), (62, 0, 64, 0, 26, []), (64, 46, 67, 73, 0, []), (67, 10, 70, 4, 1, []), (70, 53, 73, 28, 0, []), (73, 6, 74, 0, 0, []), (74, 4, 75, 1, 0, []), (75, 4, 76, 3, 0, []), (76, 4, 78, 4, 0, []), (78, 76, 81, 194, 4, [12]), (81, 41, 84, 86, 0, []), (84, 0, 85, 0, 0, []), (85, 72, 86, 0, 0, []), (86, 10, 89, 2, 1, []), (89, 4, 91, 4, 0, []), (91, 0, 92, 0, 1, []), (92, 11, 93, 0, 0, []), (93, 7, 94, 3, 0, []), (94, 53, 97, 13, 0, []), (97, 4, 98, 2, 0, []), (98, 72, 99, 0, 0, [])]
/-- TwoWayWallModel.isWord(III)Z -/
def zcd194 : List (Nat × zI) := [(0, 0, 1, 0, 0, []), (1, 7, 3, 4, 0, []), (3, 4, 5, 4, 0, []), (5, 6, 6, 0, 0, []), (6, 56, 9, 12, 4, []), (9, 0, 12, 0, 284, []), (12, 4, 13, 1, 0, []), (13, 11, 14, 0, 0, []), (14, 60, 15, 0, 0, []), (15, 49, 18, 118, 0, []), (18, 6, 19, 0, 0, []), (19, 4, 20, 1, 0, []), (20, 4, 22, 4, 0, []), (22, 0, 23, 0, 1, []), (23, 76, 26, 187, 4, [12]), (26, 4, 27, 3, 0, []), (27, 4, 28, 2, 0, []), (28, 12, 29, 0, 0, []), (29, 47, 32, 36, 0, []), (32, 0, 33, 0, 1, []), (33, 53, 36, 37, 0, []), (36, 0, 37, 0, 0, []), (37, 7, 39, 5, 0, []), (39, 0, 40, 0, 0, []), (40, 7, 42, 6, 0, []), (42, 4, 44, 6, 0, []), (44, 4, 45, 3, 0, []), (45, 4, 46, 2, 0, []), (46, 12, 47, 0, 0, []), (47, 49, 50, 105, 0, []), (50, 4, 52, 5, 0, []), (52, 40, 55, 105, 0, []), (55, 6, 56, 0, 0, []), (56, 4, 57, 1, 0, []), (57, 4, 59, 4, 0, []), (59, 0, 60, 0, 2, []), (60, 4, 62, 6, 0, []), (62, 11, 63, 0, 0, []), (63, 76, 66, 187, 4, [12]), (66, 6, 67, 0, 0, []), (67, 4, 68, 1, 0, []), (68, 6, 69, 0, 0, []), (69, 56, 72, 12, 4, []), (72, 0, 75, 0, 300, []), (75, 6, 76, 0, 0, []), (76, 4, 77, 1, 0, []), (77, 4, 78, 2, 0, []), (78, 4, 80, 6, 0, []), (80, 11, 81, 0, 0, []), (81, 76, 84, 192, 3, [12]), (84, 11, 85, 0, 0, []), (85, 60, 86, 0, 0, []), (86, 76, 89, 189, 3, [12]), (89, 47, 92, 96, 0, []), (92, 0, 93, 0, 1, []), (93, 53, 96, 97, 0, []), (96, 0, 97, 0, 0, []), (97, 7, 99, 5, 0, []), (99, 10, 102, 6, 1, []), (102, 53, 105, 42, 0, []), (105, 4, 107, 5, 0, []), (107, 40, 110, 112, 0, []), (110, 0, 111, 0, 1, []), (111, 72, 112, 3, 0, []), (112, 10, 115, 4, 1, []), (115, 53, 118, 3, 0, []), (118, 0, 119, 0, 0, []), (119, 72, 120, 3, 0, [])]
/-- TwoWayWallModel.pair(III)I -/
def zcd195 : List (Nat × zI) := [(0, 4, 1, 1, 0, []), (1, 74, 4, 196, 1, []), (4, 40, 7, 23, 0, []), (7, 4, 8, 2, 0, []), (8, 74, 11, 196, 1, []), (11, 40, 14, 23, 0, []), (14, 4, 15, 3, 0, []), (15, 0, 16, 0, 0, []), (16, 0, 17, 0, 1, []), (17, 74, 20, 150, 3, []), (20, 41, 23, 25, 0, []), (23, 0, 24, 0, (-1), []), (24, 72, 25, 0, 0, []), (25, 6, 26, 0, 0, []), (26, 76, 29, 197, 1, [12]), (29, 0, 30, 0, 0, []), (30, 7, 32, 4, 0, []), (32, 0, 33, 0, (-1), []), (33, 7, 35, 5, 0, []), (35, 0, 36, 0, 0, []), (36, 7, 38, 6, 0, []), (38, 4, 40, 6, 0, []), (40, 0, 43, 0, 128, []), (43, 49, 46, 111, 0, []), (46, 6, 47, 0, 0, []), (47, 56, 50, 12, 22, []), (50, 4, 52, 6, 0, []), (52, 60, 53, 0, 0, []), (53, 4, 54, 1, 0, []), (54, 74, 57, 198, 1, []), (57, 47, 60, 105, 0, []), (60, 6, 61, 0, 0, []), (61, 56, 64, 12, 23, []), (64, 4, 66, 6, 0, []), (66, 60, 67, 0, 0, []), (67, 4, 68, 2, 0, []), (68, 74, 71, 198, 1, []), (71, 46, 74, 77, 0, []), (74, 53, 77, 105, 0, []), (77, 10, 80, 4, 1, []), (80, 4, 82, 5, 0, []), (82, 0, 83, 0, (-1), []), (83, 46, 86, 101, 0, []), (86, 6, 87, 0, 0, []), (87, 4, 89, 6, 0, []), (89, 76, 92, 199, 2, [12]), (92, 6, 93, 0, 0, []), (93, 4, 95, 5, 0, []), (95, 76, 98, 199, 2, [12]), (98, 49, 101, 105, 0, []), (101, 4, 103, 6, 0, []), (103, 7, 105, 5, 0, []), (105, 10, 108, 6, 1, []), (108, 53, 111, 38, 0, []), (111, 4, 112, 3, 0, []), (112, 41, 115, 120, 0, []), (115, 4, 117, 4, 0, []), (117, 53, 120, 122, 0, []), (120, 4, 122, 5, 0, []), (122, 72, 123, 0, 0, [])]
/-- TwoWayWallModel.isSign(I)Z -/
def zcd196 : List (Nat × zI) := [(0, 4, 1, 0, 0, []), (1, 0, 2, 0, (-1), []), (2, 0, 4, 0, 25, []), (4, 74, 7, 150, 3, []), (7, 72, 8, 3, 0, [])]
/-- TwoWayWallModel.readsAll()V -/
def zcd197 : List (Nat × zI) := [(0, 0, 1, 0, 0, []), (1, 7, 2, 1, 0, []), (2, 4, 3, 1, 0, []), (3, 0, 6, 0, 128, []), (6, 49, 9, 39, 0, []), (9, 6, 10, 0, 0, []), (10, 56, 13, 12, 22, []), (13, 4, 14, 1, 0, []), (14, 6, 15, 0, 0, []), (15, 0, 16, 0, 0, []), (16, 4, 17, 1, 0, []), (17, 76, 20, 189, 3, [12]), (20, 64, 21, 0, 0, []), (21, 6, 22, 0, 0, []), (22, 56, 25, 12, 23, []), (25, 4, 26, 1, 0, []), (26, 6, 27, 0, 0, []), (27, 0, 28, 0, 1, []), (28, 4, 29, 1, 0, []), (29, 76, 32, 189, 3, [12]), (32, 64, 33, 0, 0, []), (33, 10, 36, 1, 1, []), (36, 53, 39, 2, 0, []), (39, 73, 40, 0, 0, [])]
/-- TwoWayWallModel.signFor(I)I -/
def zcd198 : List (Nat × zI) := [(0, 4, 1, 0, 0, []), (1, 0, 2, 0, (-1), []), (2, 47, 5, 10, 0, []), (5, 0, 7, 0, 26, []), (7, 53, 10, 11, 0, []), (10, 4, 11, 0, 0, []), (11, 72, 12, 0, 0, [])]
/-- TwoWayWallModel.costOf(I)I -/
def zcd199 : List (Nat × zI) := [(0, 0, 1, 0, 0, []), (1, 7, 2, 2, 0, []), (2, 0, 3, 0, 0, []), (3, 7, 4, 3, 0, []), (4, 4, 5, 3, 0, []), (5, 0, 7, 0, 7, []), (7, 49, 10, 42, 0, []), (10, 4, 11, 2, 0, []), (11, 4, 12, 1, 0, []), (12, 4, 13, 3, 0, []), (13, 21, 14, 0, 0, []), (14, 0, 15, 0, 1, []), (15, 14, 16, 0, 0, []), (16, 0, 17, 0, 1, []), (17, 47, 20, 33, 0, []), (20, 6, 21, 0, 0, []), (21, 56, 24, 12, 4, []), (24, 0, 27, 0, 293, []), (27, 4, 28, 3, 0, []), (28, 11, 29, 0, 0, []), (29, 60, 30, 0, 0, []), (30, 53, 33, 34, 0, []), (33, 0, 34, 0, 0, []), (34, 11, 35, 0, 0, []), (35, 7, 36, 2, 0, []), (36, 10, 39, 3, 1, []), (39, 53, 42, 4, 0, []), (42, 4, 43, 2, 0, []), (43, 72, 44, 0, 0, [])]
/-- TwoWayWallModel.partners(I)I -/
def zcd200 : List (Nat × zI) := [(0, 4, 1, 1, 0, []), (1, 74, 4, 196, 1, []), (4, 41, 7, 9, 0, []), (7, 0, 8, 0, (-1), []), (8, 72, 9, 0, 0, []), (9, 6, 10, 0, 0, []), (10, 76, 13, 197, 1, [12]), (13, 0, 14, 0, 0, []), (14, 7, 15, 2, 0, []), (15, 0, 16, 0, 0, []), (16, 7, 17, 3, 0, []), (17, 4, 18, 3, 0, []), (18, 0, 21, 0, 128, []), (21, 49, 24, 54, 0, []), (24, 6, 25, 0, 0, []), (25, 56, 28, 12, 22, []), (28, 4, 29, 3, 0, []), (29, 60, 30, 0, 0, []), (30, 4, 31, 1, 0, []), (31, 74, 34, 198, 1, []), (34, 47, 37, 48, 0, []), (37, 4, 38, 2, 0, []), (38, 0, 39, 0, 1, []), (39, 6, 40, 0, 0, []), (40, 56, 43, 12, 23, []), (43, 4, 44, 3, 0, []), (44, 60, 45, 0, 0, []), (45, 20, 46, 0, 0, []), (46, 15, 47, 0, 0, []), (47, 7, 48, 2, 0, []), (48, 10, 51, 3, 1, []), (51, 53, 54, 17, 0, []), (54, 4, 55, 2, 0, []), (55, 72, 56, 0, 0, [])]
/-- TwoWayWallModel.pairs()I -/
def zcd201 : List (Nat × zI) := [(0, 6, 1, 0, 0, []), (1, 76, 4, 197, 1, [12]), (4, 0, 5, 0, 0, []), (5, 7, 6, 1, 0, []), (6, 4, 7, 1, 0, []), (7, 0, 10, 0, 729, []), (10, 49, 13, 26, 0, []), (13, 6, 14, 0, 0, []), (14, 56, 17, 12, 24, []), (17, 4, 18, 1, 0, []), (18, 0, 19, 0, 0, []), (19, 66, 20, 0, 0, []), (20, 10, 23, 1, 1, []), (23, 53, 26, 6, 0, []), (26, 0, 27, 0, 0, []), (27, 7, 28, 1, 0, []), (28, 4, 29, 1, 0, []), (29, 0, 32, 0, 128, []), (32, 49, 35, 63, 0, []), (35, 6, 36, 0, 0, []), (36, 56, 39, 12, 24, []), (39, 0, 41, 0, 27, []), (41, 6, 42, 0, 0, []), (42, 56, 45, 12, 22, []), (45, 4, 46, 1, 0, []), (46, 60, 47, 0, 0, []), (47, 13, 48, 0, 0, []), (48, 6, 49, 0, 0, []), (49, 56, 52, 12, 23, []), (52, 4, 53, 1, 0, []), (53, 60, 54, 0, 0, []), (54, 11, 55, 0, 0, []), (55, 0, 56, 0, 1, []), (56, 66, 57, 0, 0, []), (57, 10, 60, 1, 1, []), (60, 53, 63, 28, 0, []), (63, 0, 64, 0, 0, []), (64, 7, 65, 1, 0, []), (65, 0, 66, 0, 0, []), (66, 7, 67, 2, 0, []), (67, 4, 68, 2, 0, []), (68, 0, 70, 0, 26, []), (70, 49, 73, 115, 0, []), (73, 0, 74, 0, 0, []), (74, 7, 75, 3, 0, []), (75, 4, 76, 3, 0, []), (76, 0, 78, 0, 26, []), (78, 49, 81, 109, 0, []), (81, 4, 82, 1, 0, []), (82, 6, 83, 0, 0, []), (83, 56, 86, 12, 24, []), (86, 0, 88, 0, 27, []), (88, 4, 89, 2, 0, []), (89, 13, 90, 0, 0, []), (90, 4, 91, 3, 0, []), (91, 11, 92, 0, 0, []), (92, 62, 93, 0, 0, []), (93, 40, 96, 100, 0, []), (96, 0, 97, 0, 1, []), (97, 53, 100, 101, 0, []), (100, 0, 101, 0, 0, []), (101, 11, 102, 0, 0, []), (102, 7, 103, 1, 0, []), (103, 10, 106, 3, 1, []), (106, 53, 109, 75, 0, []), (109, 10, 112, 2, 1, []), (112, 53, 115, 67, 0, []), (115, 4, 116, 1, 0, []), (116, 72, 117, 0, 0, [])]
/-- TwoWayWallModel.say(II)I -/
def zcd202 : List (Nat × zI) := [(0, 4, 1, 1, 0, []), (1, 74, 4, 183, 1, []), (4, 40, 7, 14, 0, []), (7, 4, 8, 2, 0, []), (8, 74, 11, 196, 1, []), (11, 41, 14, 20, 0, []), (14, 6, 15, 0, 0, []), (15, 0, 16, 0, (-1), []), (16, 76, 19, 151, 2, [12]), (19, 72, 20, 0, 0, []), (20, 6, 21, 0, 0, []), (21, 56, 24, 12, 4, []), (24, 0, 27, 0, 364, []), (27, 4, 28, 1, 0, []), (28, 11, 29, 0, 0, []), (29, 60, 30, 0, 0, []), (30, 7, 31, 3, 0, []), (31, 4, 32, 3, 0, []), (32, 0, 34, 0, 16, []), (34, 47, 37, 44, 0, []), (37, 6, 38, 0, 0, []), (38, 0, 40, 0, (-5), []), (40, 76, 43, 151, 2, [12]), (43, 72, 44, 0, 0, []), (44, 6, 45, 0, 0, []), (45, 56, 48, 12, 4, []), (48, 0, 51, 0, 332, []), (51, 0, 53, 0, 16, []), (53, 4, 54, 1, 0, []), (54, 13, 55, 0, 0, []), (55, 11, 56, 0, 0, []), (56, 4, 57, 3, 0, []), (57, 11, 58, 0, 0, []), (58, 4, 59, 2, 0, []), (59, 74, 62, 198, 1, []), (62, 64, 63, 0, 0, []), (63, 6, 64, 0, 0, []), (64, 56, 67, 12, 4, []), (67, 0, 70, 0, 364, []), (70, 4, 71, 1, 0, []), (71, 11, 72, 0, 0, []), (72, 38, 73, 0, 0, []), (73, 60, 74, 0, 0, []), (74, 0, 75, 0, 1, []), (75, 11, 76, 0, 0, []), (76, 64, 77, 0, 0, []), (77, 6, 78, 0, 0, []), (78, 4, 79, 3, 0, []), (79, 0, 80, 0, 1, []), (80, 11, 81, 0, 0, []), (81, 76, 84, 152, 2, [12]), (84, 72, 85, 0, 0, [])]
/-- TwoWayWallModel.hush(I)I -/
def zcd203 : List (Nat × zI) := [(0, 4, 1, 1, 0, []), (1, 74, 4, 183, 1, []), (4, 41, 7, 13, 0, []), (7, 6, 8, 0, 0, []), (8, 0, 9, 0, (-1), []), (9, 76, 12, 151, 2, [12]), (12, 72, 13, 0, 0, []), (13, 6, 14, 0, 0, []), (14, 56, 17, 12, 4, []), (17, 0, 20, 0, 364, []), (20, 4, 21, 1, 0, []), (21, 11, 22, 0, 0, []), (22, 60, 23, 0, 0, []), (23, 7, 24, 2, 0, []), (24, 6, 25, 0, 0, []), (25, 56, 28, 12, 4, []), (28, 0, 31, 0, 364, []), (31, 4, 32, 1, 0, []), (32, 11, 33, 0, 0, []), (33, 0, 34, 0, 0, []), (34, 64, 35, 0, 0, []), (35, 6, 36, 0, 0, []), (36, 4, 37, 2, 0, []), (37, 76, 40, 152, 2, [12]), (40, 72, 41, 0, 0, [])]
/-- TwoWayWallModel.near(I)I -/
def zcd204 : List (Nat × zI) := [(0, 4, 1, 1, 0, []), (1, 0, 2, 0, 0, []), (2, 0, 3, 0, 2, []), (3, 74, 6, 150, 3, []), (6, 40, 9, 16, 0, []), (9, 6, 10, 0, 0, []), (10, 76, 13, 205, 1, [12]), (13, 41, 16, 18, 0, []), (16, 0, 17, 0, (-1), []), (17, 72, 18, 0, 0, []), (18, 6, 19, 0, 0, []), (19, 76, 22, 197, 1, [12]), (22, 0, 23, 0, 0, []), (23, 7, 24, 2, 0, []), (24, 0, 25, 0, 0, []), (25, 7, 26, 3, 0, []), (26, 1, 27, 0, 1, []), (27, 8, 29, 4, 0, []), (29, 0, 30, 0, 0, []), (30, 7, 32, 6, 0, []), (32, 4, 34, 6, 0, []), (34, 6, 35, 0, 0, []), (35, 56, 38, 12, 4, []), (38, 0, 41, 0, 364, []), (41, 60, 42, 0, 0, []), (42, 49, 45, 106, 0, []), (45, 6, 46, 0, 0, []), (46, 4, 48, 6, 0, []), (48, 76, 51, 206, 2, [12]), (51, 4, 52, 2, 0, []), (52, 6, 53, 0, 0, []), (53, 55, 56, 12, 25, []), (56, 11, 57, 0, 0, []), (57, 7, 58, 2, 0, []), (58, 4, 59, 3, 0, []), (59, 6, 60, 0, 0, []), (60, 6, 61, 0, 0, []), (61, 55, 64, 12, 26, []), (64, 76, 67, 199, 2, [12]), (67, 11, 68, 0, 0, []), (68, 7, 69, 3, 0, []), (69, 5, 71, 4, 0, []), (71, 6, 72, 0, 0, []), (72, 55, 75, 12, 27, []), (75, 32, 76, 0, 0, []), (76, 25, 77, 0, 0, []), (77, 1, 80, 0, 1000000000, []), (80, 31, 81, 0, 0, []), (81, 45, 84, 90, 0, []), (84, 1, 87, 0, 1000000000, []), (87, 53, 90, 98, 0, []), (90, 5, 92, 4, 0, []), (92, 6, 93, 0, 0, []), (93, 55, 96, 12, 27, []), (96, 32, 97, 0, 0, []), (97, 25, 98, 0, 0, []), (98, 8, 100, 4, 0, []), (100, 10, 103, 6, 1, []), (103, 53, 106, 32, 0, []), (106, 4, 107, 1, 0, []), (107, 41, 110, 114, 0, []), (110, 4, 111, 2, 0, []), (111, 53, 114, 126, 0, []), (114, 4, 115, 1, 0, []), (115, 0, 116, 0, 1, []), (116, 47, 119, 123, 0, []), (119, 4, 120, 3, 0, []), (120, 53, 123, 126, 0, []), (123, 5, 125, 4, 0, []), (125, 33, 126, 0, 0, []), (126, 72, 127, 0, 0, [])]
/-- TwoWayWallModel.areAsLong()Z -/
def zcd205 : List (Nat × zI) := [(0, 6, 1, 0, 0, []), (1, 56, 4, 12, 4, []), (4, 0, 7, 0, 364, []), (7, 60, 8, 0, 0, []), (8, 6, 9, 0, 0, []), (9, 56, 12, 12, 4, []), (12, 0, 15, 0, 365, []), (15, 60, 16, 0, 0, []), (16, 47, 19, 23, 0, []), (19, 0, 20, 0, 1, []), (20, 53, 23, 24, 0, []), (23, 0, 24, 0, 0, []), (24, 72, 25, 3, 0, [])]
/-- TwoWayWallModel.nears(I)V -/
def zcd206 : List (Nat × zI) := [(0, 6, 1, 0, 0, []), (1, 56, 4, 12, 4, []), (4, 0, 7, 0, 332, []), (7, 4, 8, 1, 0, []), (8, 11, 9, 0, 0, []), (9, 60, 10, 0, 0, []), (10, 7, 11, 2, 0, []), (11, 6, 12, 0, 0, []), (12, 56, 15, 12, 4, []), (15, 0, 18, 0, 348, []), (18, 6, 19, 0, 0, []), (19, 56, 22, 12, 4, []), (22, 0, 25, 0, 364, []), (25, 60, 26, 0, 0, []), (26, 11, 27, 0, 0, []), (27, 0, 28, 0, 1, []), (28, 12, 29, 0, 0, []), (29, 4, 30, 1, 0, []), (30, 12, 31, 0, 0, []), (31, 60, 32, 0, 0, []), (32, 7, 33, 3, 0, []), (33, 6, 34, 0, 0, []), (34, 0, 35, 0, 3, []), (35, 57, 38, 12, 25, []), (38, 0, 39, 0, 0, []), (39, 7, 41, 4, 0, []), (41, 4, 43, 4, 0, []), (43, 0, 46, 0, 128, []), (46, 49, 49, 163, 0, []), (49, 6, 50, 0, 0, []), (50, 56, 53, 12, 22, []), (53, 4, 55, 4, 0, []), (55, 60, 56, 0, 0, []), (56, 4, 57, 2, 0, []), (57, 47, 60, 64, 0, []), (60, 0, 61, 0, 0, []), (61, 53, 64, 65, 0, []), (64, 0, 65, 0, 1, []), (65, 6, 66, 0, 0, []), (66, 56, 69, 12, 23, []), (69, 4, 71, 4, 0, []), (71, 60, 72, 0, 0, []), (72, 4, 73, 3, 0, []), (73, 47, 76, 80, 0, []), (76, 0, 77, 0, 0, []), (77, 53, 80, 81, 0, []), (80, 0, 81, 0, 1, []), (81, 11, 82, 0, 0, []), (82, 7, 84, 5, 0, []), (84, 4, 86, 5, 0, []), (86, 6, 87, 0, 0, []), (87, 55, 90, 12, 25, []), (90, 51, 93, 96, 0, []), (93, 53, 96, 157, 0, []), (96, 6, 97, 0, 0, []), (97, 4, 99, 5, 0, []), (99, 6, 100, 0, 0, []), (100, 55, 103, 12, 25, []), (103, 49, 106, 110, 0, []), (106, 0, 107, 0, 1, []), (107, 53, 110, 116, 0, []), (110, 6, 111, 0, 0, []), (111, 55, 114, 12, 27, []), (114, 0, 115, 0, 1, []), (115, 11, 116, 0, 0, []), (116, 57, 119, 12, 27, []), (119, 4, 121, 5, 0, []), (121, 6, 122, 0, 0, []), (122, 55, 125, 12, 25, []), (125, 48, 128, 145, 0, []), (128, 6, 129, 0, 0, []), (129, 4, 131, 4, 0, []), (131, 76, 134, 199, 2, [12]), (134, 6, 135, 0, 0, []), (135, 6, 136, 0, 0, []), (136, 55, 139, 12, 26, []), (139, 76, 142, 199, 2, [12]), (142, 49, 145, 151, 0, []), (145, 6, 146, 0, 0, []), (146, 4, 148, 4, 0, []), (148, 57, 151, 12, 26, []), (151, 6, 152, 0, 0, []), (152, 4, 154, 5, 0, []), (154, 57, 157, 12, 25, []), (157, 10, 160, 4, 1, []), (160, 53, 163, 41, 0, []), (163, 73, 164, 0, 0, [])]
/-- TwoWayWallModel.nearAt(I)I -/
def zcd207 : List (Nat × zI) := [(0, 6, 1, 0, 0, []), (1, 76, 4, 205, 1, [12]), (4, 40, 7, 25, 0, []), (7, 4, 8, 1, 0, []), (8, 0, 9, 0, 0, []), (9, 6, 10, 0, 0, []), (10, 56, 13, 12, 4, []), (13, 0, 16, 0, 364, []), (16, 60, 17, 0, 0, []), (17, 0, 18, 0, 1, []), (18, 12, 19, 0, 0, []), (19, 74, 22, 150, 3, []), (22, 41, 25, 27, 0, []), (25, 0, 26, 0, (-1), []), (26, 72, 27, 0, 0, []), (27, 6, 28, 0, 0, []), (28, 76, 31, 197, 1, [12]), (31, 6, 32, 0, 0, []), (32, 4, 33, 1, 0, []), (33, 76, 36, 206, 2, [12]), (36, 6, 37, 0, 0, []), (37, 55, 40, 12, 26, []), (40, 72, 41, 0, 0, [])]
/-- TwoWayWallModel.mean(II)I -/
def zcd208 : List (Nat × zI) := [(0, 4, 1, 1, 0, []), (1, 74, 4, 183, 1, []), (4, 40, 7, 17, 0, []), (7, 4, 8, 2, 0, []), (8, 0, 9, 0, 0, []), (9, 0, 11, 0, 7, []), (11, 74, 14, 150, 3, []), (14, 41, 17, 23, 0, []), (17, 6, 18, 0, 0, []), (18, 0, 19, 0, (-1), []), (19, 76, 22, 151, 2, [12]), (22, 72, 23, 0, 0, []), (23, 6, 24, 0, 0, []), (24, 56, 27, 12, 4, []), (27, 0, 30, 0, 374, []), (30, 4, 31, 1, 0, []), (31, 11, 32, 0, 0, []), (32, 60, 33, 0, 0, []), (33, 7, 34, 3, 0, []), (34, 4, 35, 3, 0, []), (35, 0, 36, 0, 4, []), (36, 47, 39, 46, 0, []), (39, 6, 40, 0, 0, []), (40, 0, 42, 0, (-5), []), (42, 76, 45, 151, 2, [12]), (45, 72, 46, 0, 0, []), (46, 6, 47, 0, 0, []), (47, 56, 50, 12, 4, []), (50, 0, 53, 0, 366, []), (53, 0, 54, 0, 4, []), (54, 4, 55, 1, 0, []), (55, 13, 56, 0, 0, []), (56, 11, 57, 0, 0, []), (57, 4, 58, 3, 0, []), (58, 11, 59, 0, 0, []), (59, 4, 60, 2, 0, []), (60, 64, 61, 0, 0, []), (61, 6, 62, 0, 0, []), (62, 56, 65, 12, 4, []), (65, 0, 68, 0, 374, []), (68, 4, 69, 1, 0, []), (69, 11, 70, 0, 0, []), (70, 38, 71, 0, 0, []), (71, 60, 72, 0, 0, []), (72, 0, 73, 0, 1, []), (73, 11, 74, 0, 0, []), (74, 64, 75, 0, 0, []), (75, 6, 76, 0, 0, []), (76, 36, 77, 0, 0, []), (77, 55, 80, 12, 1, []), (80, 0, 81, 0, 1, []), (81, 11, 82, 0, 0, []), (82, 57, 85, 12, 1, []), (85, 6, 86, 0, 0, []), (86, 4, 87, 3, 0, []), (87, 0, 88, 0, 1, []), (88, 11, 89, 0, 0, []), (89, 76, 92, 152, 2, [12]), (92, 72, 93, 0, 0, [])]
/-- TwoWayWallModel.forget(I)I -/
def zcd209 : List (Nat × zI) := [(0, 4, 1, 1, 0, []), (1, 74, 4, 183, 1, []), (4, 41, 7, 13, 0, []), (7, 6, 8, 0, 0, []), (8, 0, 9, 0, (-1), []), (9, 76, 12, 151, 2, [12]), (12, 72, 13, 0, 0, []), (13, 6, 14, 0, 0, []), (14, 56, 17, 12, 4, []), (17, 0, 20, 0, 374, []), (20, 4, 21, 1, 0, []), (21, 11, 22, 0, 0, []), (22, 60, 23, 0, 0, []), (23, 7, 24, 2, 0, []), (24, 6, 25, 0, 0, []), (25, 56, 28, 12, 4, []), (28, 0, 31, 0, 374, []), (31, 4, 32, 1, 0, []), (32, 11, 33, 0, 0, []), (33, 0, 34, 0, 0, []), (34, 64, 35, 0, 0, []), (35, 6, 36, 0, 0, []), (36, 36, 37, 0, 0, []), (37, 55, 40, 12, 1, []), (40, 0, 41, 0, 1, []), (41, 11, 42, 0, 0, []), (42, 57, 45, 12, 1, []), (45, 6, 46, 0, 0, []), (46, 4, 47, 2, 0, []), (47, 76, 50, 152, 2, [12]), (50, 72, 51, 0, 0, [])]
/-- TwoWayWallModel.tells()J -/
def zcd210 : List (Nat × zI) := [(0, 6, 1, 0, 0, []), (1, 0, 2, 0, 0, []), (2, 76, 5, 211, 2, [12]), (5, 6, 6, 0, 0, []), (6, 76, 9, 218, 1, [12]), (9, 6, 10, 0, 0, []), (10, 76, 13, 219, 1, [12]), (13, 0, 14, 0, 0, []), (14, 7, 15, 1, 0, []), (15, 4, 16, 1, 0, []), (16, 6, 17, 0, 0, []), (17, 56, 20, 12, 4, []), (20, 0, 23, 0, 427, []), (23, 60, 24, 0, 0, []), (24, 49, 27, 37, 0, []), (27, 6, 28, 0, 0, []), (28, 76, 31, 220, 1, [12]), (31, 10, 34, 1, 1, []), (34, 53, 37, 15, 0, []), (37, 6, 38, 0, 0, []), (38, 76, 41, 222, 1, [12]), (41, 72, 42, 1, 0, [])]
/-- TwoWayWallModel.laysStories(Z)V -/
def zcd211 : List (Nat × zI) := [(0, 6, 1, 0, 0, []), (1, 4, 2, 1, 0, []), (2, 58, 5, 12, 31, []), (5, 6, 6, 0, 0, []), (6, 0, 7, 0, 0, []), (7, 76, 10, 212, 2, [12]), (10, 6, 11, 0, 0, []), (11, 0, 12, 0, 1, []), (12, 76, 15, 212, 2, [12]), (15, 6, 16, 0, 0, []), (16, 76, 19, 197, 1, [12]), (19, 73, 20, 0, 0, [])]
/-- TwoWayWallModel.laysSteps(I)V -/
def zcd212 : List (Nat × zI) := [(0, 6, 1, 0, 0, []), (1, 55, 4, 12, 31, []), (4, 40, 7, 11, 0, []), (7, 0, 8, 0, 1, []), (8, 53, 11, 21, 0, []), (11, 6, 12, 0, 0, []), (12, 56, 15, 12, 4, []), (15, 0, 18, 0, 374, []), (18, 4, 19, 1, 0, []), (19, 11, 20, 0, 0, []), (20, 60, 21, 0, 0, []), (21, 7, 22, 2, 0, []), (22, 0, 25, 0, 224, []), (25, 4, 26, 1, 0, []), (26, 13, 27, 0, 0, []), (27, 7, 28, 3, 0, []), (28, 6, 29, 0, 0, []), (29, 56, 32, 12, 30, []), (32, 4, 33, 1, 0, []), (33, 0, 35, 0, 56, []), (35, 4, 36, 2, 0, []), (36, 41, 39, 43, 0, []), (39, 0, 40, 0, 1, []), (40, 53, 43, 44, 0, []), (43, 4, 44, 2, 0, []), (44, 13, 45, 0, 0, []), (45, 64, 46, 0, 0, []), (46, 0, 47, 0, 0, []), (47, 7, 49, 4, 0, []), (49, 4, 51, 4, 0, []), (51, 0, 54, 0, 224, []), (54, 49, 57, 105, 0, []), (57, 6, 58, 0, 0, []), (58, 56, 61, 12, 29, []), (61, 4, 62, 3, 0, []), (62, 4, 64, 4, 0, []), (64, 11, 65, 0, 0, []), (65, 0, 66, 0, 0, []), (66, 66, 67, 0, 0, []), (67, 0, 68, 0, 0, []), (68, 7, 70, 5, 0, []), (70, 4, 72, 5, 0, []), (72, 0, 74, 0, 27, []), (74, 49, 77, 99, 0, []), (77, 6, 78, 0, 0, []), (78, 56, 81, 12, 28, []), (81, 4, 82, 3, 0, []), (82, 4, 84, 4, 0, []), (84, 11, 85, 0, 0, []), (85, 0, 87, 0, 27, []), (87, 13, 88, 0, 0, []), (88, 4, 90, 5, 0, []), (90, 11, 91, 0, 0, []), (91, 0, 92, 0, (-1), []), (92, 64, 93, 0, 0, []), (93, 10, 96, 5, 1, []), (96, 53, 99, 70, 0, []), (99, 10, 102, 4, 1, []), (102, 53, 105, 49, 0, []), (105, 4, 106, 2, 0, []), (106, 41, 109, 129, 0, []), (109, 6, 110, 0, 0, []), (110, 56, 113, 12, 29, []), (113, 4, 114, 3, 0, []), (114, 0, 115, 0, 1, []), (115, 66, 116, 0, 0, []), (116, 6, 117, 0, 0, []), (117, 56, 120, 12, 28, []), (120, 4, 121, 3, 0, []), (121, 0, 123, 0, 27, []), (123, 13, 124, 0, 0, []), (124, 0, 126, 0, 26, []), (126, 11, 127, 0, 0, []), (127, 0, 128, 0, 0, []), (128, 64, 129, 0, 0, []), (129, 0, 130, 0, 0, []), (130, 7, 132, 4, 0, []), (132, 4, 134, 4, 0, []), (134, 4, 135, 2, 0, []), (135, 49, 138, 385, 0, []), (138, 0, 139, 0, 0, []), (139, 7, 141, 5, 0, []), (141, 4, 143, 5, 0, []), (143, 0, 145, 0, 6, []), (145, 50, 148, 379, 0, []), (148, 0, 149, 0, 0, []), (149, 7, 151, 6, 0, []), (151, 4, 153, 6, 0, []), (153, 4, 155, 5, 0, []), (155, 41, 158, 162, 0, []), (158, 0, 159, 0, 1, []), (159, 53, 162, 172, 0, []), (162, 6, 163, 0, 0, []), (163, 56, 166, 12, 4, []), (166, 0, 169, 0, 284, []), (169, 4, 170, 1, 0, []), (170, 11, 171, 0, 0, []), (171, 60, 172, 0, 0, []), (172, 49, 175, 373, 0, []), (175, 4, 176, 3, 0, []), (176, 4, 178, 4, 0, []), (178, 4, 180, 5, 0, []), (180, 4, 182, 6, 0, []), (182, 74, 185, 213, 3, []), (185, 11, 186, 0, 0, []), (186, 7, 188, 7, 0, []), (188, 6, 189, 0, 0, []), (189, 4, 190, 1, 0, []), (190, 4, 192, 4, 0, []), (192, 4, 194, 5, 0, []), (194, 4, 196, 6, 0, []), (196, 76, 199, 214, 5, [12]), (199, 40, 202, 267, 0, []), (202, 6, 203, 0, 0, []), (203, 56, 206, 12, 29, []), (206, 4, 208, 7, 0, []), (208, 4, 210, 4, 0, []), (210, 4, 211, 2, 0, []), (211, 0, 212, 0, 1, []), (212, 12, 213, 0, 0, []), (213, 47, 216, 220, 0, []), (216, 0, 217, 0, 1, []), (217, 53, 220, 221, 0, []), (220, 0, 221, 0, 0, []), (221, 66, 222, 0, 0, []), (222, 6, 223, 0, 0, []), (223, 56, 226, 12, 28, []), (226, 4, 228, 7, 0, []), (228, 0, 230, 0, 27, []), (230, 13, 231, 0, 0, []), (231, 0, 233, 0, 26, []), (233, 11, 234, 0, 0, []), (234, 6, 235, 0, 0, []), (235, 55, 238, 12, 31, []), (238, 40, 241, 245, 0, []), (241, 0, 242, 0, 0, []), (242, 53, 245, 266, 0, []), (245, 4, 247, 4, 0, []), (247, 4, 248, 2, 0, []), (248, 0, 249, 0, 1, []), (249, 12, 250, 0, 0, []), (250, 49, 253, 265, 0, []), (253, 4, 255, 4, 0, []), (255, 0, 256, 0, 1, []), (256, 11, 257, 0, 0, []), (257, 0, 258, 0, 0, []), (258, 0, 259, 0, 0, []), (259, 74, 262, 213, 3, []), (262, 53, 265, 266, 0, []), (265, 0, 266, 0, (-1), []), (266, 64, 267, 0, 0, []), (267, 6, 268, 0, 0, []), (268, 56, 271, 12, 4, []), (271, 0, 274, 0, 284, []), (274, 4, 275, 1, 0, []), (275, 11, 276, 0, 0, []), (276, 60, 277, 0, 0, []), (277, 0, 278, 0, 1, []), (278, 12, 279, 0, 0, []), (279, 7, 281, 8, 0, []), (281, 4, 283, 8, 0, []), (283, 42, 286, 367, 0, []), (286, 6, 287, 0, 0, []), (287, 4, 288, 1, 0, []), (288, 4, 290, 8, 0, []), (290, 4, 292, 4, 0, []), (292, 76, 295, 215, 4, [12]), (295, 40, 298, 361, 0, []), (298, 6, 299, 0, 0, []), (299, 4, 300, 1, 0, []), (300, 4, 302, 8, 0, []), (302, 0, 303, 0, 1, []), (303, 76, 306, 187, 4, [12]), (306, 4, 308, 5, 0, []), (308, 51, 311, 361, 0, []), (311, 4, 313, 5, 0, []), (313, 40, 316, 330, 0, []), (316, 6, 317, 0, 0, []), (317, 4, 318, 1, 0, []), (318, 4, 320, 8, 0, []), (320, 4, 322, 6, 0, []), (322, 4, 324, 5, 0, []), (324, 76, 327, 216, 5, [12]), (327, 40, 330, 361, 0, []), (330, 6, 331, 0, 0, []), (331, 56, 334, 12, 28, []), (334, 4, 336, 7, 0, []), (336, 0, 338, 0, 27, []), (338, 13, 339, 0, 0, []), (339, 6, 340, 0, 0, []), (340, 4, 341, 1, 0, []), (341, 4, 343, 8, 0, []), (343, 4, 345, 5, 0, []), (345, 76, 348, 217, 4, [12]), (348, 11, 349, 0, 0, []), (349, 4, 351, 4, 0, []), (351, 4, 353, 5, 0, []), (353, 0, 354, 0, 1, []), (354, 11, 355, 0, 0, []), (355, 4, 357, 8, 0, []), (357, 74, 360, 213, 3, []), (360, 64, 361, 0, 0, []), (361, 10, 364, 8, (-1), []), (364, 53, 367, 281, 0, []), (367, 10, 370, 6, 1, []), (370, 53, 373, 151, 0, []), (373, 10, 376, 5, 1, []), (376, 53, 379, 141, 0, []), (379, 10, 382, 4, 1, []), (382, 53, 385, 132, 0, []), (385, 73, 386, 0, 0, [])]
/-- TwoWayWallModel.placeOf(III)I -/
def zcd213 : List (Nat × zI) := [(0, 4, 1, 0, 0, []), (1, 0, 3, 0, 7, []), (3, 13, 4, 0, 0, []), (4, 4, 5, 1, 0, []), (5, 11, 6, 0, 0, []), (6, 0, 8, 0, 8, []), (8, 13, 9, 0, 0, []), (9, 4, 10, 2, 0, []), (10, 11, 11, 0, 0, []), (11, 72, 12, 0, 0, [])]
/-- TwoWayWallModel.isWhole(IIII)Z -/
def zcd214 : List (Nat × zI) := [(0, 0, 1, 0, 0, []), (1, 7, 3, 5, 0, []), (3, 4, 5, 5, 0, []), (5, 6, 6, 0, 0, []), (6, 56, 9, 12, 4, []), (9, 0, 12, 0, 284, []), (12, 4, 13, 1, 0, []), (13, 11, 14, 0, 0, []), (14, 60, 15, 0, 0, []), (15, 49, 18, 66, 0, []), (18, 4, 19, 3, 0, []), (19, 45, 22, 60, 0, []), (22, 6, 23, 0, 0, []), (23, 4, 24, 1, 0, []), (24, 4, 26, 5, 0, []), (26, 4, 27, 2, 0, []), (27, 76, 30, 215, 4, [12]), (30, 40, 33, 60, 0, []), (33, 6, 34, 0, 0, []), (34, 4, 35, 1, 0, []), (35, 4, 37, 5, 0, []), (37, 0, 38, 0, 1, []), (38, 76, 41, 187, 4, [12]), (41, 4, 42, 3, 0, []), (42, 47, 45, 60, 0, []), (45, 6, 46, 0, 0, []), (46, 4, 47, 1, 0, []), (47, 4, 49, 5, 0, []), (49, 4, 51, 4, 0, []), (51, 4, 52, 3, 0, []), (52, 76, 55, 216, 5, [12]), (55, 40, 58, 60, 0, []), (58, 0, 59, 0, 1, []), (59, 72, 60, 3, 0, []), (60, 10, 63, 5, 1, []), (63, 53, 66, 3, 0, []), (66, 0, 67, 0, 0, []), (67, 72, 68, 3, 0, [])]
/-- TwoWayWallModel.fits(III)Z -/
def zcd215 : List (Nat × zI) := [(0, 6, 1, 0, 0, []), (1, 55, 4, 12, 31, []), (4, 40, 7, 9, 0, []), (7, 0, 8, 0, 1, []), (8, 72, 9, 3, 0, []), (9, 6, 10, 0, 0, []), (10, 56, 13, 12, 4, []), (13, 0, 16, 0, 374, []), (16, 4, 17, 1, 0, []), (17, 11, 18, 0, 0, []), (18, 60, 19, 0, 0, []), (19, 7, 21, 4, 0, []), (21, 6, 22, 0, 0, []), (22, 4, 23, 1, 0, []), (23, 4, 24, 2, 0, []), (24, 0, 25, 0, 0, []), (25, 76, 28, 187, 4, [12]), (28, 6, 29, 0, 0, []), (29, 56, 32, 12, 4, []), (32, 0, 35, 0, 366, []), (35, 0, 36, 0, 4, []), (36, 4, 37, 1, 0, []), (37, 13, 38, 0, 0, []), (38, 11, 39, 0, 0, []), (39, 4, 40, 1, 0, []), (40, 41, 43, 47, 0, []), (43, 4, 44, 3, 0, []), (44, 53, 47, 53, 0, []), (47, 4, 49, 4, 0, []), (49, 0, 50, 0, 1, []), (50, 12, 51, 0, 0, []), (51, 4, 52, 3, 0, []), (52, 12, 53, 0, 0, []), (53, 11, 54, 0, 0, []), (54, 60, 55, 0, 0, []), (55, 47, 58, 62, 0, []), (58, 0, 59, 0, 1, []), (59, 53, 62, 63, 0, []), (62, 0, 63, 0, 0, []), (63, 72, 64, 3, 0, [])]
/-- TwoWayWallModel.beginsAlike(IIII)Z -/
def zcd216 : List (Nat × zI) := [(0, 6, 1, 0, 0, []), (1, 4, 2, 1, 0, []), (2, 4, 3, 2, 0, []), (3, 0, 4, 0, 1, []), (4, 76, 7, 187, 4, [12]), (7, 4, 9, 4, 0, []), (9, 48, 12, 24, 0, []), (12, 6, 13, 0, 0, []), (13, 4, 14, 1, 0, []), (14, 4, 15, 3, 0, []), (15, 0, 16, 0, 1, []), (16, 76, 19, 187, 4, [12]), (19, 4, 21, 4, 0, []), (21, 49, 24, 26, 0, []), (24, 0, 25, 0, 0, []), (25, 72, 26, 3, 0, []), (26, 0, 27, 0, 0, []), (27, 7, 29, 5, 0, []), (29, 4, 31, 5, 0, []), (31, 4, 33, 4, 0, []), (33, 49, 36, 63, 0, []), (36, 6, 37, 0, 0, []), (37, 4, 38, 1, 0, []), (38, 4, 39, 2, 0, []), (39, 4, 41, 5, 0, []), (41, 76, 44, 217, 4, [12]), (44, 6, 45, 0, 0, []), (45, 4, 46, 1, 0, []), (46, 4, 47, 3, 0, []), (47, 4, 49, 5, 0, []), (49, 76, 52, 217, 4, [12]), (52, 46, 55, 57, 0, []), (55, 0, 56, 0, 0, []), (56, 72, 57, 3, 0, []), (57, 10, 60, 5, 1, []), (60, 53, 63, 29, 0, []), (63, 0, 64, 0, 1, []), (64, 72, 65, 3, 0, [])]
/-- TwoWayWallModel.letterAt(III)I -/
def zcd217 : List (Nat × zI) := [(0, 6, 1, 0, 0, []), (1, 4, 2, 1, 0, []), (2, 4, 3, 2, 0, []), (3, 0, 4, 0, 2, []), (4, 4, 5, 1, 0, []), (5, 41, 8, 12, 0, []), (8, 4, 9, 3, 0, []), (9, 53, 12, 23, 0, []), (12, 6, 13, 0, 0, []), (13, 4, 14, 1, 0, []), (14, 4, 15, 2, 0, []), (15, 0, 16, 0, 1, []), (16, 76, 19, 187, 4, [12]), (19, 0, 20, 0, 1, []), (20, 12, 21, 0, 0, []), (21, 4, 22, 3, 0, []), (22, 12, 23, 0, 0, []), (23, 11, 24, 0, 0, []), (24, 76, 27, 187, 4, [12]), (27, 72, 28, 0, 0, [])]
/-- TwoWayWallModel.allSorts()V -/
def zcd218 : List (Nat × zI) := [(0, 0, 1, 0, 0, []), (1, 7, 2, 1, 0, []), (2, 4, 3, 1, 0, []), (3, 0, 6, 0, 729, []), (6, 49, 9, 22, 0, []), (9, 6, 10, 0, 0, []), (10, 56, 13, 12, 34, []), (13, 4, 14, 1, 0, []), (14, 0, 15, 0, 0, []), (15, 64, 16, 0, 0, []), (16, 10, 19, 1, 1, []), (19, 53, 22, 2, 0, []), (22, 0, 23, 0, 0, []), (23, 7, 24, 1, 0, []), (24, 4, 25, 1, 0, []), (25, 0, 28, 0, 128, []), (28, 49, 31, 62, 0, []), (31, 6, 32, 0, 0, []), (32, 56, 35, 12, 34, []), (35, 0, 37, 0, 27, []), (37, 6, 38, 0, 0, []), (38, 56, 41, 12, 22, []), (41, 4, 42, 1, 0, []), (42, 60, 43, 0, 0, []), (43, 13, 44, 0, 0, []), (44, 6, 45, 0, 0, []), (45, 56, 48, 12, 23, []), (48, 4, 49, 1, 0, []), (49, 60, 50, 0, 0, []), (50, 11, 51, 0, 0, []), (51, 38, 52, 0, 0, []), (52, 60, 53, 0, 0, []), (53, 0, 54, 0, 1, []), (54, 11, 55, 0, 0, []), (55, 64, 56, 0, 0, []), (56, 10, 59, 1, 1, []), (59, 53, 62, 24, 0, []), (62, 73, 63, 0, 0, [])]
/-- TwoWayWallModel.starts()V -/
def zcd219 : List (Nat × zI) := [(0, 0, 1, 0, 0, []), (1, 7, 2, 1, 0, []), (2, 4, 3, 1, 0, []), (3, 6, 4, 0, 0, []), (4, 56, 7, 12, 30, []), (7, 0, 8, 0, 0, []), (8, 60, 9, 0, 0, []), (9, 49, 12, 61, 0, []), (12, 0, 13, 0, 0, []), (13, 7, 14, 2, 0, []), (14, 4, 15, 2, 0, []), (15, 6, 16, 0, 0, []), (16, 56, 19, 12, 30, []), (19, 0, 20, 0, 1, []), (20, 60, 21, 0, 0, []), (21, 49, 24, 55, 0, []), (24, 6, 25, 0, 0, []), (25, 56, 28, 12, 32, []), (28, 0, 31, 0, 224, []), (31, 4, 32, 1, 0, []), (32, 13, 33, 0, 0, []), (33, 4, 34, 2, 0, []), (34, 11, 35, 0, 0, []), (35, 4, 36, 1, 0, []), (36, 41, 39, 47, 0, []), (39, 4, 40, 2, 0, []), (40, 41, 43, 47, 0, []), (43, 1, 44, 0, 1, []), (44, 53, 47, 48, 0, []), (47, 1, 48, 0, 0, []), (48, 65, 49, 0, 0, []), (49, 10, 52, 2, 1, []), (52, 53, 55, 14, 0, []), (55, 10, 58, 1, 1, []), (58, 53, 61, 2, 0, []), (61, 73, 62, 0, 0, [])]
/-- TwoWayWallModel.goesOn()V -/
def zcd220 : List (Nat × zI) := [(0, 0, 1, 0, 0, []), (1, 7, 2, 1, 0, []), (2, 4, 3, 1, 0, []), (3, 6, 4, 0, 0, []), (4, 56, 7, 12, 30, []), (7, 0, 8, 0, 0, []), (8, 60, 9, 0, 0, []), (9, 49, 12, 49, 0, []), (12, 0, 13, 0, 0, []), (13, 7, 14, 2, 0, []), (14, 4, 15, 2, 0, []), (15, 6, 16, 0, 0, []), (16, 56, 19, 12, 30, []), (19, 0, 20, 0, 1, []), (20, 60, 21, 0, 0, []), (21, 49, 24, 43, 0, []), (24, 6, 25, 0, 0, []), (25, 56, 28, 12, 33, []), (28, 0, 31, 0, 224, []), (31, 4, 32, 1, 0, []), (32, 13, 33, 0, 0, []), (33, 4, 34, 2, 0, []), (34, 11, 35, 0, 0, []), (35, 1, 36, 0, 0, []), (36, 65, 37, 0, 0, []), (37, 10, 40, 2, 1, []), (40, 53, 43, 14, 0, []), (43, 10, 46, 1, 1, []), (46, 53, 49, 2, 0, []), (49, 0, 50, 0, 0, []), (50, 7, 51, 1, 0, []), (51, 4, 52, 1, 0, []), (52, 6, 53, 0, 0, []), (53, 56, 56, 12, 30, []), (56, 0, 57, 0, 0, []), (57, 60, 58, 0, 0, []), (58, 49, 61, 257, 0, []), (61, 0, 62, 0, 0, []), (62, 7, 63, 2, 0, []), (63, 4, 64, 2, 0, []), (64, 6, 65, 0, 0, []), (65, 56, 68, 12, 30, []), (68, 0, 69, 0, 1, []), (69, 60, 70, 0, 0, []), (70, 49, 73, 251, 0, []), (73, 6, 74, 0, 0, []), (74, 56, 77, 12, 32, []), (77, 0, 80, 0, 224, []), (80, 4, 81, 1, 0, []), (81, 13, 82, 0, 0, []), (82, 4, 83, 2, 0, []), (83, 11, 84, 0, 0, []), (84, 61, 85, 0, 0, []), (85, 8, 86, 3, 0, []), (86, 5, 87, 3, 0, []), (87, 1, 88, 0, 0, []), (88, 31, 89, 0, 0, []), (89, 41, 92, 95, 0, []), (92, 53, 95, 245, 0, []), (95, 0, 96, 0, 0, []), (96, 7, 98, 5, 0, []), (98, 4, 100, 5, 0, []), (100, 0, 102, 0, 27, []), (102, 49, 105, 245, 0, []), (105, 6, 106, 0, 0, []), (106, 0, 107, 0, 0, []), (107, 4, 108, 1, 0, []), (108, 4, 110, 5, 0, []), (110, 76, 113, 221, 4, [12]), (113, 7, 115, 6, 0, []), (115, 4, 117, 6, 0, []), (117, 0, 118, 0, (-1), []), (118, 47, 121, 124, 0, []), (121, 53, 124, 239, 0, []), (124, 0, 125, 0, 0, []), (125, 7, 127, 7, 0, []), (127, 4, 129, 7, 0, []), (129, 0, 131, 0, 27, []), (131, 49, 134, 239, 0, []), (134, 6, 135, 0, 0, []), (135, 0, 136, 0, 1, []), (136, 4, 137, 2, 0, []), (137, 4, 139, 7, 0, []), (139, 76, 142, 221, 4, [12]), (142, 7, 144, 8, 0, []), (144, 4, 146, 8, 0, []), (146, 0, 147, 0, (-1), []), (147, 46, 150, 233, 0, []), (150, 6, 151, 0, 0, []), (151, 56, 154, 12, 34, []), (154, 0, 156, 0, 27, []), (156, 4, 158, 5, 0, []), (158, 13, 159, 0, 0, []), (159, 4, 161, 7, 0, []), (161, 11, 162, 0, 0, []), (162, 60, 163, 0, 0, []), (163, 41, 166, 169, 0, []), (166, 53, 169, 233, 0, []), (169, 6, 170, 0, 0, []), (170, 56, 173, 12, 33, []), (173, 0, 176, 0, 224, []), (176, 4, 178, 6, 0, []), (178, 13, 179, 0, 0, []), (179, 4, 181, 8, 0, []), (181, 11, 182, 0, 0, []), (182, 61, 183, 0, 0, []), (183, 5, 184, 3, 0, []), (184, 6, 185, 0, 0, []), (185, 56, 188, 12, 34, []), (188, 0, 190, 0, 27, []), (190, 4, 192, 5, 0, []), (192, 13, 193, 0, 0, []), (193, 4, 195, 7, 0, []), (195, 11, 196, 0, 0, []), (196, 60, 197, 0, 0, []), (197, 32, 198, 0, 0, []), (198, 25, 199, 0, 0, []), (199, 23, 200, 0, 0, []), (200, 8, 202, 9, 0, []), (202, 6, 203, 0, 0, []), (203, 56, 206, 12, 33, []), (206, 0, 209, 0, 224, []), (209, 4, 211, 6, 0, []), (211, 13, 212, 0, 0, []), (212, 4, 214, 8, 0, []), (214, 11, 215, 0, 0, []), (215, 5, 217, 9, 0, []), (217, 1, 220, 0, 1000000000000, []), (220, 31, 221, 0, 0, []), (221, 45, 224, 230, 0, []), (224, 1, 227, 0, 1000000000000, []), (227, 53, 230, 232, 0, []), (230, 5, 232, 9, 0, []), (232, 65, 233, 0, 0, []), (233, 10, 236, 7, 1, []), (236, 53, 239, 127, 0, []), (239, 10, 242, 5, 1, []), (242, 53, 245, 98, 0, []), (245, 10, 248, 2, 1, []), (248, 53, 251, 63, 0, []), (251, 10, 254, 1, 1, []), (254, 53, 257, 51, 0, []), (257, 0, 258, 0, 0, []), (258, 7, 259, 1, 0, []), (259, 4, 260, 1, 0, []), (260, 6, 261, 0, 0, []), (261, 56, 264, 12, 30, []), (264, 0, 265, 0, 0, []), (265, 60, 266, 0, 0, []), (266, 49, 269, 317, 0, []), (269, 0, 270, 0, 0, []), (270, 7, 271, 2, 0, []), (271, 4, 272, 2, 0, []), (272, 6, 273, 0, 0, []), (273, 56, 276, 12, 30, []), (276, 0, 277, 0, 1, []), (277, 60, 278, 0, 0, []), (278, 49, 281, 311, 0, []), (281, 6, 282, 0, 0, []), (282, 56, 285, 12, 32, []), (285, 0, 288, 0, 224, []), (288, 4, 289, 1, 0, []), (289, 13, 290, 0, 0, []), (290, 4, 291, 2, 0, []), (291, 11, 292, 0, 0, []), (292, 6, 293, 0, 0, []), (293, 56, 296, 12, 33, []), (296, 0, 299, 0, 224, []), (299, 4, 300, 1, 0, []), (300, 13, 301, 0, 0, []), (301, 4, 302, 2, 0, []), (302, 11, 303, 0, 0, []), (303, 61, 304, 0, 0, []), (304, 65, 305, 0, 0, []), (305, 10, 308, 2, 1, []), (308, 53, 311, 271, 0, []), (311, 10, 314, 1, 1, []), (314, 53, 317, 259, 0, []), (317, 73, 318, 0, 0, [])]
/-- TwoWayWallModel.stepOf(III)I -/
def zcd221 : List (Nat × zI) := [(0, 6, 1, 0, 0, []), (1, 56, 4, 12, 28, []), (4, 0, 7, 0, 224, []), (7, 4, 8, 1, 0, []), (8, 13, 9, 0, 0, []), (9, 4, 10, 2, 0, []), (10, 11, 11, 0, 0, []), (11, 0, 13, 0, 27, []), (13, 13, 14, 0, 0, []), (14, 4, 15, 3, 0, []), (15, 11, 16, 0, 0, []), (16, 60, 17, 0, 0, []), (17, 72, 18, 0, 0, [])]
/-- TwoWayWallModel.closed()J -/
def zcd222 : List (Nat × zI) := [(0, 1, 1, 0, 0, []), (1, 8, 2, 1, 0, []), (2, 0, 3, 0, 0, []), (3, 7, 4, 3, 0, []), (4, 4, 5, 3, 0, []), (5, 6, 6, 0, 0, []), (6, 56, 9, 12, 30, []), (9, 0, 10, 0, 0, []), (10, 60, 11, 0, 0, []), (11, 49, 14, 79, 0, []), (14, 0, 15, 0, 0, []), (15, 7, 17, 4, 0, []), (17, 4, 19, 4, 0, []), (19, 6, 20, 0, 0, []), (20, 56, 23, 12, 30, []), (23, 0, 24, 0, 1, []), (24, 60, 25, 0, 0, []), (25, 49, 28, 73, 0, []), (28, 6, 29, 0, 0, []), (29, 56, 32, 12, 29, []), (32, 4, 33, 3, 0, []), (33, 62, 34, 0, 0, []), (34, 40, 37, 67, 0, []), (37, 6, 38, 0, 0, []), (38, 56, 41, 12, 29, []), (41, 0, 44, 0, 224, []), (44, 4, 46, 4, 0, []), (46, 11, 47, 0, 0, []), (47, 62, 48, 0, 0, []), (48, 40, 51, 67, 0, []), (51, 5, 52, 1, 0, []), (52, 6, 53, 0, 0, []), (53, 56, 56, 12, 32, []), (56, 0, 59, 0, 224, []), (59, 4, 60, 3, 0, []), (60, 13, 61, 0, 0, []), (61, 4, 63, 4, 0, []), (63, 11, 64, 0, 0, []), (64, 61, 65, 0, 0, []), (65, 23, 66, 0, 0, []), (66, 8, 67, 1, 0, []), (67, 10, 70, 4, 1, []), (70, 53, 73, 17, 0, []), (73, 10, 76, 3, 1, []), (76, 53, 79, 4, 0, []), (79, 5, 80, 1, 0, []), (80, 1, 83, 0, 1000000000000, []), (83, 31, 84, 0, 0, []), (84, 45, 87, 93, 0, []), (87, 1, 90, 0, 1000000000000, []), (90, 53, 93, 94, 0, []), (93, 5, 94, 1, 0, []), (94, 72, 95, 1, 0, [])]
/-- TwoWayWallModel.lengths(I)I -/
def zcd223 : List (Nat × zI) := [(0, 4, 1, 1, 0, []), (1, 0, 2, 0, (-1), []), (2, 49, 5, 7, 0, []), (5, 0, 6, 0, (-1), []), (6, 72, 7, 0, 0, []), (7, 6, 8, 0, 0, []), (8, 0, 9, 0, 0, []), (9, 76, 12, 211, 2, [12]), (12, 6, 13, 0, 0, []), (13, 76, 16, 218, 1, [12]), (16, 6, 17, 0, 0, []), (17, 76, 20, 219, 1, [12]), (20, 0, 21, 0, 0, []), (21, 7, 22, 2, 0, []), (22, 0, 23, 0, 1, []), (23, 7, 24, 3, 0, []), (24, 4, 25, 3, 0, []), (25, 0, 27, 0, 16, []), (27, 50, 30, 62, 0, []), (30, 6, 31, 0, 0, []), (31, 76, 34, 220, 1, [12]), (34, 6, 35, 0, 0, []), (35, 76, 38, 222, 1, [12]), (38, 1, 39, 0, 0, []), (39, 31, 40, 0, 0, []), (40, 41, 43, 46, 0, []), (43, 53, 46, 56, 0, []), (46, 4, 47, 2, 0, []), (47, 4, 48, 1, 0, []), (48, 47, 51, 53, 0, []), (51, 4, 52, 3, 0, []), (52, 72, 53, 0, 0, []), (53, 10, 56, 2, 1, []), (56, 10, 59, 3, 1, []), (59, 53, 62, 24, 0, []), (62, 4, 63, 1, 0, []), (63, 0, 64, 0, (-1), []), (64, 47, 67, 71, 0, []), (67, 4, 68, 2, 0, []), (68, 53, 71, 72, 0, []), (71, 0, 72, 0, (-1), []), (72, 72, 73, 0, 0, [])]
/-- TwoWayWallModel.price()I -/
def zcd224 : List (Nat × zI) := [(0, 6, 1, 0, 0, []), (1, 76, 4, 225, 1, [12]), (4, 6, 5, 0, 0, []), (5, 0, 6, 0, 0, []), (6, 0, 7, 0, 0, []), (7, 0, 8, 0, 0, []), (8, 76, 11, 227, 4, [12]), (11, 0, 14, 0, 1000000000, []), (14, 47, 17, 21, 0, []), (17, 0, 18, 0, (-1), []), (18, 53, 21, 28, 0, []), (21, 6, 22, 0, 0, []), (22, 0, 23, 0, 0, []), (23, 0, 24, 0, 0, []), (24, 0, 25, 0, 0, []), (25, 76, 28, 227, 4, [12]), (28, 72, 29, 0, 0, [])]
/-- TwoWayWallModel.prices()V -/
def zcd225 : List (Nat × zI) := [(0, 6, 1, 0, 0, []), (1, 0, 2, 0, 0, []), (2, 76, 5, 211, 2, [12]), (5, 6, 6, 0, 0, []), (6, 55, 9, 12, 2, []), (9, 6, 10, 0, 0, []), (10, 55, 13, 12, 1, []), (13, 47, 16, 17, 0, []), (16, 73, 17, 0, 0, []), (17, 6, 18, 0, 0, []), (18, 6, 19, 0, 0, []), (19, 55, 22, 12, 1, []), (22, 57, 25, 12, 2, []), (25, 0, 26, 0, 0, []), (26, 7, 27, 1, 0, []), (27, 4, 28, 1, 0, []), (28, 0, 31, 0, 729, []), (31, 49, 34, 49, 0, []), (34, 6, 35, 0, 0, []), (35, 56, 38, 12, 36, []), (38, 4, 39, 1, 0, []), (39, 0, 42, 0, 1000000000, []), (42, 64, 43, 0, 0, []), (43, 10, 46, 1, 1, []), (46, 53, 49, 27, 0, []), (49, 0, 50, 0, 0, []), (50, 7, 51, 1, 0, []), (51, 4, 52, 1, 0, []), (52, 0, 55, 0, 128, []), (55, 49, 58, 119, 0, []), (58, 6, 59, 0, 0, []), (59, 4, 60, 1, 0, []), (60, 76, 63, 199, 2, [12]), (63, 6, 64, 0, 0, []), (64, 56, 67, 12, 36, []), (67, 0, 69, 0, 27, []), (69, 6, 70, 0, 0, []), (70, 56, 73, 12, 22, []), (73, 4, 74, 1, 0, []), (74, 60, 75, 0, 0, []), (75, 13, 76, 0, 0, []), (76, 6, 77, 0, 0, []), (77, 56, 80, 12, 23, []), (80, 4, 81, 1, 0, []), (81, 60, 82, 0, 0, []), (82, 11, 83, 0, 0, []), (83, 60, 84, 0, 0, []), (84, 49, 87, 113, 0, []), (87, 6, 88, 0, 0, []), (88, 56, 91, 12, 36, []), (91, 0, 93, 0, 27, []), (93, 6, 94, 0, 0, []), (94, 56, 97, 12, 22, []), (97, 4, 98, 1, 0, []), (98, 60, 99, 0, 0, []), (99, 13, 100, 0, 0, []), (100, 6, 101, 0, 0, []), (101, 56, 104, 12, 23, []), (104, 4, 105, 1, 0, []), (105, 60, 106, 0, 0, []), (106, 11, 107, 0, 0, []), (107, 6, 108, 0, 0, []), (108, 4, 109, 1, 0, []), (109, 76, 112, 199, 2, [12]), (112, 64, 113, 0, 0, []), (113, 10, 116, 1, 1, []), (116, 53, 119, 51, 0, []), (119, 6, 120, 0, 0, []), (120, 56, 123, 12, 4, []), (123, 0, 126, 0, 427, []), (126, 60, 127, 0, 0, []), (127, 7, 128, 1, 0, []), (128, 0, 129, 0, 0, []), (129, 7, 130, 2, 0, []), (130, 4, 131, 2, 0, []), (131, 6, 132, 0, 0, []), (132, 56, 135, 12, 30, []), (135, 0, 136, 0, 0, []), (136, 60, 137, 0, 0, []), (137, 49, 140, 211, 0, []), (140, 0, 141, 0, 0, []), (141, 7, 142, 3, 0, []), (142, 4, 143, 3, 0, []), (143, 6, 144, 0, 0, []), (144, 56, 147, 12, 30, []), (147, 0, 148, 0, 1, []), (148, 60, 149, 0, 0, []), (149, 49, 152, 205, 0, []), (152, 6, 153, 0, 0, []), (153, 56, 156, 12, 35, []), (156, 0, 159, 0, 224, []), (159, 4, 160, 1, 0, []), (160, 13, 161, 0, 0, []), (161, 4, 162, 2, 0, []), (162, 11, 163, 0, 0, []), (163, 0, 166, 0, 224, []), (166, 13, 167, 0, 0, []), (167, 4, 168, 3, 0, []), (168, 11, 169, 0, 0, []), (169, 6, 170, 0, 0, []), (170, 56, 173, 12, 29, []), (173, 4, 174, 2, 0, []), (174, 62, 175, 0, 0, []), (175, 40, 178, 195, 0, []), (178, 6, 179, 0, 0, []), (179, 56, 182, 12, 29, []), (182, 0, 185, 0, 224, []), (185, 4, 186, 3, 0, []), (186, 11, 187, 0, 0, []), (187, 62, 188, 0, 0, []), (188, 40, 191, 195, 0, []), (191, 0, 192, 0, 0, []), (192, 53, 195, 198, 0, []), (195, 0, 198, 0, 1000000000, []), (198, 64, 199, 0, 0, []), (199, 10, 202, 3, 1, []), (202, 53, 205, 142, 0, []), (205, 10, 208, 2, 1, []), (208, 53, 211, 130, 0, []), (211, 4, 212, 1, 0, []), (212, 0, 213, 0, 1, []), (213, 12, 214, 0, 0, []), (214, 7, 215, 2, 0, []), (215, 4, 216, 2, 0, []), (216, 42, 219, 290, 0, []), (219, 0, 220, 0, 0, []), (220, 7, 221, 3, 0, []), (221, 4, 222, 3, 0, []), (222, 6, 223, 0, 0, []), (223, 56, 226, 12, 30, []), (226, 0, 227, 0, 0, []), (227, 60, 228, 0, 0, []), (228, 49, 231, 284, 0, []), (231, 0, 232, 0, 0, []), (232, 7, 234, 4, 0, []), (234, 4, 236, 4, 0, []), (236, 6, 237, 0, 0, []), (237, 56, 240, 12, 30, []), (240, 0, 241, 0, 1, []), (241, 60, 242, 0, 0, []), (242, 49, 245, 278, 0, []), (245, 6, 246, 0, 0, []), (246, 56, 249, 12, 35, []), (249, 0, 252, 0, 224, []), (252, 4, 253, 2, 0, []), (253, 13, 254, 0, 0, []), (254, 4, 255, 3, 0, []), (255, 11, 256, 0, 0, []), (256, 0, 259, 0, 224, []), (259, 13, 260, 0, 0, []), (260, 4, 262, 4, 0, []), (262, 11, 263, 0, 0, []), (263, 6, 264, 0, 0, []), (264, 4, 265, 2, 0, []), (265, 4, 266, 3, 0, []), (266, 4, 268, 4, 0, []), (268, 76, 271, 226, 4, [12]), (271, 64, 272, 0, 0, []), (272, 10, 275, 4, 1, []), (275, 53, 278, 234, 0, []), (278, 10, 281, 3, 1, []), (281, 53, 284, 221, 0, []), (284, 10, 287, 2, (-1), []), (287, 53, 290, 215, 0, []), (290, 73, 291, 0, 0, [])]
/-- TwoWayWallModel.leastOf(III)I -/
def zcd226 : List (Nat × zI) := [(0, 0, 3, 0, 1000000000, []), (3, 7, 5, 4, 0, []), (5, 0, 6, 0, 0, []), (6, 7, 8, 5, 0, []), (8, 4, 10, 5, 0, []), (10, 0, 12, 0, 27, []), (12, 49, 15, 151, 0, []), (15, 6, 16, 0, 0, []), (16, 0, 17, 0, 0, []), (17, 4, 18, 2, 0, []), (18, 4, 20, 5, 0, []), (20, 76, 23, 221, 4, [12]), (23, 7, 25, 6, 0, []), (25, 0, 26, 0, 0, []), (26, 7, 28, 7, 0, []), (28, 4, 30, 7, 0, []), (30, 0, 32, 0, 27, []), (32, 49, 35, 145, 0, []), (35, 4, 37, 6, 0, []), (37, 0, 38, 0, (-1), []), (38, 46, 41, 145, 0, []), (41, 6, 42, 0, 0, []), (42, 0, 43, 0, 1, []), (43, 4, 44, 3, 0, []), (44, 4, 46, 7, 0, []), (46, 76, 49, 221, 4, [12]), (49, 7, 51, 8, 0, []), (51, 4, 53, 8, 0, []), (53, 0, 54, 0, (-1), []), (54, 46, 57, 139, 0, []), (57, 6, 58, 0, 0, []), (58, 56, 61, 12, 36, []), (61, 0, 63, 0, 27, []), (63, 4, 65, 5, 0, []), (65, 13, 66, 0, 0, []), (66, 4, 68, 7, 0, []), (68, 11, 69, 0, 0, []), (69, 60, 70, 0, 0, []), (70, 0, 73, 0, 1000000000, []), (73, 46, 76, 139, 0, []), (76, 6, 77, 0, 0, []), (77, 4, 78, 1, 0, []), (78, 0, 79, 0, 1, []), (79, 11, 80, 0, 0, []), (80, 4, 82, 6, 0, []), (82, 4, 84, 8, 0, []), (84, 76, 87, 227, 4, [12]), (87, 0, 90, 0, 1000000000, []), (90, 47, 93, 96, 0, []), (93, 53, 96, 139, 0, []), (96, 6, 97, 0, 0, []), (97, 56, 100, 12, 36, []), (100, 0, 102, 0, 27, []), (102, 4, 104, 5, 0, []), (104, 13, 105, 0, 0, []), (105, 4, 107, 7, 0, []), (107, 11, 108, 0, 0, []), (108, 60, 109, 0, 0, []), (109, 6, 110, 0, 0, []), (110, 4, 111, 1, 0, []), (111, 0, 112, 0, 1, []), (112, 11, 113, 0, 0, []), (113, 4, 115, 6, 0, []), (115, 4, 117, 8, 0, []), (117, 76, 120, 227, 4, [12]), (120, 11, 121, 0, 0, []), (121, 7, 123, 9, 0, []), (123, 4, 125, 9, 0, []), (125, 4, 127, 4, 0, []), (127, 49, 130, 135, 0, []), (130, 4, 132, 9, 0, []), (132, 53, 135, 137, 0, []), (135, 4, 137, 4, 0, []), (137, 7, 139, 4, 0, []), (139, 10, 142, 7, 1, []), (142, 53, 145, 28, 0, []), (145, 10, 148, 5, 1, []), (148, 53, 151, 8, 0, []), (151, 4, 153, 4, 0, []), (153, 72, 154, 0, 0, [])]
/-- TwoWayWallModel.leftAt(III)I -/
def zcd227 : List (Nat × zI) := [(0, 6, 1, 0, 0, []), (1, 56, 4, 12, 35, []), (4, 0, 7, 0, 224, []), (7, 4, 8, 1, 0, []), (8, 13, 9, 0, 0, []), (9, 4, 10, 2, 0, []), (10, 11, 11, 0, 0, []), (11, 0, 14, 0, 224, []), (14, 13, 15, 0, 0, []), (15, 4, 16, 3, 0, []), (16, 11, 17, 0, 0, []), (17, 60, 18, 0, 0, []), (18, 72, 19, 0, 0, [])]
/-- TwoWayWallModel.first(I)I -/
def zcd228 : List (Nat × zI) := [(0, 6, 1, 0, 0, []), (1, 4, 2, 1, 0, []), (2, 76, 5, 157, 2, [12]), (5, 40, 8, 16, 0, []), (8, 6, 9, 0, 0, []), (9, 76, 12, 224, 1, [12]), (12, 0, 13, 0, (-1), []), (13, 47, 16, 18, 0, []), (16, 0, 17, 0, (-1), []), (17, 72, 18, 0, 0, []), (18, 0, 19, 0, 0, []), (19, 7, 20, 2, 0, []), (20, 0, 21, 0, 0, []), (21, 7, 22, 3, 0, []), (22, 0, 23, 0, 0, []), (23, 7, 25, 4, 0, []), (25, 0, 26, 0, 0, []), (26, 7, 28, 5, 0, []), (28, 4, 30, 5, 0, []), (30, 4, 31, 1, 0, []), (31, 50, 34, 90, 0, []), (34, 0, 35, 0, 0, []), (35, 7, 37, 4, 0, []), (37, 6, 38, 0, 0, []), (38, 4, 40, 5, 0, []), (40, 4, 41, 2, 0, []), (41, 4, 42, 3, 0, []), (42, 4, 44, 4, 0, []), (44, 76, 47, 229, 5, [12]), (47, 41, 50, 56, 0, []), (50, 10, 53, 4, 1, []), (53, 53, 56, 37, 0, []), (56, 6, 57, 0, 0, []), (57, 0, 58, 0, 0, []), (58, 4, 59, 2, 0, []), (59, 6, 60, 0, 0, []), (60, 56, 63, 12, 22, []), (63, 4, 65, 4, 0, []), (65, 60, 66, 0, 0, []), (66, 76, 69, 221, 4, [12]), (69, 7, 70, 2, 0, []), (70, 6, 71, 0, 0, []), (71, 0, 72, 0, 1, []), (72, 4, 73, 3, 0, []), (73, 6, 74, 0, 0, []), (74, 56, 77, 12, 23, []), (77, 4, 79, 4, 0, []), (79, 60, 80, 0, 0, []), (80, 76, 83, 221, 4, [12]), (83, 7, 84, 3, 0, []), (84, 10, 87, 5, 1, []), (87, 53, 90, 28, 0, []), (90, 4, 92, 4, 0, []), (92, 72, 93, 0, 0, [])]
/-- TwoWayWallModel.isCheapest(IIII)Z -/
def zcd229 : List (Nat × zI) := [(0, 6, 1, 0, 0, []), (1, 0, 2, 0, 0, []), (2, 4, 3, 2, 0, []), (3, 6, 4, 0, 0, []), (4, 56, 7, 12, 22, []), (7, 4, 9, 4, 0, []), (9, 60, 10, 0, 0, []), (10, 76, 13, 221, 4, [12]), (13, 7, 15, 5, 0, []), (15, 6, 16, 0, 0, []), (16, 0, 17, 0, 1, []), (17, 4, 18, 3, 0, []), (18, 6, 19, 0, 0, []), (19, 56, 22, 12, 23, []), (22, 4, 24, 4, 0, []), (24, 60, 25, 0, 0, []), (25, 76, 28, 221, 4, [12]), (28, 7, 30, 6, 0, []), (30, 4, 32, 5, 0, []), (32, 0, 33, 0, (-1), []), (33, 46, 36, 91, 0, []), (36, 4, 38, 6, 0, []), (38, 0, 39, 0, (-1), []), (39, 46, 42, 91, 0, []), (42, 6, 43, 0, 0, []), (43, 4, 44, 1, 0, []), (44, 0, 45, 0, 1, []), (45, 11, 46, 0, 0, []), (46, 4, 48, 5, 0, []), (48, 4, 50, 6, 0, []), (50, 76, 53, 227, 4, [12]), (53, 0, 56, 0, 1000000000, []), (56, 46, 59, 91, 0, []), (59, 6, 60, 0, 0, []), (60, 4, 62, 4, 0, []), (62, 76, 65, 199, 2, [12]), (65, 6, 66, 0, 0, []), (66, 4, 67, 1, 0, []), (67, 0, 68, 0, 1, []), (68, 11, 69, 0, 0, []), (69, 4, 71, 5, 0, []), (71, 4, 73, 6, 0, []), (73, 76, 76, 227, 4, [12]), (76, 11, 77, 0, 0, []), (77, 6, 78, 0, 0, []), (78, 4, 79, 1, 0, []), (79, 4, 80, 2, 0, []), (80, 4, 81, 3, 0, []), (81, 76, 84, 227, 4, [12]), (84, 47, 87, 91, 0, []), (87, 0, 88, 0, 1, []), (88, 53, 91, 92, 0, []), (91, 0, 92, 0, 0, []), (92, 72, 93, 3, 0, [])]
/-- TwoWayWallModel.may()J -/
def zcd230 : List (Nat × zI) := [(0, 6, 1, 0, 0, []), (1, 0, 2, 0, (-1), []), (2, 0, 3, 0, 0, []), (3, 0, 4, 0, 0, []), (4, 76, 7, 231, 4, [12]), (7, 72, 8, 1, 0, [])]
/-- TwoWayWallModel.mays(IIZ)J -/
def zcd231 : List (Nat × zI) := [(0, 6, 1, 0, 0, []), (1, 0, 2, 0, 1, []), (2, 76, 5, 211, 2, [12]), (5, 6, 6, 0, 0, []), (6, 76, 9, 219, 1, [12]), (9, 0, 10, 0, 0, []), (10, 7, 12, 4, 0, []), (12, 4, 14, 4, 0, []), (14, 6, 15, 0, 0, []), (15, 56, 18, 12, 4, []), (18, 0, 21, 0, 427, []), (21, 60, 22, 0, 0, []), (22, 49, 25, 171, 0, []), (25, 0, 26, 0, 0, []), (26, 7, 28, 5, 0, []), (28, 4, 30, 5, 0, []), (30, 0, 33, 0, 729, []), (33, 49, 36, 50, 0, []), (36, 6, 37, 0, 0, []), (37, 56, 40, 12, 34, []), (40, 4, 42, 5, 0, []), (42, 0, 43, 0, 0, []), (43, 64, 44, 0, 0, []), (44, 10, 47, 5, 1, []), (47, 53, 50, 28, 0, []), (50, 6, 51, 0, 0, []), (51, 56, 54, 12, 4, []), (54, 0, 57, 0, 316, []), (57, 4, 59, 4, 0, []), (59, 11, 60, 0, 0, []), (60, 60, 61, 0, 0, []), (61, 7, 63, 5, 0, []), (63, 0, 64, 0, 0, []), (64, 7, 66, 6, 0, []), (66, 4, 68, 6, 0, []), (68, 0, 71, 0, 128, []), (71, 49, 74, 161, 0, []), (74, 4, 76, 6, 0, []), (76, 4, 78, 5, 0, []), (78, 0, 79, 0, (-1), []), (79, 16, 80, 0, 0, []), (80, 14, 81, 0, 0, []), (81, 6, 82, 0, 0, []), (82, 56, 85, 12, 4, []), (85, 0, 88, 0, 300, []), (88, 4, 90, 4, 0, []), (90, 11, 91, 0, 0, []), (91, 60, 92, 0, 0, []), (92, 4, 94, 5, 0, []), (94, 0, 95, 0, (-1), []), (95, 16, 96, 0, 0, []), (96, 14, 97, 0, 0, []), (97, 47, 100, 155, 0, []), (100, 4, 102, 4, 0, []), (102, 4, 103, 1, 0, []), (103, 47, 106, 128, 0, []), (106, 4, 108, 6, 0, []), (108, 4, 109, 2, 0, []), (109, 21, 110, 0, 0, []), (110, 0, 111, 0, 1, []), (111, 14, 112, 0, 0, []), (112, 0, 113, 0, 1, []), (113, 47, 116, 120, 0, []), (116, 0, 117, 0, 1, []), (117, 53, 120, 121, 0, []), (120, 0, 121, 0, 0, []), (121, 4, 122, 3, 0, []), (122, 46, 125, 128, 0, []), (125, 53, 128, 155, 0, []), (128, 6, 129, 0, 0, []), (129, 56, 132, 12, 34, []), (132, 0, 134, 0, 27, []), (134, 6, 135, 0, 0, []), (135, 56, 138, 12, 22, []), (138, 4, 140, 6, 0, []), (140, 60, 141, 0, 0, []), (141, 13, 142, 0, 0, []), (142, 6, 143, 0, 0, []), (143, 56, 146, 12, 23, []), (146, 4, 148, 6, 0, []), (148, 60, 149, 0, 0, []), (149, 11, 150, 0, 0, []), (150, 38, 151, 0, 0, []), (151, 60, 152, 0, 0, []), (152, 0, 153, 0, 1, []), (153, 11, 154, 0, 0, []), (154, 64, 155, 0, 0, []), (155, 10, 158, 6, 1, []), (158, 53, 161, 66, 0, []), (161, 6, 162, 0, 0, []), (162, 76, 165, 220, 1, [12]), (165, 10, 168, 4, 1, []), (168, 53, 171, 12, 0, []), (171, 6, 172, 0, 0, []), (172, 76, 175, 222, 1, [12]), (175, 72, 176, 1, 0, [])]
/-- TwoWayWallModel.often(II)J -/
def zcd232 : List (Nat × zI) := [(0, 6, 1, 0, 0, []), (1, 4, 2, 1, 0, []), (2, 76, 5, 157, 2, [12]), (5, 40, 8, 30, 0, []), (8, 4, 9, 2, 0, []), (9, 0, 10, 0, 1, []), (10, 0, 12, 0, 7, []), (12, 74, 15, 150, 3, []), (15, 40, 18, 30, 0, []), (18, 6, 19, 0, 0, []), (19, 4, 20, 1, 0, []), (20, 4, 21, 2, 0, []), (21, 0, 22, 0, 1, []), (22, 12, 23, 0, 0, []), (23, 0, 24, 0, 1, []), (24, 76, 27, 231, 4, [12]), (27, 53, 30, 33, 0, []), (30, 1, 33, 0, (-1), []), (33, 72, 34, 1, 0, [])]
/-- TwoWayWallModel.sure(II)I -/
def zcd233 : List (Nat × zI) := [(0, 6, 1, 0, 0, []), (1, 4, 2, 1, 0, []), (2, 76, 5, 157, 2, [12]), (5, 40, 8, 26, 0, []), (8, 4, 9, 2, 0, []), (9, 0, 10, 0, 0, []), (10, 0, 11, 0, 2, []), (11, 74, 14, 150, 3, []), (14, 40, 17, 26, 0, []), (17, 6, 18, 0, 0, []), (18, 76, 21, 230, 1, [12]), (21, 1, 22, 0, 0, []), (22, 31, 23, 0, 0, []), (23, 41, 26, 28, 0, []), (26, 0, 27, 0, (-1), []), (27, 72, 28, 0, 0, []), (28, 0, 29, 0, 0, []), (29, 7, 30, 3, 0, []), (30, 0, 31, 0, 0, []), (31, 7, 33, 4, 0, []), (33, 4, 35, 4, 0, []), (35, 0, 37, 0, 7, []), (37, 49, 40, 152, 0, []), (40, 6, 41, 0, 0, []), (41, 56, 44, 12, 4, []), (44, 0, 47, 0, 316, []), (47, 4, 48, 1, 0, []), (48, 11, 49, 0, 0, []), (49, 60, 50, 0, 0, []), (50, 4, 52, 4, 0, []), (52, 21, 53, 0, 0, []), (53, 0, 54, 0, 1, []), (54, 14, 55, 0, 0, []), (55, 41, 58, 61, 0, []), (58, 53, 61, 146, 0, []), (61, 6, 62, 0, 0, []), (62, 4, 63, 1, 0, []), (63, 4, 65, 4, 0, []), (65, 0, 66, 0, 1, []), (66, 76, 69, 231, 4, [12]), (69, 1, 70, 0, 0, []), (70, 31, 71, 0, 0, []), (71, 45, 74, 78, 0, []), (74, 0, 75, 0, 1, []), (75, 53, 78, 79, 0, []), (78, 0, 79, 0, 0, []), (79, 7, 81, 5, 0, []), (81, 6, 82, 0, 0, []), (82, 4, 83, 1, 0, []), (83, 4, 85, 4, 0, []), (85, 0, 86, 0, 0, []), (86, 76, 89, 231, 4, [12]), (89, 1, 90, 0, 0, []), (90, 31, 91, 0, 0, []), (91, 45, 94, 98, 0, []), (94, 0, 95, 0, 1, []), (95, 53, 98, 99, 0, []), (98, 0, 99, 0, 0, []), (99, 7, 101, 6, 0, []), (101, 4, 102, 3, 0, []), (102, 4, 103, 2, 0, []), (103, 41, 106, 111, 0, []), (106, 4, 108, 6, 0, []), (108, 40, 111, 136, 0, []), (111, 4, 112, 2, 0, []), (112, 0, 113, 0, 1, []), (113, 47, 116, 121, 0, []), (116, 4, 118, 5, 0, []), (118, 40, 121, 136, 0, []), (121, 4, 122, 2, 0, []), (122, 0, 123, 0, 2, []), (123, 47, 126, 143, 0, []), (126, 4, 128, 5, 0, []), (128, 40, 131, 143, 0, []), (131, 4, 133, 6, 0, []), (133, 40, 136, 143, 0, []), (136, 0, 137, 0, 1, []), (137, 4, 139, 4, 0, []), (139, 20, 140, 0, 0, []), (140, 53, 143, 144, 0, []), (143, 0, 144, 0, 0, []), (144, 15, 145, 0, 0, []), (145, 7, 146, 3, 0, []), (146, 10, 149, 4, 1, []), (149, 53, 152, 33, 0, []), (152, 4, 153, 3, 0, []), (153, 72, 154, 0, 0, [])]
/-- TwoWayWallModel.yard(IIIII)I -/
def zcd234 : List (Nat × zI) := [(0, 6, 1, 0, 0, []), (1, 4, 2, 1, 0, []), (2, 76, 5, 157, 2, [12]), (5, 40, 8, 54, 0, []), (8, 6, 9, 0, 0, []), (9, 4, 10, 2, 0, []), (10, 76, 13, 157, 2, [12]), (13, 40, 16, 54, 0, []), (16, 4, 17, 2, 0, []), (17, 4, 18, 1, 0, []), (18, 48, 21, 54, 0, []), (21, 4, 22, 3, 0, []), (22, 0, 23, 0, 0, []), (23, 0, 25, 0, 51, []), (25, 74, 28, 150, 3, []), (28, 40, 31, 54, 0, []), (31, 4, 33, 4, 0, []), (33, 4, 34, 3, 0, []), (34, 0, 36, 0, 51, []), (36, 74, 39, 150, 3, []), (39, 40, 42, 54, 0, []), (42, 4, 44, 5, 0, []), (44, 0, 45, 0, 0, []), (45, 0, 48, 0, 999, []), (48, 74, 51, 150, 3, []), (51, 41, 54, 60, 0, []), (54, 6, 55, 0, 0, []), (55, 0, 56, 0, (-1), []), (56, 76, 59, 151, 2, [12]), (59, 72, 60, 0, 0, []), (60, 6, 61, 0, 0, []), (61, 56, 64, 12, 4, []), (64, 0, 67, 0, 426, []), (67, 60, 68, 0, 0, []), (68, 7, 70, 6, 0, []), (70, 4, 72, 6, 0, []), (72, 0, 74, 0, 10, []), (74, 47, 77, 84, 0, []), (77, 6, 78, 0, 0, []), (78, 0, 80, 0, (-5), []), (80, 76, 83, 151, 2, [12]), (83, 72, 84, 0, 0, []), (84, 6, 85, 0, 0, []), (85, 56, 88, 12, 4, []), (88, 0, 91, 0, 376, []), (91, 0, 92, 0, 5, []), (92, 4, 94, 6, 0, []), (94, 13, 95, 0, 0, []), (95, 11, 96, 0, 0, []), (96, 4, 97, 1, 0, []), (97, 64, 98, 0, 0, []), (98, 6, 99, 0, 0, []), (99, 56, 102, 12, 4, []), (102, 0, 105, 0, 376, []), (105, 0, 106, 0, 5, []), (106, 4, 108, 6, 0, []), (108, 13, 109, 0, 0, []), (109, 11, 110, 0, 0, []), (110, 0, 111, 0, 1, []), (111, 11, 112, 0, 0, []), (112, 4, 113, 2, 0, []), (113, 64, 114, 0, 0, []), (114, 6, 115, 0, 0, []), (115, 56, 118, 12, 4, []), (118, 0, 121, 0, 376, []), (121, 0, 122, 0, 5, []), (122, 4, 124, 6, 0, []), (124, 13, 125, 0, 0, []), (125, 11, 126, 0, 0, []), (126, 0, 127, 0, 2, []), (127, 11, 128, 0, 0, []), (128, 4, 129, 3, 0, []), (129, 64, 130, 0, 0, []), (130, 6, 131, 0, 0, []), (131, 56, 134, 12, 4, []), (134, 0, 137, 0, 376, []), (137, 0, 138, 0, 5, []), (138, 4, 140, 6, 0, []), (140, 13, 141, 0, 0, []), (141, 11, 142, 0, 0, []), (142, 0, 143, 0, 3, []), (143, 11, 144, 0, 0, []), (144, 4, 146, 4, 0, []), (146, 64, 147, 0, 0, []), (147, 6, 148, 0, 0, []), (148, 56, 151, 12, 4, []), (151, 0, 154, 0, 376, []), (154, 0, 155, 0, 5, []), (155, 4, 157, 6, 0, []), (157, 13, 158, 0, 0, []), (158, 11, 159, 0, 0, []), (159, 0, 160, 0, 4, []), (160, 11, 161, 0, 0, []), (161, 4, 163, 5, 0, []), (163, 64, 164, 0, 0, []), (164, 6, 165, 0, 0, []), (165, 56, 168, 12, 4, []), (168, 0, 171, 0, 426, []), (171, 38, 172, 0, 0, []), (172, 60, 173, 0, 0, []), (173, 0, 174, 0, 1, []), (174, 11, 175, 0, 0, []), (175, 64, 176, 0, 0, []), (176, 6, 177, 0, 0, []), (177, 4, 179, 6, 0, []), (179, 76, 182, 152, 2, [12]), (182, 72, 183, 0, 0, [])]
/-- TwoWayWallModel.drop(I)I -/
def zcd235 : List (Nat × zI) := [(0, 4, 1, 1, 0, []), (1, 0, 2, 0, 0, []), (2, 6, 3, 0, 0, []), (3, 56, 6, 12, 4, []), (6, 0, 9, 0, 426, []), (9, 60, 10, 0, 0, []), (10, 0, 11, 0, 1, []), (11, 12, 12, 0, 0, []), (12, 74, 15, 150, 3, []), (15, 41, 18, 25, 0, []), (18, 6, 19, 0, 0, []), (19, 0, 21, 0, (-2), []), (21, 76, 24, 151, 2, [12]), (24, 72, 25, 0, 0, []), (25, 6, 26, 0, 0, []), (26, 56, 29, 12, 4, []), (29, 0, 32, 0, 426, []), (32, 38, 33, 0, 0, []), (33, 60, 34, 0, 0, []), (34, 0, 35, 0, 1, []), (35, 12, 36, 0, 0, []), (36, 64, 37, 0, 0, []), (37, 0, 38, 0, 5, []), (38, 4, 39, 1, 0, []), (39, 13, 40, 0, 0, []), (40, 7, 41, 2, 0, []), (41, 4, 42, 2, 0, []), (42, 0, 43, 0, 5, []), (43, 6, 44, 0, 0, []), (44, 56, 47, 12, 4, []), (47, 0, 50, 0, 426, []), (50, 60, 51, 0, 0, []), (51, 13, 52, 0, 0, []), (52, 49, 55, 83, 0, []), (55, 6, 56, 0, 0, []), (56, 56, 59, 12, 4, []), (59, 0, 62, 0, 376, []), (62, 4, 63, 2, 0, []), (63, 11, 64, 0, 0, []), (64, 6, 65, 0, 0, []), (65, 56, 68, 12, 4, []), (68, 0, 71, 0, 376, []), (71, 4, 72, 2, 0, []), (72, 11, 73, 0, 0, []), (73, 0, 74, 0, 5, []), (74, 11, 75, 0, 0, []), (75, 60, 76, 0, 0, []), (76, 64, 77, 0, 0, []), (77, 10, 80, 2, 1, []), (80, 53, 83, 41, 0, []), (83, 6, 84, 0, 0, []), (84, 6, 85, 0, 0, []), (85, 56, 88, 12, 4, []), (88, 0, 91, 0, 426, []), (91, 60, 92, 0, 0, []), (92, 76, 95, 152, 2, [12]), (95, 72, 96, 0, 0, [])]
/-- TwoWayWallModel.letting(I)I -/
def zcd236 : List (Nat × zI) := [(0, 4, 1, 1, 0, []), (1, 0, 2, 0, 0, []), (2, 0, 3, 0, 1, []), (3, 6, 4, 0, 0, []), (4, 56, 7, 12, 4, []), (7, 0, 10, 0, 426, []), (10, 60, 11, 0, 0, []), (11, 20, 12, 0, 0, []), (12, 0, 13, 0, 1, []), (13, 12, 14, 0, 0, []), (14, 74, 17, 150, 3, []), (17, 40, 20, 28, 0, []), (20, 6, 21, 0, 0, []), (21, 4, 22, 1, 0, []), (22, 76, 25, 237, 2, [12]), (25, 53, 28, 29, 0, []), (28, 0, 29, 0, (-1), []), (29, 72, 30, 0, 0, [])]
/-- TwoWayWallModel.rentOf(I)I -/
def zcd237 : List (Nat × zI) := [(0, 0, 1, 0, 0, []), (1, 7, 2, 2, 0, []), (2, 0, 3, 0, 0, []), (3, 7, 4, 3, 0, []), (4, 4, 5, 3, 0, []), (5, 6, 6, 0, 0, []), (6, 56, 9, 12, 4, []), (9, 0, 12, 0, 426, []), (12, 60, 13, 0, 0, []), (13, 49, 16, 79, 0, []), (16, 4, 17, 1, 0, []), (17, 4, 18, 3, 0, []), (18, 21, 19, 0, 0, []), (19, 0, 20, 0, 1, []), (20, 14, 21, 0, 0, []), (21, 41, 24, 27, 0, []), (24, 53, 27, 73, 0, []), (27, 4, 28, 2, 0, []), (28, 6, 29, 0, 0, []), (29, 4, 30, 3, 0, []), (30, 0, 31, 0, 4, []), (31, 76, 34, 238, 3, [12]), (34, 11, 35, 0, 0, []), (35, 7, 36, 2, 0, []), (36, 0, 37, 0, 0, []), (37, 7, 39, 4, 0, []), (39, 4, 41, 4, 0, []), (41, 4, 42, 3, 0, []), (42, 49, 45, 73, 0, []), (45, 4, 46, 1, 0, []), (46, 4, 48, 4, 0, []), (48, 21, 49, 0, 0, []), (49, 0, 50, 0, 1, []), (50, 14, 51, 0, 0, []), (51, 0, 52, 0, 1, []), (52, 47, 55, 67, 0, []), (55, 6, 56, 0, 0, []), (56, 4, 57, 3, 0, []), (57, 4, 59, 4, 0, []), (59, 76, 62, 239, 3, [12]), (62, 40, 65, 67, 0, []), (65, 0, 66, 0, (-1), []), (66, 72, 67, 0, 0, []), (67, 10, 70, 4, 1, []), (70, 53, 73, 39, 0, []), (73, 10, 76, 3, 1, []), (76, 53, 79, 4, 0, []), (79, 4, 80, 2, 0, []), (80, 72, 81, 0, 0, [])]
/-- TwoWayWallModel.yardOf(II)I -/
def zcd238 : List (Nat × zI) := [(0, 6, 1, 0, 0, []), (1, 56, 4, 12, 4, []), (4, 0, 7, 0, 376, []), (7, 0, 8, 0, 5, []), (8, 4, 9, 1, 0, []), (9, 13, 10, 0, 0, []), (10, 11, 11, 0, 0, []), (11, 4, 12, 2, 0, []), (12, 11, 13, 0, 0, []), (13, 60, 14, 0, 0, []), (14, 72, 15, 0, 0, [])]
/-- TwoWayWallModel.meet(II)Z -/
def zcd239 : List (Nat × zI) := [(0, 6, 1, 0, 0, []), (1, 4, 2, 1, 0, []), (2, 0, 3, 0, 0, []), (3, 76, 6, 238, 3, [12]), (6, 6, 7, 0, 0, []), (7, 4, 8, 2, 0, []), (8, 0, 9, 0, 1, []), (9, 76, 12, 238, 3, [12]), (12, 50, 15, 64, 0, []), (15, 6, 16, 0, 0, []), (16, 4, 17, 2, 0, []), (17, 0, 18, 0, 0, []), (18, 76, 21, 238, 3, [12]), (21, 6, 22, 0, 0, []), (22, 4, 23, 1, 0, []), (23, 0, 24, 0, 1, []), (24, 76, 27, 238, 3, [12]), (27, 50, 30, 64, 0, []), (30, 6, 31, 0, 0, []), (31, 4, 32, 1, 0, []), (32, 0, 33, 0, 2, []), (33, 76, 36, 238, 3, [12]), (36, 6, 37, 0, 0, []), (37, 4, 38, 2, 0, []), (38, 0, 39, 0, 3, []), (39, 76, 42, 238, 3, [12]), (42, 50, 45, 64, 0, []), (45, 6, 46, 0, 0, []), (46, 4, 47, 2, 0, []), (47, 0, 48, 0, 2, []), (48, 76, 51, 238, 3, [12]), (51, 6, 52, 0, 0, []), (52, 4, 53, 1, 0, []), (53, 0, 54, 0, 3, []), (54, 76, 57, 238, 3, [12]), (57, 50, 60, 64, 0, []), (60, 0, 61, 0, 1, []), (61, 53, 64, 65, 0, []), (64, 0, 65, 0, 0, []), (65, 72, 66, 3, 0, [])]
/-- TwoWayWallModel.best(I)I -/
def zcd240 : List (Nat × zI) := [(0, 4, 1, 1, 0, []), (1, 0, 2, 0, 0, []), (2, 0, 3, 0, 2, []), (3, 74, 6, 150, 3, []), (6, 41, 9, 11, 0, []), (9, 0, 10, 0, (-1), []), (10, 72, 11, 0, 0, []), (11, 0, 12, 0, 0, []), (12, 7, 13, 2, 0, []), (13, 0, 14, 0, (-1), []), (14, 7, 15, 3, 0, []), (15, 0, 16, 0, 0, []), (16, 7, 18, 4, 0, []), (18, 0, 19, 0, 0, []), (19, 7, 21, 5, 0, []), (21, 4, 23, 5, 0, []), (23, 0, 24, 0, 1, []), (24, 6, 25, 0, 0, []), (25, 56, 28, 12, 4, []), (28, 0, 31, 0, 426, []), (31, 60, 32, 0, 0, []), (32, 20, 33, 0, 0, []), (33, 49, 36, 83, 0, []), (36, 6, 37, 0, 0, []), (37, 4, 39, 5, 0, []), (39, 76, 42, 237, 2, [12]), (42, 7, 44, 6, 0, []), (44, 4, 46, 6, 0, []), (46, 4, 47, 3, 0, []), (47, 48, 50, 77, 0, []), (50, 4, 52, 6, 0, []), (52, 0, 53, 0, (-1), []), (53, 47, 56, 59, 0, []), (56, 53, 59, 77, 0, []), (59, 4, 61, 6, 0, []), (61, 4, 62, 3, 0, []), (62, 51, 65, 74, 0, []), (65, 4, 67, 6, 0, []), (67, 7, 68, 3, 0, []), (68, 4, 70, 5, 0, []), (70, 7, 71, 2, 0, []), (71, 0, 72, 0, 0, []), (72, 7, 74, 4, 0, []), (74, 10, 77, 4, 1, []), (77, 10, 80, 5, 1, []), (80, 53, 83, 21, 0, []), (83, 4, 84, 1, 0, []), (84, 41, 87, 91, 0, []), (87, 4, 88, 3, 0, []), (88, 53, 91, 102, 0, []), (91, 4, 92, 1, 0, []), (92, 0, 93, 0, 1, []), (93, 47, 96, 100, 0, []), (96, 4, 97, 2, 0, []), (97, 53, 100, 102, 0, []), (100, 4, 102, 4, 0, []), (102, 72, 103, 0, 0, [])]
/-- TwoWayWallModel.rain(II)I -/
def zcd241 : List (Nat × zI) := [(0, 4, 1, 1, 0, []), (1, 0, 2, 0, 0, []), (2, 0, 4, 0, 1000000, []), (4, 74, 7, 150, 3, []), (7, 40, 10, 20, 0, []), (10, 4, 11, 2, 0, []), (11, 0, 12, 0, 0, []), (12, 0, 14, 0, 100, []), (14, 74, 17, 150, 3, []), (17, 41, 20, 26, 0, []), (20, 6, 21, 0, 0, []), (21, 0, 22, 0, (-1), []), (22, 76, 25, 151, 2, [12]), (25, 72, 26, 0, 0, []), (26, 6, 27, 0, 0, []), (27, 4, 28, 1, 0, []), (28, 57, 31, 12, 37, []), (31, 0, 32, 0, 0, []), (32, 7, 33, 3, 0, []), (33, 0, 34, 0, 0, []), (34, 7, 36, 4, 0, []), (36, 4, 38, 4, 0, []), (38, 6, 39, 0, 0, []), (39, 56, 42, 12, 4, []), (42, 0, 45, 0, 427, []), (45, 60, 46, 0, 0, []), (46, 49, 49, 126, 0, []), (49, 0, 50, 0, 0, []), (50, 7, 52, 5, 0, []), (52, 4, 54, 5, 0, []), (54, 0, 56, 0, 7, []), (56, 49, 59, 120, 0, []), (59, 6, 60, 0, 0, []), (60, 56, 63, 12, 4, []), (63, 0, 66, 0, 300, []), (66, 4, 68, 4, 0, []), (68, 11, 69, 0, 0, []), (69, 60, 70, 0, 0, []), (70, 4, 72, 5, 0, []), (72, 21, 73, 0, 0, []), (73, 0, 74, 0, 1, []), (74, 14, 75, 0, 0, []), (75, 40, 78, 114, 0, []), (78, 6, 79, 0, 0, []), (79, 0, 81, 0, 100, []), (81, 76, 84, 242, 2, [12]), (84, 4, 85, 2, 0, []), (85, 48, 88, 91, 0, []), (88, 53, 91, 114, 0, []), (91, 6, 92, 0, 0, []), (92, 56, 95, 12, 4, []), (95, 0, 98, 0, 300, []), (98, 4, 100, 4, 0, []), (100, 11, 101, 0, 0, []), (101, 38, 102, 0, 0, []), (102, 60, 103, 0, 0, []), (103, 0, 104, 0, 1, []), (104, 4, 106, 5, 0, []), (106, 20, 107, 0, 0, []), (107, 0, 108, 0, (-1), []), (108, 16, 109, 0, 0, []), (109, 14, 110, 0, 0, []), (110, 64, 111, 0, 0, []), (111, 10, 114, 3, 1, []), (114, 10, 117, 5, 1, []), (117, 53, 120, 52, 0, []), (120, 10, 123, 4, 1, []), (123, 53, 126, 36, 0, []), (126, 6, 127, 0, 0, []), (127, 4, 128, 3, 0, []), (128, 76, 131, 152, 2, [12]), (131, 72, 132, 0, 0, [])]
/-- TwoWayWallModel.draws(I)I -/
def zcd242 : List (Nat × zI) := [(0, 6, 1, 0, 0, []), (1, 1, 4, 0, 1103, []), (4, 6, 5, 0, 0, []), (5, 55, 8, 12, 37, []), (8, 32, 9, 0, 0, []), (9, 25, 10, 0, 0, []), (10, 1, 13, 0, 12345, []), (13, 23, 14, 0, 0, []), (14, 1, 17, 0, 1000003, []), (17, 28, 18, 0, 0, []), (18, 33, 19, 0, 0, []), (19, 57, 22, 12, 37, []), (22, 6, 23, 0, 0, []), (23, 55, 26, 12, 37, []), (26, 4, 27, 1, 0, []), (27, 18, 28, 0, 0, []), (28, 72, 29, 0, 0, [])]
/-- TwoWayWallModel.count(I)I -/
def zcd243 : List (Nat × zI) := [(0, 4, 1, 1, 0, []), (1, 0, 3, 0, 15, []), (3, 0, 5, 0, 21, []), (5, 74, 8, 150, 3, []), (8, 40, 11, 27, 0, []), (11, 6, 12, 0, 0, []), (12, 56, 15, 12, 4, []), (15, 0, 18, 0, 286, []), (18, 4, 19, 1, 0, []), (19, 11, 20, 0, 0, []), (20, 0, 22, 0, 15, []), (22, 12, 23, 0, 0, []), (23, 60, 24, 0, 0, []), (24, 0, 25, 0, 1, []), (25, 11, 26, 0, 0, []), (26, 72, 27, 0, 0, []), (27, 4, 28, 1, 0, []), (28, 0, 30, 0, 22, []), (30, 0, 32, 0, 28, []), (32, 74, 35, 150, 3, []), (35, 40, 38, 52, 0, []), (38, 6, 39, 0, 0, []), (39, 56, 42, 12, 4, []), (42, 0, 45, 0, 293, []), (45, 4, 46, 1, 0, []), (46, 11, 47, 0, 0, []), (47, 0, 49, 0, 22, []), (49, 12, 50, 0, 0, []), (50, 60, 51, 0, 0, []), (51, 72, 52, 0, 0, []), (52, 0, 53, 0, 0, []), (53, 7, 54, 2, 0, []), (54, 0, 55, 0, 0, []), (55, 7, 56, 3, 0, []), (56, 0, 57, 0, 0, []), (57, 7, 59, 4, 0, []), (59, 4, 61, 4, 0, []), (61, 0, 63, 0, 26, []), (63, 49, 66, 94, 0, []), (66, 4, 67, 2, 0, []), (67, 6, 68, 0, 0, []), (68, 0, 69, 0, 0, []), (69, 4, 71, 4, 0, []), (71, 0, 72, 0, 0, []), (72, 76, 75, 185, 4, [12]), (75, 11, 76, 0, 0, []), (76, 7, 77, 2, 0, []), (77, 4, 78, 3, 0, []), (78, 6, 79, 0, 0, []), (79, 0, 80, 0, 1, []), (80, 4, 82, 4, 0, []), (82, 0, 83, 0, 0, []), (83, 76, 86, 185, 4, [12]), (86, 11, 87, 0, 0, []), (87, 7, 88, 3, 0, []), (88, 10, 91, 4, 1, []), (91, 53, 94, 59, 0, []), (94, 4, 95, 1, 0, []), (95, 54, 168, 0, 0, [255, 168, 177, 179, 181, 181, 194, 194, 207, 207, 221, 230, 235, 235, 245, 245]), (168, 6, 169, 0, 0, []), (169, 56, 172, 12, 4, []), (172, 0, 175, 0, 427, []), (175, 60, 176, 0, 0, []), (176, 72, 177, 0, 0, []), (177, 4, 178, 2, 0, []), (178, 72, 179, 0, 0, []), (179, 4, 180, 3, 0, []), (180, 72, 181, 0, 0, []), (181, 6, 182, 0, 0, []), (182, 56, 185, 12, 4, []), (185, 0, 188, 0, 284, []), (188, 4, 189, 1, 0, []), (189, 11, 190, 0, 0, []), (190, 0, 191, 0, 3, []), (191, 12, 192, 0, 0, []), (192, 60, 193, 0, 0, []), (193, 72, 194, 0, 0, []), (194, 6, 195, 0, 0, []), (195, 56, 198, 12, 4, []), (198, 0, 201, 0, 364, []), (201, 4, 202, 1, 0, []), (202, 11, 203, 0, 0, []), (203, 0, 204, 0, 5, []), (204, 12, 205, 0, 0, []), (205, 60, 206, 0, 0, []), (206, 72, 207, 0, 0, []), (207, 6, 208, 0, 0, []), (208, 56, 211, 12, 4, []), (211, 0, 214, 0, 374, []), (214, 4, 215, 1, 0, []), (215, 11, 216, 0, 0, []), (216, 0, 218, 0, 7, []), (218, 12, 219, 0, 0, []), (219, 60, 220, 0, 0, []), (220, 72, 221, 0, 0, []), (221, 6, 222, 0, 0, []), (222, 56, 225, 12, 4, []), (225, 0, 228, 0, 426, []), (228, 60, 229, 0, 0, []), (229, 72, 230, 0, 0, []), (230, 6, 231, 0, 0, []), (231, 55, 234, 12, 12, []), (234, 72, 235, 0, 0, []), (235, 6, 236, 0, 0, []), (236, 56, 239, 12, 3, []), (239, 4, 240, 1, 0, []), (240, 0, 242, 0, 10, []), (242, 12, 243, 0, 0, []), (243, 60, 244, 0, 0, []), (244, 72, 245, 0, 0, []), (245, 6, 246, 0, 0, []), (246, 56, 249, 12, 3, []), (249, 4, 250, 1, 0, []), (250, 0, 252, 0, 8, []), (252, 12, 253, 0, 0, []), (253, 60, 254, 0, 0, []), (254, 72, 255, 0, 0, []), (255, 0, 256, 0, (-1), []), (256, 72, 257, 0, 0, [])]
/-- TwoWayWallModel.status()I -/
def zcd244 : List (Nat × zI) := [(0, 6, 1, 0, 0, []), (1, 55, 4, 12, 0, []), (4, 72, 5, 0, 0, [])]
def z_cds : List (List (Nat × zI)) := [zcd0, zcd1, zcd2, zcd3, zcd4, zcd5, zcd6, zcd7, zcd8, zcd9, zcd10, zcd11, zcd12, zcd13, zcd14, zcd15, zcd16, zcd17, zcd18, zcd19, zcd20, zcd21, zcd22, zcd23, zcd24, zcd25, zcd26, zcd27, zcd28, zcd29, zcd30, zcd31, zcd32, zcd33, zcd34, zcd35, zcd36, zcd37, zcd38, zcd39, zcd40, zcd41, zcd42, zcd43, zcd44, zcd45, zcd46, zcd47, zcd48, zcd49, zcd50, zcd51, zcd52, zcd53, zcd54, zcd55, zcd56, zcd57, zcd58, zcd59, zcd60, zcd61, zcd62, zcd63, zcd64, zcd65, zcd66, zcd67, zcd68, zcd69, zcd70, zcd71, zcd72, zcd73, zcd74, zcd75, zcd76, zcd77, zcd78, zcd79, zcd80, zcd81, zcd82, zcd83, zcd84, zcd85, zcd86, zcd87, zcd88, zcd89, zcd90, zcd91, zcd92, zcd93, zcd94, zcd95, zcd96, zcd97, zcd98, zcd99, zcd100, zcd101, zcd102, zcd103, zcd104, zcd105, zcd106, zcd107, zcd108, zcd109, zcd110, zcd111, zcd112, zcd113, zcd114, zcd115, zcd116, zcd117, zcd118, zcd119, zcd120, zcd121, zcd122, zcd123, zcd124, zcd125, zcd126, zcd127, zcd128, zcd129, zcd130, zcd131, zcd132, zcd133, zcd134, zcd135, zcd136, zcd137, zcd138, zcd139, zcd140, zcd141, zcd142, zcd143, zcd144, zcd145, zcd146, zcd147, zcd148, zcd149, zcd150, zcd151, zcd152, zcd153, zcd154, zcd155, zcd156, zcd157, zcd158, zcd159, zcd160, zcd161, zcd162, zcd163, zcd164, zcd165, zcd166, zcd167, zcd168, zcd169, zcd170, zcd171, zcd172, zcd173, zcd174, zcd175, zcd176, zcd177, zcd178, zcd179, zcd180, zcd181, zcd182, zcd183, zcd184, zcd185, zcd186, zcd187, zcd188, zcd189, zcd190, zcd191, zcd192, zcd193, zcd194, zcd195, zcd196, zcd197, zcd198, zcd199, zcd200, zcd201, zcd202, zcd203, zcd204, zcd205, zcd206, zcd207, zcd208, zcd209, zcd210, zcd211, zcd212, zcd213, zcd214, zcd215, zcd216, zcd217, zcd218, zcd219, zcd220, zcd221, zcd222, zcd223, zcd224, zcd225, zcd226, zcd227, zcd228, zcd229, zcd230, zcd231, zcd232, zcd233, zcd234, zcd235, zcd236, zcd237, zcd238, zcd239, zcd240, zcd241, zcd242, zcd243, zcd244]
def z_mls : List Nat := [4, 1, 1, 2, 1, 1, 1, 3, 1, 1, 1, 1, 1, 3, 2, 2, 5, 7, 4, 2, 2, 5, 2, 3, 2, 3, 2, 4, 2, 1, 2, 6, 3, 2, 3, 2, 1, 2, 2, 2, 3, 4, 2, 1, 1, 1, 3, 1, 1, 2, 1, 2, 2, 3, 2, 2, 1, 2, 5, 1, 2, 4, 4, 1, 3, 5, 2, 3, 3, 2, 1, 4, 1, 1, 2, 5, 3, 3, 3, 1, 3, 4, 5, 6, 6, 5, 1, 1, 4, 4, 4, 3, 8, 3, 7, 4, 4, 3, 4, 3, 1, 2, 9, 3, 8, 5, 3, 4, 2, 3, 3, 2, 11, 8, 4, 3, 4, 13, 4, 1, 3, 5, 4, 4, 1, 4, 6, 9, 1, 5, 3, 8, 6, 2, 3, 2, 4, 4, 4, 6, 7, 3, 8, 2, 2, 2, 3, 1, 2, 3, 3, 2, 2, 3, 3, 3, 4, 2, 2, 4, 4, 1, 7, 2, 3, 6, 1, 1, 8, 3, 3, 1, 7, 1, 1, 3, 3, 8, 1, 5, 1, 1, 4, 1, 1, 4, 4, 4, 3, 5, 1, 3, 3, 5, 7, 7, 1, 2, 1, 4, 4, 4, 4, 3, 7, 1, 6, 2, 4, 3, 2, 2, 9, 3, 6, 5, 6, 4, 2, 3, 11, 4, 5, 4, 1, 5, 10, 4, 6, 7, 1, 7, 3, 7, 7, 3, 2, 5, 3, 3, 7, 6, 2, 5, 1]
def z_lvs : List Nat := [13, 5, 1, 2, 1, 1, 1, 1, 1, 1, 1, 2, 1, 1, 1, 4, 3, 2, 1, 1, 1, 2, 1, 2, 1, 1, 1, 2, 1, 1, 2, 2, 1, 1, 2, 1, 1, 10, 3, 1, 2, 1, 9, 2, 1, 8, 5, 2, 1, 4, 1, 3, 2, 1, 1, 1, 1, 1, 6, 1, 1, 1, 7, 6, 1, 1, 3, 3, 7, 1, 1, 2, 1, 1, 1, 2, 1, 2, 1, 1, 3, 2, 5, 4, 3, 3, 2, 1, 3, 1, 3, 2, 4, 3, 2, 1, 1, 4, 2, 2, 7, 6, 4, 1, 3, 2, 4, 3, 2, 1, 1, 1, 1, 5, 2, 1, 4, 2, 2, 7, 7, 1, 7, 2, 7, 6, 4, 3, 1, 7, 7, 2, 1, 3, 2, 4, 3, 2, 1, 4, 3, 2, 1, 4, 5, 3, 2, 1, 1, 2, 1, 1, 1, 2, 2, 1, 3, 2, 3, 3, 2, 1, 1, 2, 6, 2, 1, 1, 1, 5, 2, 1, 4, 3, 2, 3, 2, 3, 3, 4, 1, 1, 3, 2, 2, 1, 3, 1, 3, 2, 1, 3, 1, 4, 3, 4, 2, 3, 1, 1, 4, 4, 3, 3, 4, 1, 2, 4, 3, 3, 7, 6, 5, 1, 4, 2, 3, 2, 1, 1, 2, 1, 1, 7, 8, 7, 2, 1, 9, 2, 8, 7, 8, 9, 3, 2, 4, 3, 1, 2, 4, 2, 1, 2, 1]
def zcode (k pc : Nat) : Option zI := z_at (z_cds.getD k []) pc
def zmL (k : Nat) : Nat := z_mls.getD k 0
def zlv (k : Nat) : Nat := z_lvs.getD k 0
end
section
/-! the runs of AM: with fuel, and without -/
def am : Nat → Nat → Nat → List zV → List zV → zT → zM → Option (zV × zH)
  | 0, _, _, _, _, _, _ => none
  | n + 1, k, pc, l, st, T, V =>
    match zcode k pc with
    | none => none
    | some I =>
      match z_step I l st T V with
      | none => none
      | some (.inl (pc', l', st', T', V')) => am n k pc' l' st' T' V'
      | some (.inr (.inl (k', args, nx, l', st', T', V'))) =>
        if zlv k' < zlv k ∧ (z_sp args).length ≤ zmL k' then
          match am n k' 0 (z_ent (zmL k') args) [] T' V' with
          | none => none
          | some (r, T2, V2) => am n k nx l' (z_push r st') T2 V2
        else none
      | some (.inr (.inr x)) => some x
theorem am_mono : ∀ (n k pc : Nat) (l st : List zV) (T : zT) (V : zM) (x : zV × zH), am n k pc l st T V = some x → am (n + 1) k pc l st T V = some x := by
  intro n
  induction n with
  | zero => intro k pc l st T V x h; simp [am] at h
  | succ n ih =>
    intro k pc l st T V x h
    unfold am at h ⊢
    cases hc : zcode k pc with
    | none => rw [hc] at h; simp at h
    | some I =>
      rw [hc] at h
      simp only at h ⊢
      cases hs : z_step I l st T V with
      | none => rw [hs] at h; simp at h
      | some r =>
        rw [hs] at h
        rcases r with ⟨pc', l', st', T', V'⟩ | ⟨k', args, nx, l', st', T', V'⟩ | y
        · simp only at h ⊢
          exact ih _ _ _ _ _ _ _ h
        · simp only at h ⊢
          by_cases hl : zlv k' < zlv k ∧ (z_sp args).length ≤ zmL k'
          · rw [if_pos hl] at h ⊢
            cases ha : am n k' 0 (z_ent (zmL k') args) [] T' V' with
            | none => rw [ha] at h; simp at h
            | some z =>
              obtain ⟨r, T2, V2⟩ := z
              rw [ha] at h
              rw [ih _ _ _ _ _ _ _ ha]
              simp only at h ⊢
              exact ih _ _ _ _ _ _ _ h
          · rw [if_neg hl] at h; simp at h
        · simp only at h ⊢
          exact h
theorem am_le {n m k pc : Nat} {l st : List zV} {T : zT} {V : zM} {x : zV × zH} (hnm : n ≤ m) (h : am n k pc l st T V = some x) : am m k pc l st T V = some x := by
  induction hnm with
  | refl => exact h
  | step _ ih => exact am_mono _ _ _ _ _ _ _ _ ih
theorem am_det {n m k pc : Nat} {l st : List zV} {T : zT} {V : zM} {x y : zV × zH} (h : am n k pc l st T V = some x) (h' : am m k pc l st T V = some y) : x = y := by
  have h1 := am_le (Nat.le_max_left n m) h
  have h2 := am_le (Nat.le_max_right n m) h'
  exact Option.some.inj (h1.symm.trans h2)
/-- the end of a run, if there is one -/
noncomputable def ev (k pc : Nat) (l st : List zV) (T : zT) (V : zM) : Option (zV × zH) :=
  @dite _ (∃ x, ∃ n, am n k pc l st T V = some x) (Classical.propDecidable _) (fun h => some (Classical.choose h)) (fun _ => none)
theorem ev_of {n k pc : Nat} {l st : List zV} {T : zT} {V : zM} {x : zV × zH} (h : am n k pc l st T V = some x) : ev k pc l st T V = some x := by
  have hx : ∃ x, ∃ n, am n k pc l st T V = some x := ⟨x, n, h⟩
  unfold ev
  rw [dif_pos hx]
  obtain ⟨m, hm⟩ := Classical.choose_spec hx
  rw [am_det h hm]
theorem ev_to {k pc : Nat} {l st : List zV} {T : zT} {V : zM} {x : zV × zH} (h : ev k pc l st T V = some x) : ∃ n, am n k pc l st T V = some x := by
  unfold ev at h
  split at h
  · rename_i hx
    obtain ⟨m, hm⟩ := Classical.choose_spec hx
    rw [Option.some.inj h] at hm
    exact ⟨m, hm⟩
  · simp at h
theorem ev_none {k pc : Nat} {l st : List zV} {T : zT} {V : zM} (h : ∀ n, am n k pc l st T V = none) : ev k pc l st T V = none := by
  cases he : ev k pc l st T V with
  | none => rfl
  | some x =>
    obtain ⟨n, hn⟩ := ev_to he
    rw [h n] at hn
    simp at hn
noncomputable def zcall (k : Nat) (args : List zV) (T : zT) (V : zM) : Option (zV × zH) := ev k 0 (z_ent (zmL k) args) [] T V
/-- a step that goes on -/
theorem ev_go {k pc : Nat} {I : zI} {l st : List zV} {T : zT} {V : zM} {pc' : Nat} {l' st' : List zV} {T' : zT} {V' : zM} (hc : zcode k pc = some I) (hs : z_step I l st T V = some (.inl (pc', l', st', T', V'))) : ev k pc l st T V = ev k pc' l' st' T' V' := by
  have e : ∀ n, am (n + 1) k pc l st T V = am n k pc' l' st' T' V' := fun n => by
    rw [am, hc]; simp only [hs]
  cases he : ev k pc' l' st' T' V' with
  | none =>
    refine ev_none fun n => ?_
    cases n with
    | zero => rfl
    | succ n =>
      rw [e]
      cases hq : am n k pc' l' st' T' V' with
      | none => rfl
      | some x => rw [ev_of hq] at he; simp at he
  | some x =>
    obtain ⟨n, hn⟩ := ev_to he
    exact ev_of (n := n + 1) (by rw [e]; exact hn)
theorem ev_end {k pc : Nat} {I : zI} {l st : List zV} {T : zT} {V : zM} {x : zV × zH} (hc : zcode k pc = some I) (hs : z_step I l st T V = some (.inr (.inr x))) : ev k pc l st T V = some x := by
  refine ev_of (n := 1) ?_
  rw [am, hc]; simp only [hs]
theorem ev_call {k pc : Nat} {I : zI} {l st : List zV} {T : zT} {V : zM} {k' nx : Nat} {args l' st' : List zV} {T' : zT} {V' : zM} (hc : zcode k pc = some I) (hs : z_step I l st T V = some (.inr (.inl (k', args, nx, l', st', T', V')))) (hl : zlv k' < zlv k ∧ (z_sp args).length ≤ zmL k') :
    ev k pc l st T V = (zcall k' args T' V').bind fun x => ev k nx l' (z_push x.1 st') x.2.1 x.2.2 := by
  have e : ∀ n, am (n + 1) k pc l st T V = (am n k' 0 (z_ent (zmL k') args) [] T' V').bind fun x => am n k nx l' (z_push x.1 st') x.2.1 x.2.2 := fun n => by
    rw [am, hc]; simp only [hs, if_pos hl]
    cases am n k' 0 (z_ent (zmL k') args) [] T' V' with
    | none => rfl
    | some z => rfl
  cases he : zcall k' args T' V' with
  | none =>
    refine ev_none fun n => ?_
    cases n with
    | zero => rfl
    | succ n =>
      rw [e]
      cases hq : am n k' 0 (z_ent (zmL k') args) [] T' V' with
      | none => rfl
      | some x => rw [zcall, ev_of hq] at he; simp at he
  | some z =>
    obtain ⟨n1, hn1⟩ := ev_to he
    show _ = ev k nx l' (z_push z.1 st') z.2.1 z.2.2
    cases he2 : ev k nx l' (z_push z.1 st') z.2.1 z.2.2 with
    | none =>
      refine ev_none fun n => ?_
      cases n with
      | zero => rfl
      | succ n =>
        rw [e]
        cases hq : am n k' 0 (z_ent (zmL k') args) [] T' V' with
        | none => rfl
        | some x =>
          have hx : x = z := am_det hq hn1
          subst hx
          show am n k nx l' (z_push x.1 st') x.2.1 x.2.2 = none
          cases hr : am n k nx l' (z_push x.1 st') x.2.1 x.2.2 with
          | none => rfl
          | some y => rw [ev_of hr] at he2; simp at he2
    | some x =>
      obtain ⟨n2, hn2⟩ := ev_to he2
      refine ev_of (n := max n1 n2 + 1) ?_
      rw [e, am_le (Nat.le_max_left n1 n2) hn1]
      exact am_le (Nat.le_max_right n1 n2) hn2
/-- a call whose end is known -/
theorem ev_ret {k pc : Nat} {I : zI} {l st : List zV} {T : zT} {V : zM} {k' nx : Nat} {args l' st' : List zV} {T' : zT} {V' : zM} {r : zV} {T2 : zT} {V2 : zM} (hc : zcode k pc = some I) (hs : z_step I l st T V = some (.inr (.inl (k', args, nx, l', st', T', V')))) (hl : zlv k' < zlv k ∧ (z_sp args).length ≤ zmL k') (h : zcall k' args T' V' = some (r, T2, V2)) :
    ev k pc l st T V = ev k nx l' (z_push r st') T2 V2 := by
  rw [ev_call hc hs hl, h]
  rfl
end
section
/-! printed by wip/whole/gen/emit_tab.py: names of classes, fields, methods; links, with their places in lw_tbl -/
def z_Rs : List String := ["TwoWayWall$Crossing", "TwoWayWall$Layer", "TwoWayWall$Nearest", "TwoWayWall$PairTable", "TwoWayWall$Readings", "TwoWayWall$Rows", "TwoWayWall$State", "TwoWayWall$TableReader", "TwoWayWall$Tape", "TwoWayWall$Tongue", "TwoWayWall$Yards", "TwoWayWall", "TwoWayWallModel", "TwoWayWallLaw", "java/lang/Math", "java/util/Arrays", "java/lang/String", "java/lang/StringLatin1", "jdk/internal/util/Preconditions", "java/lang/Integer"]
def zCn (c : Nat) : String := z_Rs.getD c ""
def z_Ts : List (List (String × String × String × Bool)) := [[("TwoWayWall$Crossing", "east", "LTwoWayWall$Rows;", true), ("TwoWayWall$Crossing", "west", "LTwoWayWall$Rows;", true), ("TwoWayWall$Crossing", "from", "LTwoWayWall$Layer;", false), ("TwoWayWall$Crossing", "to", "LTwoWayWall$Layer;", false), ("TwoWayWall$Crossing", "placeOf", "[I", false)], [("TwoWayWall$Layer", "live", "I", false), ("TwoWayWall$Layer", "eastNode", "[I", false), ("TwoWayWall$Layer", "westNode", "[I", false), ("TwoWayWall$Layer", "count", "[J", false), ("TwoWayWall$Layer", "cost", "[I", false), ("TwoWayWall$Layer", "head", "[J", false), ("TwoWayWall$Layer", "tail", "[J", false), ("TwoWayWall$Layer", "shown", "[I", false)], [("TwoWayWall$Nearest", "wrong", "I", false), ("TwoWayWall$Nearest", "cost", "I", false), ("TwoWayWall$Nearest", "set", "I", false), ("TwoWayWall$Nearest", "ways", "I", false)], [("TwoWayWall$PairTable", "ways", "[I", true), ("TwoWayWall$PairTable", "least", "[I", true), ("TwoWayWall$PairTable", "cost", "[I", true), ("TwoWayWall$PairTable", "shown", "[I", true), ("TwoWayWall$PairTable", "pairAt", "[I", true), ("TwoWayWall$PairTable", "used", "I", false)], [("TwoWayWall$Readings", "eastKind", "[I", true), ("TwoWayWall$Readings", "westKind", "[I", true), ("TwoWayWall$Readings", "cost", "[I", true), ("TwoWayWall$Readings", "seenInEast", "[I", true), ("TwoWayWall$Readings", "seenInWest", "[I", true)], [("TwoWayWall$Rows", "letter", "[I", true), ("TwoWayWall$Rows", "child", "[I", true), ("TwoWayWall$Rows", "sibling", "[I", true), ("TwoWayWall$Rows", "behindGap", "[I", true), ("TwoWayWall$Rows", "mayEnd", "[Z", true), ("TwoWayWall$Rows", "nodes", "I", false), ("TwoWayWall$Rows", "moveKind", "[I", true), ("TwoWayWall$Rows", "moveTo", "[I", true), ("TwoWayWall$Rows", "moves", "I", false)], [("TwoWayWall$State", "cells", "I", false), ("TwoWayWall$State", "painted", "[I", true), ("TwoWayWall$State", "gone", "[I", true), ("TwoWayWall$State", "mirror", "[I", true), ("TwoWayWall$State", "costs", "[I", true), ("TwoWayWall$State", "east", "LTwoWayWall$Tongue;", true), ("TwoWayWall$State", "west", "LTwoWayWall$Tongue;", true), ("TwoWayWall$State", "yards", "LTwoWayWall$Yards;", true)], [("TwoWayWall$TableReader", "tape", "LTwoWayWall$Tape;", true), ("TwoWayWall$TableReader", "draft", "LTwoWayWall$State;", true), ("TwoWayWall$TableReader", "start", "I", false), ("TwoWayWall$TableReader", "behind", "I", false), ("TwoWayWall$TableReader", "kind", "I", false), ("TwoWayWall$TableReader", "faultPlace", "I", false)], [("TwoWayWall$Tape", "bytes", "[I", true), ("TwoWayWall$Tape", "length", "I", false)], [("TwoWayWall$Tongue", "must", "[I", true), ("TwoWayWall$Tongue", "mustNot", "[I", true), ("TwoWayWall$Tongue", "meanings", "[I", true), ("TwoWayWall$Tongue", "wordLengths", "[I", true), ("TwoWayWall$Tongue", "wordLetters", "[I", true), ("TwoWayWall$Tongue", "words", "I", false), ("TwoWayWall$Tongue", "text", "[I", true), ("TwoWayWall$Tongue", "textLength", "I", false), ("TwoWayWall$Tongue", "story", "[I", true), ("TwoWayWall$Tongue", "storyLength", "I", false)], [("TwoWayWall$Yards", "from", "[I", true), ("TwoWayWall$Yards", "to", "[I", true), ("TwoWayWall$Yards", "week", "[I", true), ("TwoWayWall$Yards", "till", "[I", true), ("TwoWayWall$Yards", "rent", "[I", true), ("TwoWayWall$Yards", "held", "I", false)], [("TwoWayWall", "now", "LTwoWayWall$State;", true), ("TwoWayWall", "draft", "LTwoWayWall$State;", true), ("TwoWayWall", "images", "[LTwoWayWall$State;", true), ("TwoWayWall", "tape", "LTwoWayWall$Tape;", true), ("TwoWayWall", "tableReader", "LTwoWayWall$TableReader;", true), ("TwoWayWall", "readings", "LTwoWayWall$Readings;", true), ("TwoWayWall", "allPairs", "LTwoWayWall$PairTable;", true), ("TwoWayWall", "cellPairs", "LTwoWayWall$PairTable;", true), ("TwoWayWall", "nearest", "LTwoWayWall$Nearest;", true), ("TwoWayWall", "crossing", "LTwoWayWall$Crossing;", true), ("TwoWayWall", "tellings", "LTwoWayWall$Layer;", true), ("TwoWayWall", "found", "LTwoWayWall$Layer;", true), ("TwoWayWall", "rents", "[I", true), ("TwoWayWall", "refused", "[I", true), ("TwoWayWall", "tellingsKnown", "Z", false), ("TwoWayWall", "faultPlace", "I", false), ("TwoWayWall", "spiltBytes", "I", false), ("TwoWayWall", "refusedBy", "I", false)], [("TwoWayWallModel", "status", "I", false), ("TwoWayWallModel", "tales", "I", false), ("TwoWayWallModel", "pricedBy", "I", false), ("TwoWayWallModel", "refused", "[I", true), ("TwoWayWallModel", "kept", "[I", true), ("TwoWayWallModel", "images", "[I", true), ("TwoWayWallModel", "hasImage", "[Z", true), ("TwoWayWallModel", "hand", "[I", true), ("TwoWayWallModel", "spilt0", "I", false), ("TwoWayWallModel", "words", "[B", true), ("TwoWayWallModel", "tape", "[B", true), ("TwoWayWallModel", "five", "[I", true), ("TwoWayWallModel", "taped", "I", false), ("TwoWayWallModel", "fault", "I", false), ("TwoWayWallModel", "code", "[I", true), ("TwoWayWallModel", "value", "[I", true), ("TwoWayWallModel", "placed", "[I", true), ("TwoWayWallModel", "tokens", "I", false), ("TwoWayWallModel", "token", "I", false), ("TwoWayWallModel", "bad", "I", false), ("TwoWayWallModel", "textSize", "I", false), ("TwoWayWallModel", "got", "I", false), ("TwoWayWallModel", "eastOf", "[I", true), ("TwoWayWallModel", "westOf", "[I", true), ("TwoWayWallModel", "together", "[Z", true), ("TwoWayWallModel", "nearWrong", "I", false), ("TwoWayWallModel", "nearSet", "I", false), ("TwoWayWallModel", "nearWays", "I", false), ("TwoWayWallModel", "steps", "[I", true), ("TwoWayWallModel", "closes", "[Z", true), ("TwoWayWallModel", "usedPlaces", "[I", true), ("TwoWayWallModel", "anyWords", "Z", false), ("TwoWayWallModel", "now", "[J", true), ("TwoWayWallModel", "next", "[J", true), ("TwoWayWallModel", "sorts", "[I", true), ("TwoWayWallModel", "left", "[I", true), ("TwoWayWallModel", "cheapest", "[I", true), ("TwoWayWallModel", "latest", "I", false)]]
def zTX (c : Nat) : u_T := fun k => (z_Ts.getD c []).getD k ("", "", "", false)
def z_tys : List (List FieldType) := [[.object "TwoWayWall$Rows", .object "TwoWayWall$Rows", .object "TwoWayWall$Layer", .object "TwoWayWall$Layer", .array (.int)], [.int, .array (.int), .array (.int), .array (.long), .array (.int), .array (.long), .array (.long), .array (.int)], [.int, .int, .int, .int], [.array (.int), .array (.int), .array (.int), .array (.int), .array (.int), .int], [.array (.int), .array (.int), .array (.int), .array (.int), .array (.int)], [.array (.int), .array (.int), .array (.int), .array (.int), .array (.boolean), .int, .array (.int), .array (.int), .int], [.int, .array (.int), .array (.int), .array (.int), .array (.int), .object "TwoWayWall$Tongue", .object "TwoWayWall$Tongue", .object "TwoWayWall$Yards"], [.object "TwoWayWall$Tape", .object "TwoWayWall$State", .int, .int, .int, .int], [.array (.int), .int], [.array (.int), .array (.int), .array (.int), .array (.int), .array (.int), .int, .array (.int), .int, .array (.int), .int], [.array (.int), .array (.int), .array (.int), .array (.int), .array (.int), .int], [.object "TwoWayWall$State", .object "TwoWayWall$State", .array (.object "TwoWayWall$State"), .object "TwoWayWall$Tape", .object "TwoWayWall$TableReader", .object "TwoWayWall$Readings", .object "TwoWayWall$PairTable", .object "TwoWayWall$PairTable", .object "TwoWayWall$Nearest", .object "TwoWayWall$Crossing", .object "TwoWayWall$Layer", .object "TwoWayWall$Layer", .array (.int), .array (.int), .boolean, .int, .int, .int], [.int, .int, .int, .array (.int), .array (.int), .array (.int), .array (.boolean), .array (.int), .int, .array (.byte), .array (.byte), .array (.int), .int, .int, .array (.int), .array (.int), .array (.int), .int, .int, .int, .int, .int, .array (.int), .array (.int), .array (.boolean), .int, .int, .int, .array (.int), .array (.boolean), .array (.int), .boolean, .array (.long), .array (.long), .array (.int), .array (.int), .array (.int), .int]]
def zTy (c : Nat) : Nat → FieldType := fun k => (z_tys.getD c []).getD k .int
def z_ms : List (MethodName × ByteArray × Nat × Option FieldType) := [
  (⟨"TwoWayWall", "<init>", "()V"⟩, prog_1_method_1_code, 1, none),
  (⟨"java/lang/Object", "<init>", "()V"⟩, object_method_1_code, 1, none),
  (⟨"TwoWayWall$State", "<init>", "()V"⟩, prog_8_method_1_code, 2, none),
  (⟨"TwoWayWall$Tongue", "<init>", "()V"⟩, prog_11_method_1_code, 1, none),
  (⟨"TwoWayWall$Yards", "<init>", "()V"⟩, prog_12_method_1_code, 1, none),
  (⟨"TwoWayWall$Tape", "<init>", "()V"⟩, prog_10_method_1_code, 1, none),
  (⟨"TwoWayWall$TableReader", "<init>", "(LTwoWayWall$Tape;LTwoWayWall$State;)V"⟩, prog_9_method_1_code, 3, none),
  (⟨"TwoWayWall$Readings", "<init>", "()V"⟩, prog_6_method_1_code, 1, none),
  (⟨"TwoWayWall$PairTable", "<init>", "()V"⟩, prog_5_method_1_code, 1, none),
  (⟨"TwoWayWall$Nearest", "<init>", "()V"⟩, prog_4_method_1_code, 1, none),
  (⟨"TwoWayWall$Crossing", "<init>", "()V"⟩, prog_2_method_1_code, 1, none),
  (⟨"TwoWayWall$Rows", "<init>", "()V"⟩, prog_7_method_1_code, 1, none),
  (⟨"TwoWayWall$Layer", "<init>", "(I)V"⟩, prog_3_method_1_code, 3, none),
  (⟨"java/lang/Math", "max", "(II)I"⟩, prog_17_method_65_code, 2, some (.int)),
  (⟨"TwoWayWall", "renewReadings", "()V"⟩, prog_1_method_44_code, 2, none),
  (⟨"TwoWayWall$Readings", "make", "(LTwoWayWall$State;)V"⟩, prog_6_method_2_code, 5, none),
  (⟨"TwoWayWall$Readings", "listKinds", "(LTwoWayWall$Tongue;[I[I)V"⟩, prog_6_method_3_code, 7, none),
  (⟨"java/util/Arrays", "fill", "([II)V"⟩, prog_22_method_103_code, 4, none),
  (⟨"TwoWayWall$Tongue", "isTold", "(I)Z"⟩, prog_11_method_3_code, 2, some (.boolean)),
  (⟨"TwoWayWall$PairTable", "clear", "()V"⟩, prog_5_method_2_code, 2, none),
  (⟨"TwoWayWall$PairTable", "add", "(LTwoWayWall$Readings;II)V"⟩, prog_5_method_3_code, 5, none),
  (⟨"TwoWayWall", "pairOf", "(II)I"⟩, prog_1_method_58_code, 2, some (.int)),
  (⟨"TwoWayWall", "size", "(I)I"⟩, prog_1_method_2_code, 3, some (.int)),
  (⟨"TwoWayWall", "refuse", "(I)I"⟩, prog_1_method_42_code, 2, some (.int)),
  (⟨"TwoWayWall$State", "resize", "(I)V"⟩, prog_8_method_5_code, 3, none),
  (⟨"TwoWayWall", "grant", "(I)I"⟩, prog_1_method_43_code, 2, some (.int)),
  (⟨"TwoWayWall", "paint", "(II)I"⟩, prog_1_method_3_code, 4, some (.int)),
  (⟨"TwoWayWall$State", "hasCell", "(I)Z"⟩, prog_8_method_4_code, 2, some (.boolean)),
  (⟨"TwoWayWall", "isSet", "(I)Z"⟩, prog_1_method_55_code, 1, some (.boolean)),
  (⟨"TwoWayWall", "of", "(I)I"⟩, prog_1_method_4_code, 2, some (.int)),
  (⟨"TwoWayWall", "feed", "(IIIII)I"⟩, prog_1_method_5_code, 6, some (.int)),
  (⟨"TwoWayWall$Tape", "append", "(I)V"⟩, prog_10_method_2_code, 3, none),
  (⟨"TwoWayWall", "end", "(I)I"⟩, prog_1_method_6_code, 2, some (.int)),
  (⟨"TwoWayWall", "row", "()I"⟩, prog_1_method_7_code, 3, some (.int)),
  (⟨"java/lang/Math", "min", "(II)I"⟩, prog_17_method_69_code, 2, some (.int)),
  (⟨"TwoWayWall", "spilt", "()I"⟩, prog_1_method_8_code, 1, some (.int)),
  (⟨"TwoWayWall", "tables", "()I"⟩, prog_1_method_9_code, 2, some (.int)),
  (⟨"TwoWayWall$State", "copyFrom", "(LTwoWayWall$State;)V"⟩, prog_8_method_2_code, 2, none),
  (⟨"TwoWayWall$Tongue", "copyTongue", "(LTwoWayWall$Tongue;)V"⟩, prog_11_method_2_code, 2, none),
  (⟨"TwoWayWall$Yards", "copyYards", "(LTwoWayWall$Yards;)V"⟩, prog_12_method_2_code, 3, none),
  (⟨"TwoWayWall$Yards", "copyYard", "(LTwoWayWall$Yards;II)V"⟩, prog_12_method_3_code, 4, none),
  (⟨"TwoWayWall$TableReader", "tell", "()I"⟩, prog_9_method_2_code, 2, some (.int)),
  (⟨"TwoWayWall$TableReader", "step", "()V"⟩, prog_9_method_11_code, 1, none),
  (⟨"TwoWayWall$TableReader", "kindOfByte", "(I)I"⟩, prog_9_method_12_code, 1, some (.int)),
  (⟨"TwoWayWall$TableReader", "tellClause", "()Z"⟩, prog_9_method_3_code, 1, some (.boolean)),
  (⟨"TwoWayWall$TableReader", "isName", "(Ljava/lang/String;)Z"⟩, prog_9_method_14_code, 3, some (.boolean)),
  (⟨"java/lang/String", "length", "()I"⟩, prog_18_method_54_code, 1, some (.int)),
  (⟨"java/lang/String", "coder", "()B"⟩, prog_18_method_152_code, 1, some (.byte)),
  (⟨"java/lang/String", "charAt", "(I)C"⟩, prog_18_method_56_code, 2, some (.char)),
  (⟨"java/lang/String", "isLatin1", "()Z"⟩, prog_18_method_154_code, 1, some (.boolean)),
  (⟨"java/lang/StringLatin1", "charAt", "([BI)C"⟩, prog_19_method_2_code, 2, some (.char)),
  (⟨"java/lang/String", "checkIndex", "(II)V"⟩, prog_18_method_155_code, 2, none),
  (⟨"jdk/internal/util/Preconditions", "checkIndex", "(IILjava/util/function/BiFunction;)I"⟩, prog_23_method_11_code, 3, some (.int)),
  (⟨"java/lang/StringUTF16", "charAt", "([BI)C"⟩, prog_20_method_83_code, 2, some (.char)),
  (⟨"java/lang/StringUTF16", "checkIndex", "(I[B)V"⟩, prog_20_method_91_code, 2, none),
  (⟨"java/lang/StringUTF16", "length", "([B)I"⟩, prog_20_method_6_code, 1, some (.int)),
  (⟨"java/lang/StringUTF16", "getChar", "([BI)C"⟩, prog_20_method_5_code, 2, some (.char)),
  (⟨"TwoWayWall$TableReader", "tellLetter", "(LTwoWayWall$Tongue;)Z"⟩, prog_9_method_4_code, 5, some (.boolean)),
  (⟨"TwoWayWall$TableReader", "oneLetter", "()I"⟩, prog_9_method_16_code, 1, some (.int)),
  (⟨"TwoWayWall$TableReader", "failAt", "(I)Z"⟩, prog_9_method_10_code, 2, some (.boolean)),
  (⟨"TwoWayWall$TableReader", "strokeRow", "()I"⟩, prog_9_method_18_code, 4, some (.int)),
  (⟨"TwoWayWall$TableReader", "tellWord", "()Z"⟩, prog_9_method_5_code, 4, some (.boolean)),
  (⟨"TwoWayWall$TableReader", "namedTongue", "()LTwoWayWall$Tongue;"⟩, prog_9_method_15_code, 1, some (.object "TwoWayWall$Tongue")),
  (⟨"TwoWayWall$TableReader", "number", "()I"⟩, prog_9_method_17_code, 3, some (.int)),
  (⟨"TwoWayWall$TableReader", "addWord", "(LTwoWayWall$Tongue;I)V"⟩, prog_9_method_6_code, 5, none),
  (⟨"TwoWayWall$TableReader", "tellMirror", "()Z"⟩, prog_9_method_7_code, 2, some (.boolean)),
  (⟨"TwoWayWall$TableReader", "tellCost", "()Z"⟩, prog_9_method_8_code, 3, some (.boolean)),
  (⟨"TwoWayWall$TableReader", "tellDrop", "()Z"⟩, prog_9_method_9_code, 3, some (.boolean)),
  (⟨"TwoWayWall$TableReader", "isSign", "(C)Z"⟩, prog_9_method_13_code, 2, some (.boolean)),
  (⟨"TwoWayWall", "fault", "()I"⟩, prog_1_method_10_code, 1, some (.int)),
  (⟨"TwoWayWall", "letter", "(III)I"⟩, prog_1_method_11_code, 4, some (.int)),
  (⟨"TwoWayWall", "isTongue", "(I)Z"⟩, prog_1_method_52_code, 1, some (.boolean)),
  (⟨"TwoWayWall", "isLetter", "(I)Z"⟩, prog_1_method_53_code, 1, some (.boolean)),
  (⟨"TwoWayWall$State", "tongue", "(I)LTwoWayWall$Tongue;"⟩, prog_8_method_3_code, 2, some (.object "TwoWayWall$Tongue")),
  (⟨"TwoWayWall", "word", "(III)I"⟩, prog_1_method_12_code, 5, some (.int)),
  (⟨"TwoWayWall$Tongue", "letterOf", "(II)I"⟩, prog_11_method_5_code, 3, some (.int)),
  (⟨"TwoWayWall", "reads", "(II)I"⟩, prog_1_method_13_code, 3, some (.int)),
  (⟨"TwoWayWall$Readings", "kindOf", "(II)I"⟩, prog_6_method_4_code, 3, some (.int)),
  (⟨"TwoWayWall", "noneForGap", "(I)I"⟩, prog_1_method_57_code, 1, some (.int)),
  (⟨"TwoWayWall", "read", "(II)I"⟩, prog_1_method_14_code, 3, some (.int)),
  (⟨"TwoWayWall", "kindAt", "(II)I"⟩, prog_1_method_45_code, 4, some (.int)),
  (⟨"TwoWayWall", "spoken", "(I)I"⟩, prog_1_method_15_code, 5, some (.int)),
  (⟨"TwoWayWall", "isWord", "(III)Z"⟩, prog_1_method_46_code, 6, some (.boolean)),
  (⟨"TwoWayWall", "isWordAt", "(III)Z"⟩, prog_1_method_47_code, 6, some (.boolean)),
  (⟨"TwoWayWall", "pair", "(III)I"⟩, prog_1_method_16_code, 5, some (.int)),
  (⟨"TwoWayWall", "isLetterOrGap", "(I)Z"⟩, prog_1_method_54_code, 1, some (.boolean)),
  (⟨"TwoWayWall", "gapForNone", "(I)I"⟩, prog_1_method_56_code, 1, some (.int)),
  (⟨"TwoWayWall", "partners", "(I)I"⟩, prog_1_method_17_code, 4, some (.int)),
  (⟨"TwoWayWall", "pairs", "()I"⟩, prog_1_method_18_code, 4, some (.int)),
  (⟨"TwoWayWall", "say", "(II)I"⟩, prog_1_method_19_code, 4, some (.int)),
  (⟨"TwoWayWall", "hush", "(I)I"⟩, prog_1_method_20_code, 3, some (.int)),
  (⟨"TwoWayWall", "near", "(I)I"⟩, prog_1_method_21_code, 8, some (.int)),
  (⟨"TwoWayWall", "findNearest", "(II)V"⟩, prog_1_method_48_code, 3, none),
  (⟨"TwoWayWall$Nearest", "find", "(LTwoWayWall$PairTable;II)V"⟩, prog_4_method_2_code, 7, none),
  (⟨"TwoWayWall$Nearest", "choose", "(LTwoWayWall$PairTable;I)V"⟩, prog_4_method_3_code, 4, none),
  (⟨"java/lang/Math", "min", "(JJ)J"⟩, prog_17_method_70_code, 4, some (.long)),
  (⟨"TwoWayWall", "nearAt", "(I)I"⟩, prog_1_method_22_code, 3, some (.int)),
  (⟨"TwoWayWall", "mean", "(II)I"⟩, prog_1_method_23_code, 4, some (.int)),
  (⟨"TwoWayWall", "forget", "(I)I"⟩, prog_1_method_24_code, 3, some (.int)),
  (⟨"TwoWayWall", "tells", "()J"⟩, prog_1_method_25_code, 1, some (.long)),
  (⟨"TwoWayWall", "findTellings", "()V"⟩, prog_1_method_49_code, 2, none),
  (⟨"TwoWayWall$Rows", "makeStory", "(LTwoWayWall$Tongue;Z)V"⟩, prog_7_method_2_code, 9, none),
  (⟨"TwoWayWall$Rows", "addNode", "(I)I"⟩, prog_7_method_6_code, 3, some (.int)),
  (⟨"TwoWayWall$Rows", "addWord", "(ILTwoWayWall$Tongue;IZ)I"⟩, prog_7_method_4_code, 8, some (.int)),
  (⟨"TwoWayWall$Rows", "childOf", "(II)I"⟩, prog_7_method_5_code, 5, some (.int)),
  (⟨"TwoWayWall$Crossing", "begin", "()V"⟩, prog_2_method_2_code, 3, none),
  (⟨"TwoWayWall$Layer", "open", "(II)I"⟩, prog_3_method_3_code, 4, some (.int)),
  (⟨"TwoWayWall$Layer", "grow", "(I)V"⟩, prog_3_method_4_code, 2, none),
  (⟨"java/util/Arrays", "copyOf", "([II)[I"⟩, prog_22_method_123_code, 3, some (.array (.int))),
  (⟨"java/util/Arrays", "copyOf", "([JI)[J"⟩, prog_22_method_124_code, 3, some (.array (.long))),
  (⟨"TwoWayWall$Layer", "blank", "(I)V"⟩, prog_3_method_2_code, 2, none),
  (⟨"TwoWayWall$Layer", "take", "(IJIJJI)V"⟩, prog_3_method_5_code, 11, none),
  (⟨"TwoWayWall$Crossing", "step", "(LTwoWayWall$PairTable;I)V"⟩, prog_2_method_3_code, 8, none),
  (⟨"TwoWayWall$Rows", "listMoves", "(I)V"⟩, prog_7_method_7_code, 4, none),
  (⟨"TwoWayWall$Rows", "addMove", "(II)V"⟩, prog_7_method_8_code, 3, none),
  (⟨"TwoWayWall$Crossing", "placeFor", "(II)I"⟩, prog_2_method_4_code, 4, some (.int)),
  (⟨"TwoWayWall$Crossing", "carry", "(IILTwoWayWall$PairTable;II)V"⟩, prog_2_method_5_code, 13, none),
  (⟨"TwoWayWall$Crossing", "gather", "(LTwoWayWall$Layer;I)V"⟩, prog_2_method_6_code, 4, none),
  (⟨"TwoWayWall", "price", "()I"⟩, prog_1_method_26_code, 1, some (.int)),
  (⟨"TwoWayWall", "first", "(I)I"⟩, prog_1_method_27_code, 3, some (.int)),
  (⟨"TwoWayWall$Layer", "cellOf", "(III)I"⟩, prog_3_method_6_code, 5, some (.int)),
  (⟨"TwoWayWall", "lengths", "(I)I"⟩, prog_1_method_28_code, 4, some (.int)),
  (⟨"TwoWayWall", "lost", "(II)I"⟩, prog_1_method_29_code, 4, some (.int)),
  (⟨"TwoWayWall", "may", "()J"⟩, prog_1_method_30_code, 1, some (.long)),
  (⟨"TwoWayWall", "findWalls", "(II)V"⟩, prog_1_method_50_code, 4, none),
  (⟨"TwoWayWall$Rows", "makeWords", "(LTwoWayWall$Tongue;Z)V"⟩, prog_7_method_3_code, 6, none),
  (⟨"TwoWayWall", "listSets", "(IZI)V"⟩, prog_1_method_51_code, 9, none),
  (⟨"java/lang/Integer", "bitCount", "(I)I"⟩, prog_16_method_49_code, 1, some (.int)),
  (⟨"TwoWayWall", "sure", "(II)I"⟩, prog_1_method_31_code, 5, some (.int)),
  (⟨"TwoWayWall", "often", "(II)J"⟩, prog_1_method_32_code, 3, some (.long)),
  (⟨"TwoWayWall", "yard", "(IIIII)I"⟩, prog_1_method_33_code, 8, some (.int)),
  (⟨"TwoWayWall$Yards", "take", "(IIIII)I"⟩, prog_12_method_4_code, 6, some (.int)),
  (⟨"TwoWayWall", "drop", "(I)I"⟩, prog_1_method_34_code, 2, some (.int)),
  (⟨"TwoWayWall$Yards", "remove", "(I)V"⟩, prog_12_method_5_code, 3, none),
  (⟨"TwoWayWall", "letting", "(I)I"⟩, prog_1_method_35_code, 2, some (.int)),
  (⟨"TwoWayWall$Yards", "rentOf", "(I)I"⟩, prog_12_method_8_code, 4, some (.int)),
  (⟨"TwoWayWall$Yards", "clashesOf", "(I)I"⟩, prog_12_method_7_code, 4, some (.int)),
  (⟨"TwoWayWall$Yards", "clash", "(II)Z"⟩, prog_12_method_6_code, 4, some (.boolean)),
  (⟨"TwoWayWall", "best", "(I)I"⟩, prog_1_method_36_code, 6, some (.int)),
  (⟨"TwoWayWall$Yards", "listRents", "([I)V"⟩, prog_12_method_9_code, 7, none),
  (⟨"TwoWayWall", "rain", "(II)I"⟩, prog_1_method_37_code, 3, some (.int)),
  (⟨"TwoWayWall$State", "wash", "(II)I"⟩, prog_8_method_6_code, 8, some (.int)),
  (⟨"TwoWayWall", "image", "(I)I"⟩, prog_1_method_38_code, 2, some (.int)),
  (⟨"TwoWayWall", "back", "(I)I"⟩, prog_1_method_39_code, 2, some (.int)),
  (⟨"TwoWayWall", "count", "(I)I"⟩, prog_1_method_40_code, 2, some (.int)),
  (⟨"TwoWayWall$Tongue", "toldLetters", "()I"⟩, prog_11_method_4_code, 3, some (.int)),
  (⟨"TwoWayWall", "status", "()I"⟩, prog_1_method_41_code, 1, some (.int)),
  (⟨"TwoWayWallModel", "<init>", "()V"⟩, prog_14_method_6_code, 2, none),
  (⟨"TwoWayWallModel", "image", "(I)I"⟩, prog_14_method_7_code, 3, some (.int)),
  (⟨"TwoWayWallModel", "lies", "(III)Z"⟩, prog_14_method_1_code, 3, some (.boolean)),
  (⟨"TwoWayWallModel", "refuses", "(I)I"⟩, prog_14_method_2_code, 2, some (.int)),
  (⟨"TwoWayWallModel", "good", "(I)I"⟩, prog_14_method_3_code, 2, some (.int)),
  (⟨"TwoWayWallModel", "back", "(I)I"⟩, prog_14_method_8_code, 3, some (.int)),
  (⟨"TwoWayWallModel", "size", "(I)I"⟩, prog_14_method_11_code, 3, some (.int)),
  (⟨"TwoWayWallModel", "sizes", "(I)V"⟩, prog_14_method_10_code, 3, none),
  (⟨"TwoWayWallModel", "paint", "(II)I"⟩, prog_14_method_12_code, 4, some (.int)),
  (⟨"TwoWayWallModel", "isCell", "(I)Z"⟩, prog_14_method_9_code, 2, some (.boolean)),
  (⟨"TwoWayWallModel", "of", "(I)I"⟩, prog_14_method_13_code, 2, some (.int)),
  (⟨"TwoWayWallModel", "lost", "(II)I"⟩, prog_14_method_14_code, 4, some (.int)),
  (⟨"TwoWayWallModel", "row", "()I"⟩, prog_14_method_15_code, 4, some (.int)),
  (⟨"TwoWayWallModel", "spilt", "()I"⟩, prog_14_method_16_code, 1, some (.int)),
  (⟨"TwoWayWallModel", "feed", "(IIIII)I"⟩, prog_14_method_17_code, 7, some (.int)),
  (⟨"TwoWayWallModel", "end", "(I)I"⟩, prog_14_method_18_code, 2, some (.int)),
  (⟨"TwoWayWallModel", "tables", "()I"⟩, prog_14_method_36_code, 3, some (.int)),
  (⟨"TwoWayWallModel", "splits", "(I)V"⟩, prog_14_method_22_code, 6, none),
  (⟨"TwoWayWallModel", "isSmall", "(I)Z"⟩, prog_14_method_19_code, 1, some (.boolean)),
  (⟨"TwoWayWallModel", "isDigit", "(I)Z"⟩, prog_14_method_20_code, 1, some (.boolean)),
  (⟨"TwoWayWallModel", "wordAt", "(II)I"⟩, prog_14_method_21_code, 8, some (.int)),
  (⟨"TwoWayWallModel", "readClause", "()V"⟩, prog_14_method_33_code, 3, none),
  (⟨"TwoWayWallModel", "takes0", "(I)Z"⟩, prog_14_method_25_code, 3, some (.boolean)),
  (⟨"TwoWayWallModel", "fine", "()Z"⟩, prog_14_method_23_code, 1, some (.boolean)),
  (⟨"TwoWayWallModel", "readWord", "()V"⟩, prog_14_method_35_code, 7, none),
  (⟨"TwoWayWallModel", "tongue", "()Z"⟩, prog_14_method_29_code, 1, some (.boolean)),
  (⟨"TwoWayWallModel", "faults", "()V"⟩, prog_14_method_24_code, 1, none),
  (⟨"TwoWayWallModel", "number", "(II)Z"⟩, prog_14_method_31_code, 3, some (.boolean)),
  (⟨"TwoWayWallModel", "lettersOf", "()I"⟩, prog_14_method_28_code, 3, some (.int)),
  (⟨"TwoWayWallModel", "digits", "(II)Z"⟩, prog_14_method_32_code, 8, some (.boolean)),
  (⟨"TwoWayWallModel", "oneLetter", "()Z"⟩, prog_14_method_30_code, 1, some (.boolean)),
  (⟨"TwoWayWallModel", "readLetter", "()V"⟩, prog_14_method_34_code, 5, none),
  (⟨"TwoWayWallModel", "sign", "(C)I"⟩, prog_14_method_27_code, 1, some (.int)),
  (⟨"TwoWayWallModel", "fault", "()I"⟩, prog_14_method_37_code, 1, some (.int)),
  (⟨"TwoWayWallModel", "letter", "(III)I"⟩, prog_14_method_40_code, 4, some (.int)),
  (⟨"TwoWayWallModel", "isTongue", "(I)Z"⟩, prog_14_method_5_code, 1, some (.boolean)),
  (⟨"TwoWayWallModel", "isLetter", "(I)Z"⟩, prog_14_method_38_code, 1, some (.boolean)),
  (⟨"TwoWayWallModel", "letterOf", "(III)I"⟩, prog_14_method_39_code, 4, some (.int)),
  (⟨"TwoWayWallModel", "word", "(III)I"⟩, prog_14_method_42_code, 4, some (.int)),
  (⟨"TwoWayWallModel", "wordOf", "(III)I"⟩, prog_14_method_41_code, 4, some (.int)),
  (⟨"TwoWayWallModel", "reads", "(II)I"⟩, prog_14_method_45_code, 3, some (.int)),
  (⟨"TwoWayWallModel", "signOf", "(II)I"⟩, prog_14_method_43_code, 5, some (.int)),
  (⟨"TwoWayWallModel", "orNone", "(I)I"⟩, prog_14_method_44_code, 1, some (.int)),
  (⟨"TwoWayWallModel", "read", "(II)I"⟩, prog_14_method_47_code, 3, some (.int)),
  (⟨"TwoWayWallModel", "cellOf", "(II)I"⟩, prog_14_method_46_code, 3, some (.int)),
  (⟨"TwoWayWallModel", "spoken", "(I)I"⟩, prog_14_method_49_code, 5, some (.int)),
  (⟨"TwoWayWallModel", "isWord", "(III)Z"⟩, prog_14_method_48_code, 7, some (.boolean)),
  (⟨"TwoWayWallModel", "pair", "(III)I"⟩, prog_14_method_54_code, 7, some (.int)),
  (⟨"TwoWayWallModel", "isSign", "(I)Z"⟩, prog_14_method_51_code, 1, some (.boolean)),
  (⟨"TwoWayWallModel", "readsAll", "()V"⟩, prog_14_method_53_code, 2, none),
  (⟨"TwoWayWallModel", "signFor", "(I)I"⟩, prog_14_method_52_code, 1, some (.int)),
  (⟨"TwoWayWallModel", "costOf", "(I)I"⟩, prog_14_method_50_code, 4, some (.int)),
  (⟨"TwoWayWallModel", "partners", "(I)I"⟩, prog_14_method_55_code, 4, some (.int)),
  (⟨"TwoWayWallModel", "pairs", "()I"⟩, prog_14_method_56_code, 4, some (.int)),
  (⟨"TwoWayWallModel", "say", "(II)I"⟩, prog_14_method_57_code, 4, some (.int)),
  (⟨"TwoWayWallModel", "hush", "(I)I"⟩, prog_14_method_58_code, 3, some (.int)),
  (⟨"TwoWayWallModel", "near", "(I)I"⟩, prog_14_method_61_code, 7, some (.int)),
  (⟨"TwoWayWallModel", "areAsLong", "()Z"⟩, prog_14_method_60_code, 1, some (.boolean)),
  (⟨"TwoWayWallModel", "nears", "(I)V"⟩, prog_14_method_59_code, 6, none),
  (⟨"TwoWayWallModel", "nearAt", "(I)I"⟩, prog_14_method_62_code, 2, some (.int)),
  (⟨"TwoWayWallModel", "mean", "(II)I"⟩, prog_14_method_63_code, 4, some (.int)),
  (⟨"TwoWayWallModel", "forget", "(I)I"⟩, prog_14_method_64_code, 3, some (.int)),
  (⟨"TwoWayWallModel", "tells", "()J"⟩, prog_14_method_77_code, 2, some (.long)),
  (⟨"TwoWayWallModel", "laysStories", "(Z)V"⟩, prog_14_method_71_code, 2, none),
  (⟨"TwoWayWallModel", "laysSteps", "(I)V"⟩, prog_14_method_70_code, 9, none),
  (⟨"TwoWayWallModel", "placeOf", "(III)I"⟩, prog_14_method_68_code, 3, some (.int)),
  (⟨"TwoWayWallModel", "isWhole", "(IIII)Z"⟩, prog_14_method_69_code, 6, some (.boolean)),
  (⟨"TwoWayWallModel", "fits", "(III)Z"⟩, prog_14_method_66_code, 5, some (.boolean)),
  (⟨"TwoWayWallModel", "beginsAlike", "(IIII)Z"⟩, prog_14_method_67_code, 6, some (.boolean)),
  (⟨"TwoWayWallModel", "letterAt", "(III)I"⟩, prog_14_method_65_code, 4, some (.int)),
  (⟨"TwoWayWallModel", "allSorts", "()V"⟩, prog_14_method_76_code, 2, none),
  (⟨"TwoWayWallModel", "starts", "()V"⟩, prog_14_method_74_code, 3, none),
  (⟨"TwoWayWallModel", "goesOn", "()V"⟩, prog_14_method_73_code, 11, none),
  (⟨"TwoWayWallModel", "stepOf", "(III)I"⟩, prog_14_method_72_code, 4, some (.int)),
  (⟨"TwoWayWallModel", "closed", "()J"⟩, prog_14_method_75_code, 5, some (.long)),
  (⟨"TwoWayWallModel", "lengths", "(I)I"⟩, prog_14_method_78_code, 4, some (.int)),
  (⟨"TwoWayWallModel", "price", "()I"⟩, prog_14_method_82_code, 1, some (.int)),
  (⟨"TwoWayWallModel", "prices", "()V"⟩, prog_14_method_80_code, 5, none),
  (⟨"TwoWayWallModel", "leastOf", "(III)I"⟩, prog_14_method_81_code, 10, some (.int)),
  (⟨"TwoWayWallModel", "leftAt", "(III)I"⟩, prog_14_method_79_code, 4, some (.int)),
  (⟨"TwoWayWallModel", "first", "(I)I"⟩, prog_14_method_83_code, 6, some (.int)),
  (⟨"TwoWayWallModel", "isCheapest", "(IIII)Z"⟩, prog_14_method_84_code, 7, some (.boolean)),
  (⟨"TwoWayWallModel", "may", "()J"⟩, prog_14_method_86_code, 1, some (.long)),
  (⟨"TwoWayWallModel", "mays", "(IIZ)J"⟩, prog_14_method_85_code, 7, some (.long)),
  (⟨"TwoWayWallModel", "often", "(II)J"⟩, prog_14_method_87_code, 3, some (.long)),
  (⟨"TwoWayWallModel", "sure", "(II)I"⟩, prog_14_method_88_code, 7, some (.int)),
  (⟨"TwoWayWallModel", "yard", "(IIIII)I"⟩, prog_14_method_90_code, 7, some (.int)),
  (⟨"TwoWayWallModel", "drop", "(I)I"⟩, prog_14_method_91_code, 3, some (.int)),
  (⟨"TwoWayWallModel", "letting", "(I)I"⟩, prog_14_method_94_code, 2, some (.int)),
  (⟨"TwoWayWallModel", "rentOf", "(I)I"⟩, prog_14_method_93_code, 5, some (.int)),
  (⟨"TwoWayWallModel", "yardOf", "(II)I"⟩, prog_14_method_89_code, 3, some (.int)),
  (⟨"TwoWayWallModel", "meet", "(II)Z"⟩, prog_14_method_92_code, 3, some (.boolean)),
  (⟨"TwoWayWallModel", "best", "(I)I"⟩, prog_14_method_95_code, 7, some (.int)),
  (⟨"TwoWayWallModel", "rain", "(II)I"⟩, prog_14_method_97_code, 6, some (.int)),
  (⟨"TwoWayWallModel", "draws", "(I)I"⟩, prog_14_method_96_code, 2, some (.int)),
  (⟨"TwoWayWallModel", "count", "(I)I"⟩, prog_14_method_98_code, 5, some (.int)),
  (⟨"TwoWayWallModel", "status", "()I"⟩, prog_14_method_99_code, 1, some (.int))]
def z_all : List (MethodName × ByteArray × Nat × Option FieldType) := (x, code, maxLocals, ret) :: z_ms
def zM0 : MethodName × ByteArray × Nat × Option FieldType := (x, code, maxLocals, ret)
def zy (k : Nat) : MethodName := (z_all.getD k zM0).1
def zby (k : Nat) : ByteArray := (z_all.getD k zM0).2.1
def zret (k : Nat) : Option FieldType := (z_all.getD k zM0).2.2.2
def z_own : List Nat := [13, 11, 99, 6, 9, 10, 8, 7, 4, 3, 2, 0, 5, 1, 14, 11, 4, 4, 15, 9, 3, 3, 11, 11, 11, 6, 11, 11, 6, 11, 11, 11, 8, 11, 11, 14, 11, 11, 6, 9, 10, 10, 7, 7, 7, 7, 7, 16, 16, 16, 16, 17, 16, 18, 99, 99, 99, 99, 7, 7, 7, 7, 7, 7, 7, 7, 7, 7, 7, 7, 11, 11, 11, 11, 6, 11, 9, 11, 4, 11, 11, 11, 11, 11, 11, 11, 11, 11, 11, 11, 11, 11, 11, 11, 2, 2, 14, 11, 11, 11, 11, 11, 5, 5, 5, 5, 0, 1, 1, 15, 15, 1, 1, 0, 5, 5, 0, 0, 0, 11, 11, 1, 11, 11, 11, 11, 5, 11, 19, 11, 11, 11, 10, 11, 10, 11, 10, 10, 10, 11, 10, 11, 6, 11, 11, 11, 9, 11, 12, 12, 12, 12, 12, 12, 12, 12, 12, 12, 12, 12, 12, 12, 12, 12, 12, 12, 12, 12, 12, 12, 12, 12, 12, 12, 12, 12, 12, 12, 12, 12, 12, 12, 12, 12, 12, 12, 12, 12, 12, 12, 12, 12, 12, 12, 12, 12, 12, 12, 12, 12, 12, 12, 12, 12, 12, 12, 12, 12, 12, 12, 12, 12, 12, 12, 12, 12, 12, 12, 12, 12, 12, 12, 12, 12, 12, 12, 12, 12, 12, 12, 12, 12, 12, 12, 12, 12, 12, 12, 12, 12, 12, 12, 12, 12, 12]
def zown (k : Nat) : Nat := z_own.getD k 99
def z_fl : List (Nat × Nat × Nat × Nat × Nat) := [(9, 9, 9, 0, 121), (4, 58, 9, 0, 122), (7, 95, 9, 0, 123), (11, 161, 9, 0, 124), (9, 15, 9, 1, 125), (4, 61, 9, 1, 126), (7, 101, 9, 1, 127), (11, 164, 9, 1, 128), (9, 18, 9, 2, 129), (5, 53, 9, 2, 130), (7, 118, 9, 2, 131), (11, 170, 9, 2, 132), (9, 21, 9, 3, 133), (5, 60, 9, 3, 134), (7, 121, 9, 3, 135), (11, 173, 9, 3, 136), (9, 24, 9, 4, 137), (7, 124, 9, 4, 138), (9, 39, 9, 5, 139), (5, 50, 9, 5, 140), (7, 108, 9, 5, 141), (11, 167, 9, 5, 142), (9, 27, 9, 6, 143), (11, 216, 9, 6, 144), (9, 43, 9, 7, 145), (11, 213, 9, 7, 146), (9, 30, 9, 8, 147), (5, 47, 9, 8, 148), (11, 249, 9, 8, 149), (5, 34, 9, 9, 150), (9, 46, 9, 9, 151), (11, 246, 9, 9, 152), (10, 9, 10, 0, 181), (10, 15, 10, 1, 182), (10, 18, 10, 2, 183), (10, 21, 10, 3, 184), (10, 24, 10, 4, 185), (10, 31, 10, 5, 186), (11, 284, 10, 5, 187), (6, 9, 6, 0, 201), (11, 100, 6, 0, 202), (6, 15, 6, 1, 203), (11, 116, 6, 1, 204), (6, 19, 6, 2, 205), (11, 269, 6, 2, 206), (6, 22, 6, 3, 207), (4, 32, 6, 3, 208), (7, 132, 6, 3, 209), (11, 307, 6, 3, 210), (6, 25, 6, 4, 211), (4, 27, 6, 4, 212), (7, 134, 6, 4, 213), (11, 310, 6, 4, 214), (6, 31, 6, 5, 215), (4, 35, 6, 5, 216), (7, 53, 6, 5, 217), (11, 219, 6, 5, 218), (6, 35, 6, 6, 219), (4, 43, 6, 6, 220), (7, 64, 6, 6, 221), (11, 223, 6, 6, 222), (6, 41, 6, 7, 223), (11, 280, 6, 7, 224), (8, 9, 8, 0, 249), (7, 127, 8, 0, 250), (11, 131, 8, 0, 251), (8, 15, 8, 1, 252), (11, 119, 8, 1, 253), (7, 137, 8, 1, 254), (7, 15, 7, 0, 266), (7, 19, 7, 1, 267), (7, 40, 7, 2, 268), (7, 23, 7, 3, 269), (7, 33, 7, 4, 270), (7, 9, 7, 5, 271), (11, 145, 7, 5, 272), (4, 9, 4, 0, 292), (3, 31, 4, 0, 293), (4, 15, 4, 1, 294), (3, 36, 4, 1, 295), (4, 18, 4, 2, 296), (3, 44, 4, 2, 297), (4, 21, 4, 3, 298), (4, 24, 4, 4, 299), (3, 9, 3, 0, 317), (2, 35, 3, 0, 318), (0, 82, 3, 0, 319), (11, 201, 3, 0, 320), (3, 15, 3, 1, 321), (2, 39, 3, 1, 322), (0, 111, 3, 1, 323), (11, 204, 3, 1, 324), (3, 18, 3, 2, 325), (2, 37, 3, 2, 326), (0, 104, 3, 2, 327), (3, 21, 3, 3, 328), (0, 117, 3, 3, 329), (3, 24, 3, 4, 330), (2, 21, 3, 4, 331), (11, 210, 3, 4, 332), (3, 27, 3, 5, 333), (2, 16, 3, 5, 334), (11, 207, 3, 5, 335), (2, 10, 2, 0, 355), (11, 230, 2, 0, 356), (2, 25, 2, 1, 357), (11, 233, 2, 1, 358), (2, 42, 2, 2, 359), (11, 243, 2, 2, 360), (2, 28, 2, 3, 361), (11, 238, 2, 3, 362), (5, 11, 5, 0, 384), (5, 15, 5, 1, 385), (5, 18, 5, 2, 386), (5, 21, 5, 3, 387), (5, 24, 5, 4, 388), (0, 121, 5, 4, 389), (0, 37, 5, 5, 390), (5, 40, 5, 5, 391), (5, 28, 5, 6, 392), (0, 76, 5, 6, 393), (5, 31, 5, 7, 394), (0, 87, 5, 7, 395), (0, 73, 5, 8, 396), (5, 75, 5, 8, 397), (0, 54, 1, 0, 427), (1, 41, 1, 0, 428), (1, 15, 1, 1, 429), (0, 64, 1, 1, 430), (1, 21, 1, 2, 431), (0, 70, 1, 2, 432), (1, 24, 1, 3, 433), (0, 97, 1, 3, 434), (11, 259, 1, 3, 435), (1, 28, 1, 4, 436), (0, 101, 1, 4, 437), (11, 263, 1, 4, 438), (1, 31, 1, 5, 439), (0, 105, 1, 5, 440), (1, 34, 1, 6, 441), (0, 108, 1, 6, 442), (1, 37, 1, 7, 443), (0, 114, 1, 7, 444), (11, 275, 1, 7, 445), (0, 12, 0, 0, 464), (11, 336, 0, 0, 465), (0, 18, 0, 1, 466), (11, 345, 0, 1, 467), (0, 26, 0, 2, 468), (0, 30, 0, 3, 469), (0, 33, 0, 4, 470), (11, 10, 11, 0, 514), (11, 16, 11, 1, 515), (11, 19, 11, 2, 516), (11, 26, 11, 3, 517), (11, 35, 11, 4, 518), (11, 42, 11, 5, 519), (11, 49, 11, 6, 520), (11, 53, 11, 7, 521), (11, 59, 11, 8, 522), (11, 66, 11, 9, 523), (11, 75, 11, 10, 524), (11, 79, 11, 11, 525), (11, 82, 11, 12, 526), (11, 86, 11, 13, 527), (11, 252, 11, 14, 528), (11, 89, 11, 15, 529), (11, 134, 11, 16, 530), (11, 316, 11, 17, 531), (12, 3, 12, 0, 1122), (12, 102, 12, 1, 1123), (12, 21, 12, 2, 1124), (12, 7, 12, 3, 1125), (12, 24, 12, 4, 1126), (12, 27, 12, 5, 1127), (12, 30, 12, 6, 1128), (12, 34, 12, 7, 1129), (12, 116, 12, 8, 1130), (12, 37, 12, 9, 1131), (12, 41, 12, 10, 1132), (12, 44, 12, 11, 1133), (12, 113, 12, 12, 1134), (12, 47, 12, 13, 1135), (12, 50, 12, 14, 1136), (12, 53, 12, 15, 1137), (12, 56, 12, 16, 1138), (12, 119, 12, 17, 1139), (12, 140, 12, 18, 1140), (12, 133, 12, 19, 1141), (12, 149, 12, 20, 1142), (12, 152, 12, 21, 1143), (12, 59, 12, 22, 1144), (12, 62, 12, 23, 1145), (12, 65, 12, 24, 1146), (12, 225, 12, 25, 1147), (12, 231, 12, 26, 1148), (12, 228, 12, 27, 1149), (12, 68, 12, 28, 1150), (12, 71, 12, 29, 1151), (12, 74, 12, 30, 1152), (12, 242, 12, 31, 1153), (12, 78, 12, 32, 1154), (12, 82, 12, 33, 1155), (12, 85, 12, 34, 1156), (12, 89, 12, 35, 1157), (12, 92, 12, 36, 1158), (12, 323, 12, 37, 1159)]
def z_sf : List (Nat × Nat × Nat × Nat) := [(16, 38, 2, 675), (16, 1053, 3, 691), (16, 9, 0, 1621), (16, 15, 1, 1622)]
def z_ml : List (Nat × Nat × Nat × Nat) := [(13, 9, 1, 103), (11, 9, 3, 111), (11, 32, 7, 262), (0, 23, 13, 420), (11, 72, 13, 483), (11, 93, 15, 484), (11, 319, 16, 488), (4, 39, 17, 492), (4, 46, 18, 495), (4, 52, 19, 498), (11, 322, 20, 502), (11, 325, 21, 506), (13, 13, 23, 569), (11, 96, 24, 573), (11, 103, 25, 577), (11, 106, 26, 581), (13, 18, 27, 585), (11, 109, 28, 589), (11, 113, 29, 593), (13, 23, 30, 596), (13, 27, 31, 600), (11, 122, 32, 604), (13, 32, 33, 608), (13, 36, 34, 612), (13, 41, 36, 619), (13, 45, 37, 623), (11, 137, 38, 627), (6, 51, 39, 634), (6, 55, 40, 639), (10, 27, 41, 643), (11, 141, 42, 647), (7, 26, 43, 651), (7, 140, 44, 655), (7, 29, 45, 658), (7, 49, 46, 663), (7, 144, 47, 667), (16, 335, 48, 671), (7, 148, 49, 677), (16, 492, 50, 681), (16, 495, 51, 685), (17, 9, 52, 688), (16, 1059, 53, 693), (7, 58, 58, 715), (7, 86, 59, 719), (7, 43, 60, 723), (7, 90, 61, 727), (7, 68, 62, 734), (7, 104, 63, 738), (7, 111, 64, 742), (7, 114, 65, 747), (7, 73, 66, 752), (7, 78, 67, 757), (7, 83, 68, 762), (7, 36, 69, 766), (13, 49, 70, 771), (13, 53, 71, 775), (11, 146, 72, 779), (11, 149, 73, 782), (11, 152, 74, 785), (11, 156, 19, 789), (13, 58, 75, 790), (11, 176, 76, 794), (13, 62, 77, 798), (11, 179, 78, 802), (11, 182, 79, 806), (13, 66, 80, 809), (11, 185, 81, 813), (13, 70, 82, 817), (11, 188, 83, 821), (11, 329, 84, 825), (13, 74, 85, 829), (11, 192, 86, 833), (11, 195, 87, 836), (11, 198, 22, 839), (13, 78, 88, 840), (13, 82, 89, 844), (13, 86, 90, 848), (13, 90, 91, 852), (13, 94, 92, 856), (11, 226, 93, 860), (11, 332, 94, 864), (2, 31, 95, 869), (13, 98, 97, 877), (13, 102, 98, 881), (13, 106, 99, 885), (13, 110, 100, 889), (11, 256, 101, 893), (11, 339, 102, 897), (5, 43, 103, 901), (5, 56, 104, 906), (5, 63, 76, 910), (5, 67, 105, 911), (11, 347, 106, 915), (0, 48, 18, 921), (0, 57, 107, 922), (1, 45, 108, 926), (1, 52, 109, 930), (1, 58, 110, 942), (1, 49, 111, 950), (0, 60, 112, 955), (11, 350, 113, 961), (0, 67, 114, 965), (5, 78, 115, 969), (0, 90, 116, 974), (0, 93, 117, 978), (11, 354, 118, 982), (0, 118, 111, 986), (13, 115, 119, 987), (13, 119, 120, 991), (11, 265, 121, 995), (13, 123, 122, 1001), (13, 127, 123, 1005), (13, 131, 124, 1009), (11, 272, 125, 1013), (11, 358, 126, 1017), (11, 361, 127, 1021), (11, 365, 128, 1025), (13, 135, 129, 1031), (13, 139, 130, 1035), (13, 144, 131, 1040), (11, 289, 132, 1044), (13, 148, 133, 1048), (11, 293, 134, 1052), (13, 152, 135, 1056), (11, 296, 136, 1060), (10, 39, 137, 1064), (10, 35, 138, 1068), (13, 156, 139, 1072), (11, 299, 140, 1076), (13, 160, 141, 1080), (11, 304, 142, 1085), (13, 164, 143, 1093), (13, 168, 144, 1097), (13, 172, 145, 1101), (11, 313, 146, 1105), (9, 49, 19, 1109), (13, 176, 147, 1110), (13, 12, 148, 1116), (13, 167, 149, 1237), (12, 11, 150, 1241), (12, 95, 151, 1244), (12, 99, 152, 1248), (13, 171, 153, 1252), (13, 17, 154, 1256), (12, 105, 155, 1260), (13, 22, 156, 1264), (12, 109, 157, 1268), (13, 26, 158, 1272), (13, 130, 159, 1276), (13, 40, 160, 1280), (13, 44, 161, 1284), (13, 31, 162, 1288), (13, 35, 163, 1292), (13, 48, 164, 1296), (12, 178, 165, 1300), (12, 122, 166, 1304), (12, 125, 167, 1307), (12, 128, 168, 1310), (12, 181, 169, 1315), (12, 143, 170, 1319), (12, 136, 171, 1323), (12, 159, 172, 1327), (12, 169, 173, 1331), (12, 146, 174, 1335), (12, 166, 175, 1339), (12, 155, 176, 1343), (12, 162, 177, 1347), (12, 172, 178, 1351), (12, 175, 179, 1355), (12, 184, 180, 1359), (13, 52, 181, 1362), (13, 57, 182, 1366), (12, 188, 183, 1370), (12, 191, 184, 1373), (12, 194, 185, 1376), (13, 61, 186, 1380), (12, 198, 187, 1384), (13, 65, 188, 1388), (12, 201, 189, 1392), (12, 204, 190, 1396), (13, 69, 191, 1399), (12, 207, 192, 1403), (13, 73, 193, 1407), (12, 210, 194, 1411), (13, 77, 195, 1415), (12, 213, 196, 1419), (12, 216, 197, 1422), (12, 219, 198, 1426), (12, 222, 199, 1429), (13, 81, 200, 1433), (13, 85, 201, 1437), (13, 89, 202, 1441), (13, 93, 203, 1445), (13, 97, 204, 1449), (12, 234, 205, 1453), (12, 237, 206, 1457), (13, 101, 207, 1462), (13, 105, 208, 1466), (13, 109, 209, 1470), (13, 114, 210, 1474), (12, 270, 211, 1478), (12, 262, 212, 1482), (12, 256, 213, 1486), (12, 259, 214, 1489), (12, 249, 215, 1493), (12, 252, 216, 1497), (12, 246, 217, 1501), (12, 274, 218, 1505), (12, 277, 219, 1509), (12, 280, 220, 1513), (12, 265, 221, 1517), (12, 283, 222, 1522), (13, 126, 223, 1526), (13, 118, 224, 1530), (12, 294, 225, 1534), (12, 288, 226, 1539), (12, 291, 227, 1543), (13, 122, 228, 1547), (12, 297, 224, 1551), (12, 300, 229, 1552), (13, 134, 230, 1556), (12, 303, 231, 1560), (13, 143, 232, 1564), (13, 138, 233, 1569), (12, 309, 230, 1573), (13, 147, 234, 1574), (13, 151, 235, 1578), (13, 155, 236, 1582), (12, 318, 237, 1586), (12, 312, 238, 1590), (12, 315, 239, 1594), (13, 159, 240, 1598), (13, 163, 241, 1602), (12, 330, 242, 1606), (13, 175, 243, 1613), (13, 179, 244, 1617)]
def z_mn : List (Nat × Nat × Nat × Nat) := [(6, 30, 4, 117), (6, 40, 5, 177), (11, 25, 6, 245), (11, 41, 8, 288), (11, 48, 9, 313), (11, 58, 10, 351), (11, 65, 11, 374), (0, 11, 12, 380), (3, 39, 22, 510), (0, 79, 22, 973)]
def z_oi : List (Nat × Nat × Nat) := [(11, 1, 106), (6, 3, 114), (9, 3, 120), (10, 3, 180), (8, 3, 248), (7, 3, 265), (4, 3, 291), (3, 3, 316), (2, 3, 354), (0, 3, 377), (5, 3, 383), (1, 3, 423), (12, 15, 1119)]
def z_cp : List (Nat × Nat × Nat) := [(6, 45, 631), (9, 33, 638), (15, 150, 941)]
def z_mm : List (Nat × Nat × Nat × Nat) := [(1, 9, 84, 424), (11, 125, 85, 616), (7, 152, 85, 746), (11, 240, 86, 874), (5, 70, 85, 905), (0, 42, 85, 920), (15, 304, 85, 940), (1, 63, 86, 960), (1, 67, 85, 999)]
def z_cl : List (Nat × Nat × Nat × Nat) := [(13, 7, 11, 101), (11, 7, 6, 109), (6, 28, 9, 115), (6, 38, 10, 175), (11, 23, 8, 243), (11, 30, 7, 260), (11, 39, 4, 286), (11, 46, 3, 311), (11, 56, 2, 349), (11, 63, 0, 372), (0, 9, 5, 378), (0, 21, 1, 418), (11, 70, 1, 482), (13, 10, 12, 1114)]
def z_ci : List (Nat × Nat × Int × Nat) := [(3, 43, 1000000, 513), (2, 9, 1000000, 868), (0, 41, 38416, 919), (1, 40, 1000000, 954), (19, 265, 1431655765, 1028), (19, 266, 858993459, 1029), (19, 267, 252645135, 1030), (11, 303, 1000000, 1084), (12, 77, 50176, 1120), (12, 88, 852992, 1121), (12, 132, 1000000, 1314), (12, 287, 1000000000, 1538)]
def z_cL : List (Nat × Nat × Int × Nat) := [(11, 236, 1000000000, 873), (1, 61, 1000000000000, 959), (1, 69, 127, 1000), (11, 278, -1, 1039), (6, 59, 1103, 1089), (6, 61, 12345, 1090), (6, 63, 1000003, 1091), (6, 65, 100, 1092), (12, 240, 1000000000, 1461), (12, 268, 1000000000000, 1521), (12, 307, -1, 1568), (12, 321, 1103, 1610), (12, 326, 12345, 1611), (12, 328, 1000003, 1612)]
def z_cs : List (Nat × Nat × Nat × Nat) := [(7, 47, 0, 662), (7, 93, 6, 731), (7, 62, 1, 732), (7, 66, 2, 733), (7, 71, 3, 751), (7, 76, 4, 756), (7, 81, 5, 761)]
def z_cal : List (Nat × Nat × Nat × Nat × Nat × Nat) := [(1, 1, 0, 80, 104, 0), (3, 1, 0, 81, 112, 0), (4, 1, 0, 82, 118, 0), (5, 1, 0, 83, 178, 0), (6, 1, 0, 84, 246, 0), (7, 1, 2, 85, 263, 0), (8, 1, 0, 86, 289, 0), (9, 1, 0, 87, 314, 0), (10, 1, 0, 88, 352, 0), (11, 1, 0, 89, 375, 0), (12, 1, 0, 90, 381, 0), (13, 1, 1, 91, 421, 0), (15, 2, 0, 80, 486, 0), (16, 2, 1, 86, 489, 490), (17, 0, 3, 86, 493, 0), (18, 0, 2, 93, 496, 0), (19, 2, 1, 82, 499, 500), (20, 2, 0, 87, 503, 504), (21, 2, 3, 87, 507, 508), (22, 0, 2, 80, 511, 0), (23, 2, 1, 80, 570, 571), (24, 2, 1, 80, 575, 1), (25, 2, 1, 81, 578, 579), (26, 2, 1, 80, 583, 2), (27, 2, 2, 80, 586, 587), (28, 2, 1, 81, 590, 591), (29, 0, 1, 80, 594, 0), (30, 2, 1, 80, 597, 598), (31, 2, 5, 80, 601, 602), (32, 2, 1, 84, 605, 606), (33, 2, 1, 80, 609, 610), (34, 2, 0, 80, 613, 614), (36, 2, 0, 80, 620, 621), (37, 2, 0, 80, 624, 625), (38, 2, 1, 81, 628, 629), (39, 2, 1, 82, 635, 636), (40, 2, 1, 83, 640, 641), (41, 2, 3, 83, 644, 645), (42, 2, 0, 85, 648, 649), (43, 2, 0, 85, 653, 3), (44, 0, 1, 85, 656, 0), (45, 2, 0, 85, 660, 4), (46, 2, 1, 85, 665, 5), (47, 2, 0, 96, 668, 669), (48, 2, 0, 96, 672, 673), (49, 2, 1, 96, 678, 679), (50, 2, 0, 96, 682, 683), (51, 0, 2, 97, 686, 0), (52, 0, 2, 96, 689, 0), (53, 0, 3, 98, 694, 0), (58, 2, 1, 85, 717, 6), (59, 2, 0, 85, 721, 7), (60, 2, 1, 85, 725, 8), (61, 2, 0, 85, 729, 9), (62, 2, 0, 85, 736, 10), (63, 2, 0, 85, 740, 11), (64, 2, 0, 85, 744, 12), (65, 2, 2, 85, 749, 13), (66, 2, 0, 85, 754, 14), (67, 2, 0, 85, 759, 15), (68, 2, 0, 85, 764, 16), (69, 2, 1, 85, 768, 17), (70, 2, 0, 80, 772, 773), (71, 2, 3, 80, 776, 777), (72, 0, 1, 80, 780, 0), (73, 0, 1, 80, 783, 0), (74, 2, 1, 81, 786, 787), (75, 2, 3, 80, 791, 792), (76, 2, 2, 82, 795, 796), (77, 2, 2, 80, 799, 800), (78, 2, 2, 86, 803, 804), (79, 0, 1, 80, 807, 0), (80, 2, 2, 80, 810, 811), (81, 2, 2, 80, 815, 18), (82, 2, 1, 80, 818, 819), (83, 2, 3, 80, 823, 19), (84, 2, 3, 80, 827, 20), (85, 2, 3, 80, 830, 831), (86, 0, 1, 80, 834, 0), (87, 0, 1, 80, 837, 0), (88, 2, 1, 80, 841, 842), (89, 2, 0, 80, 845, 846), (90, 2, 2, 80, 849, 850), (91, 2, 1, 80, 853, 854), (92, 2, 1, 80, 857, 858), (93, 2, 2, 80, 862, 21), (94, 2, 3, 88, 865, 866), (95, 2, 2, 88, 871, 22), (97, 2, 1, 80, 878, 879), (98, 2, 2, 80, 882, 883), (99, 2, 1, 80, 886, 887), (100, 2, 0, 80, 890, 891), (101, 2, 0, 80, 895, 23), (102, 2, 2, 90, 898, 899), (103, 2, 1, 90, 903, 24), (104, 2, 4, 90, 908, 25), (105, 2, 2, 90, 913, 26), (106, 2, 0, 89, 916, 917), (107, 2, 2, 91, 923, 924), (108, 2, 1, 91, 928, 27), (109, 0, 2, 93, 931, 0), (110, 0, 2, 93, 943, 0), (111, 2, 1, 91, 951, 952), (112, 2, 6, 91, 956, 957), (113, 2, 2, 89, 962, 963), (114, 2, 1, 90, 966, 967), (115, 2, 2, 90, 971, 28), (116, 2, 2, 89, 976, 29), (117, 2, 5, 89, 980, 30), (118, 2, 2, 89, 983, 984), (119, 2, 0, 80, 988, 989), (120, 2, 1, 80, 992, 993), (121, 2, 3, 91, 996, 997), (122, 2, 1, 80, 1002, 1003), (123, 2, 2, 80, 1006, 1007), (124, 2, 0, 80, 1010, 1011), (125, 2, 2, 80, 1015, 31), (126, 2, 2, 90, 1018, 1019), (127, 2, 3, 80, 1023, 32), (128, 0, 1, 100, 1026, 0), (129, 2, 2, 80, 1032, 1033), (130, 2, 2, 80, 1036, 1037), (131, 2, 5, 80, 1041, 1042), (132, 2, 5, 83, 1045, 1046), (133, 2, 1, 80, 1049, 1050), (134, 2, 1, 83, 1053, 1054), (135, 2, 1, 80, 1057, 1058), (136, 2, 1, 83, 1061, 1062), (137, 2, 1, 83, 1065, 1066), (138, 2, 2, 83, 1069, 1070), (139, 2, 1, 80, 1073, 1074), (140, 2, 1, 83, 1077, 1078), (141, 2, 2, 80, 1081, 1082), (142, 2, 2, 81, 1086, 1087), (143, 2, 1, 80, 1094, 1095), (144, 2, 1, 80, 1098, 1099), (145, 2, 1, 80, 1102, 1103), (146, 2, 0, 82, 1106, 1107), (147, 2, 0, 80, 1111, 1112), (148, 1, 0, 94, 1117, 0), (149, 2, 1, 94, 1238, 1239), (150, 0, 3, 94, 1242, 0), (151, 2, 1, 94, 1246, 33), (152, 2, 1, 94, 1250, 34), (153, 2, 1, 94, 1253, 1254), (154, 2, 1, 94, 1257, 1258), (155, 2, 1, 94, 1262, 35), (156, 2, 2, 94, 1265, 1266), (157, 2, 1, 94, 1270, 36), (158, 2, 1, 94, 1273, 1274), (159, 2, 2, 94, 1277, 1278), (160, 2, 0, 94, 1281, 1282), (161, 2, 0, 94, 1285, 1286), (162, 2, 5, 94, 1289, 1290), (163, 2, 1, 94, 1293, 1294), (164, 2, 0, 94, 1297, 1298), (165, 2, 1, 94, 1302, 37), (166, 0, 1, 94, 1305, 0), (167, 0, 1, 94, 1308, 0), (168, 2, 2, 94, 1312, 38), (169, 2, 0, 94, 1317, 39), (170, 2, 1, 94, 1321, 40), (171, 2, 0, 94, 1325, 41), (172, 2, 0, 94, 1329, 42), (173, 2, 0, 94, 1333, 43), (174, 2, 0, 94, 1337, 44), (175, 2, 2, 94, 1341, 45), (176, 2, 0, 94, 1345, 46), (177, 2, 2, 94, 1349, 47), (178, 2, 0, 94, 1353, 48), (179, 2, 0, 94, 1357, 49), (180, 0, 1, 94, 1360, 0), (181, 2, 0, 94, 1363, 1364), (182, 2, 3, 94, 1367, 1368), (183, 0, 1, 94, 1371, 0), (184, 0, 1, 94, 1374, 0), (185, 2, 3, 94, 1378, 50), (186, 2, 3, 94, 1381, 1382), (187, 2, 3, 94, 1386, 51), (188, 2, 2, 94, 1389, 1390), (189, 2, 2, 94, 1394, 52), (190, 0, 1, 94, 1397, 0), (191, 2, 2, 94, 1400, 1401), (192, 2, 2, 94, 1405, 53), (193, 2, 1, 94, 1408, 1409), (194, 2, 3, 94, 1413, 54), (195, 2, 3, 94, 1416, 1417), (196, 0, 1, 94, 1420, 0), (197, 2, 0, 94, 1424, 55), (198, 0, 1, 94, 1427, 0), (199, 2, 1, 94, 1431, 56), (200, 2, 1, 94, 1434, 1435), (201, 2, 0, 94, 1438, 1439), (202, 2, 2, 94, 1442, 1443), (203, 2, 1, 94, 1446, 1447), (204, 2, 1, 94, 1450, 1451), (205, 2, 0, 94, 1455, 57), (206, 2, 1, 94, 1459, 58), (207, 2, 1, 94, 1463, 1464), (208, 2, 2, 94, 1467, 1468), (209, 2, 1, 94, 1471, 1472), (210, 2, 0, 94, 1475, 1476), (211, 2, 1, 94, 1480, 59), (212, 2, 1, 94, 1484, 60), (213, 0, 3, 94, 1487, 0), (214, 2, 4, 94, 1491, 61), (215, 2, 3, 94, 1495, 62), (216, 2, 4, 94, 1499, 63), (217, 2, 3, 94, 1503, 64), (218, 2, 0, 94, 1507, 65), (219, 2, 0, 94, 1511, 66), (220, 2, 0, 94, 1515, 67), (221, 2, 3, 94, 1519, 68), (222, 2, 0, 94, 1524, 69), (223, 2, 1, 94, 1527, 1528), (224, 2, 0, 94, 1531, 1532), (225, 2, 0, 94, 1536, 70), (226, 2, 3, 94, 1541, 71), (227, 2, 3, 94, 1545, 72), (228, 2, 1, 94, 1548, 1549), (229, 2, 4, 94, 1554, 73), (230, 2, 0, 94, 1557, 1558), (231, 2, 3, 94, 1562, 74), (232, 2, 2, 94, 1565, 1566), (233, 2, 2, 94, 1570, 1571), (234, 2, 5, 94, 1575, 1576), (235, 2, 1, 94, 1579, 1580), (236, 2, 1, 94, 1583, 1584), (237, 2, 1, 94, 1588, 75), (238, 2, 2, 94, 1592, 76), (239, 2, 2, 94, 1596, 77), (240, 2, 1, 94, 1599, 1600), (241, 2, 2, 94, 1603, 1604), (242, 2, 1, 94, 1608, 78), (243, 2, 1, 94, 1614, 1615), (244, 2, 0, 94, 1618, 1619)]
def z_ins : List (Nat × Nat × Nat) := [(0, 373, 89), (1, 419, 91), (2, 350, 88), (3, 312, 87), (4, 287, 86), (5, 379, 90), (6, 110, 81), (7, 261, 85), (8, 244, 84), (9, 116, 82), (10, 176, 83), (11, 102, 80), (12, 1115, 94)]
def z_ly : List (Nat × Nat × Nat) := [(0, 0, 471), (0, 1, 473), (0, 2, 475), (0, 3, 477), (0, 4, 479), (1, 0, 446), (1, 1, 448), (1, 2, 450), (1, 3, 452), (1, 4, 454), (1, 5, 456), (1, 6, 458), (1, 7, 460), (2, 0, 363), (2, 1, 365), (2, 2, 367), (2, 3, 369), (3, 0, 336), (3, 1, 338), (3, 2, 340), (3, 3, 342), (3, 4, 344), (3, 5, 346), (4, 0, 300), (4, 1, 302), (4, 2, 304), (4, 3, 306), (4, 4, 308), (5, 0, 398), (5, 1, 400), (5, 2, 402), (5, 3, 404), (5, 4, 406), (5, 5, 408), (5, 6, 410), (5, 7, 412), (5, 8, 414), (6, 0, 225), (6, 1, 227), (6, 2, 229), (6, 3, 231), (6, 4, 233), (6, 5, 235), (6, 6, 237), (6, 7, 239), (7, 0, 273), (7, 1, 275), (7, 2, 277), (7, 3, 279), (7, 4, 281), (7, 5, 283), (8, 0, 255), (8, 1, 257), (9, 0, 153), (9, 1, 155), (9, 2, 157), (9, 3, 159), (9, 4, 161), (9, 5, 163), (9, 6, 165), (9, 7, 167), (9, 8, 169), (9, 9, 171), (10, 0, 188), (10, 1, 190), (10, 2, 192), (10, 3, 194), (10, 4, 196), (10, 5, 198), (11, 0, 532), (11, 1, 534), (11, 2, 536), (11, 3, 538), (11, 4, 540), (11, 5, 542), (11, 6, 544), (11, 7, 546), (11, 8, 548), (11, 9, 550), (11, 10, 552), (11, 11, 554), (11, 12, 556), (11, 13, 558), (11, 14, 560), (11, 15, 562), (11, 16, 564), (11, 17, 566), (12, 0, 1160), (12, 1, 1162), (12, 2, 1164), (12, 3, 1166), (12, 4, 1168), (12, 5, 1170), (12, 6, 1172), (12, 7, 1174), (12, 8, 1176), (12, 9, 1178), (12, 10, 1180), (12, 11, 1182), (12, 12, 1184), (12, 13, 1186), (12, 14, 1188), (12, 15, 1190), (12, 16, 1192), (12, 17, 1194), (12, 18, 1196), (12, 19, 1198), (12, 20, 1200), (12, 21, 1202), (12, 22, 1204), (12, 23, 1206), (12, 24, 1208), (12, 25, 1210), (12, 26, 1212), (12, 27, 1214), (12, 28, 1216), (12, 29, 1218), (12, 30, 1220), (12, 31, 1222), (12, 32, 1224), (12, 33, 1226), (12, 34, 1228), (12, 35, 1230), (12, 36, 1232), (12, 37, 1234)]
/-! arrayClass int long byte boolean, arrayOver State, laysStatic COMPACT, laysStatic SIOOBE, initialized String, initialized Preconditions: [174, 463, 770, 417, 242] -/
end
section
/-! the tables' words, checked by program -/
/-- the words that stay -/
def zWS : List Jvm.Cond := lw_tbl.filter goodWord
def zw (i : Nat) (w : Jvm.Cond) : Bool := decide (lw_tbl[i]? = some w) && goodWord w
theorem zw_mem {i : Nat} {w : Jvm.Cond} (h : zw i w = true) : w ∈ zWS := by
  simp only [zw, Bool.and_eq_true, decide_eq_true_eq] at h
  exact List.mem_filter.mpr ⟨List.mem_of_getElem? h.1, h.2⟩
theorem zWS_good : GoodIn zWS zWS := fun w h => ⟨h, good_of_word (List.mem_filter.mp h).2⟩
set_option maxRecDepth 100000 in
theorem z_codes : lw_tbl.filter k2_isCode = z_ms.map (fun q => Jvm.Cond.code q.1 q.2.1 q.2.2.1 q.2.2.2) := rfl
theorem zfl_ok : z_fl.all (fun q => zw q.2.2.2.2 (.fieldLink (zCn q.1) q.2.1 (zCn q.2.2.1) (zTX q.2.2.1 q.2.2.2.1).2.1 (zTX q.2.2.1 q.2.2.2.1).2.2.1)) = true := by decide +kernel
theorem zml_ok : z_ml.all (fun q => zw q.2.2.2 (.methodLink (zCn q.1) q.2.1 (zy q.2.2.1))) = true := by decide +kernel
theorem zmn_ok : z_mn.all (fun q => decide (lw_tbl[q.2.2.2]? = some (.methodLinkNest (zCn q.1) q.2.1 (zy q.2.2.1) "TwoWayWall"))) = true := by decide +kernel
theorem zoi_ok : z_oi.all (fun q => zw q.2.2 (.methodLink (zCn q.1) q.2.1 Lib.objectInit)) = true := by decide +kernel
theorem zcp_ok : z_cp.all (fun q => zw q.2.2 (.methodLink (zCn q.1) q.2.1 ⟨"java/lang/System", "arraycopy", "(Ljava/lang/Object;ILjava/lang/Object;II)V"⟩)) = true := by decide +kernel
theorem zmm_ok : z_mm.all (fun q => zw q.2.2.2 (.methodLink (zCn q.1) q.2.1 (if q.2.2.1 = 84 then Lib.Math.max.name else if q.2.2.1 = 85 then Lib.Math.min.name else Lib.MathLoose.min_long.x)) && decide (84 ≤ q.2.2.1 ∧ q.2.2.1 ≤ 86)) = true := by decide +kernel
theorem zmath_ok : (zw 425 (.static Lib.Math.max.name) && (zw 617 (.static Lib.Math.min.name) && (zw 875 (.static Lib.MathLoose.min_long.x) && zw 92 (.initialized "java/lang/Math")))) = true := by decide +kernel
theorem zcopy_ok : (zw 632 (.static ⟨"java/lang/System", "arraycopy", "(Ljava/lang/Object;ILjava/lang/Object;II)V"⟩) && (zw 633 (.native ⟨"java/lang/System", "arraycopy", "(Ljava/lang/Object;ILjava/lang/Object;II)V"⟩) && zw 95 (.initialized "java/lang/System"))) = true := by decide +kernel
theorem zarr_ok : (zw 174 (.arrayClass .int) && (zw 463 (.arrayClass .long) && (zw 770 (.arrayClass .byte) && zw 417 (.arrayClass .boolean)))) = true := by decide +kernel
theorem zsf_ok : z_sf.all (fun q => zw q.2.2.2 (if q.2.2.1 = 0 then .fieldLink (zCn q.1) q.2.1 "java/lang/String" "value" "[B" else if q.2.2.1 = 1 then .fieldLink (zCn q.1) q.2.1 "java/lang/String" "coder" "B" else if q.2.2.1 = 2 then .fieldLink (zCn q.1) q.2.1 "java/lang/String" "COMPACT_STRINGS" "Z" else .fieldLink (zCn q.1) q.2.1 "jdk/internal/util/Preconditions" "SIOOBE_FORMATTER" "Ljava/util/function/BiFunction;")) = true := by decide +kernel
theorem zcs_ok : z_cs.all (fun q => decide (lw_tbl[q.2.2.2]? = some (.stringRef (zCn q.1) q.2.1 (["east", "west", "word", "mirror", "cost", "drop", "not"].getD q.2.2.1 "")))) = true := by decide +kernel
theorem zcl_ok : z_cl.all (fun q => zw q.2.2.2 (.classLink (zCn q.1) q.2.1 (zCn q.2.2.1))) = true := by decide +kernel
theorem zci_ok : z_ci.all (fun q => zw q.2.2.2 (.constant (zCn q.1) q.2.1 (Int32.ofInt q.2.2.1)) && decide (z32 q.2.2.1)) = true := by decide +kernel
theorem zcL_ok : z_cL.all (fun q => zw q.2.2.2 (.constantLong (zCn q.1) q.2.1 (Int64.ofInt q.2.2.1)) && decide (z64 q.2.2.1)) = true := by decide +kernel
theorem zins_ok : z_ins.all (fun q => zw q.2.1 (.instantiable (zCn q.1) (zfN q.1)) && zw q.2.2 (.initialized (zCn q.1))) = true := by decide +kernel
theorem zly_ok : z_ly.all (fun q => zw q.2.2 (u_lay (zCn q.1) (zTX q.1) q.2.1)) = true := by decide +kernel
def z_calq (q : Nat × Nat × Nat × Nat × Nat × Nat) : Bool :=
  let y := zy q.1
  zw q.2.2.2.1 (.initialized y.cls) && (decide (y.cls ≠ "java/lang/invoke/MethodHandle" ∧ y.cls ≠ "java/lang/invoke/VarHandle" ∧ (parseMethodDescriptor y.desc).map (fun d => d.parameters.length) = some q.2.2.1) && (decide (zCn (zown q.1) = y.cls) && (Jvm.plainName y.cls &&
  (if q.2.1 = 0 then zw q.2.2.2.2.1 (.static y) else if q.2.1 = 1 then zw q.2.2.2.2.1 (.instanceMethod y) && (decide (y.name = "<init>") && decide (zret q.1 = none)) else zw q.2.2.2.2.1 (.instanceMethod y) && zw q.2.2.2.2.2 (.selects y.cls y y)))))
theorem zcal_ok : z_cal.all z_calq = true := by decide +kernel
def z_isR : FieldType → Bool
  | .object _ => true
  | .array _ => true
  | _ => false
/-- is entry I of method k (of class o) what stands at pc -/
def z_cc : Jvm.ClassFile.Cond → Nat
  | .eq => 0 | .ne => 1 | .lt => 2 | .ge => 3 | .gt => 4 | .le => 5
def z_ai : ArrayType → Nat
  | .int => 0 | .long => 1 | .byte => 2 | .boolean => 3 | _ => 9
def z_vi (o k pc : Nat) (i : Instr) (n : Nat) (I : zI) : Bool :=
  let op := I.1
  let a := I.2.2.1
  let b := I.2.2.2.1
  let N := fun (m : Nat) => n == m && I.2.1 == pc + m
  match i with
  | .iconst v => op == 0 && (b == v && N 1)
  | .bipush v => op == 0 && (b == v && (decide (-128 ≤ v ∧ v ≤ 127) && N 2))
  | .sipush v => op == 0 && (b == v && (decide (-32768 ≤ v ∧ v ≤ 32767) && N 3))
  | .lconst v => op == 1 && (b == ((v : Nat) : Int) && N 1)
  | .ldc ix => ((op == 0 && z_ci.any (fun q => q.1 == o && (q.2.1 == ix && q.2.2.1 == b))) || (op == 3 && z_cs.any (fun q => q.1 == o && (q.2.1 == ix && q.2.2.1 == a)))) && N 2
  | .ldc_w ix => op == 0 && (z_ci.any (fun q => q.1 == o && (q.2.1 == ix && q.2.2.1 == b)) && N 3)
  | .ldc2_w ix => op == 1 && (z_cL.any (fun q => q.1 == o && (q.2.1 == ix && q.2.2.1 == b)) && N 3)
  | .aconst_null => op == 2 && N 1
  | .iload_n v => op == 4 && (a == (v : Nat) && N 1)
  | .iload v => op == 4 && (a == v && N 2)
  | .lload_n v => op == 5 && (a == (v : Nat) && N 1)
  | .lload v => op == 5 && (a == v && N 2)
  | .aload_n v => op == 6 && (a == (v : Nat) && N 1)
  | .aload v => op == 6 && (a == v && N 2)
  | .istore_n v => op == 7 && (a == (v : Nat) && N 1)
  | .istore v => op == 7 && (a == v && N 2)
  | .lstore_n v => op == 8 && (a == (v : Nat) && N 1)
  | .lstore v => op == 8 && (a == v && N 2)
  | .astore_n v => op == 9 && (a == (v : Nat) && N 1)
  | .astore v => op == 9 && (a == v && N 2)
  | .iinc v c => op == 10 && (a == v && (b == c && (decide (z32 c) && N 3)))
  | .iadd => op == 11 && N 1
  | .isub => op == 12 && N 1
  | .imul => op == 13 && N 1
  | .iand => op == 14 && N 1
  | .ior => op == 15 && N 1
  | .ixor => op == 16 && N 1
  | .idiv => op == 17 && N 1
  | .irem => op == 18 && N 1
  | .ineg => op == 19 && N 1
  | .ishl => op == 20 && N 1
  | .ishr => op == 21 && N 1
  | .iushr => op == 22 && N 1
  | .ladd => op == 23 && N 1
  | .lsub => op == 24 && N 1
  | .lmul => op == 25 && N 1
  | .land => op == 26 && N 1
  | .lor => op == 27 && N 1
  | .lrem => op == 28 && N 1
  | .lshl => op == 29 && N 1
  | .lshr => op == 30 && N 1
  | .lcmp => op == 31 && N 1
  | .i2l => op == 32 && N 1
  | .l2i => op == 33 && N 1
  | .i2b => op == 34 && N 1
  | .i2c => op == 35 && N 1
  | .dup => op == 36 && N 1
  | .pop => op == 37 && N 1
  | .dup2 => op == 38 && N 1
  | .ifCond c off => op == 40 + z_cc c && ((pc : Int) + off == (a : Int) && N 3)
  | .if_icmp c off => op == 46 + z_cc c && ((pc : Int) + off == (a : Int) && N 3)
  | .ifnonnull off => op == 52 && ((pc : Int) + off == (a : Int) && N 3)
  | .goto off => op == 53 && ((pc : Int) + off == (a : Int) && n == 3)
  | .tableswitch d lo hi offs => op == 54 && (b == lo && (decide (hi = lo + (offs.size : Int) - 1) && (decide (I.2.2.2.2.map (fun t => ((t : Nat) : Int)) = (d :: offs.toList).map (fun t => (pc : Int) + t)) && decide (z32 lo))))
  | .getfield ix => N 3 && (((op == 55 && (decide (zTy a b.toNat = .int ∨ zTy a b.toNat = .boolean)) || op == 56 && z_isR (zTy a b.toNat)) && (decide (0 ≤ b ∧ b < (zfN a : Int) ∧ a < 13) && z_fl.any (fun q => q.1 == o && (q.2.1 == ix && (q.2.2.1 == a && ((q.2.2.2.1 : Nat) : Int) == b))))) || ((op == 82 && z_sf.any (fun q => q.1 == o && (q.2.1 == ix && q.2.2.1 == 0))) || (op == 83 && z_sf.any (fun q => q.1 == o && (q.2.1 == ix && q.2.2.1 == 1)))))
  | .putfield ix => N 3 && ((op == 57 && decide (zTy a b.toNat = .int) || (op == 58 && decide (zTy a b.toNat = .boolean) || op == 59 && z_isR (zTy a b.toNat))) && (decide (0 ≤ b ∧ b < (zfN a : Int) ∧ a < 13) && (z_fl.any (fun q => q.1 == o && (q.2.1 == ix && (q.2.2.1 == a && ((q.2.2.2.1 : Nat) : Int) == b))) && (!(zTX a b.toNat).2.2.2 || (decide ((zy k).name = "<init>") && decide ((zTX a b.toNat).1 = zCn o))))))
  | .getstatic ix => N 3 && ((op == 80 && (z_sf.any (fun q => q.1 == o && (q.2.1 == ix && q.2.2.1 == 2)))) || (op == 81 && z_sf.any (fun q => q.1 == o && (q.2.1 == ix && q.2.2.1 == 3))))
  | .iaload => op == 60 && N 1
  | .laload => op == 61 && N 1
  | .baload => op == 62 && N 1
  | .aaload => op == 63 && N 1
  | .iastore => op == 64 && N 1
  | .lastore => op == 65 && N 1
  | .bastore => op == 66 && N 1
  | .aastore => op == 67 && N 1
  | .arraylength => op == 68 && N 1
  | .new ix => op == 69 && (N 3 && z_cl.any (fun q => q.1 == o && (q.2.1 == ix && q.2.2.1 == a)))
  | .newarray t => op == 70 && (N 2 && (a == z_ai t && decide (a < 4)))
  | .anewarray ix => op == 71 && (N 3 && z_cl.any (fun q => q.1 == o && (q.2.1 == ix && q.2.2.1 == 6)))
  | .ireturn => op == 72 && (n == 1 && ((a == 0 && decide (zret k = some .int)) || ((a == 3 && decide (zret k = some .boolean)) || ((a == 4 && decide (zret k = some .byte)) || (a == 5 && decide (zret k = some .char))))))
  | .lreturn => op == 72 && (n == 1 && (a == 1 && decide (zret k = some .long)))
  | .areturn => op == 72 && (n == 1 && (a == 2 && (zret k).any z_isR))
  | .return_ => op == 73 && (n == 1 && decide (zret k = none))
  | .invokestatic ix => N 3 && ((op == 74 && (z_cal.any (fun q => q.1 == a && (q.2.1 == 0 && ((q.2.2.1 : Nat) : Int) == b)) && (z_ml.any (fun q => q.1 == o && (q.2.1 == ix && q.2.2.1 == a)) || z_mn.any (fun q => q.1 == o && (q.2.1 == ix && q.2.2.1 == a))))) || ((op == 79 && z_cp.any (fun q => q.1 == o && q.2.1 == ix)) || (decide (84 ≤ op ∧ op ≤ 86) && z_mm.any (fun q => q.1 == o && (q.2.1 == ix && q.2.2.1 == op)))))
  | .invokespecial ix => N 3 && ((op == 75 && (z_cal.any (fun q => q.1 == a && (q.2.1 == 1 && ((q.2.2.1 : Nat) : Int) + 1 == b)) && (z_ml.any (fun q => q.1 == o && (q.2.1 == ix && q.2.2.1 == a)) || z_mn.any (fun q => q.1 == o && (q.2.1 == ix && q.2.2.1 == a))))) || (op == 78 && z_oi.any (fun q => q.1 == o && q.2.1 == ix)))
  | .invokevirtual ix => N 3 && (z_cal.any (fun q => q.1 == a && (q.2.1 == 2 && ((q.2.2.1 : Nat) : Int) + 1 == b)) && (z_ml.any (fun q => q.1 == o && (q.2.1 == ix && q.2.2.1 == a)) && ((op == 76 && (decide (I.2.2.2.2 = [zown a]) && decide (zown a < 13))) || (op == 77 && zown a == 16))))
  | _ => false
def z_vl (k : Nat) (q : Nat × zI) : Bool := match decode (zby k) q.1 with
  | .ok (i, n) => z_vi (zown k) k q.1 i n q.2
  | _ => false
end
section
/-! printed by emit_vld.py: the AM code of methods 1 .. 62 is what the bytes say -/
theorem zvl1 : zcd1.all (z_vl 1) = true := by decide +kernel
theorem zvl2 : zcd2.all (z_vl 2) = true := rfl
theorem zvl3 : zcd3.all (z_vl 3) = true := by decide +kernel
theorem zvl4 : zcd4.all (z_vl 4) = true := by decide +kernel
theorem zvl5 : zcd5.all (z_vl 5) = true := by decide +kernel
theorem zvl6 : zcd6.all (z_vl 6) = true := by decide +kernel
theorem zvl7 : zcd7.all (z_vl 7) = true := by decide +kernel
theorem zvl8 : zcd8.all (z_vl 8) = true := by decide +kernel
theorem zvl9 : zcd9.all (z_vl 9) = true := by decide +kernel
theorem zvl10 : zcd10.all (z_vl 10) = true := by decide +kernel
theorem zvl11 : zcd11.all (z_vl 11) = true := by decide +kernel
theorem zvl12 : zcd12.all (z_vl 12) = true := by decide +kernel
theorem zvl13 : zcd13.all (z_vl 13) = true := by decide +kernel
theorem zvl14 : zcd14.all (z_vl 14) = true := rfl
theorem zvl15 : zcd15.all (z_vl 15) = true := by decide +kernel
theorem zvl16 : zcd16.all (z_vl 16) = true := by decide +kernel
theorem zvl17 : zcd17.all (z_vl 17) = true := by decide +kernel
theorem zvl18 : zcd18.all (z_vl 18) = true := by decide +kernel
theorem zvl19 : zcd19.all (z_vl 19) = true := by decide +kernel
theorem zvl20 : zcd20.all (z_vl 20) = true := by decide +kernel
theorem zvl21 : zcd21.all (z_vl 21) = true := by decide +kernel
theorem zvl22 : zcd22.all (z_vl 22) = true := by decide +kernel
theorem zvl23 : zcd23.all (z_vl 23) = true := by decide +kernel
theorem zvl24 : zcd24.all (z_vl 24) = true := by decide +kernel
theorem zvl25 : zcd25.all (z_vl 25) = true := by decide +kernel
theorem zvl26 : zcd26.all (z_vl 26) = true := by decide +kernel
theorem zvl27 : zcd27.all (z_vl 27) = true := by decide +kernel
theorem zvl28 : zcd28.all (z_vl 28) = true := by decide +kernel
theorem zvl29 : zcd29.all (z_vl 29) = true := by decide +kernel
theorem zvl30 : zcd30.all (z_vl 30) = true := by decide +kernel
theorem zvl31 : zcd31.all (z_vl 31) = true := by decide +kernel
theorem zvl32 : zcd32.all (z_vl 32) = true := by decide +kernel
theorem zvl33 : zcd33.all (z_vl 33) = true := by decide +kernel
theorem zvl34 : zcd34.all (z_vl 34) = true := by decide +kernel
theorem zvl35 : zcd35.all (z_vl 35) = true := rfl
theorem zvl36 : zcd36.all (z_vl 36) = true := by decide +kernel
theorem zvl37 : zcd37.all (z_vl 37) = true := by decide +kernel
theorem zvl38 : zcd38.all (z_vl 38) = true := by decide +kernel
theorem zvl39 : zcd39.all (z_vl 39) = true := by decide +kernel
theorem zvl40 : zcd40.all (z_vl 40) = true := by decide +kernel
theorem zvl41 : zcd41.all (z_vl 41) = true := by decide +kernel
theorem zvl42 : zcd42.all (z_vl 42) = true := by decide +kernel
theorem zvl43 : zcd43.all (z_vl 43) = true := by decide +kernel
theorem zvl44 : zcd44.all (z_vl 44) = true := by decide +kernel
theorem zvl45 : zcd45.all (z_vl 45) = true := by decide +kernel
theorem zvl46 : zcd46.all (z_vl 46) = true := by decide +kernel
theorem zvl47 : zcd47.all (z_vl 47) = true := by decide +kernel
theorem zvl48 : zcd48.all (z_vl 48) = true := by decide +kernel
theorem zvl49 : zcd49.all (z_vl 49) = true := by decide +kernel
theorem zvl50 : zcd50.all (z_vl 50) = true := by decide +kernel
theorem zvl51 : zcd51.all (z_vl 51) = true := by decide +kernel
theorem zvl52 : zcd52.all (z_vl 52) = true := by decide +kernel
theorem zvl53 : zcd53.all (z_vl 53) = true := by decide +kernel
theorem zvl54 : zcd54.all (z_vl 54) = true := rfl
theorem zvl55 : zcd55.all (z_vl 55) = true := rfl
theorem zvl56 : zcd56.all (z_vl 56) = true := rfl
theorem zvl57 : zcd57.all (z_vl 57) = true := rfl
theorem zvl58 : zcd58.all (z_vl 58) = true := by decide +kernel
theorem zvl59 : zcd59.all (z_vl 59) = true := by decide +kernel
theorem zvl60 : zcd60.all (z_vl 60) = true := by decide +kernel
theorem zvl61 : zcd61.all (z_vl 61) = true := by decide +kernel
theorem zvl62 : zcd62.all (z_vl 62) = true := by decide +kernel
end
section
/-! printed by emit_vld.py: the AM code of methods 63 .. 124 is what the bytes say -/
theorem zvl63 : zcd63.all (z_vl 63) = true := by decide +kernel
theorem zvl64 : zcd64.all (z_vl 64) = true := by decide +kernel
theorem zvl65 : zcd65.all (z_vl 65) = true := by decide +kernel
theorem zvl66 : zcd66.all (z_vl 66) = true := by decide +kernel
theorem zvl67 : zcd67.all (z_vl 67) = true := by decide +kernel
theorem zvl68 : zcd68.all (z_vl 68) = true := by decide +kernel
theorem zvl69 : zcd69.all (z_vl 69) = true := by decide +kernel
theorem zvl70 : zcd70.all (z_vl 70) = true := by decide +kernel
theorem zvl71 : zcd71.all (z_vl 71) = true := by decide +kernel
theorem zvl72 : zcd72.all (z_vl 72) = true := by decide +kernel
theorem zvl73 : zcd73.all (z_vl 73) = true := by decide +kernel
theorem zvl74 : zcd74.all (z_vl 74) = true := by decide +kernel
theorem zvl75 : zcd75.all (z_vl 75) = true := by decide +kernel
theorem zvl76 : zcd76.all (z_vl 76) = true := by decide +kernel
theorem zvl77 : zcd77.all (z_vl 77) = true := by decide +kernel
theorem zvl78 : zcd78.all (z_vl 78) = true := by decide +kernel
theorem zvl79 : zcd79.all (z_vl 79) = true := by decide +kernel
theorem zvl80 : zcd80.all (z_vl 80) = true := by decide +kernel
theorem zvl81 : zcd81.all (z_vl 81) = true := by decide +kernel
theorem zvl82 : zcd82.all (z_vl 82) = true := by decide +kernel
theorem zvl83 : zcd83.all (z_vl 83) = true := by decide +kernel
theorem zvl84 : zcd84.all (z_vl 84) = true := by decide +kernel
theorem zvl85 : zcd85.all (z_vl 85) = true := by decide +kernel
theorem zvl86 : zcd86.all (z_vl 86) = true := by decide +kernel
theorem zvl87 : zcd87.all (z_vl 87) = true := by decide +kernel
theorem zvl88 : zcd88.all (z_vl 88) = true := by decide +kernel
theorem zvl89 : zcd89.all (z_vl 89) = true := by decide +kernel
theorem zvl90 : zcd90.all (z_vl 90) = true := by decide +kernel
theorem zvl91 : zcd91.all (z_vl 91) = true := by decide +kernel
theorem zvl92 : zcd92.all (z_vl 92) = true := by decide +kernel
theorem zvl93 : zcd93.all (z_vl 93) = true := by decide +kernel
theorem zvl94 : zcd94.all (z_vl 94) = true := by decide +kernel
theorem zvl95 : zcd95.all (z_vl 95) = true := by decide +kernel
theorem zvl96 : zcd96.all (z_vl 96) = true := rfl
theorem zvl97 : zcd97.all (z_vl 97) = true := by decide +kernel
theorem zvl98 : zcd98.all (z_vl 98) = true := by decide +kernel
theorem zvl99 : zcd99.all (z_vl 99) = true := by decide +kernel
theorem zvl100 : zcd100.all (z_vl 100) = true := by decide +kernel
theorem zvl101 : zcd101.all (z_vl 101) = true := by decide +kernel
theorem zvl102 : zcd102.all (z_vl 102) = true := by decide +kernel
theorem zvl103 : zcd103.all (z_vl 103) = true := by decide +kernel
theorem zvl104 : zcd104.all (z_vl 104) = true := by decide +kernel
theorem zvl105 : zcd105.all (z_vl 105) = true := by decide +kernel
theorem zvl106 : zcd106.all (z_vl 106) = true := by decide +kernel
theorem zvl107 : zcd107.all (z_vl 107) = true := by decide +kernel
theorem zvl108 : zcd108.all (z_vl 108) = true := by decide +kernel
theorem zvl109 : zcd109.all (z_vl 109) = true := by decide +kernel
theorem zvl110 : zcd110.all (z_vl 110) = true := by decide +kernel
theorem zvl111 : zcd111.all (z_vl 111) = true := by decide +kernel
theorem zvl112 : zcd112.all (z_vl 112) = true := by decide +kernel
theorem zvl113 : zcd113.all (z_vl 113) = true := by decide +kernel
theorem zvl114 : zcd114.all (z_vl 114) = true := by decide +kernel
theorem zvl115 : zcd115.all (z_vl 115) = true := by decide +kernel
theorem zvl116 : zcd116.all (z_vl 116) = true := by decide +kernel
theorem zvl117 : zcd117.all (z_vl 117) = true := by decide +kernel
theorem zvl118 : zcd118.all (z_vl 118) = true := by decide +kernel
theorem zvl119 : zcd119.all (z_vl 119) = true := by decide +kernel
theorem zvl120 : zcd120.all (z_vl 120) = true := by decide +kernel
theorem zvl121 : zcd121.all (z_vl 121) = true := by decide +kernel
theorem zvl122 : zcd122.all (z_vl 122) = true := by decide +kernel
theorem zvl123 : zcd123.all (z_vl 123) = true := by decide +kernel
theorem zvl124 : zcd124.all (z_vl 124) = true := by decide +kernel
end
section
/-! printed by emit_vld.py: the AM code of methods 125 .. 186 is what the bytes say -/
theorem zvl125 : zcd125.all (z_vl 125) = true := by decide +kernel
theorem zvl126 : zcd126.all (z_vl 126) = true := by decide +kernel
theorem zvl127 : zcd127.all (z_vl 127) = true := by decide +kernel
theorem zvl128 : zcd128.all (z_vl 128) = true := by decide +kernel
theorem zvl129 : zcd129.all (z_vl 129) = true := by decide +kernel
theorem zvl130 : zcd130.all (z_vl 130) = true := by decide +kernel
theorem zvl131 : zcd131.all (z_vl 131) = true := by decide +kernel
theorem zvl132 : zcd132.all (z_vl 132) = true := by decide +kernel
theorem zvl133 : zcd133.all (z_vl 133) = true := by decide +kernel
theorem zvl134 : zcd134.all (z_vl 134) = true := by decide +kernel
theorem zvl135 : zcd135.all (z_vl 135) = true := by decide +kernel
theorem zvl136 : zcd136.all (z_vl 136) = true := by decide +kernel
theorem zvl137 : zcd137.all (z_vl 137) = true := by decide +kernel
theorem zvl138 : zcd138.all (z_vl 138) = true := by decide +kernel
theorem zvl139 : zcd139.all (z_vl 139) = true := by decide +kernel
theorem zvl140 : zcd140.all (z_vl 140) = true := by decide +kernel
theorem zvl141 : zcd141.all (z_vl 141) = true := by decide +kernel
theorem zvl142 : zcd142.all (z_vl 142) = true := by decide +kernel
theorem zvl143 : zcd143.all (z_vl 143) = true := by decide +kernel
theorem zvl144 : zcd144.all (z_vl 144) = true := by decide +kernel
theorem zvl145 : zcd145.all (z_vl 145) = true := by decide +kernel
theorem zvl146 : zcd146.all (z_vl 146) = true := by decide +kernel
theorem zvl147 : zcd147.all (z_vl 147) = true := by decide +kernel
theorem zvl148 : zcd148.all (z_vl 148) = true := by decide +kernel
theorem zvl149 : zcd149.all (z_vl 149) = true := by decide +kernel
theorem zvl150 : zcd150.all (z_vl 150) = true := by decide +kernel
theorem zvl151 : zcd151.all (z_vl 151) = true := by decide +kernel
theorem zvl152 : zcd152.all (z_vl 152) = true := by decide +kernel
theorem zvl153 : zcd153.all (z_vl 153) = true := by decide +kernel
theorem zvl154 : zcd154.all (z_vl 154) = true := by decide +kernel
theorem zvl155 : zcd155.all (z_vl 155) = true := by decide +kernel
theorem zvl156 : zcd156.all (z_vl 156) = true := by decide +kernel
theorem zvl157 : zcd157.all (z_vl 157) = true := by decide +kernel
theorem zvl158 : zcd158.all (z_vl 158) = true := by decide +kernel
theorem zvl159 : zcd159.all (z_vl 159) = true := by decide +kernel
theorem zvl160 : zcd160.all (z_vl 160) = true := by decide +kernel
theorem zvl161 : zcd161.all (z_vl 161) = true := by decide +kernel
theorem zvl162 : zcd162.all (z_vl 162) = true := by decide +kernel
theorem zvl163 : zcd163.all (z_vl 163) = true := by decide +kernel
theorem zvl164 : zcd164.all (z_vl 164) = true := by decide +kernel
theorem zvl165 : zcd165.all (z_vl 165) = true := by decide +kernel
theorem zvl166 : zcd166.all (z_vl 166) = true := by decide +kernel
theorem zvl167 : zcd167.all (z_vl 167) = true := by decide +kernel
theorem zvl168 : zcd168.all (z_vl 168) = true := by decide +kernel
theorem zvl169 : zcd169.all (z_vl 169) = true := by decide +kernel
theorem zvl170 : zcd170.all (z_vl 170) = true := by decide +kernel
theorem zvl171 : zcd171.all (z_vl 171) = true := by decide +kernel
theorem zvl172 : zcd172.all (z_vl 172) = true := by decide +kernel
theorem zvl173 : zcd173.all (z_vl 173) = true := by decide +kernel
theorem zvl174 : zcd174.all (z_vl 174) = true := by decide +kernel
theorem zvl175 : zcd175.all (z_vl 175) = true := by decide +kernel
theorem zvl176 : zcd176.all (z_vl 176) = true := by decide +kernel
theorem zvl177 : zcd177.all (z_vl 177) = true := by decide +kernel
theorem zvl178 : zcd178.all (z_vl 178) = true := by decide +kernel
theorem zvl179 : zcd179.all (z_vl 179) = true := by decide +kernel
theorem zvl180 : zcd180.all (z_vl 180) = true := by decide +kernel
theorem zvl181 : zcd181.all (z_vl 181) = true := by decide +kernel
theorem zvl182 : zcd182.all (z_vl 182) = true := by decide +kernel
theorem zvl183 : zcd183.all (z_vl 183) = true := by decide +kernel
theorem zvl184 : zcd184.all (z_vl 184) = true := by decide +kernel
theorem zvl185 : zcd185.all (z_vl 185) = true := by decide +kernel
theorem zvl186 : zcd186.all (z_vl 186) = true := by decide +kernel
end
section
/-! printed by emit_vld.py: the AM code of methods 187 .. 244 is what the bytes say -/
theorem zvl187 : zcd187.all (z_vl 187) = true := by decide +kernel
theorem zvl188 : zcd188.all (z_vl 188) = true := by decide +kernel
theorem zvl189 : zcd189.all (z_vl 189) = true := by decide +kernel
theorem zvl190 : zcd190.all (z_vl 190) = true := by decide +kernel
theorem zvl191 : zcd191.all (z_vl 191) = true := by decide +kernel
theorem zvl192 : zcd192.all (z_vl 192) = true := by decide +kernel
theorem zvl193 : zcd193.all (z_vl 193) = true := by decide +kernel
theorem zvl194 : zcd194.all (z_vl 194) = true := by decide +kernel
theorem zvl195 : zcd195.all (z_vl 195) = true := by decide +kernel
theorem zvl196 : zcd196.all (z_vl 196) = true := by decide +kernel
theorem zvl197 : zcd197.all (z_vl 197) = true := by decide +kernel
theorem zvl198 : zcd198.all (z_vl 198) = true := by decide +kernel
theorem zvl199 : zcd199.all (z_vl 199) = true := by decide +kernel
theorem zvl200 : zcd200.all (z_vl 200) = true := by decide +kernel
theorem zvl201 : zcd201.all (z_vl 201) = true := by decide +kernel
theorem zvl202 : zcd202.all (z_vl 202) = true := by decide +kernel
theorem zvl203 : zcd203.all (z_vl 203) = true := by decide +kernel
theorem zvl204 : zcd204.all (z_vl 204) = true := by decide +kernel
theorem zvl205 : zcd205.all (z_vl 205) = true := by decide +kernel
theorem zvl206 : zcd206.all (z_vl 206) = true := by decide +kernel
theorem zvl207 : zcd207.all (z_vl 207) = true := by decide +kernel
theorem zvl208 : zcd208.all (z_vl 208) = true := by decide +kernel
theorem zvl209 : zcd209.all (z_vl 209) = true := by decide +kernel
theorem zvl210 : zcd210.all (z_vl 210) = true := by decide +kernel
theorem zvl211 : zcd211.all (z_vl 211) = true := by decide +kernel
theorem zvl212 : zcd212.all (z_vl 212) = true := by decide +kernel
theorem zvl213 : zcd213.all (z_vl 213) = true := by decide +kernel
theorem zvl214 : zcd214.all (z_vl 214) = true := by decide +kernel
theorem zvl215 : zcd215.all (z_vl 215) = true := by decide +kernel
theorem zvl216 : zcd216.all (z_vl 216) = true := by decide +kernel
theorem zvl217 : zcd217.all (z_vl 217) = true := by decide +kernel
theorem zvl218 : zcd218.all (z_vl 218) = true := by decide +kernel
theorem zvl219 : zcd219.all (z_vl 219) = true := by decide +kernel
theorem zvl220 : zcd220.all (z_vl 220) = true := by decide +kernel
theorem zvl221 : zcd221.all (z_vl 221) = true := by decide +kernel
theorem zvl222 : zcd222.all (z_vl 222) = true := by decide +kernel
theorem zvl223 : zcd223.all (z_vl 223) = true := by decide +kernel
theorem zvl224 : zcd224.all (z_vl 224) = true := by decide +kernel
theorem zvl225 : zcd225.all (z_vl 225) = true := by decide +kernel
theorem zvl226 : zcd226.all (z_vl 226) = true := by decide +kernel
theorem zvl227 : zcd227.all (z_vl 227) = true := by decide +kernel
theorem zvl228 : zcd228.all (z_vl 228) = true := by decide +kernel
theorem zvl229 : zcd229.all (z_vl 229) = true := by decide +kernel
theorem zvl230 : zcd230.all (z_vl 230) = true := by decide +kernel
theorem zvl231 : zcd231.all (z_vl 231) = true := by decide +kernel
theorem zvl232 : zcd232.all (z_vl 232) = true := by decide +kernel
theorem zvl233 : zcd233.all (z_vl 233) = true := by decide +kernel
theorem zvl234 : zcd234.all (z_vl 234) = true := by decide +kernel
theorem zvl235 : zcd235.all (z_vl 235) = true := by decide +kernel
theorem zvl236 : zcd236.all (z_vl 236) = true := by decide +kernel
theorem zvl237 : zcd237.all (z_vl 237) = true := by decide +kernel
theorem zvl238 : zcd238.all (z_vl 238) = true := by decide +kernel
theorem zvl239 : zcd239.all (z_vl 239) = true := by decide +kernel
theorem zvl240 : zcd240.all (z_vl 240) = true := by decide +kernel
theorem zvl241 : zcd241.all (z_vl 241) = true := by decide +kernel
theorem zvl242 : zcd242.all (z_vl 242) = true := by decide +kernel
theorem zvl243 : zcd243.all (z_vl 243) = true := by decide +kernel
theorem zvl244 : zcd244.all (z_vl 244) = true := by decide +kernel
end
section
/-! the law's code -/
theorem zvl0_0 : ((zcd0.drop 0).take 120).all (z_vl 0) = true := by decide +kernel
theorem zvl0_120 : ((zcd0.drop 120).take 120).all (z_vl 0) = true := by decide +kernel
theorem zvl0_240 : ((zcd0.drop 240).take 120).all (z_vl 0) = true := by decide +kernel
theorem zvl0_360 : ((zcd0.drop 360).take 120).all (z_vl 0) = true := by decide +kernel
theorem zvl0_480 : ((zcd0.drop 480).take 120).all (z_vl 0) = true := by decide +kernel
theorem zvl0_600 : ((zcd0.drop 600).take 120).all (z_vl 0) = true := by decide +kernel
theorem zvl0_720 : ((zcd0.drop 720).take 120).all (z_vl 0) = true := by decide +kernel
theorem zvl0_840 : ((zcd0.drop 840).take 120).all (z_vl 0) = true := by decide +kernel
theorem zcut {α : Type} (p : α → Bool) (n : Nat) (L : List α) (h1 : (L.take n).all p = true) (h2 : (L.drop n).all p = true) : L.all p = true := by
  rw [← List.take_append_drop n L, List.all_append, h1, h2]; rfl
theorem zvq840 : (zcd0.drop 840).all (z_vl 0) = true := by
  have h := zvl0_840
  rwa [List.take_of_length_le (by decide +kernel)] at h
theorem zvq720 : (zcd0.drop 720).all (z_vl 0) = true := zcut _ 120 _ zvl0_720 (by rw [List.drop_drop]; exact zvq840)
theorem zvq600 : (zcd0.drop 600).all (z_vl 0) = true := zcut _ 120 _ zvl0_600 (by rw [List.drop_drop]; exact zvq720)
theorem zvq480 : (zcd0.drop 480).all (z_vl 0) = true := zcut _ 120 _ zvl0_480 (by rw [List.drop_drop]; exact zvq600)
theorem zvq360 : (zcd0.drop 360).all (z_vl 0) = true := zcut _ 120 _ zvl0_360 (by rw [List.drop_drop]; exact zvq480)
theorem zvq240 : (zcd0.drop 240).all (z_vl 0) = true := zcut _ 120 _ zvl0_240 (by rw [List.drop_drop]; exact zvq360)
theorem zvq120 : (zcd0.drop 120).all (z_vl 0) = true := zcut _ 120 _ zvl0_120 (by rw [List.drop_drop]; exact zvq240)
theorem zvq0 : (zcd0.drop 0).all (z_vl 0) = true := zcut _ 120 _ zvl0_0 (by rw [List.drop_drop]; exact zvq120)
theorem zvl0 : zcd0.all (z_vl 0) = true := zvq0
end
section
/-! all of them -/
def z_V (k : Nat) : Prop := (z_cds.getD k []).all (z_vl k) = true
theorem zV_0 : ∀ k, 0 ≤ k → k < 25 → z_V k := by
  intro k h1 h2
  match k, h1, h2 with
  | 0, _, _ => exact zvl0
  | 1, _, _ => exact zvl1
  | 2, _, _ => exact zvl2
  | 3, _, _ => exact zvl3
  | 4, _, _ => exact zvl4
  | 5, _, _ => exact zvl5
  | 6, _, _ => exact zvl6
  | 7, _, _ => exact zvl7
  | 8, _, _ => exact zvl8
  | 9, _, _ => exact zvl9
  | 10, _, _ => exact zvl10
  | 11, _, _ => exact zvl11
  | 12, _, _ => exact zvl12
  | 13, _, _ => exact zvl13
  | 14, _, _ => exact zvl14
  | 15, _, _ => exact zvl15
  | 16, _, _ => exact zvl16
  | 17, _, _ => exact zvl17
  | 18, _, _ => exact zvl18
  | 19, _, _ => exact zvl19
  | 20, _, _ => exact zvl20
  | 21, _, _ => exact zvl21
  | 22, _, _ => exact zvl22
  | 23, _, _ => exact zvl23
  | 24, _, _ => exact zvl24
  | k + 25, _, h2 => exact absurd h2 (by omega)
theorem zV_25 : ∀ k, k < 25 → z_V (k + 25) := by
  intro k h2
  match k, h2 with
  | 0, _ => exact zvl25
  | 1, _ => exact zvl26
  | 2, _ => exact zvl27
  | 3, _ => exact zvl28
  | 4, _ => exact zvl29
  | 5, _ => exact zvl30
  | 6, _ => exact zvl31
  | 7, _ => exact zvl32
  | 8, _ => exact zvl33
  | 9, _ => exact zvl34
  | 10, _ => exact zvl35
  | 11, _ => exact zvl36
  | 12, _ => exact zvl37
  | 13, _ => exact zvl38
  | 14, _ => exact zvl39
  | 15, _ => exact zvl40
  | 16, _ => exact zvl41
  | 17, _ => exact zvl42
  | 18, _ => exact zvl43
  | 19, _ => exact zvl44
  | 20, _ => exact zvl45
  | 21, _ => exact zvl46
  | 22, _ => exact zvl47
  | 23, _ => exact zvl48
  | 24, _ => exact zvl49
  | k + 25, h2 => exact absurd h2 (by omega)
theorem zV_50 : ∀ k, k < 25 → z_V (k + 50) := by
  intro k h2
  match k, h2 with
  | 0, _ => exact zvl50
  | 1, _ => exact zvl51
  | 2, _ => exact zvl52
  | 3, _ => exact zvl53
  | 4, _ => exact zvl54
  | 5, _ => exact zvl55
  | 6, _ => exact zvl56
  | 7, _ => exact zvl57
  | 8, _ => exact zvl58
  | 9, _ => exact zvl59
  | 10, _ => exact zvl60
  | 11, _ => exact zvl61
  | 12, _ => exact zvl62
  | 13, _ => exact zvl63
  | 14, _ => exact zvl64
  | 15, _ => exact zvl65
  | 16, _ => exact zvl66
  | 17, _ => exact zvl67
  | 18, _ => exact zvl68
  | 19, _ => exact zvl69
  | 20, _ => exact zvl70
  | 21, _ => exact zvl71
  | 22, _ => exact zvl72
  | 23, _ => exact zvl73
  | 24, _ => exact zvl74
  | k + 25, h2 => exact absurd h2 (by omega)
theorem zV_75 : ∀ k, k < 25 → z_V (k + 75) := by
  intro k h2
  match k, h2 with
  | 0, _ => exact zvl75
  | 1, _ => exact zvl76
  | 2, _ => exact zvl77
  | 3, _ => exact zvl78
  | 4, _ => exact zvl79
  | 5, _ => exact zvl80
  | 6, _ => exact zvl81
  | 7, _ => exact zvl82
  | 8, _ => exact zvl83
  | 9, _ => exact zvl84
  | 10, _ => exact zvl85
  | 11, _ => exact zvl86
  | 12, _ => exact zvl87
  | 13, _ => exact zvl88
  | 14, _ => exact zvl89
  | 15, _ => exact zvl90
  | 16, _ => exact zvl91
  | 17, _ => exact zvl92
  | 18, _ => exact zvl93
  | 19, _ => exact zvl94
  | 20, _ => exact zvl95
  | 21, _ => exact zvl96
  | 22, _ => exact zvl97
  | 23, _ => exact zvl98
  | 24, _ => exact zvl99
  | k + 25, h2 => exact absurd h2 (by omega)
theorem zV_100 : ∀ k, k < 25 → z_V (k + 100) := by
  intro k h2
  match k, h2 with
  | 0, _ => exact zvl100
  | 1, _ => exact zvl101
  | 2, _ => exact zvl102
  | 3, _ => exact zvl103
  | 4, _ => exact zvl104
  | 5, _ => exact zvl105
  | 6, _ => exact zvl106
  | 7, _ => exact zvl107
  | 8, _ => exact zvl108
  | 9, _ => exact zvl109
  | 10, _ => exact zvl110
  | 11, _ => exact zvl111
  | 12, _ => exact zvl112
  | 13, _ => exact zvl113
  | 14, _ => exact zvl114
  | 15, _ => exact zvl115
  | 16, _ => exact zvl116
  | 17, _ => exact zvl117
  | 18, _ => exact zvl118
  | 19, _ => exact zvl119
  | 20, _ => exact zvl120
  | 21, _ => exact zvl121
  | 22, _ => exact zvl122
  | 23, _ => exact zvl123
  | 24, _ => exact zvl124
  | k + 25, h2 => exact absurd h2 (by omega)
theorem zV_125 : ∀ k, k < 25 → z_V (k + 125) := by
  intro k h2
  match k, h2 with
  | 0, _ => exact zvl125
  | 1, _ => exact zvl126
  | 2, _ => exact zvl127
  | 3, _ => exact zvl128
  | 4, _ => exact zvl129
  | 5, _ => exact zvl130
  | 6, _ => exact zvl131
  | 7, _ => exact zvl132
  | 8, _ => exact zvl133
  | 9, _ => exact zvl134
  | 10, _ => exact zvl135
  | 11, _ => exact zvl136
  | 12, _ => exact zvl137
  | 13, _ => exact zvl138
  | 14, _ => exact zvl139
  | 15, _ => exact zvl140
  | 16, _ => exact zvl141
  | 17, _ => exact zvl142
  | 18, _ => exact zvl143
  | 19, _ => exact zvl144
  | 20, _ => exact zvl145
  | 21, _ => exact zvl146
  | 22, _ => exact zvl147
  | 23, _ => exact zvl148
  | 24, _ => exact zvl149
  | k + 25, h2 => exact absurd h2 (by omega)
theorem zV_150 : ∀ k, k < 25 → z_V (k + 150) := by
  intro k h2
  match k, h2 with
  | 0, _ => exact zvl150
  | 1, _ => exact zvl151
  | 2, _ => exact zvl152
  | 3, _ => exact zvl153
  | 4, _ => exact zvl154
  | 5, _ => exact zvl155
  | 6, _ => exact zvl156
  | 7, _ => exact zvl157
  | 8, _ => exact zvl158
  | 9, _ => exact zvl159
  | 10, _ => exact zvl160
  | 11, _ => exact zvl161
  | 12, _ => exact zvl162
  | 13, _ => exact zvl163
  | 14, _ => exact zvl164
  | 15, _ => exact zvl165
  | 16, _ => exact zvl166
  | 17, _ => exact zvl167
  | 18, _ => exact zvl168
  | 19, _ => exact zvl169
  | 20, _ => exact zvl170
  | 21, _ => exact zvl171
  | 22, _ => exact zvl172
  | 23, _ => exact zvl173
  | 24, _ => exact zvl174
  | k + 25, h2 => exact absurd h2 (by omega)
theorem zV_175 : ∀ k, k < 25 → z_V (k + 175) := by
  intro k h2
  match k, h2 with
  | 0, _ => exact zvl175
  | 1, _ => exact zvl176
  | 2, _ => exact zvl177
  | 3, _ => exact zvl178
  | 4, _ => exact zvl179
  | 5, _ => exact zvl180
  | 6, _ => exact zvl181
  | 7, _ => exact zvl182
  | 8, _ => exact zvl183
  | 9, _ => exact zvl184
  | 10, _ => exact zvl185
  | 11, _ => exact zvl186
  | 12, _ => exact zvl187
  | 13, _ => exact zvl188
  | 14, _ => exact zvl189
  | 15, _ => exact zvl190
  | 16, _ => exact zvl191
  | 17, _ => exact zvl192
  | 18, _ => exact zvl193
  | 19, _ => exact zvl194
  | 20, _ => exact zvl195
  | 21, _ => exact zvl196
  | 22, _ => exact zvl197
  | 23, _ => exact zvl198
  | 24, _ => exact zvl199
  | k + 25, h2 => exact absurd h2 (by omega)
theorem zV_200 : ∀ k, k < 25 → z_V (k + 200) := by
  intro k h2
  match k, h2 with
  | 0, _ => exact zvl200
  | 1, _ => exact zvl201
  | 2, _ => exact zvl202
  | 3, _ => exact zvl203
  | 4, _ => exact zvl204
  | 5, _ => exact zvl205
  | 6, _ => exact zvl206
  | 7, _ => exact zvl207
  | 8, _ => exact zvl208
  | 9, _ => exact zvl209
  | 10, _ => exact zvl210
  | 11, _ => exact zvl211
  | 12, _ => exact zvl212
  | 13, _ => exact zvl213
  | 14, _ => exact zvl214
  | 15, _ => exact zvl215
  | 16, _ => exact zvl216
  | 17, _ => exact zvl217
  | 18, _ => exact zvl218
  | 19, _ => exact zvl219
  | 20, _ => exact zvl220
  | 21, _ => exact zvl221
  | 22, _ => exact zvl222
  | 23, _ => exact zvl223
  | 24, _ => exact zvl224
  | k + 25, h2 => exact absurd h2 (by omega)
theorem zV_225 : ∀ k, k < 20 → z_V (k + 225) := by
  intro k h2
  match k, h2 with
  | 0, _ => exact zvl225
  | 1, _ => exact zvl226
  | 2, _ => exact zvl227
  | 3, _ => exact zvl228
  | 4, _ => exact zvl229
  | 5, _ => exact zvl230
  | 6, _ => exact zvl231
  | 7, _ => exact zvl232
  | 8, _ => exact zvl233
  | 9, _ => exact zvl234
  | 10, _ => exact zvl235
  | 11, _ => exact zvl236
  | 12, _ => exact zvl237
  | 13, _ => exact zvl238
  | 14, _ => exact zvl239
  | 15, _ => exact zvl240
  | 16, _ => exact zvl241
  | 17, _ => exact zvl242
  | 18, _ => exact zvl243
  | 19, _ => exact zvl244
  | k + 20, h2 => exact absurd h2 (by omega)
theorem z_len : z_cds.length = 245 := by decide +kernel
theorem zV_all (k : Nat) : z_V k := by
  by_cases h : 245 ≤ k
  · show (z_cds.getD k []).all (z_vl k) = true
    rw [List.getD_eq_getElem?_getD, List.getElem?_eq_none (by rw [z_len]; exact h)]; rfl
  by_cases h225 : 225 ≤ k
  · obtain ⟨j, rfl⟩ := Nat.exists_eq_add_of_le h225
    rw [Nat.add_comm]
    exact zV_225 j (by omega)
  by_cases h200 : 200 ≤ k
  · obtain ⟨j, rfl⟩ := Nat.exists_eq_add_of_le h200
    rw [Nat.add_comm]
    exact zV_200 j (by omega)
  by_cases h175 : 175 ≤ k
  · obtain ⟨j, rfl⟩ := Nat.exists_eq_add_of_le h175
    rw [Nat.add_comm]
    exact zV_175 j (by omega)
  by_cases h150 : 150 ≤ k
  · obtain ⟨j, rfl⟩ := Nat.exists_eq_add_of_le h150
    rw [Nat.add_comm]
    exact zV_150 j (by omega)
  by_cases h125 : 125 ≤ k
  · obtain ⟨j, rfl⟩ := Nat.exists_eq_add_of_le h125
    rw [Nat.add_comm]
    exact zV_125 j (by omega)
  by_cases h100 : 100 ≤ k
  · obtain ⟨j, rfl⟩ := Nat.exists_eq_add_of_le h100
    rw [Nat.add_comm]
    exact zV_100 j (by omega)
  by_cases h75 : 75 ≤ k
  · obtain ⟨j, rfl⟩ := Nat.exists_eq_add_of_le h75
    rw [Nat.add_comm]
    exact zV_75 j (by omega)
  by_cases h50 : 50 ≤ k
  · obtain ⟨j, rfl⟩ := Nat.exists_eq_add_of_le h50
    rw [Nat.add_comm]
    exact zV_50 j (by omega)
  by_cases h25 : 25 ≤ k
  · obtain ⟨j, rfl⟩ := Nat.exists_eq_add_of_le h25
    rw [Nat.add_comm]
    exact zV_25 j (by omega)
  exact zV_0 k (Nat.zero_le k) (by omega)
end
section
/-! numbers of the machine and mathematical ones -/
theorem zt32 {x : Int} (h : z32 x) : (Int32.ofInt x).toInt = x := Int32.toInt_ofInt_of_le (by have := h.1; omega) (by have := h.2; omega)
theorem zt64 {x : Int} (h : z64 x) : (Int64.ofInt x).toInt = x := Int64.toInt_ofInt_of_le (by have := h.1; omega) (by have := h.2; omega)
theorem zi32 (x : Int32) : z32 x.toInt := ⟨Int32.le_toInt x, by have := Int32.toInt_lt x; omega⟩
theorem zi64 (x : Int64) : z64 x.toInt := ⟨Int64.le_toInt x, by have := Int64.toInt_lt x; omega⟩
theorem zlt32 {x y : Int} (hx : z32 x) (hy : z32 y) : Int32.ofInt x < Int32.ofInt y ↔ x < y := by rw [Int32.lt_iff_toInt_lt, zt32 hx, zt32 hy]
theorem zle32 {x y : Int} (hx : z32 x) (hy : z32 y) : Int32.ofInt x ≤ Int32.ofInt y ↔ x ≤ y := by rw [Int32.le_iff_toInt_le, zt32 hx, zt32 hy]
theorem zeq32 {x y : Int} (hx : z32 x) (hy : z32 y) : Int32.ofInt x = Int32.ofInt y ↔ x = y := by rw [← Int32.toInt_inj, zt32 hx, zt32 hy]
theorem zlt64 {x y : Int} (hx : z64 x) (hy : z64 y) : Int64.ofInt x < Int64.ofInt y ↔ x < y := by rw [Int64.lt_iff_toInt_lt, zt64 hx, zt64 hy]
theorem zeq64 {x y : Int} (hx : z64 x) (hy : z64 y) : Int64.ofInt x = Int64.ofInt y ↔ x = y := by rw [← Int64.toInt_inj, zt64 hx, zt64 hy]
theorem z0_32 : (0 : Int32) = Int32.ofInt 0 := rfl
theorem zz32 : z32 0 := by decide
theorem znat {x : Int} (h : z32 x) (h0 : 0 ≤ x) : (Int32.ofInt x).toNatClampNeg = x.toNat := by
  show (Int32.ofInt x).toInt.toNat = x.toNat
  rw [zt32 h]
theorem znn {x : Int} (h : z32 x) (h0 : 0 ≤ x) : ¬ Int32.ofInt x < 0 := by
  rw [z0_32, zlt32 h zz32]; omega
theorem zin {i : Int} {n : Nat} (h : z32 i) (h0 : 0 ≤ i) (h1 : i < (n : Int)) : vp_in (Int32.ofInt i) n := by
  rintro (q | q)
  · exact znn h h0 q
  · rw [znat h h0] at q; omega
theorem zadd32 (x y : Int) : Int32.ofInt x + Int32.ofInt y = Int32.ofInt (x + y) := (Int32.ofInt_add x y).symm
theorem zsub32 (x y : Int) : Int32.ofInt x - Int32.ofInt y = Int32.ofInt (x - y) := (Int32.ofInt_sub x y).symm
theorem zmul32 (x y : Int) : Int32.ofInt x * Int32.ofInt y = Int32.ofInt (x * y) := (Int32.ofInt_mul x y).symm
theorem zneg32 (x : Int) : - Int32.ofInt x = Int32.ofInt (-x) := (Int32.ofInt_neg x).symm
theorem zadd64 (x y : Int) : Int64.ofInt x + Int64.ofInt y = Int64.ofInt (x + y) := (Int64.ofInt_add x y).symm
theorem zsub64 (x y : Int) : Int64.ofInt x - Int64.ofInt y = Int64.ofInt (x - y) := (Int64.ofInt_sub x y).symm
theorem zmul64 (x y : Int) : Int64.ofInt x * Int64.ofInt y = Int64.ofInt (x * y) := (Int64.ofInt_mul x y).symm
theorem zand32 (x y : Int) : Int32.ofInt x &&& Int32.ofInt y = Int32.ofInt (zand x y) := by rw [zand, Int32.ofInt_toInt]
theorem zor32 (x y : Int) : Int32.ofInt x ||| Int32.ofInt y = Int32.ofInt (zor x y) := by rw [zor, Int32.ofInt_toInt]
theorem zxor32 (x y : Int) : Int32.ofInt x ^^^ Int32.ofInt y = Int32.ofInt (zxor x y) := by rw [zxor, Int32.ofInt_toInt]
theorem zand64 (x y : Int) : Int64.ofInt x &&& Int64.ofInt y = Int64.ofInt (zlnd x y) := by rw [zlnd, Int64.ofInt_toInt]
theorem zor64 (x y : Int) : Int64.ofInt x ||| Int64.ofInt y = Int64.ofInt (zlor x y) := by rw [zlor, Int64.ofInt_toInt]
theorem zdiv32 {x y : Int} (hx : z32 x) (hy : z32 y) (h0 : 0 ≤ x) (h1 : 0 < y) : Int32.ofInt x / Int32.ofInt y = Int32.ofInt (x / y) := by
  apply Int32.toInt_inj.mp
  have hq : z32 (x / y) := ⟨by have := Int.ediv_nonneg h0 (Int.le_of_lt h1); omega, by have := Int.ediv_le_self y h0; have := hx.2; omega⟩
  rw [Int32.toInt_div, zt32 hx, zt32 hy, zt32 hq, Int.tdiv_eq_ediv_of_nonneg h0]
  rw [Int.bmod_eq_of_le] <;> have := hq.1 <;> have := hq.2 <;> omega
theorem zmod32 {x y : Int} (hx : z32 x) (hy : z32 y) (h0 : 0 ≤ x) (h1 : 0 < y) : Int32.ofInt x - Int32.ofInt x / Int32.ofInt y * Int32.ofInt y = Int32.ofInt (x % y) := by
  rw [zdiv32 hx hy h0 h1, zmul32, zsub32]
  congr 1
  have := Int.emod_add_mul_ediv x y
  rw [Int.mul_comm] at this
  omega
theorem zdiv64 {x y : Int} (hx : z64 x) (hy : z64 y) (h0 : 0 ≤ x) (h1 : 0 < y) : Int64.ofInt x / Int64.ofInt y = Int64.ofInt (x / y) := by
  apply Int64.toInt_inj.mp
  have hq : z64 (x / y) := ⟨by have := Int.ediv_nonneg h0 (Int.le_of_lt h1); omega, by have := Int.ediv_le_self y h0; have := hx.2; omega⟩
  rw [Int64.toInt_div, zt64 hx, zt64 hy, zt64 hq, Int.tdiv_eq_ediv_of_nonneg h0]
  rw [Int.bmod_eq_of_le] <;> have := hq.1 <;> have := hq.2 <;> omega
theorem zmod64 {x y : Int} (hx : z64 x) (hy : z64 y) (h0 : 0 ≤ x) (h1 : 0 < y) : Int64.ofInt x - Int64.ofInt x / Int64.ofInt y * Int64.ofInt y = Int64.ofInt (x % y) := by
  rw [zdiv64 hx hy h0 h1, zmul64, zsub64]
  congr 1
  have := Int.emod_add_mul_ediv x y
  rw [Int.mul_comm] at this
  omega
theorem zi2l {x : Int} (h : z32 x) : (Int32.ofInt x).toInt64 = Int64.ofInt x := by
  apply Int64.toInt_inj.mp
  rw [Int32.toInt_toInt64, zt32 h, zt64]
  have := h.1; have := h.2
  constructor <;> omega
theorem zl2i {x : Int} (h : z64 x) (h2 : z32 x) : (Int64.ofInt x).toInt32 = Int32.ofInt x := by
  apply Int32.toInt_inj.mp
  rw [Int64.toInt_toInt32, zt64 h, zt32 h2]
  rw [Int.bmod_eq_of_le] <;> have := h2.1 <;> have := h2.2 <;> omega
theorem zi2b {x : Int} (h : z32 x) : (Int32.ofInt x).toInt8.toInt32 = Int32.ofInt ((x + 128) % 256 - 128) := by
  apply Int32.toInt_inj.mp
  rw [Int8.toInt_toInt32, Int32.toInt_toInt8, zt32 h, zt32 (by constructor <;> omega)]
  rw [Int.bmod_def]
  split <;> omega
theorem zi2c {x : Int} (h : z32 x) (h0 : 0 ≤ x) (h1 : x ≤ 65535) : ((Int32.ofInt x).toUInt32 % 65536).toInt32 = Int32.ofInt x := by
  apply Int32.toInt_inj.mp
  have e : (Int32.ofInt x).toUInt32.toNat = x.toNat := by
    have h2 : (Int32.ofInt x).toInt = x := zt32 h
    have h3 : (Int32.ofInt x).toBitVec.toInt = x := h2
    rw [BitVec.toInt_eq_toNat_bmod] at h3
    show (Int32.ofInt x).toBitVec.toNat = x.toNat
    have h4 := (Int32.ofInt x).toBitVec.isLt
    rw [Int.bmod_def] at h3
    split at h3 <;> omega
  have e2 : ((Int32.ofInt x).toUInt32 % 65536) = (Int32.ofInt x).toUInt32 := by
    apply UInt32.toNat_inj.mp
    rw [UInt32.toNat_mod, e]
    show x.toNat % 65536 = x.toNat
    omega
  rw [e2]
  simp
theorem zsm32 : ∀ n : Fin 32, ((Int32.ofInt (n.val : Int) &&& 31).toBitVec.smod 32).toNat = n.val := by decide +kernel
theorem zsm64 : ∀ n : Fin 64, (((Int32.ofInt (n.val : Int)).toInt64 &&& 63).toBitVec.smod 64).toNat = n.val := by decide +kernel
theorem zshl32 {x y : Int} (h0 : 0 ≤ y) (h1 : y < 32) : Int32.ofInt x <<< (Int32.ofInt y &&& 31) = Int32.ofInt (x * 2 ^ y.toNat) := by
  have e := zsm32 ⟨y.toNat, by omega⟩
  rw [show (((⟨y.toNat, by omega⟩ : Fin 32).val : Nat) : Int) = y from by show ((y.toNat : Nat) : Int) = y; omega] at e
  apply Int32.toBitVec_inj.mp
  rw [Int32.toBitVec_shiftLeft, BitVec.shiftLeft_eq', e]
  show BitVec.ofInt 32 x <<< y.toNat = BitVec.ofInt 32 (x * 2 ^ y.toNat)
  rw [BitVec.shiftLeft_eq_mul_twoPow, BitVec.ofInt_mul]
  congr 1
  apply BitVec.eq_of_toNat_eq
  rw [BitVec.toNat_twoPow, BitVec.toNat_ofInt]
  have : (2 : Int) ^ y.toNat = ((2 ^ y.toNat : Nat) : Int) := by simp
  rw [this]
  omega
theorem zshl64 {x y : Int} (h0 : 0 ≤ y) (h1 : y < 64) : Int64.ofInt x <<< ((Int32.ofInt y).toInt64 &&& 63) = Int64.ofInt (x * 2 ^ y.toNat) := by
  have e := zsm64 ⟨y.toNat, by omega⟩
  rw [show (((⟨y.toNat, by omega⟩ : Fin 64).val : Nat) : Int) = y from by show ((y.toNat : Nat) : Int) = y; omega] at e
  apply Int64.toBitVec_inj.mp
  rw [Int64.toBitVec_shiftLeft, BitVec.shiftLeft_eq', e]
  show BitVec.ofInt 64 x <<< y.toNat = BitVec.ofInt 64 (x * 2 ^ y.toNat)
  rw [BitVec.shiftLeft_eq_mul_twoPow, BitVec.ofInt_mul]
  congr 1
  apply BitVec.eq_of_toNat_eq
  rw [BitVec.toNat_twoPow, BitVec.toNat_ofInt]
  have : (2 : Int) ^ y.toNat = ((2 ^ y.toNat : Nat) : Int) := by simp
  rw [this]
  omega
theorem zdivp {x : Int} {n : Nat} {lo hi : Int} (h : lo ≤ x ∧ x ≤ hi) (hlo : lo < 0) (hhi : 0 ≤ hi) : lo ≤ x / 2 ^ n ∧ x / 2 ^ n ≤ hi := by
  have hp : (0 : Int) < 2 ^ n := Int.pow_pos (by decide)
  constructor
  · by_cases h0 : 0 ≤ x
    · have := Int.ediv_nonneg h0 (Int.le_of_lt hp); omega
    · have : x ≤ x / 2 ^ n := by
        rw [Int.le_ediv_iff_mul_le hp]
        have h1 : (1 : Int) ≤ 2 ^ n := hp
        have : x * 2 ^ n ≤ x * 1 := Int.mul_le_mul_of_nonpos_left (by omega) h1
        omega
      omega
  · by_cases h0 : 0 ≤ x
    · have := Int.ediv_le_self (2 ^ n) h0; omega
    · have : x / 2 ^ n < 0 := Int.ediv_neg_of_neg_of_pos (by omega) hp
      omega
theorem zshr32 {x y : Int} (hx : z32 x) (h0 : 0 ≤ y) (h1 : y < 32) : Int32.ofInt x >>> (Int32.ofInt y &&& 31) = Int32.ofInt (x / 2 ^ y.toNat) := by
  have e := zsm32 ⟨y.toNat, by omega⟩
  rw [show (((⟨y.toNat, by omega⟩ : Fin 32).val : Nat) : Int) = y from by show ((y.toNat : Nat) : Int) = y; omega] at e
  have hq : z32 (x / 2 ^ y.toNat) := zdivp hx (by decide) (by decide)
  apply Int32.toInt_inj.mp
  rw [zt32 hq]
  show (Int32.ofInt x >>> (Int32.ofInt y &&& 31)).toBitVec.toInt = _
  rw [Int32.toBitVec_shiftRight, BitVec.sshiftRight_eq', e, BitVec.toInt_sshiftRight]
  show (Int32.ofInt x).toInt >>> y.toNat = _
  rw [zt32 hx, Int.shiftRight_eq_div_pow]
  simp
theorem zshr64 {x y : Int} (hx : z64 x) (h0 : 0 ≤ y) (h1 : y < 64) : Int64.ofInt x >>> ((Int32.ofInt y).toInt64 &&& 63) = Int64.ofInt (x / 2 ^ y.toNat) := by
  have e := zsm64 ⟨y.toNat, by omega⟩
  rw [show (((⟨y.toNat, by omega⟩ : Fin 64).val : Nat) : Int) = y from by show ((y.toNat : Nat) : Int) = y; omega] at e
  have hq : z64 (x / 2 ^ y.toNat) := zdivp hx (by decide) (by decide)
  apply Int64.toInt_inj.mp
  rw [zt64 hq]
  show (Int64.ofInt x >>> ((Int32.ofInt y).toInt64 &&& 63)).toBitVec.toInt = _
  rw [Int64.toBitVec_shiftRight, BitVec.sshiftRight_eq', e, BitVec.toInt_sshiftRight]
  show (Int64.ofInt x).toInt >>> y.toNat = _
  rw [zt64 hx, Int.shiftRight_eq_div_pow]
  simp
theorem zun32 {x : Int} (hx : z32 x) : ((Int32.ofInt x).toUInt32.toNat : Int) = x % 4294967296 := by
  have h3 : (Int32.ofInt x).toBitVec.toInt = x := zt32 hx
  rw [BitVec.toInt_eq_toNat_bmod] at h3
  show ((Int32.ofInt x).toBitVec.toNat : Int) = x % 4294967296
  have h4 := (Int32.ofInt x).toBitVec.isLt
  rw [Int.bmod_def] at h3
  split at h3 <;> omega
theorem zsu32 : ∀ n : Fin 32, ((Int32.ofInt (n.val : Int)).toUInt32 &&& Int32.toUInt32 31).toNat % 32 = n.val := by decide +kernel
theorem zushr32 {x y : Int} (hx : z32 x) (h0 : 0 ≤ y) (h1 : y < 32) : ((Int32.ofInt x).toUInt32 >>> ((Int32.ofInt y).toUInt32 &&& Int32.toUInt32 31)).toInt32 = Int32.ofInt (if y = 0 then x else (x % 4294967296) / 2 ^ y.toNat) := by
  have e := zsu32 ⟨y.toNat, by omega⟩
  rw [show (((⟨y.toNat, by omega⟩ : Fin 32).val : Nat) : Int) = y from by show ((y.toNat : Nat) : Int) = y; omega] at e
  have hn : ((Int32.ofInt x).toUInt32 >>> ((Int32.ofInt y).toUInt32 &&& Int32.toUInt32 31)).toNat = (Int32.ofInt x).toUInt32.toNat >>> y.toNat := by
    rw [UInt32.toNat_shiftRight, e]
  have hd : ((((Int32.ofInt x).toUInt32 >>> ((Int32.ofInt y).toUInt32 &&& Int32.toUInt32 31)).toNat : Nat) : Int) = (x % 4294967296) / 2 ^ y.toNat := by
    rw [hn, Nat.shiftRight_eq_div_pow, Int.natCast_ediv, zun32 hx]
    simp
  by_cases hy : y = 0
  · rw [if_pos hy]
    subst hy
    have : ((Int32.ofInt x).toUInt32 >>> ((Int32.ofInt 0).toUInt32 &&& Int32.toUInt32 31)) = (Int32.ofInt x).toUInt32 := by
      apply UInt32.toNat_inj.mp
      rw [hn]; rfl
    rw [this]
    simp
  · rw [if_neg hy]
    have hb : 0 ≤ (x % 4294967296) / 2 ^ y.toNat ∧ (x % 4294967296) / 2 ^ y.toNat ≤ 2147483647 := by
      have hp : (2 : Int) ≤ 2 ^ y.toNat := by
        obtain ⟨k, hk⟩ : ∃ k, y.toNat = k + 1 := ⟨y.toNat - 1, by omega⟩
        rw [hk, Int.pow_succ]
        have : (0 : Int) < 2 ^ k := Int.pow_pos (by decide)
        omega
      have h2 : 0 ≤ x % 4294967296 := Int.emod_nonneg _ (by decide)
      have h3 : x % 4294967296 < 4294967296 := Int.emod_lt_of_pos _ (by decide)
      constructor
      · exact Int.ediv_nonneg h2 (by omega)
      · have : (x % 4294967296) / 2 ^ y.toNat < 2147483648 := by
          rw [Int.ediv_lt_iff_lt_mul (by omega)]
          have : (2147483648 : Int) * 2 ≤ 2147483648 * 2 ^ y.toNat := Int.mul_le_mul_of_nonneg_left hp (by decide)
          omega
        omega
    apply Int32.toInt_inj.mp
    rw [zt32 ⟨by omega, hb.2⟩, ← hd]
    rw [← hd] at hb
    show BitVec.toInt _ = _
    rw [BitVec.toInt_eq_toNat_bmod]
    show Int.bmod (((Int32.ofInt x).toUInt32 >>> ((Int32.ofInt y).toUInt32 &&& Int32.toUInt32 31)).toNat : Int) _ = _
    rw [Int.bmod_eq_of_le] <;> omega
end
section
/-! the abstract heap and the machine's -/
/-- classes, slots, array classes, where new cells begin, the script (cell, length, ints), string constants and their bytes, the formatter -/
abbrev zEn : Type := (Nat → ClassId) × (Nat → Nat → Nat) × (Nat → ClassId) × Nat × (Nat × Nat × (Nat → Int32)) × (Nat → Nat) × (Nat → Nat) × Value
def eC (E : zEn) : Nat → ClassId := E.1
def eI (E : zEn) : Nat → Nat → Nat := E.2.1
def eA (E : zEn) : Nat → ClassId := E.2.2.1
def eZ (E : zEn) : Nat := E.2.2.2.1
def eB (E : zEn) : Nat := E.2.2.2.2.1.1
def eL (E : zEn) : Nat := E.2.2.2.2.1.2.1
def eX (E : zEn) : Nat → Int32 := E.2.2.2.2.1.2.2
def eK (E : zEn) : Nat → Nat := E.2.2.2.2.2.1
def eV (E : zEn) : Nat → Nat := E.2.2.2.2.2.2.1
def eF (E : zEn) : Value := E.2.2.2.2.2.2.2
def zA (E : zEn) : Nat → Prop := fun q => eZ E ≤ q
def zrr (E : zEn) (x : Int) : Value := if x < 0 then .null else .ref (eZ E + x.toNat)
def rv (E : zEn) (v : zV) : Value := match v.1 with
  | 0 => .int (Int32.ofInt v.2)
  | 1 => .long (Int64.ofInt v.2)
  | 2 => zrr E v.2
  | 3 => .ref (eK E v.2.toNat)
  | 4 => .ref (eB E)
  | 5 => .ref (eV E v.2.toNat)
  | 6 => eF E
  | _ => .null
def zVok (v : zV) : Prop := (v.1 = 0 → z32 v.2) ∧ (v.1 = 1 → z64 v.2)
def zaty (t : Nat) : FieldType := match t with
  | 0 => .int
  | 1 => .long
  | 2 => .byte
  | 3 => .boolean
  | _ => .object "TwoWayWall$State"
/-- what stands in an array of kind t -/
def zav (E : zEn) (t : Nat) (p v : Int) : Value := match t with
  | 1 => .long (Int64.ofInt v)
  | 4 => zrr E p
  | _ => .int (Int32.ofInt v)
def zrg (t : Nat) (v : Int) : Prop := match t with
  | 0 => z32 v
  | 1 => z64 v
  | 2 => -128 ≤ v ∧ v ≤ 127
  | 3 => 0 ≤ v ∧ v ≤ 1
  | _ => True
/-- what stands in field k of a class -/
def zfv (E : zEn) (ci k : Nat) (p v : Int → Int) : Value := if z_isR (zTy ci k) = true then zrr E (p (k : Int)) else .int (Int32.ofInt (v (k : Int)))
def zArr (E : zEn) (t : Nat) (n : Int) (p v : Int → Int) (o : Option Cell) : Prop := o = some (arrV (eA E t) n.toNat (fun j => zav E t (p (j : Int)) (v (j : Int)))) ∧ 0 ≤ n ∧ n ≤ 1000000 ∧ ∀ j : Nat, j < n.toNat → zrg t (v (j : Int))
def zObj (E : zEn) (ci : Nat) (p v : Int → Int) (o : Option Cell) : Prop := (∃ cell : Cell, o = some cell ∧ cell.cls = eC E ci ∧ cell.vm = .none ∧ ∀ k, k < zfN ci → cell.slots[eI E ci k]? = some (zfv E ci k p v)) ∧ ∀ k, k < zfN ci → z32 (v (k : Int))
def zCell (E : zEn) (c n : Int) (p v : Int → Int) (o : Option Cell) : Prop := (∀ t : Nat, t < 5 → c = (t : Int) → zArr E t n p v o) ∧ ∀ ci : Nat, ci < 13 → c = (ci : Int) + 10 → zObj E ci p v o
def zRel (E : zEn) (T : zT) (V : zM) (H : Heap) : Prop :=
  H.size = eZ E + T.1 ∧ (∀ k : Nat, k < T.1 → zCell E (zc T (k : Int)) (zl T (k : Int)) (zp T (k : Int)) (V (k : Int)) H[eZ E + k]?) ∧ (zl T (-2) = (eL E : Int) ∧ eL E ≤ 3072 ∧ ∀ j : Nat, j < eL E → V (-2) (j : Int) = (eX E j).toInt)
/-- the string constants -/
def zlens : List Nat := [4, 4, 4, 6, 4, 4, 3]
def zbyts : List (List Int32) := [[101, 97, 115, 116], [119, 101, 115, 116], [119, 111, 114, 100], [109, 105, 114, 114, 111, 114], [99, 111, 115, 116], [100, 114, 111, 112], [110, 111, 116]]
def ztx (i : Nat) : String := ["east", "west", "word", "mirror", "cost", "drop", "not"].getD i ""
def zKK (E : zEn) (U : State) : Prop :=
  (∀ ci : Nat, ci < 13 → u_Kn U (zCn ci) (zTX ci) (zfN ci) (eC E ci) (eI E ci)) ∧
  (∀ t : Nat, t < 5 → ArrOfT U (eA E t) (zaty t) ∧ va_RA U (eA E t) (zaty t)) ∧
  (∀ q ∈ z_mn, va_Nw (.methodLinkNest (zCn q.1) q.2.1 (zy q.2.2.1) "TwoWayWall") U) ∧
  (∀ q ∈ z_cs, vk_R (zCn q.1) q.2.1 (ztx q.2.2.1) (eK E q.2.2.1) U) ∧
  vk_S 7 zlens zbyts (eK E) (eV E) (zA E) U U.heap ∧
  (va_X (eB E) (eL E) (eX E) U U.heap ∧ eB E < eZ E) ∧
  (va_Z "java/lang/String" "COMPACT_STRINGS" "Z" (.int 1) (zA E) U U.heap ∧ va_Z "jdk/internal/util/Preconditions" "SIOOBE_FORMATTER" "Ljava/util/function/BiFunction;" (eF E) (zA E) U U.heap ∧ (eF E = .null ∨ ∃ a, eF E = .ref a)) ∧
  va_AO "TwoWayWall$State" U ∧ eZ E ≤ U.heap.size
theorem zKK.to {E : zEn} {s U : State} (h : zKK E s) (hW : s.WarmedH U.vm) (hh : ∀ q : Nat, q < s.heap.size → ¬ zA E q → U.heap[q]? = s.heap[q]?) (hz : s.heap.size ≤ U.heap.size) : zKK E U := by
  obtain ⟨h1, h2, h3, h4, h5, ⟨h6, h6b⟩, ⟨h7, h7b, h7c⟩, h8, h9⟩ := h
  have hv := hW.alike
  refine ⟨fun ci hc => u_Kn_moved hv (h1 ci hc), fun t ht => ⟨arrOfT_moved hv (h2 t ht).1, (h2 t ht).2.moved hv⟩, fun q hq => va_Nw.warmM hW (h3 q hq), fun q hq => vk_R.warm hW (h4 q hq), (vk_S.moved hv h5).kept hh, ⟨?_, h6b⟩, ⟨(va_Z.moved hv h7).kept hh, (va_Z.moved hv h7b).kept hh, h7c⟩, ?_, Nat.le_trans h9 hz⟩
  · have hX := va_X.moved hv h6
    exact hX.kept (hh _ (by omega) (by show ¬ eZ E ≤ _; omega))
  · exact va_AO.moved hv h8
theorem zKK.same {E : zEn} {s U : State} (h : zKK E s) (hv : U.vm = s.vm) (hh : U.heap = s.heap) : zKK E U := by
  obtain ⟨h1, h2, h3, h4, h5, ⟨h6, h6b⟩, ⟨h7, h7b, h7c⟩, h8, h9⟩ := h
  have ha : s.vm.Alike U.vm := by rw [hv]; exact Vm.Alike.refl _
  have hk : ∀ a : Nat, a < s.heap.size → ¬ zA E a → U.heap[a]? = s.heap[a]? := fun a _ _ => by rw [hh]
  exact ⟨fun ci hc => u_Kn_moved ha (h1 ci hc), fun t ht => ⟨arrOfT_moved ha (h2 t ht).1, (h2 t ht).2.moved ha⟩, fun q hq => va_Nw.same rfl hv.symm (h3 q hq), fun q hq => vk_R.same hv (h4 q hq), (vk_S.moved ha h5).kept hk, ⟨(va_X.moved ha h6).kept (by rw [hh]), h6b⟩, ⟨(va_Z.moved ha h7).kept hk, (va_Z.moved ha h7b).kept hk, h7c⟩, va_AO.moved ha h8, by rw [hh]; exact h9⟩
theorem zCell.row {E : zEn} {c n : Int} {p v : Int → Int} {o o' : Option Cell} (h : zCell E c n p v o) (e : o' = o) : zCell E c n p v o' := e ▸ h
theorem zs_at (V : zM) (a : Int) (f : Int → Int) : zs V a f a = f := by simp [zs]
theorem zs_ne (V : zM) {a b : Int} (f : Int → Int) (h : b ≠ a) : zs V a f b = V b := by simp [zs, h]
theorem zu_at (f : Int → Int) (i v : Int) : zu f i v i = v := by simp [zu]
theorem zu_ne (f : Int → Int) {i j : Int} (v : Int) (h : j ≠ i) : zu f i v j = f j := by simp [zu, h]
/-- a row of numbers has changed -/
theorem zRel.setV {E : zEn} {T : zT} {V : zM} {H H' : Heap} (h : zRel E T V H) {x : Int} (h0 : 0 ≤ x) (h1 : x < zsz T) {f : Int → Int} (hz : H'.size = H.size) (ho : ∀ q : Nat, q ≠ eZ E + x.toNat → H'[q]? = H[q]?) (hc : zCell E (zc T x) (zl T x) (zp T x) f H'[eZ E + x.toNat]?) : zRel E T (zs V x f) H' := by
  obtain ⟨a1, a2, a3, a4, a5⟩ := h
  refine ⟨by rw [hz]; exact a1, fun k hk => ?_, a3, a4, fun j hj => ?_⟩
  · by_cases e : (k : Int) = x
    · subst e
      rw [zs_at]
      simpa using hc
    · rw [zs_ne _ _ e]
      exact (a2 k hk).row (ho _ (by omega))
  · rw [zs_ne _ _ (by omega)]
    exact a5 j hj
theorem zRel.setP {E : zEn} {T : zT} {V : zM} {H H' : Heap} (h : zRel E T V H) {x : Int} (h0 : 0 ≤ x) (h1 : x < zsz T) {f : Int → Int} (hz : H'.size = H.size) (ho : ∀ q : Nat, q ≠ eZ E + x.toNat → H'[q]? = H[q]?) (hc : zCell E (zc T x) (zl T x) f (V x) H'[eZ E + x.toNat]?) : zRel E (zq T x f) V H' := by
  obtain ⟨a1, a2, a3, a4, a5⟩ := h
  refine ⟨by rw [hz]; exact a1, fun k hk => ?_, a3, a4, a5⟩
  show zCell E (zc T (k : Int)) (zl T (k : Int)) (zs T.2.2.2.2 x f (k : Int)) (V (k : Int)) _
  by_cases e : (k : Int) = x
  · subst e
    rw [zs_at]
    simpa using hc
  · rw [zs_ne _ _ e]
    exact (a2 k hk).row (ho _ (by omega))
theorem zRel.push {E : zEn} {T : zT} {V : zM} {H H' : Heap} (h : zRel E T V H) {c n : Int} (hz : H'.size = H.size + 1) (ho : ∀ q : Nat, q < H.size → H'[q]? = H[q]?) (hc : zCell E c n (fun _ => -1) (fun _ => 0) H'[H.size]?) : zRel E (zn T c n) (zs V (zsz T) (fun _ => 0)) H' := by
  obtain ⟨a1, a2, a3, a4, a5⟩ := h
  refine ⟨by rw [hz, a1]; show _ = eZ E + (T.1 + 1); omega, fun k hk => ?_, ?_, a4, fun j hj => ?_⟩
  · have hk : k < T.1 + 1 := hk
    show zCell E (zu T.2.2.1 (T.1 : Int) c (k : Int)) (zu T.2.2.2.1 (T.1 : Int) n (k : Int)) (zs T.2.2.2.2 (T.1 : Int) (fun _ => -1) (k : Int)) (zs V (T.1 : Int) (fun _ => 0) (k : Int)) _
    by_cases e : k = T.1
    · subst e
      rw [zu_at, zu_at, zs_at, zs_at]
      rw [a1] at hc
      exact hc
    · rw [zu_ne _ _ (by omega), zu_ne _ _ (by omega), zs_ne _ _ (by omega), zs_ne _ _ (by omega)]
      exact (a2 k (by omega)).row (ho _ (by omega))
  · show zu T.2.2.2.1 (T.1 : Int) n (-2) = _
    rw [zu_ne _ _ (by omega)]
    exact a3
  · rw [zs_ne _ _ (by show (-2 : Int) ≠ (T.1 : Int); omega)]
    exact a5 j hj
theorem zRel.cell {E : zEn} {T : zT} {V : zM} {H : Heap} (h : zRel E T V H) {x : Int} (h0 : 0 ≤ x) (h1 : x < zsz T) : zCell E (zc T x) (zl T x) (zp T x) (V x) H[eZ E + x.toNat]? := by
  have h2 := h.2.1 x.toNat (by have : x < (T.1 : Int) := h1; omega)
  rwa [Int.toNat_of_nonneg h0] at h2
theorem zrr_pos {E : zEn} {x : Int} (h : 0 ≤ x) : zrr E x = .ref (eZ E + x.toNat) := by rw [zrr, if_neg (by omega)]
/-- the locals -/
def zLoc (E : zEn) (ls : Array Slot) (l : List zV) : Prop := ls.size = l.length ∧ lv_wf ls ∧ ∀ (i : Nat) (v : zV), l[i]? = some v → v.1 ≠ 9 → ls[i]? = some (.val (rv E v))
def zoks (l : List zV) : Prop := ∀ v ∈ l, zVok v
end
section
/-! what a step that went on tells -/
section ZINV
variable {nx a : Nat} {b : Int} {lo st lo' st' : List zV} {T T' : zT} {V V' : zM} {pc' : Nat}
theorem zgo_inv {x : Nat} {l1 s1 : List zV} {T1 : zT} {V1 : zM} (h : zgo x l1 s1 T1 V1 = some (.inl (pc', lo', st', T', V'))) : pc' = x ∧ lo' = l1 ∧ st' = s1 ∧ T' = T1 ∧ V' = V1 := by
  have h := Sum.inl.inj (Option.some.inj h)
  simp only [Prod.mk.injEq] at h
  exact ⟨h.1.symm, h.2.1.symm, h.2.2.1.symm, h.2.2.2.1.symm, h.2.2.2.2.symm⟩
theorem zv_ld {t : Nat} (h : zo_ld t nx a lo st T V = some (.inl (pc', lo', st', T', V'))) : ∃ x, lo[a]? = some (t, x) ∧ pc' = nx ∧ lo' = lo ∧ st' = (t, x) :: st ∧ T' = T ∧ V' = V := by
  unfold zo_ld at h
  split at h
  · rename_i v hv
    split at h
    · rename_i ht
      exact ⟨v.2, by rw [hv, ← ht], by rw [← ht]; exact zgo_inv h⟩
    · cases h
  · cases h
theorem zv_lda (h : zo_lda nx a lo st T V = some (.inl (pc', lo', st', T', V'))) : ∃ v : zV, lo[a]? = some v ∧ (2 ≤ v.1 ∧ v.1 ≤ 6) ∧ pc' = nx ∧ lo' = lo ∧ st' = v :: st ∧ T' = T ∧ V' = V := by
  unfold zo_lda at h
  split at h
  · rename_i v hv
    split at h
    · rename_i ht
      exact ⟨v, hv, ht, zgo_inv h⟩
    · cases h
  · cases h
theorem zv_st1 {q : Nat → Bool} (h : zo_st1 q nx a lo st T V = some (.inl (pc', lo', st', T', V'))) : ∃ (v : zV) (s0 : List zV), st = v :: s0 ∧ q v.1 = true ∧ (a < lo.length ∧ (a = 0 ∨ (lo.getD (a - 1) (9, 0)).1 ≠ 1)) ∧ pc' = nx ∧ lo' = lo.set a v ∧ st' = s0 ∧ T' = T ∧ V' = V := by
  unfold zo_st1 at h
  split at h
  · rename_i v s0
    split at h
    · rename_i ht
      exact ⟨v, s0, rfl, ht.1, ht.2, zgo_inv h⟩
    · cases h
  · cases h
theorem zv_st2 (h : zo_st2 nx a lo st T V = some (.inl (pc', lo', st', T', V'))) : ∃ (x : Int) (s0 : List zV), st = (1, x) :: s0 ∧ (a + 1 < lo.length ∧ (a = 0 ∨ (lo.getD (a - 1) (9, 0)).1 ≠ 1)) ∧ pc' = nx ∧ lo' = (lo.set a (1, x)).set (a + 1) (9, 0) ∧ st' = s0 ∧ T' = T ∧ V' = V := by
  unfold zo_st2 at h
  split at h
  · rename_i v s0
    split at h
    · rename_i ht
      obtain ⟨t, x⟩ := v
      obtain ⟨h1, h2⟩ := ht
      have h1 : t = 1 := h1
      subst h1
      exact ⟨x, s0, rfl, h2, zgo_inv h⟩
    · cases h
  · cases h
theorem zv_inc (h : zo_inc nx a b lo st T V = some (.inl (pc', lo', st', T', V'))) : ∃ x : Int, lo[a]? = some (0, x) ∧ z32 (x + b) ∧ (a = 0 ∨ (lo.getD (a - 1) (9, 0)).1 ≠ 1) ∧ pc' = nx ∧ lo' = lo.set a (0, x + b) ∧ st' = st ∧ T' = T ∧ V' = V := by
  unfold zo_inc at h
  split at h
  · rename_i v hv
    split at h
    · rename_i ht
      obtain ⟨t, x⟩ := v
      obtain ⟨h1, h2, h3⟩ := ht
      have h1 : t = 0 := h1
      subst h1
      exact ⟨x, hv, h2, h3, zgo_inv h⟩
    · cases h
  · cases h
theorem zv_bin {t : Nat} {g : Int → Int → Prop} {dg : ∀ x y, Decidable (g x y)} {f : Int → Int → Int} (h : zo_bin t g dg f nx lo st T V = some (.inl (pc', lo', st', T', V'))) : ∃ (x y : Int) (s0 : List zV), st = (t, y) :: (t, x) :: s0 ∧ g x y ∧ pc' = nx ∧ lo' = lo ∧ st' = (t, f x y) :: s0 ∧ T' = T ∧ V' = V := by
  unfold zo_bin at h
  split at h
  · rename_i y x s0
    split at h
    · rename_i ht
      split at h
      · rename_i hg
        obtain ⟨t1, y⟩ := y
        obtain ⟨t2, x⟩ := x
        obtain ⟨h1, h2⟩ := ht
        have h1 : t1 = t := h1
        have h2 : t2 = t := h2
        subst h1; subst h2
        exact ⟨x, y, s0, rfl, hg, zgo_inv h⟩
      · cases h
    · cases h
  · cases h
theorem zv_lsh {g : Int → Int → Prop} {dg : ∀ x y, Decidable (g x y)} {f : Int → Int → Int} (h : zo_lsh g dg f nx lo st T V = some (.inl (pc', lo', st', T', V'))) : ∃ (x y : Int) (s0 : List zV), st = (0, y) :: (1, x) :: s0 ∧ g x y ∧ pc' = nx ∧ lo' = lo ∧ st' = (1, f x y) :: s0 ∧ T' = T ∧ V' = V := by
  unfold zo_lsh at h
  split at h
  · rename_i y x s0
    split at h
    · rename_i ht
      split at h
      · rename_i hg
        obtain ⟨t1, y⟩ := y
        obtain ⟨t2, x⟩ := x
        obtain ⟨h1, h2⟩ := ht
        have h1 : t1 = 0 := h1
        have h2 : t2 = 1 := h2
        subst h1; subst h2
        exact ⟨x, y, s0, rfl, hg, zgo_inv h⟩
      · cases h
    · cases h
  · cases h
theorem zv_cmp (h : zo_cmp nx lo st T V = some (.inl (pc', lo', st', T', V'))) : ∃ (x y : Int) (s0 : List zV), st = (1, y) :: (1, x) :: s0 ∧ pc' = nx ∧ lo' = lo ∧ st' = (0, if y < x then 1 else if x = y then 0 else -1) :: s0 ∧ T' = T ∧ V' = V := by
  unfold zo_cmp at h
  split at h
  · rename_i y x s0
    split at h
    · rename_i ht
      obtain ⟨t1, y⟩ := y
      obtain ⟨t2, x⟩ := x
      obtain ⟨h1, h2⟩ := ht
      have h1 : t1 = 1 := h1
      have h2 : t2 = 1 := h2
      subst h1; subst h2
      exact ⟨x, y, s0, rfl, zgo_inv h⟩
    · cases h
  · cases h
theorem zv_mm {t : Nat} {f : Int → Int → Int} (h : zo_mm t f nx lo st T V = some (.inl (pc', lo', st', T', V'))) : ∃ (x y : Int) (s0 : List zV), st = (t, y) :: (t, x) :: s0 ∧ zcat s0 ≤ 8 ∧ pc' = nx ∧ lo' = lo ∧ st' = (t, f x y) :: s0 ∧ T' = T ∧ V' = V := by
  unfold zo_mm at h
  split at h
  · rename_i y x s0
    split at h
    · rename_i ht
      obtain ⟨t1, y⟩ := y
      obtain ⟨t2, x⟩ := x
      obtain ⟨h1, h2, h3⟩ := ht
      have h1 : t1 = t := h1
      have h2 : t2 = t := h2
      subst h1; subst h2
      exact ⟨x, y, s0, rfl, h3, zgo_inv h⟩
    · cases h
  · cases h
theorem zv_un {t u : Nat} {g : Int → Prop} {dg : ∀ x, Decidable (g x)} {f : Int → Int} (h : zo_un t u g dg f nx lo st T V = some (.inl (pc', lo', st', T', V'))) : ∃ (x : Int) (s0 : List zV), st = (t, x) :: s0 ∧ g x ∧ pc' = nx ∧ lo' = lo ∧ st' = (u, f x) :: s0 ∧ T' = T ∧ V' = V := by
  unfold zo_un at h
  split at h
  · rename_i x s0
    split at h
    · rename_i ht
      split at h
      · rename_i hg
        obtain ⟨t1, x⟩ := x
        have h1 : t1 = t := ht
        subst h1
        exact ⟨x, s0, rfl, hg, zgo_inv h⟩
      · cases h
    · cases h
  · cases h
theorem zv_if1 {g : Int → Prop} {dg : ∀ x, Decidable (g x)} (h : zo_if1 g dg nx a lo st T V = some (.inl (pc', lo', st', T', V'))) : ∃ (x : Int) (s0 : List zV), st = (0, x) :: s0 ∧ ((g x ∧ pc' = a) ∨ (¬ g x ∧ pc' = nx)) ∧ lo' = lo ∧ st' = s0 ∧ T' = T ∧ V' = V := by
  unfold zo_if1 at h
  split at h
  · rename_i x s0
    split at h
    · rename_i ht
      obtain ⟨t1, x⟩ := x
      have h1 : t1 = 0 := ht
      subst h1
      split at h
      · rename_i hg
        have hz := zgo_inv h
        exact ⟨x, s0, rfl, Or.inl ⟨hg, hz.1⟩, hz.2⟩
      · rename_i hg
        have hz := zgo_inv h
        exact ⟨x, s0, rfl, Or.inr ⟨hg, hz.1⟩, hz.2⟩
    · cases h
  · cases h
theorem zv_if2 {g : Int → Int → Prop} {dg : ∀ x y, Decidable (g x y)} (h : zo_if2 g dg nx a lo st T V = some (.inl (pc', lo', st', T', V'))) : ∃ (x y : Int) (s0 : List zV), st = (0, y) :: (0, x) :: s0 ∧ ((g x y ∧ pc' = a) ∨ (¬ g x y ∧ pc' = nx)) ∧ lo' = lo ∧ st' = s0 ∧ T' = T ∧ V' = V := by
  unfold zo_if2 at h
  split at h
  · rename_i y x s0
    split at h
    · rename_i ht
      obtain ⟨t1, y⟩ := y
      obtain ⟨t2, x⟩ := x
      obtain ⟨h1, h2⟩ := ht
      have h1 : t1 = 0 := h1
      have h2 : t2 = 0 := h2
      subst h1; subst h2
      split at h
      · rename_i hg
        have hz := zgo_inv h
        exact ⟨x, y, s0, rfl, Or.inl ⟨hg, hz.1⟩, hz.2⟩
      · rename_i hg
        have hz := zgo_inv h
        exact ⟨x, y, s0, rfl, Or.inr ⟨hg, hz.1⟩, hz.2⟩
    · cases h
  · cases h
theorem zv_nn (h : zo_nn nx a lo st T V = some (.inl (pc', lo', st', T', V'))) : ∃ (x : Int) (s0 : List zV), st = (2, x) :: s0 ∧ ((0 ≤ x ∧ pc' = a) ∨ (¬ 0 ≤ x ∧ pc' = nx)) ∧ lo' = lo ∧ st' = s0 ∧ T' = T ∧ V' = V := by
  unfold zo_nn at h
  split at h
  · rename_i x s0
    split at h
    · rename_i ht
      obtain ⟨t1, x⟩ := x
      have h1 : t1 = 2 := ht
      subst h1
      split at h
      · rename_i hg
        have hz := zgo_inv h
        exact ⟨x, s0, rfl, Or.inl ⟨hg, hz.1⟩, hz.2⟩
      · rename_i hg
        have hz := zgo_inv h
        exact ⟨x, s0, rfl, Or.inr ⟨hg, hz.1⟩, hz.2⟩
    · cases h
  · cases h
theorem zv_sw {ts : List Nat} (h : zo_sw b ts lo st T V = some (.inl (pc', lo', st', T', V'))) : ∃ (x : Int) (s0 : List zV), st = (0, x) :: s0 ∧ (((b ≤ x ∧ x < b + (ts.length : Int) - 1) ∧ pc' = ts.getD ((x - b).toNat + 1) 0) ∨ (¬ (b ≤ x ∧ x < b + (ts.length : Int) - 1) ∧ pc' = ts.getD 0 0)) ∧ lo' = lo ∧ st' = s0 ∧ T' = T ∧ V' = V := by
  unfold zo_sw at h
  split at h
  · rename_i x s0
    split at h
    · rename_i ht
      obtain ⟨t1, x⟩ := x
      have h1 : t1 = 0 := ht
      subst h1
      split at h
      · rename_i hg
        have hz := zgo_inv h
        exact ⟨x, s0, rfl, Or.inl ⟨hg, hz.1⟩, hz.2⟩
      · rename_i hg
        have hz := zgo_inv h
        exact ⟨x, s0, rfl, Or.inr ⟨hg, hz.1⟩, hz.2⟩
    · cases h
  · cases h
theorem zv_dup (h : zo_dup nx lo st T V = some (.inl (pc', lo', st', T', V'))) : ∃ (v : zV) (s0 : List zV), st = v :: s0 ∧ (v.1 = 0 ∨ v.1 = 2) ∧ pc' = nx ∧ lo' = lo ∧ st' = v :: v :: s0 ∧ T' = T ∧ V' = V := by
  unfold zo_dup at h
  split at h
  · rename_i x s0
    split at h
    · rename_i ht
      exact ⟨x, s0, rfl, ht, zgo_inv h⟩
    · cases h
  · cases h
theorem zv_pop (h : zo_pop nx lo st T V = some (.inl (pc', lo', st', T', V'))) : ∃ (v : zV) (s0 : List zV), st = v :: s0 ∧ (v.1 = 0 ∨ v.1 = 2) ∧ pc' = nx ∧ lo' = lo ∧ st' = s0 ∧ T' = T ∧ V' = V := by
  unfold zo_pop at h
  split at h
  · rename_i x s0
    split at h
    · rename_i ht
      exact ⟨x, s0, rfl, ht, zgo_inv h⟩
    · cases h
  · cases h
theorem zv_dup2 (h : zo_dup2 nx lo st T V = some (.inl (pc', lo', st', T', V'))) : ∃ (v w : zV) (s0 : List zV), st = v :: w :: s0 ∧ ((v.1 = 0 ∨ v.1 = 2) ∧ (w.1 = 0 ∨ w.1 = 2)) ∧ pc' = nx ∧ lo' = lo ∧ st' = v :: w :: v :: w :: s0 ∧ T' = T ∧ V' = V := by
  unfold zo_dup2 at h
  split at h
  · rename_i x y s0
    split at h
    · rename_i ht
      exact ⟨x, y, s0, rfl, ht, zgo_inv h⟩
    · cases h
  · cases h
theorem zv_get {t : Nat} {M : Int → Int → Int} (h : zo_get t M nx a b lo st T V = some (.inl (pc', lo', st', T', V'))) : ∃ (x : Int) (s0 : List zV), st = (2, x) :: s0 ∧ (0 ≤ x ∧ x < zsz T ∧ zc T x = (a : Int) + 10) ∧ pc' = nx ∧ lo' = lo ∧ st' = (t, M x b) :: s0 ∧ T' = T ∧ V' = V := by
  unfold zo_get at h
  split at h
  · rename_i x s0
    split at h
    · rename_i ht
      obtain ⟨t1, x⟩ := x
      obtain ⟨h1, h2⟩ := ht
      have h1 : t1 = 2 := h1
      subst h1
      exact ⟨x, s0, rfl, h2, zgo_inv h⟩
    · cases h
  · cases h
theorem zv_put {g : Int → Prop} {dg : ∀ x, Decidable (g x)} (h : zo_put g dg nx a b lo st T V = some (.inl (pc', lo', st', T', V'))) : ∃ (y x : Int) (s0 : List zV), st = (0, y) :: (2, x) :: s0 ∧ (0 ≤ x ∧ x < zsz T ∧ zc T x = (a : Int) + 10) ∧ g y ∧ pc' = nx ∧ lo' = lo ∧ st' = s0 ∧ T' = T ∧ V' = zs V x (zu (V x) b y) := by
  unfold zo_put at h
  split at h
  · rename_i y x s0
    split at h
    · rename_i ht
      split at h
      · rename_i hg
        obtain ⟨t0, y⟩ := y
        obtain ⟨t1, x⟩ := x
        obtain ⟨⟨h0, h1⟩, h2⟩ := ht
        have h0 : t0 = 0 := h0
        have h1 : t1 = 2 := h1
        subst h0; subst h1
        exact ⟨y, x, s0, rfl, h2, hg, zgo_inv h⟩
      · cases h
    · cases h
  · cases h
theorem zv_putr (h : zo_putr nx a b lo st T V = some (.inl (pc', lo', st', T', V'))) : ∃ (y x : Int) (s0 : List zV), st = (2, y) :: (2, x) :: s0 ∧ (0 ≤ x ∧ x < zsz T ∧ zc T x = (a : Int) + 10) ∧ pc' = nx ∧ lo' = lo ∧ st' = s0 ∧ T' = zq T x (zu (zp T x) b y) ∧ V' = V := by
  unfold zo_putr at h
  split at h
  · rename_i y x s0
    split at h
    · rename_i ht
      obtain ⟨t0, y⟩ := y
      obtain ⟨t1, x⟩ := x
      obtain ⟨⟨h0, h1⟩, h2⟩ := ht
      have h0 : t0 = 2 := h0
      have h1 : t1 = 2 := h1
      subst h0; subst h1
      exact ⟨y, x, s0, rfl, h2, zgo_inv h⟩
    · cases h
  · cases h
theorem zv_ald {t : Nat} {M : Int → Int → Int} {c : Int} (h : zo_ald t M c nx lo st T V = some (.inl (pc', lo', st', T', V'))) : ∃ (i x : Int) (s0 : List zV), st = (0, i) :: (2, x) :: s0 ∧ (0 ≤ x ∧ x < zsz T ∧ zc T x = c) ∧ (0 ≤ i ∧ i < zl T x) ∧ pc' = nx ∧ lo' = lo ∧ st' = (t, M x i) :: s0 ∧ T' = T ∧ V' = V := by
  unfold zo_ald at h
  split at h
  · rename_i y x s0
    split at h
    · rename_i ht
      obtain ⟨t0, y⟩ := y
      obtain ⟨t1, x⟩ := x
      obtain ⟨⟨h0, h1⟩, h2, h3⟩ := ht
      have h0 : t0 = 0 := h0
      have h1 : t1 = 2 := h1
      subst h0; subst h1
      exact ⟨y, x, s0, rfl, h2, h3, zgo_inv h⟩
    · cases h
  · cases h
theorem zv_ild (h : zo_ild nx lo st T V = some (.inl (pc', lo', st', T', V'))) : (∃ (i j : Int) (s0 : List zV), st = (0, i) :: (4, j) :: s0 ∧ (0 ≤ i ∧ i < zl T (-2)) ∧ pc' = nx ∧ lo' = lo ∧ st' = (0, V (-2) i) :: s0 ∧ T' = T ∧ V' = V) ∨ zo_ald 0 V 0 nx lo st T V = some (.inl (pc', lo', st', T', V')) := by
  unfold zo_ild at h
  split at h
  · rename_i y x s0
    split at h
    · rename_i ht
      split at h
      · rename_i hg
        obtain ⟨t0, y⟩ := y
        obtain ⟨t1, x⟩ := x
        have h0 : t0 = 0 := hg.1
        have h1 : t1 = 4 := ht
        subst h0; subst h1
        exact Or.inl ⟨y, x, s0, rfl, hg.2, zgo_inv h⟩
      · cases h
    · exact Or.inr h
  · cases h
theorem zv_bld (h : zo_bld nx lo st T V = some (.inl (pc', lo', st', T', V'))) : (∃ (i j : Int) (s0 : List zV), st = (0, i) :: (5, j) :: s0 ∧ (0 ≤ j ∧ j < 7) ∧ (0 ≤ i ∧ i < ((z_str j).length : Int)) ∧ pc' = nx ∧ lo' = lo ∧ st' = (0, (z_str j).getD i.toNat 0) :: s0 ∧ T' = T ∧ V' = V) ∨ zo_ald 0 V 3 nx lo st T V = some (.inl (pc', lo', st', T', V')) ∨ zo_ald 0 V 2 nx lo st T V = some (.inl (pc', lo', st', T', V')) := by
  unfold zo_bld at h
  split at h
  · rename_i y x s0
    split at h
    · rename_i ht
      split at h
      · rename_i hg
        obtain ⟨t0, y⟩ := y
        obtain ⟨t1, x⟩ := x
        have h0 : t0 = 0 := hg.1
        have h1 : t1 = 5 := ht
        subst h0; subst h1
        exact Or.inl ⟨y, x, s0, rfl, hg.2.1, hg.2.2, zgo_inv h⟩
      · cases h
    · split at h
      · exact Or.inr (Or.inl h)
      · exact Or.inr (Or.inr h)
  · cases h
theorem zv_ast {t : Nat} {c : Int} {g : Int → Prop} {dg : ∀ x, Decidable (g x)} (h : zo_ast t c g dg nx lo st T V = some (.inl (pc', lo', st', T', V'))) : ∃ (y i x : Int) (s0 : List zV), st = (t, y) :: (0, i) :: (2, x) :: s0 ∧ (0 ≤ x ∧ x < zsz T ∧ zc T x = c) ∧ (0 ≤ i ∧ i < zl T x) ∧ g y ∧ pc' = nx ∧ lo' = lo ∧ st' = s0 ∧ T' = T ∧ V' = zs V x (zu (V x) i y) := by
  unfold zo_ast at h
  split at h
  · rename_i y i x s0
    split at h
    · rename_i ht
      split at h
      · rename_i hg
        obtain ⟨t0, y⟩ := y
        obtain ⟨t1, i⟩ := i
        obtain ⟨t2, x⟩ := x
        obtain ⟨⟨h0, h1, h2⟩, h3, h4⟩ := ht
        have h0 : t0 = t := h0
        have h1 : t1 = 0 := h1
        have h2 : t2 = 2 := h2
        subst h0; subst h1; subst h2
        exact ⟨y, i, x, s0, rfl, h3, h4, hg, zgo_inv h⟩
      · cases h
    · cases h
  · cases h
theorem zv_bst (h : zo_bst nx lo st T V = some (.inl (pc', lo', st', T', V'))) : zo_ast 0 3 (fun v => 0 ≤ v ∧ v ≤ 1) (fun _ => inferInstance) nx lo st T V = some (.inl (pc', lo', st', T', V')) ∨ zo_ast 0 2 (fun v => -128 ≤ v ∧ v ≤ 127) (fun _ => inferInstance) nx lo st T V = some (.inl (pc', lo', st', T', V')) := by
  unfold zo_bst at h
  split at h
  · split at h
    · exact Or.inl h
    · exact Or.inr h
  · cases h
theorem zv_qst (h : zo_qst nx lo st T V = some (.inl (pc', lo', st', T', V'))) : ∃ (y i x : Int) (s0 : List zV), st = (2, y) :: (0, i) :: (2, x) :: s0 ∧ (0 ≤ y ∧ y < zsz T ∧ zc T y = 16) ∧ (0 ≤ x ∧ x < zsz T ∧ zc T x = 4) ∧ (0 ≤ i ∧ i < zl T x) ∧ pc' = nx ∧ lo' = lo ∧ st' = s0 ∧ T' = zq T x (zu (zp T x) i y) ∧ V' = V := by
  unfold zo_qst at h
  split at h
  · rename_i y i x s0
    split at h
    · rename_i ht
      obtain ⟨t0, y⟩ := y
      obtain ⟨t1, i⟩ := i
      obtain ⟨t2, x⟩ := x
      obtain ⟨⟨h0, h1, h2⟩, h3, h4, h5⟩ := ht
      have h0 : t0 = 2 := h0
      have h1 : t1 = 0 := h1
      have h2 : t2 = 2 := h2
      subst h0; subst h1; subst h2
      exact ⟨y, i, x, s0, rfl, h3, h4, h5, zgo_inv h⟩
    · cases h
  · cases h
theorem zv_len (h : zo_len nx lo st T V = some (.inl (pc', lo', st', T', V'))) : (∃ (j : Int) (s0 : List zV), st = (4, j) :: s0 ∧ pc' = nx ∧ lo' = lo ∧ st' = (0, zl T (-2)) :: s0 ∧ T' = T ∧ V' = V) ∨ (∃ (j : Int) (s0 : List zV), st = (5, j) :: s0 ∧ (0 ≤ j ∧ j < 7) ∧ pc' = nx ∧ lo' = lo ∧ st' = (0, ((z_str j).length : Int)) :: s0 ∧ T' = T ∧ V' = V) ∨ (∃ (x : Int) (s0 : List zV), st = (2, x) :: s0 ∧ (0 ≤ x ∧ x < zsz T) ∧ (0 ≤ zc T x ∧ zc T x ≤ 4) ∧ pc' = nx ∧ lo' = lo ∧ st' = (0, zl T x) :: s0 ∧ T' = T ∧ V' = V) := by
  unfold zo_len at h
  split at h
  · rename_i x s0
    obtain ⟨t, x⟩ := x
    split at h
    · rename_i ht
      have h0 : t = 4 := ht
      subst h0
      exact Or.inl ⟨x, s0, rfl, zgo_inv h⟩
    · split at h
      · rename_i ht
        have h0 : t = 5 := ht
        subst h0
        split at h
        · rename_i hg
          exact Or.inr (Or.inl ⟨x, s0, rfl, hg, zgo_inv h⟩)
        · cases h
      · split at h
        · rename_i ht
          obtain ⟨h0, h1, h2⟩ := ht
          have h0 : t = 2 := h0
          subst h0
          exact Or.inr (Or.inr ⟨x, s0, rfl, h1, h2, zgo_inv h⟩)
        · cases h
  · cases h
theorem zv_new (h : zo_new nx a lo st T V = some (.inl (pc', lo', st', T', V'))) : a < 13 ∧ pc' = nx ∧ lo' = lo ∧ st' = (2, zsz T) :: st ∧ T' = zn T ((a : Int) + 10) (zfN a : Int) ∧ V' = zs V (zsz T) (fun _ => 0) := by
  unfold zo_new at h
  split at h
  · rename_i ht
    exact ⟨ht, zgo_inv h⟩
  · cases h
theorem zv_nar {c : Int} (h : zo_nar c nx lo st T V = some (.inl (pc', lo', st', T', V'))) : ∃ (x : Int) (s0 : List zV), st = (0, x) :: s0 ∧ (0 ≤ x ∧ x ≤ 1000000) ∧ pc' = nx ∧ lo' = lo ∧ st' = (2, zsz T) :: s0 ∧ T' = zn T c x ∧ V' = zs V (zsz T) (fun _ => 0) := by
  unfold zo_nar at h
  split at h
  · rename_i x s0
    split at h
    · rename_i ht
      obtain ⟨t, x⟩ := x
      have h0 : t = 0 := ht.1
      subst h0
      exact ⟨x, s0, rfl, ht.2, zgo_inv h⟩
    · cases h
  · cases h
theorem zv_obj (h : zo_obj nx lo st T V = some (.inl (pc', lo', st', T', V'))) : ∃ (x : Int) (s0 : List zV), st = (2, x) :: s0 ∧ (0 ≤ x ∧ zcat s0 ≤ 8) ∧ pc' = nx ∧ lo' = lo ∧ st' = s0 ∧ T' = T ∧ V' = V := by
  unfold zo_obj at h
  split at h
  · rename_i x s0
    split at h
    · rename_i ht
      obtain ⟨t, x⟩ := x
      have h0 : t = 2 := ht.1
      subst h0
      exact ⟨x, s0, rfl, ht.2, zgo_inv h⟩
    · cases h
  · cases h
theorem zv_cpy (h : zo_cpy nx lo st T V = some (.inl (pc', lo', st', T', V'))) : ∃ (n dp d sp s : Int) (s0 : List zV), st = (0, n) :: (0, dp) :: (2, d) :: (0, sp) :: (2, s) :: s0 ∧ ((0 ≤ s ∧ s < zsz T ∧ 0 ≤ d ∧ d < zsz T) ∧ (zc T s = zc T d ∧ (zc T s = 0 ∨ zc T s = 1)) ∧ s ≠ d ∧ (0 ≤ n ∧ 0 ≤ sp ∧ 0 ≤ dp ∧ sp + n ≤ zl T s ∧ dp + n ≤ zl T d) ∧ zcat s0 ≤ 8) ∧ pc' = nx ∧ lo' = lo ∧ st' = s0 ∧ T' = T ∧ V' = zs V d (zcpy (V s) (V d) sp dp n) := by
  unfold zo_cpy at h
  split at h
  · rename_i n dp d sp s s0
    split at h
    · rename_i ht
      obtain ⟨t0, n⟩ := n
      obtain ⟨t1, dp⟩ := dp
      obtain ⟨t2, d⟩ := d
      obtain ⟨t3, sp⟩ := sp
      obtain ⟨t4, s⟩ := s
      obtain ⟨⟨h0, h1, h2, h3, h4⟩, h5⟩ := ht
      have h0 : t0 = 0 := h0
      have h1 : t1 = 0 := h1
      have h2 : t2 = 2 := h2
      have h3 : t3 = 0 := h3
      have h4 : t4 = 2 := h4
      subst h0; subst h1; subst h2; subst h3; subst h4
      exact ⟨n, dp, d, sp, s, s0, rfl, h5, zgo_inv h⟩
    · cases h
  · cases h
theorem zv_strv (h : zo_strv nx lo st T V = some (.inl (pc', lo', st', T', V'))) : ∃ (x : Int) (s0 : List zV), st = (3, x) :: s0 ∧ (0 ≤ x ∧ x < 7) ∧ pc' = nx ∧ lo' = lo ∧ st' = (5, x) :: s0 ∧ T' = T ∧ V' = V := by
  unfold zo_strv at h
  split at h
  · rename_i x s0
    split at h
    · rename_i ht
      obtain ⟨t, x⟩ := x
      have h0 : t = 3 := ht.1
      subst h0
      exact ⟨x, s0, rfl, ht.2, zgo_inv h⟩
    · cases h
  · cases h
theorem zv_strc (h : zo_strc nx lo st T V = some (.inl (pc', lo', st', T', V'))) : ∃ (x : Int) (s0 : List zV), st = (3, x) :: s0 ∧ (0 ≤ x ∧ x < 7) ∧ pc' = nx ∧ lo' = lo ∧ st' = (0, 0) :: s0 ∧ T' = T ∧ V' = V := by
  unfold zo_strc at h
  split at h
  · rename_i x s0
    split at h
    · rename_i ht
      obtain ⟨t, x⟩ := x
      have h0 : t = 3 := ht.1
      subst h0
      exact ⟨x, s0, rfl, ht.2, zgo_inv h⟩
    · cases h
  · cases h
end ZINV
end
section
/-! each instruction of AM is what the machine does -/
def zCX (p : Program) (s : State) (m : MethodId) (args : Array Value) (meth : Method) (c : Code) (E : zEn) (k : Nat) : Prop :=
  p.tables.exec = Jvm.exec ∧ c.code = zby k ∧ c.maxLocals = zmL k ∧ s.vm.findClass (zCn (zown k)) = some m.cls ∧ (∀ w ∈ zWS, w.before args s = true) ∧ zKK E s ∧ ((zy k).name = "<init>" → meth.name = "<init>")
def zSt (E : zEn) (s : State) (T : zT) (V : zM) (H : Heap) (locs : List Loc) (ls : Array Slot) (lo st : List zV) : Prop := zRel E T V H ∧ va_S (zA E) s.heap H locs ∧ zLoc E ls lo ∧ zoks lo ∧ zoks st
def zK (p : Program) (l : Launch) (e : Env) (R : Room) (s : State) (m : MethodId) (args : Array Value) (below : List Frame) (meth : Method) (c : Code) (Q : State → Prop) (E : zEn) (pc' : Nat) (lo' st' : List zV) (T T' : zT) (V' : zM) (cells slots : Nat) : Prop :=
  ∀ (H' : Heap) (locs' : List Loc) (ls' : Array Slot) (cells' slots' : Nat), cells' + T.1 = cells + T'.1 → slots' + T.2.1 = slots + T'.2.1 → zSt E s T' V' H' locs' ls' lo' st' → W p l e R s m args below meth c H' locs' cells' slots' Q (F0 m pc' ls' (st'.map (rv E)))
theorem zoks.cons {v : zV} {st : List zV} (hv : zVok v) (h : zoks st) : zoks (v :: st) := fun w hw => by
  rcases List.mem_cons.mp hw with rfl | h1
  · exact hv
  · exact h w h1
theorem zoks.tl {v : zV} {st : List zV} (h : zoks (v :: st)) : zoks st := fun w hw => h w (List.mem_cons_of_mem _ hw)
theorem zoks.hd {v : zV} {st : List zV} (h : zoks (v :: st)) : zVok v := h v List.mem_cons_self
theorem zok0 {x : Int} (h : z32 x) : zVok (0, x) := ⟨fun _ => h, fun h => absurd h (show ¬ (0 : Nat) = 1 by decide)⟩
theorem zok1 {x : Int} (h : z64 x) : zVok (1, x) := ⟨fun h => absurd h (show ¬ (1 : Nat) = 0 by decide), fun _ => h⟩
theorem zokr {t : Nat} {x : Int} (h : 2 ≤ t) : zVok (t, x) := ⟨fun h1 => by have h1 : t = 0 := h1; omega, fun h1 => by have h1 : t = 1 := h1; omega⟩
theorem zoks.set {v : zV} {lo : List zV} (h : zoks lo) (hv : zVok v) (a : Nat) : zoks (lo.set a v) := fun w hw => by
  rcases List.mem_or_eq_of_mem_set hw with h1 | rfl
  · exact h w h1
  · exact hv
theorem zoks.at {v : zV} {lo : List zV} {a : Nat} (h : zoks lo) (hv : lo[a]? = some v) : zVok v := h v (List.mem_of_getElem? hv)
theorem zrv_ref {E : zEn} (hF : eF E = .null ∨ ∃ a, eF E = .ref a) {v : zV} (h : 2 ≤ v.1 ∧ v.1 ≤ 6) : rv E v = .null ∨ ∃ a, rv E v = .ref a := by
  obtain ⟨t, x⟩ := v
  obtain ⟨h1, h2⟩ := h
  have h1 : 2 ≤ t := h1
  have h2 : t ≤ 6 := h2
  match t, h1, h2 with
  | 2, _, _ =>
    show zrr E x = _ ∨ _
    unfold zrr
    split
    · exact Or.inl rfl
    · exact Or.inr ⟨_, by show zrr E x = _; unfold zrr; rw [if_neg (by assumption)]⟩
  | 3, _, _ => exact Or.inr ⟨_, rfl⟩
  | 4, _, _ => exact Or.inr ⟨_, rfl⟩
  | 5, _, _ => exact Or.inr ⟨_, rfl⟩
  | 6, _, _ => exact hF
theorem zrv_cat {E : zEn} (hF : eF E = .null ∨ ∃ a, eF E = .ref a) (v : zV) : (rv E v).category = if v.1 = 1 then 2 else 1 := by
  obtain ⟨t, x⟩ := v
  match t with
  | 0 => rfl
  | 1 => rfl
  | 2 =>
    show (zrr E x).category = 1
    unfold zrr
    split <;> rfl
  | 3 => rfl
  | 4 => rfl
  | 5 => rfl
  | 6 =>
    show (eF E).category = 1
    rcases hF with h | ⟨a, h⟩ <;> rw [h] <;> rfl
  | t + 7 =>
    show (Value.null).category = if t + 7 = 1 then 2 else 1
    rw [if_neg (by omega)]; rfl
theorem zrv_cats {E : zEn} (hF : eF E = .null ∨ ∃ a, eF E = .ref a) (st : List zV) : ((st.map (rv E)).map fun v => v.category).sum = zcat st := by
  induction st with
  | nil => rfl
  | cons v st ih =>
    show (rv E v).category + ((st.map (rv E)).map fun v => v.category).sum = (if v.1 = 1 then 2 else 1) + zcat st
    rw [ih, zrv_cat hF]
def zlvs (E : zEn) (lo : List zV) : List (Nat × Value) := (lo.zipIdx.filter (fun q => q.1.1 != 9)).map (fun q => (q.2, rv E q.1))
theorem zlvs_mem {E : zEn} {lo : List zV} {i : Nat} {w : Value} : (i, w) ∈ zlvs E lo ↔ ∃ v : zV, lo[i]? = some v ∧ v.1 ≠ 9 ∧ rv E v = w := by
  simp only [zlvs, List.mem_map, List.mem_filter, Prod.mk.injEq, bne_iff_ne, ne_eq]
  constructor
  · rintro ⟨⟨v, j⟩, ⟨h1, h2⟩, h3, h4⟩
    refine ⟨v, ?_, h2, h4⟩
    have h5 := List.mk_mem_zipIdx_iff_getElem?.mp h1
    have h3 : j = i := h3
    rw [← h3]; exact h5
  · rintro ⟨v, h1, h2, h3⟩
    exact ⟨(v, i), ⟨List.mk_mem_zipIdx_iff_getElem?.mpr h1, h2⟩, rfl, h3⟩
theorem zLoc.has {E : zEn} {ls : Array Slot} {lo : List zV} (h : zLoc E ls lo) : lv_has ls lo.length (zlvs E lo) := by
  refine ⟨h.1, h.2.1, ?_⟩
  rintro ⟨i, w⟩ hq
  obtain ⟨v, h1, h2, h3⟩ := zlvs_mem.mp hq
  rw [← h3]
  exact h.2.2 i v h1 h2
theorem zLoc.st1 {E : zEn} (hF : eF E = .null ∨ ∃ a, eF E = .ref a) {ls' : Array Slot} {lo : List zV} {a : Nat} {v : zV} (hl : lv_has ls' lo.length ((a, rv E v) :: (zlvs E lo).filter (fun q => !(q.1 == a) && !(q.1 + 1 == a && q.2.category == 2)))) (hf : a = 0 ∨ (lo.getD (a - 1) (9, 0)).1 ≠ 1) : zLoc E ls' (lo.set a v) := by
  refine ⟨by rw [List.length_set]; exact hl.1, hl.2.1, fun i w hi hw => ?_⟩
  rw [List.getElem?_set] at hi
  by_cases e : a = i
  · subst e
    rw [if_pos rfl] at hi
    split at hi
    · cases hi
      exact hl.2.2 _ List.mem_cons_self
    · cases hi
  · rw [if_neg e] at hi
    refine hl.2.2 (i, rv E w) (List.mem_cons_of_mem _ (List.mem_filter.mpr ⟨zlvs_mem.mpr ⟨w, hi, hw, rfl⟩, ?_⟩))
    have hc := zrv_cat hF w
    simp only [Bool.and_eq_true, Bool.not_eq_true', beq_eq_false_iff_ne, ne_eq, Bool.and_eq_false_iff]
    refine ⟨fun h => e h.symm, ?_⟩
    by_cases e2 : i + 1 = a
    · right
      rw [hc, if_neg]
      · decide
      · intro h1
        rcases hf with h | h
        · omega
        · apply h
          rw [List.getD_eq_getElem?_getD, show a - 1 = i by omega, hi]
          exact h1
    · exact Or.inl e2
theorem zLoc.st2 {E : zEn} (hF : eF E = .null ∨ ∃ a, eF E = .ref a) {ls' : Array Slot} {lo : List zV} {a : Nat} {v : zV} (hl : lv_has ls' lo.length ((a, rv E v) :: (zlvs E lo).filter (fun q => !(q.1 == a) && (!(q.1 == a + 1) && !(q.1 + 1 == a && q.2.category == 2))))) (hf : a = 0 ∨ (lo.getD (a - 1) (9, 0)).1 ≠ 1) : zLoc E ls' ((lo.set a v).set (a + 1) (9, 0)) := by
  refine ⟨by rw [List.length_set, List.length_set]; exact hl.1, hl.2.1, fun i w hi hw => ?_⟩
  rw [List.getElem?_set] at hi
  by_cases e1 : a + 1 = i
  · rw [if_pos e1] at hi
    split at hi
    · cases hi; exact absurd rfl hw
    · cases hi
  rw [if_neg e1, List.getElem?_set] at hi
  by_cases e : a = i
  · subst e
    rw [if_pos rfl] at hi
    split at hi
    · cases hi
      exact hl.2.2 _ List.mem_cons_self
    · cases hi
  · rw [if_neg e] at hi
    refine hl.2.2 (i, rv E w) (List.mem_cons_of_mem _ (List.mem_filter.mpr ⟨zlvs_mem.mpr ⟨w, hi, hw, rfl⟩, ?_⟩))
    have hc := zrv_cat hF w
    simp only [Bool.and_eq_true, Bool.not_eq_true', beq_eq_false_iff_ne, ne_eq, Bool.and_eq_false_iff]
    refine ⟨fun h => e h.symm, fun h => e1 h.symm, ?_⟩
    by_cases e2 : i + 1 = a
    · right
      rw [hc, if_neg]
      · decide
      · intro h1
        rcases hf with h | h
        · omega
        · apply h
          rw [List.getD_eq_getElem?_getD, show a - 1 = i by omega, hi]
          exact h1
    · exact Or.inl e2
theorem zbi {b : Int} (h : -128 ≤ b ∧ b ≤ 127) : (Int8.ofInt b).toInt32 = Int32.ofInt b := by
  apply Int32.toInt_inj.mp
  rw [Int8.toInt_toInt32, Int8.toInt_ofInt_of_le (by omega) (by omega), zt32 ⟨by omega, by omega⟩]
theorem zsi {b : Int} (h : -32768 ≤ b ∧ b ≤ 32767) : (Int16.ofInt b).toInt32 = Int32.ofInt b := by
  apply Int32.toInt_inj.mp
  rw [Int16.toInt_toInt32, Int16.toInt_ofInt_of_le (by omega) (by omega), zt32 ⟨by omega, by omega⟩]
section ZSND
variable {p : Program} {l : Launch} {e : Env} {R : Room} {s : State} {m : MethodId} {args : Array Value} {below : List Frame} {meth : Method} {c : Code} {H : Heap} {locs : List Loc} {cells slots : Nat} {Q : State → Prop} {E : zEn} {k pc pc' a : Nat} {b : Int} {ts : List Nat} {ls : Array Slot} {lo st lo' st' : List zV} {T T' : zT} {V V' : zM}
theorem zi_iadd (C : zCX p s m args meth c E k) (hd : decode (zby k) pc = .ok (.iadd, 1)) (hs : z_step (11, pc + 1, a, b, ts) lo st T V = some (.inl (pc', lo', st', T', V'))) (S : zSt E s T V H locs ls lo st) (kk : zK p l e R s m args below meth c Q E pc' lo' st' T T' V' cells slots) : W p l e R s m args below meth c H locs cells slots Q (F0 m pc ls (st.map (rv E))) := by
  obtain ⟨hx, hb, hml, hown, hts, hKK, hini⟩ := C
  obtain ⟨hR, hV, hL, ho, hk⟩ := S
  have hF := hKK.2.2.2.2.2.2.1.2.2
  simp only [z_step] at hs
  obtain ⟨x, y, s0, rfl, hg, rfl, rfl, rfl, rfl, rfl⟩ := zv_bin hs
  have hy := hk.hd.1 rfl
  have hxx := hk.tl.hd.1 rfl
  refine lv_iadd hx hb hd ?_
  rw [zadd32]
  exact kk _ _ _ _ _ rfl rfl ⟨hR, hV, hL, ho, hk.tl.tl.cons (zok0 (hg))⟩
theorem zi_isub (C : zCX p s m args meth c E k) (hd : decode (zby k) pc = .ok (.isub, 1)) (hs : z_step (12, pc + 1, a, b, ts) lo st T V = some (.inl (pc', lo', st', T', V'))) (S : zSt E s T V H locs ls lo st) (kk : zK p l e R s m args below meth c Q E pc' lo' st' T T' V' cells slots) : W p l e R s m args below meth c H locs cells slots Q (F0 m pc ls (st.map (rv E))) := by
  obtain ⟨hx, hb, hml, hown, hts, hKK, hini⟩ := C
  obtain ⟨hR, hV, hL, ho, hk⟩ := S
  have hF := hKK.2.2.2.2.2.2.1.2.2
  simp only [z_step] at hs
  obtain ⟨x, y, s0, rfl, hg, rfl, rfl, rfl, rfl, rfl⟩ := zv_bin hs
  have hy := hk.hd.1 rfl
  have hxx := hk.tl.hd.1 rfl
  refine lv_isub hx hb hd ?_
  rw [zsub32]
  exact kk _ _ _ _ _ rfl rfl ⟨hR, hV, hL, ho, hk.tl.tl.cons (zok0 (hg))⟩
theorem zi_imul (C : zCX p s m args meth c E k) (hd : decode (zby k) pc = .ok (.imul, 1)) (hs : z_step (13, pc + 1, a, b, ts) lo st T V = some (.inl (pc', lo', st', T', V'))) (S : zSt E s T V H locs ls lo st) (kk : zK p l e R s m args below meth c Q E pc' lo' st' T T' V' cells slots) : W p l e R s m args below meth c H locs cells slots Q (F0 m pc ls (st.map (rv E))) := by
  obtain ⟨hx, hb, hml, hown, hts, hKK, hini⟩ := C
  obtain ⟨hR, hV, hL, ho, hk⟩ := S
  have hF := hKK.2.2.2.2.2.2.1.2.2
  simp only [z_step] at hs
  obtain ⟨x, y, s0, rfl, hg, rfl, rfl, rfl, rfl, rfl⟩ := zv_bin hs
  have hy := hk.hd.1 rfl
  have hxx := hk.tl.hd.1 rfl
  refine lv_imul hx hb hd ?_
  rw [zmul32]
  exact kk _ _ _ _ _ rfl rfl ⟨hR, hV, hL, ho, hk.tl.tl.cons (zok0 (hg))⟩
theorem zi_iand (C : zCX p s m args meth c E k) (hd : decode (zby k) pc = .ok (.iand, 1)) (hs : z_step (14, pc + 1, a, b, ts) lo st T V = some (.inl (pc', lo', st', T', V'))) (S : zSt E s T V H locs ls lo st) (kk : zK p l e R s m args below meth c Q E pc' lo' st' T T' V' cells slots) : W p l e R s m args below meth c H locs cells slots Q (F0 m pc ls (st.map (rv E))) := by
  obtain ⟨hx, hb, hml, hown, hts, hKK, hini⟩ := C
  obtain ⟨hR, hV, hL, ho, hk⟩ := S
  have hF := hKK.2.2.2.2.2.2.1.2.2
  simp only [z_step] at hs
  obtain ⟨x, y, s0, rfl, hg, rfl, rfl, rfl, rfl, rfl⟩ := zv_bin hs
  have hy := hk.hd.1 rfl
  have hxx := hk.tl.hd.1 rfl
  refine lv_iand hx hb hd ?_
  rw [zand32]
  exact kk _ _ _ _ _ rfl rfl ⟨hR, hV, hL, ho, hk.tl.tl.cons (zok0 (zi32 _))⟩
theorem zi_ior (C : zCX p s m args meth c E k) (hd : decode (zby k) pc = .ok (.ior, 1)) (hs : z_step (15, pc + 1, a, b, ts) lo st T V = some (.inl (pc', lo', st', T', V'))) (S : zSt E s T V H locs ls lo st) (kk : zK p l e R s m args below meth c Q E pc' lo' st' T T' V' cells slots) : W p l e R s m args below meth c H locs cells slots Q (F0 m pc ls (st.map (rv E))) := by
  obtain ⟨hx, hb, hml, hown, hts, hKK, hini⟩ := C
  obtain ⟨hR, hV, hL, ho, hk⟩ := S
  have hF := hKK.2.2.2.2.2.2.1.2.2
  simp only [z_step] at hs
  obtain ⟨x, y, s0, rfl, hg, rfl, rfl, rfl, rfl, rfl⟩ := zv_bin hs
  have hy := hk.hd.1 rfl
  have hxx := hk.tl.hd.1 rfl
  refine lv_ior hx hb hd ?_
  rw [zor32]
  exact kk _ _ _ _ _ rfl rfl ⟨hR, hV, hL, ho, hk.tl.tl.cons (zok0 (zi32 _))⟩
theorem zi_ixor (C : zCX p s m args meth c E k) (hd : decode (zby k) pc = .ok (.ixor, 1)) (hs : z_step (16, pc + 1, a, b, ts) lo st T V = some (.inl (pc', lo', st', T', V'))) (S : zSt E s T V H locs ls lo st) (kk : zK p l e R s m args below meth c Q E pc' lo' st' T T' V' cells slots) : W p l e R s m args below meth c H locs cells slots Q (F0 m pc ls (st.map (rv E))) := by
  obtain ⟨hx, hb, hml, hown, hts, hKK, hini⟩ := C
  obtain ⟨hR, hV, hL, ho, hk⟩ := S
  have hF := hKK.2.2.2.2.2.2.1.2.2
  simp only [z_step] at hs
  obtain ⟨x, y, s0, rfl, hg, rfl, rfl, rfl, rfl, rfl⟩ := zv_bin hs
  have hy := hk.hd.1 rfl
  have hxx := hk.tl.hd.1 rfl
  refine lv_ixor hx hb hd ?_
  rw [zxor32]
  exact kk _ _ _ _ _ rfl rfl ⟨hR, hV, hL, ho, hk.tl.tl.cons (zok0 (zi32 _))⟩
theorem zi_idiv (C : zCX p s m args meth c E k) (hd : decode (zby k) pc = .ok (.idiv, 1)) (hs : z_step (17, pc + 1, a, b, ts) lo st T V = some (.inl (pc', lo', st', T', V'))) (S : zSt E s T V H locs ls lo st) (kk : zK p l e R s m args below meth c Q E pc' lo' st' T T' V' cells slots) : W p l e R s m args below meth c H locs cells slots Q (F0 m pc ls (st.map (rv E))) := by
  obtain ⟨hx, hb, hml, hown, hts, hKK, hini⟩ := C
  obtain ⟨hR, hV, hL, ho, hk⟩ := S
  have hF := hKK.2.2.2.2.2.2.1.2.2
  simp only [z_step] at hs
  obtain ⟨x, y, s0, rfl, hg, rfl, rfl, rfl, rfl, rfl⟩ := zv_bin hs
  have hy := hk.hd.1 rfl
  have hxx := hk.tl.hd.1 rfl
  have hne : ¬ Int32.ofInt y = 0 := by rw [z0_32, zeq32 hy zz32]; have := hg.2; omega
  refine lv_idiv hx hb hd hne ?_
  rw [zdiv32 hxx hy hg.1 hg.2]
  exact kk _ _ _ _ _ rfl rfl ⟨hR, hV, hL, ho, hk.tl.tl.cons (zok0 (⟨by have := Int.ediv_nonneg hg.1 (Int.le_of_lt hg.2); omega, by have := Int.ediv_le_self y hg.1; have := hxx.2; omega⟩))⟩
theorem zi_irem (C : zCX p s m args meth c E k) (hd : decode (zby k) pc = .ok (.irem, 1)) (hs : z_step (18, pc + 1, a, b, ts) lo st T V = some (.inl (pc', lo', st', T', V'))) (S : zSt E s T V H locs ls lo st) (kk : zK p l e R s m args below meth c Q E pc' lo' st' T T' V' cells slots) : W p l e R s m args below meth c H locs cells slots Q (F0 m pc ls (st.map (rv E))) := by
  obtain ⟨hx, hb, hml, hown, hts, hKK, hini⟩ := C
  obtain ⟨hR, hV, hL, ho, hk⟩ := S
  have hF := hKK.2.2.2.2.2.2.1.2.2
  simp only [z_step] at hs
  obtain ⟨x, y, s0, rfl, hg, rfl, rfl, rfl, rfl, rfl⟩ := zv_bin hs
  have hy := hk.hd.1 rfl
  have hxx := hk.tl.hd.1 rfl
  have hne : ¬ Int32.ofInt y = 0 := by rw [z0_32, zeq32 hy zz32]; have := hg.2; omega
  refine lv_irem hx hb hd hne ?_
  rw [zmod32 hxx hy hg.1 hg.2]
  exact kk _ _ _ _ _ rfl rfl ⟨hR, hV, hL, ho, hk.tl.tl.cons (zok0 (⟨by have := Int.emod_nonneg x (show y ≠ 0 by have := hg.2; omega); omega, by have := Int.emod_lt_of_pos x hg.2; have := hy.2; omega⟩))⟩
theorem zi_ishl (C : zCX p s m args meth c E k) (hd : decode (zby k) pc = .ok (.ishl, 1)) (hs : z_step (20, pc + 1, a, b, ts) lo st T V = some (.inl (pc', lo', st', T', V'))) (S : zSt E s T V H locs ls lo st) (kk : zK p l e R s m args below meth c Q E pc' lo' st' T T' V' cells slots) : W p l e R s m args below meth c H locs cells slots Q (F0 m pc ls (st.map (rv E))) := by
  obtain ⟨hx, hb, hml, hown, hts, hKK, hini⟩ := C
  obtain ⟨hR, hV, hL, ho, hk⟩ := S
  have hF := hKK.2.2.2.2.2.2.1.2.2
  simp only [z_step] at hs
  obtain ⟨x, y, s0, rfl, hg, rfl, rfl, rfl, rfl, rfl⟩ := zv_bin hs
  have hy := hk.hd.1 rfl
  have hxx := hk.tl.hd.1 rfl
  refine lv_ishl hx hb hd ?_
  rw [zshl32 hg.1 hg.2.1]
  exact kk _ _ _ _ _ rfl rfl ⟨hR, hV, hL, ho, hk.tl.tl.cons (zok0 (hg.2.2))⟩
theorem zi_ishr (C : zCX p s m args meth c E k) (hd : decode (zby k) pc = .ok (.ishr, 1)) (hs : z_step (21, pc + 1, a, b, ts) lo st T V = some (.inl (pc', lo', st', T', V'))) (S : zSt E s T V H locs ls lo st) (kk : zK p l e R s m args below meth c Q E pc' lo' st' T T' V' cells slots) : W p l e R s m args below meth c H locs cells slots Q (F0 m pc ls (st.map (rv E))) := by
  obtain ⟨hx, hb, hml, hown, hts, hKK, hini⟩ := C
  obtain ⟨hR, hV, hL, ho, hk⟩ := S
  have hF := hKK.2.2.2.2.2.2.1.2.2
  simp only [z_step] at hs
  obtain ⟨x, y, s0, rfl, hg, rfl, rfl, rfl, rfl, rfl⟩ := zv_bin hs
  have hy := hk.hd.1 rfl
  have hxx := hk.tl.hd.1 rfl
  refine lv_ishr hx hb hd ?_
  rw [zshr32 hxx hg.1 hg.2]
  exact kk _ _ _ _ _ rfl rfl ⟨hR, hV, hL, ho, hk.tl.tl.cons (zok0 (zdivp hxx (by decide) (by decide)))⟩
theorem zi_ladd (C : zCX p s m args meth c E k) (hd : decode (zby k) pc = .ok (.ladd, 1)) (hs : z_step (23, pc + 1, a, b, ts) lo st T V = some (.inl (pc', lo', st', T', V'))) (S : zSt E s T V H locs ls lo st) (kk : zK p l e R s m args below meth c Q E pc' lo' st' T T' V' cells slots) : W p l e R s m args below meth c H locs cells slots Q (F0 m pc ls (st.map (rv E))) := by
  obtain ⟨hx, hb, hml, hown, hts, hKK, hini⟩ := C
  obtain ⟨hR, hV, hL, ho, hk⟩ := S
  have hF := hKK.2.2.2.2.2.2.1.2.2
  simp only [z_step] at hs
  obtain ⟨x, y, s0, rfl, hg, rfl, rfl, rfl, rfl, rfl⟩ := zv_bin hs
  have hy := hk.hd.2 rfl
  have hxx := hk.tl.hd.2 rfl
  refine lv_ladd hx hb hd ?_
  rw [zadd64]
  exact kk _ _ _ _ _ rfl rfl ⟨hR, hV, hL, ho, hk.tl.tl.cons (zok1 (hg))⟩
theorem zi_lsub (C : zCX p s m args meth c E k) (hd : decode (zby k) pc = .ok (.lsub, 1)) (hs : z_step (24, pc + 1, a, b, ts) lo st T V = some (.inl (pc', lo', st', T', V'))) (S : zSt E s T V H locs ls lo st) (kk : zK p l e R s m args below meth c Q E pc' lo' st' T T' V' cells slots) : W p l e R s m args below meth c H locs cells slots Q (F0 m pc ls (st.map (rv E))) := by
  obtain ⟨hx, hb, hml, hown, hts, hKK, hini⟩ := C
  obtain ⟨hR, hV, hL, ho, hk⟩ := S
  have hF := hKK.2.2.2.2.2.2.1.2.2
  simp only [z_step] at hs
  obtain ⟨x, y, s0, rfl, hg, rfl, rfl, rfl, rfl, rfl⟩ := zv_bin hs
  have hy := hk.hd.2 rfl
  have hxx := hk.tl.hd.2 rfl
  refine lv_lsub hx hb hd ?_
  rw [zsub64]
  exact kk _ _ _ _ _ rfl rfl ⟨hR, hV, hL, ho, hk.tl.tl.cons (zok1 (hg))⟩
theorem zi_lmul (C : zCX p s m args meth c E k) (hd : decode (zby k) pc = .ok (.lmul, 1)) (hs : z_step (25, pc + 1, a, b, ts) lo st T V = some (.inl (pc', lo', st', T', V'))) (S : zSt E s T V H locs ls lo st) (kk : zK p l e R s m args below meth c Q E pc' lo' st' T T' V' cells slots) : W p l e R s m args below meth c H locs cells slots Q (F0 m pc ls (st.map (rv E))) := by
  obtain ⟨hx, hb, hml, hown, hts, hKK, hini⟩ := C
  obtain ⟨hR, hV, hL, ho, hk⟩ := S
  have hF := hKK.2.2.2.2.2.2.1.2.2
  simp only [z_step] at hs
  obtain ⟨x, y, s0, rfl, hg, rfl, rfl, rfl, rfl, rfl⟩ := zv_bin hs
  have hy := hk.hd.2 rfl
  have hxx := hk.tl.hd.2 rfl
  refine lv_lmul hx hb hd ?_
  rw [zmul64]
  exact kk _ _ _ _ _ rfl rfl ⟨hR, hV, hL, ho, hk.tl.tl.cons (zok1 (hg))⟩
theorem zi_land (C : zCX p s m args meth c E k) (hd : decode (zby k) pc = .ok (.land, 1)) (hs : z_step (26, pc + 1, a, b, ts) lo st T V = some (.inl (pc', lo', st', T', V'))) (S : zSt E s T V H locs ls lo st) (kk : zK p l e R s m args below meth c Q E pc' lo' st' T T' V' cells slots) : W p l e R s m args below meth c H locs cells slots Q (F0 m pc ls (st.map (rv E))) := by
  obtain ⟨hx, hb, hml, hown, hts, hKK, hini⟩ := C
  obtain ⟨hR, hV, hL, ho, hk⟩ := S
  have hF := hKK.2.2.2.2.2.2.1.2.2
  simp only [z_step] at hs
  obtain ⟨x, y, s0, rfl, hg, rfl, rfl, rfl, rfl, rfl⟩ := zv_bin hs
  have hy := hk.hd.2 rfl
  have hxx := hk.tl.hd.2 rfl
  refine lv_land hx hb hd ?_
  rw [zand64]
  exact kk _ _ _ _ _ rfl rfl ⟨hR, hV, hL, ho, hk.tl.tl.cons (zok1 (zi64 _))⟩
theorem zi_lor (C : zCX p s m args meth c E k) (hd : decode (zby k) pc = .ok (.lor, 1)) (hs : z_step (27, pc + 1, a, b, ts) lo st T V = some (.inl (pc', lo', st', T', V'))) (S : zSt E s T V H locs ls lo st) (kk : zK p l e R s m args below meth c Q E pc' lo' st' T T' V' cells slots) : W p l e R s m args below meth c H locs cells slots Q (F0 m pc ls (st.map (rv E))) := by
  obtain ⟨hx, hb, hml, hown, hts, hKK, hini⟩ := C
  obtain ⟨hR, hV, hL, ho, hk⟩ := S
  have hF := hKK.2.2.2.2.2.2.1.2.2
  simp only [z_step] at hs
  obtain ⟨x, y, s0, rfl, hg, rfl, rfl, rfl, rfl, rfl⟩ := zv_bin hs
  have hy := hk.hd.2 rfl
  have hxx := hk.tl.hd.2 rfl
  refine lv_lor hx hb hd ?_
  rw [zor64]
  exact kk _ _ _ _ _ rfl rfl ⟨hR, hV, hL, ho, hk.tl.tl.cons (zok1 (zi64 _))⟩
theorem zi_lrem (C : zCX p s m args meth c E k) (hd : decode (zby k) pc = .ok (.lrem, 1)) (hs : z_step (28, pc + 1, a, b, ts) lo st T V = some (.inl (pc', lo', st', T', V'))) (S : zSt E s T V H locs ls lo st) (kk : zK p l e R s m args below meth c Q E pc' lo' st' T T' V' cells slots) : W p l e R s m args below meth c H locs cells slots Q (F0 m pc ls (st.map (rv E))) := by
  obtain ⟨hx, hb, hml, hown, hts, hKK, hini⟩ := C
  obtain ⟨hR, hV, hL, ho, hk⟩ := S
  have hF := hKK.2.2.2.2.2.2.1.2.2
  simp only [z_step] at hs
  obtain ⟨x, y, s0, rfl, hg, rfl, rfl, rfl, rfl, rfl⟩ := zv_bin hs
  have hy := hk.hd.2 rfl
  have hxx := hk.tl.hd.2 rfl
  have hne : ¬ Int64.ofInt y = 0 := by
    rw [show (0 : Int64) = Int64.ofInt 0 from rfl, zeq64 hy (by decide)]; have := hg.2; omega
  refine lv_lrem hx hb hd hne ?_
  rw [zmod64 hxx hy hg.1 hg.2]
  exact kk _ _ _ _ _ rfl rfl ⟨hR, hV, hL, ho, hk.tl.tl.cons (zok1 (⟨by have := Int.emod_nonneg x (show y ≠ 0 by have := hg.2; omega); omega, by have := Int.emod_lt_of_pos x hg.2; have := hy.2; omega⟩))⟩
theorem zi_iushr (C : zCX p s m args meth c E k) (hd : decode (zby k) pc = .ok (.iushr, 1)) (hs : z_step (22, pc + 1, a, b, ts) lo st T V = some (.inl (pc', lo', st', T', V'))) (S : zSt E s T V H locs ls lo st) (kk : zK p l e R s m args below meth c Q E pc' lo' st' T T' V' cells slots) : W p l e R s m args below meth c H locs cells slots Q (F0 m pc ls (st.map (rv E))) := by
  obtain ⟨hx, hb, hml, hown, hts, hKK, hini⟩ := C
  obtain ⟨hR, hV, hL, ho, hk⟩ := S
  have hF := hKK.2.2.2.2.2.2.1.2.2
  simp only [z_step] at hs
  obtain ⟨x, y, s0, rfl, hg, rfl, rfl, rfl, rfl, rfl⟩ := zv_bin hs
  have hxx := hk.tl.hd.1 rfl
  refine lv_iushr hx hb hd (zushr32 hxx hg.1 hg.2) ?_
  refine kk _ _ _ _ _ rfl rfl ⟨hR, hV, hL, ho, hk.tl.tl.cons (zok0 ?_)⟩
  show z32 (if y = 0 then x else (x % 4294967296) / 2 ^ y.toNat)
  have h := zushr32 (y := y) hxx hg.1 hg.2
  split
  · exact hxx
  · have hp : (2 : Int) ≤ 2 ^ y.toNat := by
      obtain ⟨k, hk⟩ : ∃ k, y.toNat = k + 1 := ⟨y.toNat - 1, by have := hg.1; omega⟩
      rw [hk, Int.pow_succ]
      have : (0 : Int) < 2 ^ k := Int.pow_pos (by decide)
      omega
    have h2 : 0 ≤ x % 4294967296 := Int.emod_nonneg _ (by decide)
    have h3 : x % 4294967296 < 4294967296 := Int.emod_lt_of_pos _ (by decide)
    constructor
    · have := Int.ediv_nonneg h2 (show (0 : Int) ≤ 2 ^ y.toNat by omega); omega
    · have : (x % 4294967296) / 2 ^ y.toNat < 2147483648 := by
        rw [Int.ediv_lt_iff_lt_mul (by omega)]
        have : (2147483648 : Int) * 2 ≤ 2147483648 * 2 ^ y.toNat := Int.mul_le_mul_of_nonneg_left hp (by decide)
        omega
      omega
theorem zi_ineg (C : zCX p s m args meth c E k) (hd : decode (zby k) pc = .ok (.ineg, 1)) (hs : z_step (19, pc + 1, a, b, ts) lo st T V = some (.inl (pc', lo', st', T', V'))) (S : zSt E s T V H locs ls lo st) (kk : zK p l e R s m args below meth c Q E pc' lo' st' T T' V' cells slots) : W p l e R s m args below meth c H locs cells slots Q (F0 m pc ls (st.map (rv E))) := by
  obtain ⟨hx, hb, hml, hown, hts, hKK, hini⟩ := C
  obtain ⟨hR, hV, hL, ho, hk⟩ := S
  have hF := hKK.2.2.2.2.2.2.1.2.2
  simp only [z_step] at hs
  obtain ⟨x, s0, rfl, hg, rfl, rfl, rfl, rfl, rfl⟩ := zv_un hs
  refine lv_ineg hx hb hd ?_
  rw [zneg32]
  exact kk _ _ _ _ _ rfl rfl ⟨hR, hV, hL, ho, hk.tl.cons (zok0 hg)⟩
theorem zi_lshl (C : zCX p s m args meth c E k) (hd : decode (zby k) pc = .ok (.lshl, 1)) (hs : z_step (29, pc + 1, a, b, ts) lo st T V = some (.inl (pc', lo', st', T', V'))) (S : zSt E s T V H locs ls lo st) (kk : zK p l e R s m args below meth c Q E pc' lo' st' T T' V' cells slots) : W p l e R s m args below meth c H locs cells slots Q (F0 m pc ls (st.map (rv E))) := by
  obtain ⟨hx, hb, hml, hown, hts, hKK, hini⟩ := C
  obtain ⟨hR, hV, hL, ho, hk⟩ := S
  have hF := hKK.2.2.2.2.2.2.1.2.2
  simp only [z_step] at hs
  obtain ⟨x, y, s0, rfl, hg, rfl, rfl, rfl, rfl, rfl⟩ := zv_lsh hs
  have hxx := hk.tl.hd.2 rfl
  refine lv_lshl hx hb hd (zshl64 hg.1 hg.2.1) ?_
  exact kk _ _ _ _ _ rfl rfl ⟨hR, hV, hL, ho, hk.tl.tl.cons (zok1 (hg.2.2))⟩
theorem zi_lshr (C : zCX p s m args meth c E k) (hd : decode (zby k) pc = .ok (.lshr, 1)) (hs : z_step (30, pc + 1, a, b, ts) lo st T V = some (.inl (pc', lo', st', T', V'))) (S : zSt E s T V H locs ls lo st) (kk : zK p l e R s m args below meth c Q E pc' lo' st' T T' V' cells slots) : W p l e R s m args below meth c H locs cells slots Q (F0 m pc ls (st.map (rv E))) := by
  obtain ⟨hx, hb, hml, hown, hts, hKK, hini⟩ := C
  obtain ⟨hR, hV, hL, ho, hk⟩ := S
  have hF := hKK.2.2.2.2.2.2.1.2.2
  simp only [z_step] at hs
  obtain ⟨x, y, s0, rfl, hg, rfl, rfl, rfl, rfl, rfl⟩ := zv_lsh hs
  have hxx := hk.tl.hd.2 rfl
  refine lv_lshr hx hb hd (zshr64 hxx hg.1 hg.2) ?_
  exact kk _ _ _ _ _ rfl rfl ⟨hR, hV, hL, ho, hk.tl.tl.cons (zok1 (zdivp hxx (by decide) (by decide)))⟩
theorem zi_lcmp (C : zCX p s m args meth c E k) (hd : decode (zby k) pc = .ok (.lcmp, 1)) (hs : z_step (31, pc + 1, a, b, ts) lo st T V = some (.inl (pc', lo', st', T', V'))) (S : zSt E s T V H locs ls lo st) (kk : zK p l e R s m args below meth c Q E pc' lo' st' T T' V' cells slots) : W p l e R s m args below meth c H locs cells slots Q (F0 m pc ls (st.map (rv E))) := by
  obtain ⟨hx, hb, hml, hown, hts, hKK, hini⟩ := C
  obtain ⟨hR, hV, hL, ho, hk⟩ := S
  have hF := hKK.2.2.2.2.2.2.1.2.2
  simp only [z_step] at hs
  obtain ⟨x, y, s0, rfl, rfl, rfl, rfl, rfl, rfl⟩ := zv_cmp hs
  have hy := hk.hd.2 rfl
  have hxx := hk.tl.hd.2 rfl
  refine W.lcmp hx hb hd ?_
  have e1 : lg_cmp (Int64.ofInt x) (Int64.ofInt y) = Int32.ofInt (if y < x then 1 else if x = y then 0 else -1) := by
    unfold lg_cmp
    by_cases h1 : y < x
    · rw [if_pos (show Int64.ofInt x > Int64.ofInt y from (zlt64 hy hxx).mpr h1), if_pos h1]; rfl
    · rw [if_neg (show ¬ Int64.ofInt x > Int64.ofInt y from fun h => h1 ((zlt64 hy hxx).mp h)), if_neg h1]
      by_cases h2 : x = y
      · rw [if_pos ((zeq64 hxx hy).mpr h2), if_pos h2]; rfl
      · rw [if_neg (fun h => h2 ((zeq64 hxx hy).mp h)), if_neg h2]; rfl
  rw [e1]
  refine kk _ _ _ _ _ rfl rfl ⟨hR, hV, hL, ho, hk.tl.tl.cons (zok0 ?_)⟩
  split
  · decide
  · split <;> decide
theorem zi_i2l (C : zCX p s m args meth c E k) (hd : decode (zby k) pc = .ok (.i2l, 1)) (hs : z_step (32, pc + 1, a, b, ts) lo st T V = some (.inl (pc', lo', st', T', V'))) (S : zSt E s T V H locs ls lo st) (kk : zK p l e R s m args below meth c Q E pc' lo' st' T T' V' cells slots) : W p l e R s m args below meth c H locs cells slots Q (F0 m pc ls (st.map (rv E))) := by
  obtain ⟨hx, hb, hml, hown, hts, hKK, hini⟩ := C
  obtain ⟨hR, hV, hL, ho, hk⟩ := S
  have hF := hKK.2.2.2.2.2.2.1.2.2
  simp only [z_step] at hs
  obtain ⟨x, s0, rfl, hg, rfl, rfl, rfl, rfl, rfl⟩ := zv_un hs
  have hxx := hk.hd.1 rfl
  refine lv_i2l hx hb hd (zi2l hxx) ?_
  exact kk _ _ _ _ _ rfl rfl ⟨hR, hV, hL, ho, hk.tl.cons (zok1 ⟨by have := hxx.1; omega, by have := hxx.2; omega⟩)⟩
theorem zi_l2i (C : zCX p s m args meth c E k) (hd : decode (zby k) pc = .ok (.l2i, 1)) (hs : z_step (33, pc + 1, a, b, ts) lo st T V = some (.inl (pc', lo', st', T', V'))) (S : zSt E s T V H locs ls lo st) (kk : zK p l e R s m args below meth c Q E pc' lo' st' T T' V' cells slots) : W p l e R s m args below meth c H locs cells slots Q (F0 m pc ls (st.map (rv E))) := by
  obtain ⟨hx, hb, hml, hown, hts, hKK, hini⟩ := C
  obtain ⟨hR, hV, hL, ho, hk⟩ := S
  have hF := hKK.2.2.2.2.2.2.1.2.2
  simp only [z_step] at hs
  obtain ⟨x, s0, rfl, hg, rfl, rfl, rfl, rfl, rfl⟩ := zv_un hs
  have hxx := hk.hd.2 rfl
  refine lv_l2i hx hb hd (zl2i hxx hg) ?_
  exact kk _ _ _ _ _ rfl rfl ⟨hR, hV, hL, ho, hk.tl.cons (zok0 hg)⟩
theorem zi_i2b (C : zCX p s m args meth c E k) (hd : decode (zby k) pc = .ok (.i2b, 1)) (hs : z_step (34, pc + 1, a, b, ts) lo st T V = some (.inl (pc', lo', st', T', V'))) (S : zSt E s T V H locs ls lo st) (kk : zK p l e R s m args below meth c Q E pc' lo' st' T T' V' cells slots) : W p l e R s m args below meth c H locs cells slots Q (F0 m pc ls (st.map (rv E))) := by
  obtain ⟨hx, hb, hml, hown, hts, hKK, hini⟩ := C
  obtain ⟨hR, hV, hL, ho, hk⟩ := S
  have hF := hKK.2.2.2.2.2.2.1.2.2
  simp only [z_step] at hs
  obtain ⟨x, s0, rfl, hg, rfl, rfl, rfl, rfl, rfl⟩ := zv_un hs
  have hxx := hk.hd.1 rfl
  refine lv_i2b hx hb hd (zi2b hxx) ?_
  exact kk _ _ _ _ _ rfl rfl ⟨hR, hV, hL, ho, hk.tl.cons (zok0 (by show z32 ((x + 128) % 256 - 128); constructor <;> omega))⟩
theorem zi_i2c (C : zCX p s m args meth c E k) (hd : decode (zby k) pc = .ok (.i2c, 1)) (hs : z_step (35, pc + 1, a, b, ts) lo st T V = some (.inl (pc', lo', st', T', V'))) (S : zSt E s T V H locs ls lo st) (kk : zK p l e R s m args below meth c Q E pc' lo' st' T T' V' cells slots) : W p l e R s m args below meth c H locs cells slots Q (F0 m pc ls (st.map (rv E))) := by
  obtain ⟨hx, hb, hml, hown, hts, hKK, hini⟩ := C
  obtain ⟨hR, hV, hL, ho, hk⟩ := S
  have hF := hKK.2.2.2.2.2.2.1.2.2
  simp only [z_step] at hs
  obtain ⟨x, s0, rfl, hg, rfl, rfl, rfl, rfl, rfl⟩ := zv_un hs
  have hxx := hk.hd.1 rfl
  refine lv_i2c hx hb hd (zi2c hxx hg.1 hg.2) ?_
  exact kk _ _ _ _ _ rfl rfl ⟨hR, hV, hL, ho, hk.tl.cons (zok0 hxx)⟩
theorem zi_dup (C : zCX p s m args meth c E k) (hd : decode (zby k) pc = .ok (.dup, 1)) (hs : z_step (36, pc + 1, a, b, ts) lo st T V = some (.inl (pc', lo', st', T', V'))) (S : zSt E s T V H locs ls lo st) (kk : zK p l e R s m args below meth c Q E pc' lo' st' T T' V' cells slots) : W p l e R s m args below meth c H locs cells slots Q (F0 m pc ls (st.map (rv E))) := by
  obtain ⟨hx, hb, hml, hown, hts, hKK, hini⟩ := C
  obtain ⟨hR, hV, hL, ho, hk⟩ := S
  have hF := hKK.2.2.2.2.2.2.1.2.2
  simp only [z_step] at hs
  obtain ⟨v, s0, rfl, hg, rfl, rfl, rfl, rfl, rfl⟩ := zv_dup hs
  refine lv_dup hx hb hd (by rw [zrv_cat hF, if_neg (by omega)]) ?_
  exact kk _ _ _ _ _ rfl rfl ⟨hR, hV, hL, ho, hk.cons hk.hd⟩
theorem zi_pop (C : zCX p s m args meth c E k) (hd : decode (zby k) pc = .ok (.pop, 1)) (hs : z_step (37, pc + 1, a, b, ts) lo st T V = some (.inl (pc', lo', st', T', V'))) (S : zSt E s T V H locs ls lo st) (kk : zK p l e R s m args below meth c Q E pc' lo' st' T T' V' cells slots) : W p l e R s m args below meth c H locs cells slots Q (F0 m pc ls (st.map (rv E))) := by
  obtain ⟨hx, hb, hml, hown, hts, hKK, hini⟩ := C
  obtain ⟨hR, hV, hL, ho, hk⟩ := S
  have hF := hKK.2.2.2.2.2.2.1.2.2
  simp only [z_step] at hs
  obtain ⟨v, s0, rfl, hg, rfl, rfl, rfl, rfl, rfl⟩ := zv_pop hs
  refine lv_pop hx hb hd (va := rv E v) (by rw [zrv_cat hF, if_neg (by omega)]) ?_
  exact kk _ _ _ _ _ rfl rfl ⟨hR, hV, hL, ho, hk.tl⟩
theorem zi_dup2 (C : zCX p s m args meth c E k) (hd : decode (zby k) pc = .ok (.dup2, 1)) (hs : z_step (38, pc + 1, a, b, ts) lo st T V = some (.inl (pc', lo', st', T', V'))) (S : zSt E s T V H locs ls lo st) (kk : zK p l e R s m args below meth c Q E pc' lo' st' T T' V' cells slots) : W p l e R s m args below meth c H locs cells slots Q (F0 m pc ls (st.map (rv E))) := by
  obtain ⟨hx, hb, hml, hown, hts, hKK, hini⟩ := C
  obtain ⟨hR, hV, hL, ho, hk⟩ := S
  have hF := hKK.2.2.2.2.2.2.1.2.2
  simp only [z_step] at hs
  obtain ⟨v, w, s0, rfl, ⟨hg, hg2⟩, rfl, rfl, rfl, rfl, rfl⟩ := zv_dup2 hs
  refine lv_dup2_11 hx hb hd (va := rv E v) (vb := rv E w) (by rw [zrv_cat hF, if_neg (by omega)]) (by rw [zrv_cat hF, if_neg (by omega)]) ?_
  exact kk _ _ _ _ _ rfl rfl ⟨hR, hV, hL, ho, (hk.cons hk.tl.hd).cons hk.hd⟩
theorem zi_iconst (C : zCX p s m args meth c E k) (hd : decode (zby k) pc = .ok (.iconst b, 1)) (hs : z_step (0, pc + 1, a, b, ts) lo st T V = some (.inl (pc', lo', st', T', V'))) (S : zSt E s T V H locs ls lo st) (kk : zK p l e R s m args below meth c Q E pc' lo' st' T T' V' cells slots) : W p l e R s m args below meth c H locs cells slots Q (F0 m pc ls (st.map (rv E))) := by
  obtain ⟨hx, hb, hml, hown, hts, hKK, hini⟩ := C
  obtain ⟨hR, hV, hL, ho, hk⟩ := S
  have hF := hKK.2.2.2.2.2.2.1.2.2
  simp only [z_step] at hs
  have hs : (if z32 b then zgo (pc + 1) lo ((0, b) :: st) T V else none) = some (.inl (pc', lo', st', T', V')) := hs
  split at hs
  · rename_i hg
    obtain ⟨rfl, rfl, rfl, rfl, rfl⟩ := zgo_inv hs
    refine lv_iconst hx hb hd (rfl) ?_
    exact kk _ _ _ _ _ rfl rfl ⟨hR, hV, hL, ho, hk.cons (zok0 hg)⟩
  · cases hs
theorem zi_bipush (C : zCX p s m args meth c E k) (hv : -128 ≤ b ∧ b ≤ 127) (hd : decode (zby k) pc = .ok (.bipush b, 2)) (hs : z_step (0, pc + 2, a, b, ts) lo st T V = some (.inl (pc', lo', st', T', V'))) (S : zSt E s T V H locs ls lo st) (kk : zK p l e R s m args below meth c Q E pc' lo' st' T T' V' cells slots) : W p l e R s m args below meth c H locs cells slots Q (F0 m pc ls (st.map (rv E))) := by
  obtain ⟨hx, hb, hml, hown, hts, hKK, hini⟩ := C
  obtain ⟨hR, hV, hL, ho, hk⟩ := S
  have hF := hKK.2.2.2.2.2.2.1.2.2
  simp only [z_step] at hs
  have hs : (if z32 b then zgo (pc + 2) lo ((0, b) :: st) T V else none) = some (.inl (pc', lo', st', T', V')) := hs
  split at hs
  · rename_i hg
    obtain ⟨rfl, rfl, rfl, rfl, rfl⟩ := zgo_inv hs
    refine lv_bipush hx hb hd (zbi hv) ?_
    exact kk _ _ _ _ _ rfl rfl ⟨hR, hV, hL, ho, hk.cons (zok0 hg)⟩
  · cases hs
theorem zi_sipush (C : zCX p s m args meth c E k) (hv : -32768 ≤ b ∧ b ≤ 32767) (hd : decode (zby k) pc = .ok (.sipush b, 3)) (hs : z_step (0, pc + 3, a, b, ts) lo st T V = some (.inl (pc', lo', st', T', V'))) (S : zSt E s T V H locs ls lo st) (kk : zK p l e R s m args below meth c Q E pc' lo' st' T T' V' cells slots) : W p l e R s m args below meth c H locs cells slots Q (F0 m pc ls (st.map (rv E))) := by
  obtain ⟨hx, hb, hml, hown, hts, hKK, hini⟩ := C
  obtain ⟨hR, hV, hL, ho, hk⟩ := S
  have hF := hKK.2.2.2.2.2.2.1.2.2
  simp only [z_step] at hs
  have hs : (if z32 b then zgo (pc + 3) lo ((0, b) :: st) T V else none) = some (.inl (pc', lo', st', T', V')) := hs
  split at hs
  · rename_i hg
    obtain ⟨rfl, rfl, rfl, rfl, rfl⟩ := zgo_inv hs
    refine lv_sipush hx hb hd (zsi hv) ?_
    exact kk _ _ _ _ _ rfl rfl ⟨hR, hV, hL, ho, hk.cons (zok0 hg)⟩
  · cases hs
theorem zi_lconst (C : zCX p s m args meth c E k) {f : Fin 2} (hv : b = ((f : Nat) : Int)) (hd : decode (zby k) pc = .ok (.lconst f, 1)) (hs : z_step (1, pc + 1, a, b, ts) lo st T V = some (.inl (pc', lo', st', T', V'))) (S : zSt E s T V H locs ls lo st) (kk : zK p l e R s m args below meth c Q E pc' lo' st' T T' V' cells slots) : W p l e R s m args below meth c H locs cells slots Q (F0 m pc ls (st.map (rv E))) := by
  obtain ⟨hx, hb, hml, hown, hts, hKK, hini⟩ := C
  obtain ⟨hR, hV, hL, ho, hk⟩ := S
  have hF := hKK.2.2.2.2.2.2.1.2.2
  simp only [z_step] at hs
  have hs : (if z64 b then zgo (pc + 1) lo ((1, b) :: st) T V else none) = some (.inl (pc', lo', st', T', V')) := hs
  split at hs
  · rename_i hg
    obtain ⟨rfl, rfl, rfl, rfl, rfl⟩ := zgo_inv hs
    refine lv_lconst (v := Int64.ofInt b) hx hb hd (by rw [hv]; rfl) ?_
    exact kk _ _ _ _ _ rfl rfl ⟨hR, hV, hL, ho, hk.cons (zok1 hg)⟩
  · cases hs
theorem zi_ldc (C : zCX p s m args meth c E k) {ix : Nat} (hv : Jvm.Cond.constant (zCn (zown k)) ix (Int32.ofInt b) ∈ zWS) (hd : decode (zby k) pc = .ok (.ldc ix, 2)) (hs : z_step (0, pc + 2, a, b, ts) lo st T V = some (.inl (pc', lo', st', T', V'))) (S : zSt E s T V H locs ls lo st) (kk : zK p l e R s m args below meth c Q E pc' lo' st' T T' V' cells slots) : W p l e R s m args below meth c H locs cells slots Q (F0 m pc ls (st.map (rv E))) := by
  obtain ⟨hx, hb, hml, hown, hts, hKK, hini⟩ := C
  obtain ⟨hR, hV, hL, ho, hk⟩ := S
  have hF := hKK.2.2.2.2.2.2.1.2.2
  simp only [z_step] at hs
  have hs : (if z32 b then zgo (pc + 2) lo ((0, b) :: st) T V else none) = some (.inl (pc', lo', st', T', V')) := hs
  split at hs
  · rename_i hg
    obtain ⟨rfl, rfl, rfl, rfl, rfl⟩ := zgo_inv hs
    refine lv_ldc hx hb hown (hts _ hv) hd ?_
    exact kk _ _ _ _ _ rfl rfl ⟨hR, hV, hL, ho, hk.cons (zok0 hg)⟩
  · cases hs
theorem zi_ldcw (C : zCX p s m args meth c E k) {ix : Nat} (hv : Jvm.Cond.constant (zCn (zown k)) ix (Int32.ofInt b) ∈ zWS) (hd : decode (zby k) pc = .ok (.ldc_w ix, 3)) (hs : z_step (0, pc + 3, a, b, ts) lo st T V = some (.inl (pc', lo', st', T', V'))) (S : zSt E s T V H locs ls lo st) (kk : zK p l e R s m args below meth c Q E pc' lo' st' T T' V' cells slots) : W p l e R s m args below meth c H locs cells slots Q (F0 m pc ls (st.map (rv E))) := by
  obtain ⟨hx, hb, hml, hown, hts, hKK, hini⟩ := C
  obtain ⟨hR, hV, hL, ho, hk⟩ := S
  have hF := hKK.2.2.2.2.2.2.1.2.2
  simp only [z_step] at hs
  have hs : (if z32 b then zgo (pc + 3) lo ((0, b) :: st) T V else none) = some (.inl (pc', lo', st', T', V')) := hs
  split at hs
  · rename_i hg
    obtain ⟨rfl, rfl, rfl, rfl, rfl⟩ := zgo_inv hs
    refine lv_ldcw hx hb hown (hts _ hv) hd ?_
    exact kk _ _ _ _ _ rfl rfl ⟨hR, hV, hL, ho, hk.cons (zok0 hg)⟩
  · cases hs
theorem zi_ldc2 (C : zCX p s m args meth c E k) {ix : Nat} (hv : Jvm.Cond.constantLong (zCn (zown k)) ix (Int64.ofInt b) ∈ zWS) (hd : decode (zby k) pc = .ok (.ldc2_w ix, 3)) (hs : z_step (1, pc + 3, a, b, ts) lo st T V = some (.inl (pc', lo', st', T', V'))) (S : zSt E s T V H locs ls lo st) (kk : zK p l e R s m args below meth c Q E pc' lo' st' T T' V' cells slots) : W p l e R s m args below meth c H locs cells slots Q (F0 m pc ls (st.map (rv E))) := by
  obtain ⟨hx, hb, hml, hown, hts, hKK, hini⟩ := C
  obtain ⟨hR, hV, hL, ho, hk⟩ := S
  have hF := hKK.2.2.2.2.2.2.1.2.2
  simp only [z_step] at hs
  have hs : (if z64 b then zgo (pc + 3) lo ((1, b) :: st) T V else none) = some (.inl (pc', lo', st', T', V')) := hs
  split at hs
  · rename_i hg
    obtain ⟨rfl, rfl, rfl, rfl, rfl⟩ := zgo_inv hs
    refine lv_ldc2 hx hb hown (hts _ hv) hd ?_
    exact kk _ _ _ _ _ rfl rfl ⟨hR, hV, hL, ho, hk.cons (zok1 hg)⟩
  · cases hs
theorem zi_ldcs (C : zCX p s m args meth c E k) {ix : Nat} (hv : ∃ q ∈ z_cs, q.1 = zown k ∧ q.2.1 = ix ∧ q.2.2.1 = a) (hd : decode (zby k) pc = .ok (.ldc ix, 2)) (hs : z_step (3, pc + 2, a, b, ts) lo st T V = some (.inl (pc', lo', st', T', V'))) (S : zSt E s T V H locs ls lo st) (kk : zK p l e R s m args below meth c Q E pc' lo' st' T T' V' cells slots) : W p l e R s m args below meth c H locs cells slots Q (F0 m pc ls (st.map (rv E))) := by
  obtain ⟨hx, hb, hml, hown, hts, hKK, hini⟩ := C
  obtain ⟨hR, hV, hL, ho, hk⟩ := S
  have hF := hKK.2.2.2.2.2.2.1.2.2
  simp only [z_step] at hs
  have hs : (if a < 7 then zgo (pc + 2) lo ((3, (a : Int)) :: st) T V else none) = some (.inl (pc', lo', st', T', V')) := hs
  split at hs
  · rename_i hg
    obtain ⟨rfl, rfl, rfl, rfl, rfl⟩ := zgo_inv hs
    obtain ⟨q, hq, e1, e2, e3⟩ := hv
    have hZ := hKK.2.2.2.1 q hq
    rw [e1, e2, e3] at hZ
    refine va_ldcS hx hb hown hZ hd ?_
    exact kk _ _ _ _ _ rfl rfl ⟨hR, hV, hL, ho, hk.cons (zokr (by decide))⟩
  · cases hs
theorem zi_null (C : zCX p s m args meth c E k) (hd : decode (zby k) pc = .ok (.aconst_null, 1)) (hs : z_step (2, pc + 1, a, b, ts) lo st T V = some (.inl (pc', lo', st', T', V'))) (S : zSt E s T V H locs ls lo st) (kk : zK p l e R s m args below meth c Q E pc' lo' st' T T' V' cells slots) : W p l e R s m args below meth c H locs cells slots Q (F0 m pc ls (st.map (rv E))) := by
  obtain ⟨hx, hb, hml, hown, hts, hKK, hini⟩ := C
  obtain ⟨hR, hV, hL, ho, hk⟩ := S
  have hF := hKK.2.2.2.2.2.2.1.2.2
  simp only [z_step] at hs
  obtain ⟨rfl, rfl, rfl, rfl, rfl⟩ := zgo_inv (show zgo (pc + 1) lo ((2, -1) :: st) T V = _ from hs)
  refine lv_null hx hb hd ?_
  exact kk _ _ _ _ _ rfl rfl ⟨hR, hV, hL, ho, hk.cons (zokr (by decide))⟩
theorem zi_iload_n (C : zCX p s m args meth c E k) {f : Fin 4} (hf : (f : Nat) = a) (hd : decode (zby k) pc = .ok (.iload_n f, 1)) (hs : z_step (4, pc + 1, a, b, ts) lo st T V = some (.inl (pc', lo', st', T', V'))) (S : zSt E s T V H locs ls lo st) (kk : zK p l e R s m args below meth c Q E pc' lo' st' T T' V' cells slots) : W p l e R s m args below meth c H locs cells slots Q (F0 m pc ls (st.map (rv E))) := by
  obtain ⟨hx, hb, hml, hown, hts, hKK, hini⟩ := C
  obtain ⟨hR, hV, hL, ho, hk⟩ := S
  have hF := hKK.2.2.2.2.2.2.1.2.2
  simp only [z_step] at hs
  obtain ⟨x, hv, rfl, rfl, rfl, rfl, rfl⟩ := zv_ld hs
  refine lv_iload_n hx hb hd hf (hL.2.2 a _ hv (show ¬ (0 : Nat) = 9 by decide)) ?_
  exact kk _ _ _ _ _ rfl rfl ⟨hR, hV, hL, ho, hk.cons (ho.at hv)⟩
theorem zi_iload (C : zCX p s m args meth c E k) (hd : decode (zby k) pc = .ok (.iload a, 2)) (hs : z_step (4, pc + 2, a, b, ts) lo st T V = some (.inl (pc', lo', st', T', V'))) (S : zSt E s T V H locs ls lo st) (kk : zK p l e R s m args below meth c Q E pc' lo' st' T T' V' cells slots) : W p l e R s m args below meth c H locs cells slots Q (F0 m pc ls (st.map (rv E))) := by
  obtain ⟨hx, hb, hml, hown, hts, hKK, hini⟩ := C
  obtain ⟨hR, hV, hL, ho, hk⟩ := S
  have hF := hKK.2.2.2.2.2.2.1.2.2
  simp only [z_step] at hs
  obtain ⟨x, hv, rfl, rfl, rfl, rfl, rfl⟩ := zv_ld hs
  refine lv_iload hx hb hd (hL.2.2 a _ hv (show ¬ (0 : Nat) = 9 by decide)) ?_
  exact kk _ _ _ _ _ rfl rfl ⟨hR, hV, hL, ho, hk.cons (ho.at hv)⟩
theorem zi_lload_n (C : zCX p s m args meth c E k) {f : Fin 4} (hf : (f : Nat) = a) (hd : decode (zby k) pc = .ok (.lload_n f, 1)) (hs : z_step (5, pc + 1, a, b, ts) lo st T V = some (.inl (pc', lo', st', T', V'))) (S : zSt E s T V H locs ls lo st) (kk : zK p l e R s m args below meth c Q E pc' lo' st' T T' V' cells slots) : W p l e R s m args below meth c H locs cells slots Q (F0 m pc ls (st.map (rv E))) := by
  obtain ⟨hx, hb, hml, hown, hts, hKK, hini⟩ := C
  obtain ⟨hR, hV, hL, ho, hk⟩ := S
  have hF := hKK.2.2.2.2.2.2.1.2.2
  simp only [z_step] at hs
  obtain ⟨x, hv, rfl, rfl, rfl, rfl, rfl⟩ := zv_ld hs
  refine lv_lload_n hx hb hd hf (hL.2.2 a _ hv (show ¬ (1 : Nat) = 9 by decide)) ?_
  exact kk _ _ _ _ _ rfl rfl ⟨hR, hV, hL, ho, hk.cons (ho.at hv)⟩
theorem zi_lload (C : zCX p s m args meth c E k) (hd : decode (zby k) pc = .ok (.lload a, 2)) (hs : z_step (5, pc + 2, a, b, ts) lo st T V = some (.inl (pc', lo', st', T', V'))) (S : zSt E s T V H locs ls lo st) (kk : zK p l e R s m args below meth c Q E pc' lo' st' T T' V' cells slots) : W p l e R s m args below meth c H locs cells slots Q (F0 m pc ls (st.map (rv E))) := by
  obtain ⟨hx, hb, hml, hown, hts, hKK, hini⟩ := C
  obtain ⟨hR, hV, hL, ho, hk⟩ := S
  have hF := hKK.2.2.2.2.2.2.1.2.2
  simp only [z_step] at hs
  obtain ⟨x, hv, rfl, rfl, rfl, rfl, rfl⟩ := zv_ld hs
  refine lv_lload hx hb hd (hL.2.2 a _ hv (show ¬ (1 : Nat) = 9 by decide)) ?_
  exact kk _ _ _ _ _ rfl rfl ⟨hR, hV, hL, ho, hk.cons (ho.at hv)⟩
theorem zi_aload_n (C : zCX p s m args meth c E k) {f : Fin 4} (hf : (f : Nat) = a) (hd : decode (zby k) pc = .ok (.aload_n f, 1)) (hs : z_step (6, pc + 1, a, b, ts) lo st T V = some (.inl (pc', lo', st', T', V'))) (S : zSt E s T V H locs ls lo st) (kk : zK p l e R s m args below meth c Q E pc' lo' st' T T' V' cells slots) : W p l e R s m args below meth c H locs cells slots Q (F0 m pc ls (st.map (rv E))) := by
  obtain ⟨hx, hb, hml, hown, hts, hKK, hini⟩ := C
  obtain ⟨hR, hV, hL, ho, hk⟩ := S
  have hF := hKK.2.2.2.2.2.2.1.2.2
  simp only [z_step] at hs
  obtain ⟨v, hv, hg, rfl, rfl, rfl, rfl, rfl⟩ := zv_lda hs
  have hlv := hL.2.2 a _ hv (by omega)
  have K := kk H locs ls cells slots rfl rfl ⟨hR, hV, hL, ho, hk.cons (ho.at hv)⟩
  rcases zrv_ref hF hg with h | ⟨q, h⟩
  · rw [List.map_cons, h] at K
    rw [h] at hlv
    exact lv_aload_nN hx hb hd hf hlv K
  · rw [List.map_cons, h] at K
    rw [h] at hlv
    exact lv_aload_n hx hb hd hf hlv K
theorem zi_aload (C : zCX p s m args meth c E k) (hd : decode (zby k) pc = .ok (.aload a, 2)) (hs : z_step (6, pc + 2, a, b, ts) lo st T V = some (.inl (pc', lo', st', T', V'))) (S : zSt E s T V H locs ls lo st) (kk : zK p l e R s m args below meth c Q E pc' lo' st' T T' V' cells slots) : W p l e R s m args below meth c H locs cells slots Q (F0 m pc ls (st.map (rv E))) := by
  obtain ⟨hx, hb, hml, hown, hts, hKK, hini⟩ := C
  obtain ⟨hR, hV, hL, ho, hk⟩ := S
  have hF := hKK.2.2.2.2.2.2.1.2.2
  simp only [z_step] at hs
  obtain ⟨v, hv, hg, rfl, rfl, rfl, rfl, rfl⟩ := zv_lda hs
  have hlv := hL.2.2 a _ hv (by omega)
  have K := kk H locs ls cells slots rfl rfl ⟨hR, hV, hL, ho, hk.cons (ho.at hv)⟩
  rcases zrv_ref hF hg with h | ⟨q, h⟩
  · rw [List.map_cons, h] at K
    rw [h] at hlv
    exact lv_aloadN hx hb hd hlv K
  · rw [List.map_cons, h] at K
    rw [h] at hlv
    exact lv_aload hx hb hd hlv K
theorem zi_istore_n (C : zCX p s m args meth c E k) {f : Fin 4} (hf : (f : Nat) = a) (hd : decode (zby k) pc = .ok (.istore_n f, 1)) (hs : z_step (7, pc + 1, a, b, ts) lo st T V = some (.inl (pc', lo', st', T', V'))) (S : zSt E s T V H locs ls lo st) (kk : zK p l e R s m args below meth c Q E pc' lo' st' T T' V' cells slots) : W p l e R s m args below meth c H locs cells slots Q (F0 m pc ls (st.map (rv E))) := by
  obtain ⟨hx, hb, hml, hown, hts, hKK, hini⟩ := C
  obtain ⟨hR, hV, hL, ho, hk⟩ := S
  have hF := hKK.2.2.2.2.2.2.1.2.2
  simp only [z_step] at hs
  obtain ⟨v, s0, rfl, hq, ⟨hg, hg2⟩, rfl, rfl, rfl, rfl, rfl⟩ := zv_st1 hs
  obtain ⟨t, x⟩ := v
  have hq : t = 0 := by simpa using hq
  subst hq
  refine lv_istore_n (x := Int32.ofInt x) hx hb hd hf hL.has hg rfl (fun ls' hl => ?_)
  exact kk _ _ _ _ _ rfl rfl ⟨hR, hV, zLoc.st1 (v := (0, x)) hF hl hg2, ho.set hk.hd a, hk.tl⟩
theorem zi_istore (C : zCX p s m args meth c E k) (hd : decode (zby k) pc = .ok (.istore a, 2)) (hs : z_step (7, pc + 2, a, b, ts) lo st T V = some (.inl (pc', lo', st', T', V'))) (S : zSt E s T V H locs ls lo st) (kk : zK p l e R s m args below meth c Q E pc' lo' st' T T' V' cells slots) : W p l e R s m args below meth c H locs cells slots Q (F0 m pc ls (st.map (rv E))) := by
  obtain ⟨hx, hb, hml, hown, hts, hKK, hini⟩ := C
  obtain ⟨hR, hV, hL, ho, hk⟩ := S
  have hF := hKK.2.2.2.2.2.2.1.2.2
  simp only [z_step] at hs
  obtain ⟨v, s0, rfl, hq, ⟨hg, hg2⟩, rfl, rfl, rfl, rfl, rfl⟩ := zv_st1 hs
  obtain ⟨t, x⟩ := v
  have hq : t = 0 := by simpa using hq
  subst hq
  refine lv_istore (x := Int32.ofInt x) hx hb hd hL.has hg rfl (fun ls' hl => ?_)
  exact kk _ _ _ _ _ rfl rfl ⟨hR, hV, zLoc.st1 (v := (0, x)) hF hl hg2, ho.set hk.hd a, hk.tl⟩
theorem zi_lstore_n (C : zCX p s m args meth c E k) {f : Fin 4} (hf : (f : Nat) = a) (hd : decode (zby k) pc = .ok (.lstore_n f, 1)) (hs : z_step (8, pc + 1, a, b, ts) lo st T V = some (.inl (pc', lo', st', T', V'))) (S : zSt E s T V H locs ls lo st) (kk : zK p l e R s m args below meth c Q E pc' lo' st' T T' V' cells slots) : W p l e R s m args below meth c H locs cells slots Q (F0 m pc ls (st.map (rv E))) := by
  obtain ⟨hx, hb, hml, hown, hts, hKK, hini⟩ := C
  obtain ⟨hR, hV, hL, ho, hk⟩ := S
  have hF := hKK.2.2.2.2.2.2.1.2.2
  simp only [z_step] at hs
  obtain ⟨x, s0, rfl, ⟨hg, hg2⟩, rfl, rfl, rfl, rfl, rfl⟩ := zv_st2 hs
  refine lv_lstore_n (x := Int64.ofInt x) hx hb hd hf hL.has hg rfl (fun ls' hl => ?_)
  exact kk _ _ _ _ _ rfl rfl ⟨hR, hV, zLoc.st2 (v := (1, x)) hF hl hg2, (ho.set hk.hd a).set (zokr (by decide)) (a + 1), hk.tl⟩
theorem zi_lstore (C : zCX p s m args meth c E k) (hd : decode (zby k) pc = .ok (.lstore a, 2)) (hs : z_step (8, pc + 2, a, b, ts) lo st T V = some (.inl (pc', lo', st', T', V'))) (S : zSt E s T V H locs ls lo st) (kk : zK p l e R s m args below meth c Q E pc' lo' st' T T' V' cells slots) : W p l e R s m args below meth c H locs cells slots Q (F0 m pc ls (st.map (rv E))) := by
  obtain ⟨hx, hb, hml, hown, hts, hKK, hini⟩ := C
  obtain ⟨hR, hV, hL, ho, hk⟩ := S
  have hF := hKK.2.2.2.2.2.2.1.2.2
  simp only [z_step] at hs
  obtain ⟨x, s0, rfl, ⟨hg, hg2⟩, rfl, rfl, rfl, rfl, rfl⟩ := zv_st2 hs
  refine lv_lstore (x := Int64.ofInt x) hx hb hd hL.has hg rfl (fun ls' hl => ?_)
  exact kk _ _ _ _ _ rfl rfl ⟨hR, hV, zLoc.st2 (v := (1, x)) hF hl hg2, (ho.set hk.hd a).set (zokr (by decide)) (a + 1), hk.tl⟩
theorem zi_astore_n (C : zCX p s m args meth c E k) {f : Fin 4} (hf : (f : Nat) = a) (hd : decode (zby k) pc = .ok (.astore_n f, 1)) (hs : z_step (9, pc + 1, a, b, ts) lo st T V = some (.inl (pc', lo', st', T', V'))) (S : zSt E s T V H locs ls lo st) (kk : zK p l e R s m args below meth c Q E pc' lo' st' T T' V' cells slots) : W p l e R s m args below meth c H locs cells slots Q (F0 m pc ls (st.map (rv E))) := by
  obtain ⟨hx, hb, hml, hown, hts, hKK, hini⟩ := C
  obtain ⟨hR, hV, hL, ho, hk⟩ := S
  have hF := hKK.2.2.2.2.2.2.1.2.2
  simp only [z_step] at hs
  obtain ⟨v, s0, rfl, hq, ⟨hg, hg2⟩, rfl, rfl, rfl, rfl, rfl⟩ := zv_st1 hs
  obtain ⟨t, x⟩ := v
  have hq : t = 2 := by simpa using hq
  subst hq
  rcases zrv_ref hF (v := (2, x)) ⟨show 2 ≤ 2 by decide, show 2 ≤ 6 by decide⟩ with h | ⟨q, h⟩
  · rw [List.map_cons, h]
    refine lv_astore_nN hx hb hd hf hL.has hg rfl (fun ls' hl => ?_)
    rw [← h] at hl
    exact kk _ _ _ _ _ rfl rfl ⟨hR, hV, zLoc.st1 (v := (2, x)) hF hl hg2, ho.set hk.hd a, hk.tl⟩
  · rw [List.map_cons, h]
    refine lv_astore_n hx hb hd hf hL.has hg rfl (fun ls' hl => ?_)
    rw [← h] at hl
    exact kk _ _ _ _ _ rfl rfl ⟨hR, hV, zLoc.st1 (v := (2, x)) hF hl hg2, ho.set hk.hd a, hk.tl⟩
theorem zi_astore (C : zCX p s m args meth c E k) (hd : decode (zby k) pc = .ok (.astore a, 2)) (hs : z_step (9, pc + 2, a, b, ts) lo st T V = some (.inl (pc', lo', st', T', V'))) (S : zSt E s T V H locs ls lo st) (kk : zK p l e R s m args below meth c Q E pc' lo' st' T T' V' cells slots) : W p l e R s m args below meth c H locs cells slots Q (F0 m pc ls (st.map (rv E))) := by
  obtain ⟨hx, hb, hml, hown, hts, hKK, hini⟩ := C
  obtain ⟨hR, hV, hL, ho, hk⟩ := S
  have hF := hKK.2.2.2.2.2.2.1.2.2
  simp only [z_step] at hs
  obtain ⟨v, s0, rfl, hq, ⟨hg, hg2⟩, rfl, rfl, rfl, rfl, rfl⟩ := zv_st1 hs
  obtain ⟨t, x⟩ := v
  have hq : t = 2 := by simpa using hq
  subst hq
  rcases zrv_ref hF (v := (2, x)) ⟨show 2 ≤ 2 by decide, show 2 ≤ 6 by decide⟩ with h | ⟨q, h⟩
  · rw [List.map_cons, h]
    refine lv_astoreN hx hb hd hL.has hg rfl (fun ls' hl => ?_)
    rw [← h] at hl
    exact kk _ _ _ _ _ rfl rfl ⟨hR, hV, zLoc.st1 (v := (2, x)) hF hl hg2, ho.set hk.hd a, hk.tl⟩
  · rw [List.map_cons, h]
    refine lv_astore hx hb hd hL.has hg rfl (fun ls' hl => ?_)
    rw [← h] at hl
    exact kk _ _ _ _ _ rfl rfl ⟨hR, hV, zLoc.st1 (v := (2, x)) hF hl hg2, ho.set hk.hd a, hk.tl⟩
theorem zi_iinc (C : zCX p s m args meth c E k) (hd : decode (zby k) pc = .ok (.iinc a b, 3)) (hs : z_step (10, pc + 3, a, b, ts) lo st T V = some (.inl (pc', lo', st', T', V'))) (S : zSt E s T V H locs ls lo st) (kk : zK p l e R s m args below meth c Q E pc' lo' st' T T' V' cells slots) : W p l e R s m args below meth c H locs cells slots Q (F0 m pc ls (st.map (rv E))) := by
  obtain ⟨hx, hb, hml, hown, hts, hKK, hini⟩ := C
  obtain ⟨hR, hV, hL, ho, hk⟩ := S
  have hF := hKK.2.2.2.2.2.2.1.2.2
  simp only [z_step] at hs
  obtain ⟨x, hv, hg, hg2, rfl, rfl, rfl, rfl, rfl⟩ := zv_inc hs
  obtain ⟨j, hj⟩ := List.getElem?_of_mem (zlvs_mem.mpr ⟨(0, x), hv, show ¬ (0 : Nat) = 9 by decide, rfl⟩ : (a, rv E (0, x)) ∈ zlvs E lo)
  refine lv_iinc (v := Int32.ofInt (x + b)) hx hb hd hL.has hj (by rw [zadd32]) (List.getElem?_eq_some_iff.mp hv).1 rfl (fun ls' hl => ?_)
  exact kk _ _ _ _ _ rfl rfl ⟨hR, hV, zLoc.st1 (v := (0, x + b)) hF hl hg2, ho.set (zok0 hg) a, hk⟩
theorem zi_ifeq (C : zCX p s m args meth c E k) {off : Int} (ht : (pc : Int) + off = (a : Int)) (hd : decode (zby k) pc = .ok (.ifCond .eq off, 3)) (hs : z_step (40, pc + 3, a, b, ts) lo st T V = some (.inl (pc', lo', st', T', V'))) (S : zSt E s T V H locs ls lo st) (kk : zK p l e R s m args below meth c Q E pc' lo' st' T T' V' cells slots) : W p l e R s m args below meth c H locs cells slots Q (F0 m pc ls (st.map (rv E))) := by
  obtain ⟨hx, hb, hml, hown, hts, hKK, hini⟩ := C
  obtain ⟨hR, hV, hL, ho, hk⟩ := S
  have hF := hKK.2.2.2.2.2.2.1.2.2
  simp only [z_step] at hs
  obtain ⟨x, s0, rfl, hg, rfl, rfl, rfl, rfl⟩ := zv_if1 hs
  have hxx := hk.hd.1 rfl
  have hc : Int32.ofInt x = 0 ↔ x = 0 := by rw [z0_32]; exact zeq32 hxx zz32
  refine lv_if_eq (tgt := a) hx hb hd ht (fun h => ?_) (fun h => ?_)
  · rcases hg with ⟨g1, rfl⟩ | ⟨g1, rfl⟩
    · exact kk _ _ _ _ _ rfl rfl ⟨hR, hV, hL, ho, hk.tl⟩
    · exact absurd (hc.mp h) g1
  · rcases hg with ⟨g1, rfl⟩ | ⟨g1, rfl⟩
    · exact absurd (hc.mpr g1) (by first | exact h | exact fun q => q h)
    · exact kk _ _ _ _ _ rfl rfl ⟨hR, hV, hL, ho, hk.tl⟩
theorem zi_ifne (C : zCX p s m args meth c E k) {off : Int} (ht : (pc : Int) + off = (a : Int)) (hd : decode (zby k) pc = .ok (.ifCond .ne off, 3)) (hs : z_step (41, pc + 3, a, b, ts) lo st T V = some (.inl (pc', lo', st', T', V'))) (S : zSt E s T V H locs ls lo st) (kk : zK p l e R s m args below meth c Q E pc' lo' st' T T' V' cells slots) : W p l e R s m args below meth c H locs cells slots Q (F0 m pc ls (st.map (rv E))) := by
  obtain ⟨hx, hb, hml, hown, hts, hKK, hini⟩ := C
  obtain ⟨hR, hV, hL, ho, hk⟩ := S
  have hF := hKK.2.2.2.2.2.2.1.2.2
  simp only [z_step] at hs
  obtain ⟨x, s0, rfl, hg, rfl, rfl, rfl, rfl⟩ := zv_if1 hs
  have hxx := hk.hd.1 rfl
  have hc : ¬ Int32.ofInt x = 0 ↔ ¬ x = 0 := by rw [z0_32, zeq32 hxx zz32]
  refine lv_if_ne (tgt := a) hx hb hd ht (fun h => ?_) (fun h => ?_)
  · rcases hg with ⟨g1, rfl⟩ | ⟨g1, rfl⟩
    · exact kk _ _ _ _ _ rfl rfl ⟨hR, hV, hL, ho, hk.tl⟩
    · exact absurd (hc.mp h) g1
  · rcases hg with ⟨g1, rfl⟩ | ⟨g1, rfl⟩
    · exact absurd (hc.mpr g1) (by first | exact h | exact fun q => q h)
    · exact kk _ _ _ _ _ rfl rfl ⟨hR, hV, hL, ho, hk.tl⟩
theorem zi_iflt (C : zCX p s m args meth c E k) {off : Int} (ht : (pc : Int) + off = (a : Int)) (hd : decode (zby k) pc = .ok (.ifCond .lt off, 3)) (hs : z_step (42, pc + 3, a, b, ts) lo st T V = some (.inl (pc', lo', st', T', V'))) (S : zSt E s T V H locs ls lo st) (kk : zK p l e R s m args below meth c Q E pc' lo' st' T T' V' cells slots) : W p l e R s m args below meth c H locs cells slots Q (F0 m pc ls (st.map (rv E))) := by
  obtain ⟨hx, hb, hml, hown, hts, hKK, hini⟩ := C
  obtain ⟨hR, hV, hL, ho, hk⟩ := S
  have hF := hKK.2.2.2.2.2.2.1.2.2
  simp only [z_step] at hs
  obtain ⟨x, s0, rfl, hg, rfl, rfl, rfl, rfl⟩ := zv_if1 hs
  have hxx := hk.hd.1 rfl
  have hc : Int32.ofInt x < 0 ↔ x < 0 := by rw [z0_32]; exact zlt32 hxx zz32
  refine lv_if_lt (tgt := a) hx hb hd ht (fun h => ?_) (fun h => ?_)
  · rcases hg with ⟨g1, rfl⟩ | ⟨g1, rfl⟩
    · exact kk _ _ _ _ _ rfl rfl ⟨hR, hV, hL, ho, hk.tl⟩
    · exact absurd (hc.mp h) g1
  · rcases hg with ⟨g1, rfl⟩ | ⟨g1, rfl⟩
    · exact absurd (hc.mpr g1) (by first | exact h | exact fun q => q h)
    · exact kk _ _ _ _ _ rfl rfl ⟨hR, hV, hL, ho, hk.tl⟩
theorem zi_ifge (C : zCX p s m args meth c E k) {off : Int} (ht : (pc : Int) + off = (a : Int)) (hd : decode (zby k) pc = .ok (.ifCond .ge off, 3)) (hs : z_step (43, pc + 3, a, b, ts) lo st T V = some (.inl (pc', lo', st', T', V'))) (S : zSt E s T V H locs ls lo st) (kk : zK p l e R s m args below meth c Q E pc' lo' st' T T' V' cells slots) : W p l e R s m args below meth c H locs cells slots Q (F0 m pc ls (st.map (rv E))) := by
  obtain ⟨hx, hb, hml, hown, hts, hKK, hini⟩ := C
  obtain ⟨hR, hV, hL, ho, hk⟩ := S
  have hF := hKK.2.2.2.2.2.2.1.2.2
  simp only [z_step] at hs
  obtain ⟨x, s0, rfl, hg, rfl, rfl, rfl, rfl⟩ := zv_if1 hs
  have hxx := hk.hd.1 rfl
  have hc : 0 ≤ Int32.ofInt x ↔ 0 ≤ x := by rw [z0_32]; exact zle32 zz32 hxx
  refine lv_if_ge (tgt := a) hx hb hd ht (fun h => ?_) (fun h => ?_)
  · rcases hg with ⟨g1, rfl⟩ | ⟨g1, rfl⟩
    · exact kk _ _ _ _ _ rfl rfl ⟨hR, hV, hL, ho, hk.tl⟩
    · exact absurd (hc.mp h) g1
  · rcases hg with ⟨g1, rfl⟩ | ⟨g1, rfl⟩
    · exact absurd (hc.mpr g1) (by first | exact h | exact fun q => q h)
    · exact kk _ _ _ _ _ rfl rfl ⟨hR, hV, hL, ho, hk.tl⟩
theorem zi_ifgt (C : zCX p s m args meth c E k) {off : Int} (ht : (pc : Int) + off = (a : Int)) (hd : decode (zby k) pc = .ok (.ifCond .gt off, 3)) (hs : z_step (44, pc + 3, a, b, ts) lo st T V = some (.inl (pc', lo', st', T', V'))) (S : zSt E s T V H locs ls lo st) (kk : zK p l e R s m args below meth c Q E pc' lo' st' T T' V' cells slots) : W p l e R s m args below meth c H locs cells slots Q (F0 m pc ls (st.map (rv E))) := by
  obtain ⟨hx, hb, hml, hown, hts, hKK, hini⟩ := C
  obtain ⟨hR, hV, hL, ho, hk⟩ := S
  have hF := hKK.2.2.2.2.2.2.1.2.2
  simp only [z_step] at hs
  obtain ⟨x, s0, rfl, hg, rfl, rfl, rfl, rfl⟩ := zv_if1 hs
  have hxx := hk.hd.1 rfl
  have hc : 0 < Int32.ofInt x ↔ 0 < x := by rw [z0_32]; exact zlt32 zz32 hxx
  refine lv_if_gt (tgt := a) hx hb hd ht (fun h => ?_) (fun h => ?_)
  · rcases hg with ⟨g1, rfl⟩ | ⟨g1, rfl⟩
    · exact kk _ _ _ _ _ rfl rfl ⟨hR, hV, hL, ho, hk.tl⟩
    · exact absurd (hc.mp h) g1
  · rcases hg with ⟨g1, rfl⟩ | ⟨g1, rfl⟩
    · exact absurd (hc.mpr g1) (by first | exact h | exact fun q => q h)
    · exact kk _ _ _ _ _ rfl rfl ⟨hR, hV, hL, ho, hk.tl⟩
theorem zi_ifle (C : zCX p s m args meth c E k) {off : Int} (ht : (pc : Int) + off = (a : Int)) (hd : decode (zby k) pc = .ok (.ifCond .le off, 3)) (hs : z_step (45, pc + 3, a, b, ts) lo st T V = some (.inl (pc', lo', st', T', V'))) (S : zSt E s T V H locs ls lo st) (kk : zK p l e R s m args below meth c Q E pc' lo' st' T T' V' cells slots) : W p l e R s m args below meth c H locs cells slots Q (F0 m pc ls (st.map (rv E))) := by
  obtain ⟨hx, hb, hml, hown, hts, hKK, hini⟩ := C
  obtain ⟨hR, hV, hL, ho, hk⟩ := S
  have hF := hKK.2.2.2.2.2.2.1.2.2
  simp only [z_step] at hs
  obtain ⟨x, s0, rfl, hg, rfl, rfl, rfl, rfl⟩ := zv_if1 hs
  have hxx := hk.hd.1 rfl
  have hc : Int32.ofInt x ≤ 0 ↔ x ≤ 0 := by rw [z0_32]; exact zle32 hxx zz32
  refine lv_if_le (tgt := a) hx hb hd ht (fun h => ?_) (fun h => ?_)
  · rcases hg with ⟨g1, rfl⟩ | ⟨g1, rfl⟩
    · exact kk _ _ _ _ _ rfl rfl ⟨hR, hV, hL, ho, hk.tl⟩
    · exact absurd (hc.mp h) g1
  · rcases hg with ⟨g1, rfl⟩ | ⟨g1, rfl⟩
    · exact absurd (hc.mpr g1) (by first | exact h | exact fun q => q h)
    · exact kk _ _ _ _ _ rfl rfl ⟨hR, hV, hL, ho, hk.tl⟩
theorem zi_icmpeq (C : zCX p s m args meth c E k) {off : Int} (ht : (pc : Int) + off = (a : Int)) (hd : decode (zby k) pc = .ok (.if_icmp .eq off, 3)) (hs : z_step (46, pc + 3, a, b, ts) lo st T V = some (.inl (pc', lo', st', T', V'))) (S : zSt E s T V H locs ls lo st) (kk : zK p l e R s m args below meth c Q E pc' lo' st' T T' V' cells slots) : W p l e R s m args below meth c H locs cells slots Q (F0 m pc ls (st.map (rv E))) := by
  obtain ⟨hx, hb, hml, hown, hts, hKK, hini⟩ := C
  obtain ⟨hR, hV, hL, ho, hk⟩ := S
  have hF := hKK.2.2.2.2.2.2.1.2.2
  simp only [z_step] at hs
  obtain ⟨x, y, s0, rfl, hg, rfl, rfl, rfl, rfl⟩ := zv_if2 hs
  have hy := hk.hd.1 rfl
  have hxx := hk.tl.hd.1 rfl
  have hc : Int32.ofInt x = Int32.ofInt y ↔ x = y := zeq32 hxx hy
  refine lv_icmp_eq (tgt := a) hx hb hd ht (fun h => ?_) (fun h => ?_)
  · rcases hg with ⟨g1, rfl⟩ | ⟨g1, rfl⟩
    · exact kk _ _ _ _ _ rfl rfl ⟨hR, hV, hL, ho, hk.tl.tl⟩
    · exact absurd (hc.mp h) g1
  · rcases hg with ⟨g1, rfl⟩ | ⟨g1, rfl⟩
    · exact absurd (hc.mpr g1) (by first | exact h | exact fun q => q h)
    · exact kk _ _ _ _ _ rfl rfl ⟨hR, hV, hL, ho, hk.tl.tl⟩
theorem zi_icmpne (C : zCX p s m args meth c E k) {off : Int} (ht : (pc : Int) + off = (a : Int)) (hd : decode (zby k) pc = .ok (.if_icmp .ne off, 3)) (hs : z_step (47, pc + 3, a, b, ts) lo st T V = some (.inl (pc', lo', st', T', V'))) (S : zSt E s T V H locs ls lo st) (kk : zK p l e R s m args below meth c Q E pc' lo' st' T T' V' cells slots) : W p l e R s m args below meth c H locs cells slots Q (F0 m pc ls (st.map (rv E))) := by
  obtain ⟨hx, hb, hml, hown, hts, hKK, hini⟩ := C
  obtain ⟨hR, hV, hL, ho, hk⟩ := S
  have hF := hKK.2.2.2.2.2.2.1.2.2
  simp only [z_step] at hs
  obtain ⟨x, y, s0, rfl, hg, rfl, rfl, rfl, rfl⟩ := zv_if2 hs
  have hy := hk.hd.1 rfl
  have hxx := hk.tl.hd.1 rfl
  have hc : ¬ Int32.ofInt x = Int32.ofInt y ↔ ¬ x = y := by rw [zeq32 hxx hy]
  refine lv_icmp_ne (tgt := a) hx hb hd ht (fun h => ?_) (fun h => ?_)
  · rcases hg with ⟨g1, rfl⟩ | ⟨g1, rfl⟩
    · exact kk _ _ _ _ _ rfl rfl ⟨hR, hV, hL, ho, hk.tl.tl⟩
    · exact absurd (hc.mp h) g1
  · rcases hg with ⟨g1, rfl⟩ | ⟨g1, rfl⟩
    · exact absurd (hc.mpr g1) (by first | exact h | exact fun q => q h)
    · exact kk _ _ _ _ _ rfl rfl ⟨hR, hV, hL, ho, hk.tl.tl⟩
theorem zi_icmplt (C : zCX p s m args meth c E k) {off : Int} (ht : (pc : Int) + off = (a : Int)) (hd : decode (zby k) pc = .ok (.if_icmp .lt off, 3)) (hs : z_step (48, pc + 3, a, b, ts) lo st T V = some (.inl (pc', lo', st', T', V'))) (S : zSt E s T V H locs ls lo st) (kk : zK p l e R s m args below meth c Q E pc' lo' st' T T' V' cells slots) : W p l e R s m args below meth c H locs cells slots Q (F0 m pc ls (st.map (rv E))) := by
  obtain ⟨hx, hb, hml, hown, hts, hKK, hini⟩ := C
  obtain ⟨hR, hV, hL, ho, hk⟩ := S
  have hF := hKK.2.2.2.2.2.2.1.2.2
  simp only [z_step] at hs
  obtain ⟨x, y, s0, rfl, hg, rfl, rfl, rfl, rfl⟩ := zv_if2 hs
  have hy := hk.hd.1 rfl
  have hxx := hk.tl.hd.1 rfl
  have hc : Int32.ofInt x < Int32.ofInt y ↔ x < y := zlt32 hxx hy
  refine lv_icmp_lt (tgt := a) hx hb hd ht (fun h => ?_) (fun h => ?_)
  · rcases hg with ⟨g1, rfl⟩ | ⟨g1, rfl⟩
    · exact kk _ _ _ _ _ rfl rfl ⟨hR, hV, hL, ho, hk.tl.tl⟩
    · exact absurd (hc.mp h) g1
  · rcases hg with ⟨g1, rfl⟩ | ⟨g1, rfl⟩
    · exact absurd (hc.mpr g1) (by first | exact h | exact fun q => q h)
    · exact kk _ _ _ _ _ rfl rfl ⟨hR, hV, hL, ho, hk.tl.tl⟩
theorem zi_icmpge (C : zCX p s m args meth c E k) {off : Int} (ht : (pc : Int) + off = (a : Int)) (hd : decode (zby k) pc = .ok (.if_icmp .ge off, 3)) (hs : z_step (49, pc + 3, a, b, ts) lo st T V = some (.inl (pc', lo', st', T', V'))) (S : zSt E s T V H locs ls lo st) (kk : zK p l e R s m args below meth c Q E pc' lo' st' T T' V' cells slots) : W p l e R s m args below meth c H locs cells slots Q (F0 m pc ls (st.map (rv E))) := by
  obtain ⟨hx, hb, hml, hown, hts, hKK, hini⟩ := C
  obtain ⟨hR, hV, hL, ho, hk⟩ := S
  have hF := hKK.2.2.2.2.2.2.1.2.2
  simp only [z_step] at hs
  obtain ⟨x, y, s0, rfl, hg, rfl, rfl, rfl, rfl⟩ := zv_if2 hs
  have hy := hk.hd.1 rfl
  have hxx := hk.tl.hd.1 rfl
  have hc : Int32.ofInt y ≤ Int32.ofInt x ↔ y ≤ x := zle32 hy hxx
  refine lv_icmp_ge (tgt := a) hx hb hd ht (fun h => ?_) (fun h => ?_)
  · rcases hg with ⟨g1, rfl⟩ | ⟨g1, rfl⟩
    · exact kk _ _ _ _ _ rfl rfl ⟨hR, hV, hL, ho, hk.tl.tl⟩
    · exact absurd (hc.mp h) g1
  · rcases hg with ⟨g1, rfl⟩ | ⟨g1, rfl⟩
    · exact absurd (hc.mpr g1) (by first | exact h | exact fun q => q h)
    · exact kk _ _ _ _ _ rfl rfl ⟨hR, hV, hL, ho, hk.tl.tl⟩
theorem zi_icmpgt (C : zCX p s m args meth c E k) {off : Int} (ht : (pc : Int) + off = (a : Int)) (hd : decode (zby k) pc = .ok (.if_icmp .gt off, 3)) (hs : z_step (50, pc + 3, a, b, ts) lo st T V = some (.inl (pc', lo', st', T', V'))) (S : zSt E s T V H locs ls lo st) (kk : zK p l e R s m args below meth c Q E pc' lo' st' T T' V' cells slots) : W p l e R s m args below meth c H locs cells slots Q (F0 m pc ls (st.map (rv E))) := by
  obtain ⟨hx, hb, hml, hown, hts, hKK, hini⟩ := C
  obtain ⟨hR, hV, hL, ho, hk⟩ := S
  have hF := hKK.2.2.2.2.2.2.1.2.2
  simp only [z_step] at hs
  obtain ⟨x, y, s0, rfl, hg, rfl, rfl, rfl, rfl⟩ := zv_if2 hs
  have hy := hk.hd.1 rfl
  have hxx := hk.tl.hd.1 rfl
  have hc : Int32.ofInt y < Int32.ofInt x ↔ y < x := zlt32 hy hxx
  refine lv_icmp_gt (tgt := a) hx hb hd ht (fun h => ?_) (fun h => ?_)
  · rcases hg with ⟨g1, rfl⟩ | ⟨g1, rfl⟩
    · exact kk _ _ _ _ _ rfl rfl ⟨hR, hV, hL, ho, hk.tl.tl⟩
    · exact absurd (hc.mp h) g1
  · rcases hg with ⟨g1, rfl⟩ | ⟨g1, rfl⟩
    · exact absurd (hc.mpr g1) (by first | exact h | exact fun q => q h)
    · exact kk _ _ _ _ _ rfl rfl ⟨hR, hV, hL, ho, hk.tl.tl⟩
theorem zi_icmple (C : zCX p s m args meth c E k) {off : Int} (ht : (pc : Int) + off = (a : Int)) (hd : decode (zby k) pc = .ok (.if_icmp .le off, 3)) (hs : z_step (51, pc + 3, a, b, ts) lo st T V = some (.inl (pc', lo', st', T', V'))) (S : zSt E s T V H locs ls lo st) (kk : zK p l e R s m args below meth c Q E pc' lo' st' T T' V' cells slots) : W p l e R s m args below meth c H locs cells slots Q (F0 m pc ls (st.map (rv E))) := by
  obtain ⟨hx, hb, hml, hown, hts, hKK, hini⟩ := C
  obtain ⟨hR, hV, hL, ho, hk⟩ := S
  have hF := hKK.2.2.2.2.2.2.1.2.2
  simp only [z_step] at hs
  obtain ⟨x, y, s0, rfl, hg, rfl, rfl, rfl, rfl⟩ := zv_if2 hs
  have hy := hk.hd.1 rfl
  have hxx := hk.tl.hd.1 rfl
  have hc : Int32.ofInt x ≤ Int32.ofInt y ↔ x ≤ y := zle32 hxx hy
  refine lv_icmp_le (tgt := a) hx hb hd ht (fun h => ?_) (fun h => ?_)
  · rcases hg with ⟨g1, rfl⟩ | ⟨g1, rfl⟩
    · exact kk _ _ _ _ _ rfl rfl ⟨hR, hV, hL, ho, hk.tl.tl⟩
    · exact absurd (hc.mp h) g1
  · rcases hg with ⟨g1, rfl⟩ | ⟨g1, rfl⟩
    · exact absurd (hc.mpr g1) (by first | exact h | exact fun q => q h)
    · exact kk _ _ _ _ _ rfl rfl ⟨hR, hV, hL, ho, hk.tl.tl⟩
theorem zi_ifnonnull (C : zCX p s m args meth c E k) {off : Int} (ht : (pc : Int) + off = (a : Int)) (hd : decode (zby k) pc = .ok (.ifnonnull off, 3)) (hs : z_step (52, pc + 3, a, b, ts) lo st T V = some (.inl (pc', lo', st', T', V'))) (S : zSt E s T V H locs ls lo st) (kk : zK p l e R s m args below meth c Q E pc' lo' st' T T' V' cells slots) : W p l e R s m args below meth c H locs cells slots Q (F0 m pc ls (st.map (rv E))) := by
  obtain ⟨hx, hb, hml, hown, hts, hKK, hini⟩ := C
  obtain ⟨hR, hV, hL, ho, hk⟩ := S
  have hF := hKK.2.2.2.2.2.2.1.2.2
  simp only [z_step] at hs
  obtain ⟨x, s0, rfl, hg, rfl, rfl, rfl, rfl⟩ := zv_nn hs
  rcases hg with ⟨g1, rfl⟩ | ⟨g1, rfl⟩
  · rw [List.map_cons, show rv E (2, x) = .ref (eZ E + x.toNat) from zrr_pos g1]
    exact lv_ifnonnull hx hb hd ht (kk _ _ _ _ _ rfl rfl ⟨hR, hV, hL, ho, hk.tl⟩)
  · rw [List.map_cons, show rv E (2, x) = .null from if_pos (by omega)]
    exact lv_ifnonnullN hx hb hd (kk _ _ _ _ _ rfl rfl ⟨hR, hV, hL, ho, hk.tl⟩)
end ZSND
end
section
/-! AM's instructions on the heap are what the machine does -/
theorem zly_any : ∀ ci, ci < 13 → ∀ k, k < zfN ci → z_ly.any (fun q => q.1 == ci && q.2.1 == k) = true := by decide +kernel
theorem zlay {ci k : Nat} (h1 : ci < 13) (h2 : k < zfN ci) : u_lay (zCn ci) (zTX ci) k ∈ zWS := by
  obtain ⟨q, hq, h3⟩ := List.any_eq_true.mp (zly_any ci h1 k h2)
  simp only [Bool.and_eq_true, beq_iff_eq] at h3
  have h4 := zw_mem (List.all_eq_true.mp zly_ok q hq)
  rwa [h3.1, h3.2] at h4
theorem zuws {ci : Nat} (h1 : ci < 13) : ∀ w ∈ u_ws (zCn ci) (zTX ci) (zfN ci), w ∈ zWS := by
  intro w hw
  obtain ⟨k, hk, rfl⟩ := List.mem_map.mp hw
  exact zlay h1 (List.mem_range.mp hk)
theorem zty_ok : ∀ ci, ci < 13 → ∀ k, k < zfN ci → parseFieldDescriptor (zTX ci k).2.2.1 = some (zTy ci k) := by decide +kernel
theorem znm_ok : ∀ ci, ci < 13 → ∀ a, a < zfN ci → ∀ b, b < zfN ci → a ≠ b → (zTX ci a).2.1 ≠ (zTX ci b).2.1 := by decide +kernel
theorem zdc_ok : ∀ ci, ci < 13 → ∀ k, k < zfN ci → (zTX ci k).1 = zCn ci := by decide +kernel
theorem ztk_ok : ∀ ci, ci < 13 → ∀ k, k < zfN ci → (z_isR (zTy ci k) = true ∨ zTy ci k = .int ∨ zTy ci k = .boolean) := by decide +kernel
theorem zapart {E : zEn} {s : State} {args : Array Value} (hts : ∀ w ∈ zWS, w.before args s = true) (hKK : zKK E s) {ci : Nat} (hci : ci < 13) : ∀ x y, x < zfN ci → y < zfN ci → x ≠ y → eI E ci x ≠ eI E ci y := by
  intro x y hx hy hne
  obtain ⟨hS, -⟩ := hKK.1 ci hci
  obtain ⟨_, _, _, fa, hia, ea⟩ := hS x hx
  obtain ⟨_, _, _, fb, hib, eb⟩ := hS y hy
  rw [← ea, ← eb]
  refine u_apart (u_lays hts (zuws hci) hx) (u_lays hts (zuws hci) hy) hia hib ?_
  rw [(State.fieldFound?_type hia (zty_ok ci hci x hx)).1, (State.fieldFound?_type hib (zty_ok ci hci y hy)).1]
  exact znm_ok ci hci x hx y hy hne
theorem zrr_fit (E : zEn) (x : Int) {ty : FieldType} (h : z_isR ty = true) : narrow ty (zrr E x) = zrr E x ∧ fits ty (zrr E x) = true := by
  unfold zrr
  cases ty <;> simp [z_isR] at h <;> split <;> exact ⟨rfl, rfl⟩
theorem zbool_fit {y : Int} (h : 0 ≤ y ∧ y ≤ 1) : narrow .boolean (.int (Int32.ofInt y)) = .int (Int32.ofInt y) ∧ fits .boolean (.int (Int32.ofInt y)) = true := by
  have : y = 0 ∨ y = 1 := by omega
  rcases this with rfl | rfl <;> exact ⟨by decide, by decide⟩
theorem zbyte_nar : ∀ n : Fin 256, narrow .byte (.int (Int32.ofInt ((n.val : Int) - 128))) = .int (Int32.ofInt ((n.val : Int) - 128)) := by decide +kernel
theorem zbyte_fit {y : Int} (h : -128 ≤ y ∧ y ≤ 127) : narrow .byte (.int (Int32.ofInt y)) = .int (Int32.ofInt y) := by
  have h1 := zbyte_nar ⟨(y + 128).toNat, by omega⟩
  have h2 : (((⟨(y + 128).toNat, by omega⟩ : Fin 256).val : Nat) : Int) - 128 = y := by show (((y + 128).toNat : Nat) : Int) - 128 = y; omega
  rwa [h2] at h1
section ZSN2
variable {p : Program} {l : Launch} {e : Env} {R : Room} {s : State} {m : MethodId} {args : Array Value} {below : List Frame} {meth : Method} {c : Code} {H : Heap} {locs : List Loc} {cells slots : Nat} {Q : State → Prop} {E : zEn} {k pc pc' a : Nat} {b : Int} {ts : List Nat} {ls : Array Slot} {lo st lo' st' : List zV} {T T' : zT} {V V' : zM}
theorem zi_goto (C : zCX p s m args meth c E k) {off : Int} (ht : (pc : Int) + off = (a : Int)) {nx : Nat} (hd : decode (zby k) pc = .ok (.goto off, 3)) (hs : z_step (53, nx, a, b, ts) lo st T V = some (.inl (pc', lo', st', T', V'))) (S : zSt E s T V H locs ls lo st) (kk : zK p l e R s m args below meth c Q E pc' lo' st' T T' V' cells slots) : W p l e R s m args below meth c H locs cells slots Q (F0 m pc ls (st.map (rv E))) := by
  obtain ⟨hx, hb, -⟩ := C
  simp only [z_step] at hs
  obtain ⟨rfl, rfl, rfl, rfl, rfl⟩ := zgo_inv hs
  exact lv_goto hx hb hd ht (kk _ _ _ _ _ rfl rfl S)
theorem zi_tsw (C : zCX p s m args meth c E k) {d hi : Int} {offs : Array Int} {n nx : Nat} (hhi : hi = b + (offs.size : Int) - 1) (hts : ts.map (fun t => ((t : Nat) : Int)) = (d :: offs.toList).map (fun t => (pc : Int) + t)) (hd : decode (zby k) pc = .ok (.tableswitch d b hi offs, n)) (hs : z_step (54, nx, a, b, ts) lo st T V = some (.inl (pc', lo', st', T', V'))) (S : zSt E s T V H locs ls lo st) (kk : zK p l e R s m args below meth c Q E pc' lo' st' T T' V' cells slots) : W p l e R s m args below meth c H locs cells slots Q (F0 m pc ls (st.map (rv E))) := by
  obtain ⟨hx, hb, -⟩ := C
  obtain ⟨hR, hV, hL, ho, hk⟩ := S
  simp only [z_step] at hs
  obtain ⟨x, s0, rfl, hg, rfl, rfl, rfl, rfl⟩ := zv_sw hs
  have hxx := hk.hd.1 rfl
  have hlen : ts.length = offs.size + 1 := by
    have := congrArg List.length hts
    simpa using this
  have hat : ∀ (i : Nat) (t : Nat), ts[i]? = some t → ∃ o : Int, (d :: offs.toList)[i]? = some o ∧ (pc : Int) + o = (t : Int) := by
    intro i t ht
    have h1 : (ts.map (fun t => ((t : Nat) : Int)))[i]? = some (t : Int) := by rw [List.getElem?_map, ht]; rfl
    rw [hts, List.getElem?_map] at h1
    cases hq : (d :: offs.toList)[i]? with
    | none => rw [hq] at h1; cases h1
    | some o => rw [hq] at h1; exact ⟨o, rfl, Option.some.inj h1⟩
  rcases hg with ⟨g1, rfl⟩ | ⟨g1, rfl⟩
  · have hi2 : (x - b).toNat + 1 < ts.length := by omega
    obtain ⟨t, ht⟩ : ∃ t, ts[(x - b).toNat + 1]? = some t := ⟨_, List.getElem?_eq_getElem hi2⟩
    obtain ⟨o, ho1, ho2⟩ := hat _ _ ht
    have e1 : ts.getD ((x - b).toNat + 1) 0 = t := by rw [List.getD_eq_getElem?_getD, ht]; rfl
    rw [e1] at kk
    rw [List.getElem?_cons_succ, Array.getElem?_toList] at ho1
    refine lv_tableIn (x := Int32.ofInt x) (off := o) (tgt := t) hx hb hd ?_ ?_ ?_ ho2 (kk _ _ _ _ _ rfl rfl ⟨hR, hV, hL, ho, hk.tl⟩)
    · rw [zt32 hxx]; omega
    · rw [zt32 hxx]; omega
    · rw [zt32 hxx]; exact ho1
  · obtain ⟨t, ht⟩ : ∃ t, ts[0]? = some t := ⟨_, List.getElem?_eq_getElem (by omega)⟩
    obtain ⟨o, ho1, ho2⟩ := hat _ _ ht
    have e1 : ts.getD 0 0 = t := by rw [List.getD_eq_getElem?_getD, ht]; rfl
    rw [e1] at kk
    rw [List.getElem?_cons_zero] at ho1
    cases ho1
    refine lv_tableOut (x := Int32.ofInt x) (tgt := t) hx hb hd ?_ ho2 (kk _ _ _ _ _ rfl rfl ⟨hR, hV, hL, ho, hk.tl⟩)
    rw [zt32 hxx]; omega
/-- what getfield finds -/
theorem zi_getf (C : zCX p s m args meth c E k) {ix : Nat} (hv : Jvm.Cond.fieldLink (zCn (zown k)) ix (zCn a) (zTX a b.toNat).2.1 (zTX a b.toNat).2.2.1 ∈ zWS) (hb0 : 0 ≤ b ∧ b < (zfN a : Int) ∧ a < 13) (hd : decode (zby k) pc = .ok (.getfield ix, 3)) {x : Int} {s0 : List zV} {v : Value} (hR : zRel E T V H) (hx0 : 0 ≤ x ∧ x < zsz T ∧ zc T x = (a : Int) + 10) (he : v = zfv E a b.toNat (zp T x) (V x)) (kk : W p l e R s m args below meth c H locs cells slots Q (F0 m (pc + 3) ls (v :: s0.map (rv E)))) : W p l e R s m args below meth c H locs cells slots Q (F0 m pc ls (((2, x) :: s0).map (rv E))) := by
  obtain ⟨hx, hb, hml, hown, hts, hKK, hini⟩ := C
  have hkN : b.toNat < zfN a := by omega
  obtain ⟨⟨cell, q1, q2, q3, q4⟩, q5⟩ := (hR.cell hx0.1 hx0.2.1).2 a hb0.2.2 hx0.2.2
  obtain ⟨hS, hfc, kC, hkC, hkind⟩ := hKK.1 a hb0.2.2
  obtain ⟨cf, kf, fi, f, hi, hsl⟩ := hS b.toNat hkN
  rw [zdc_ok a hb0.2.2 _ hkN] at hi
  have hi0 : s.fieldFound? (zTX a b.toNat).1 (zTX a b.toNat).2.1 (zTX a b.toNat).2.2.1 = some (cf, kf, fi, f) := by rw [zdc_ok a hb0.2.2 _ hkN]; exact hi
  rw [List.map_cons, show rv E (2, x) = .ref (eZ E + x.toNat) from zrr_pos hx0.1]
  refine W.getf hx hb hown (hts _ hv) hi (u_facts hfc hkC (u_lays hts (zuws hb0.2.2) hkN) hi0).1 q1 (by rw [q3]; exact fun h => by cases h) (v := v) ?_ rfl rfl hd kk
  rw [hsl, q4 _ hkN, he]
theorem zi_geti (C : zCX p s m args meth c E k) {ix : Nat} (hv : Jvm.Cond.fieldLink (zCn (zown k)) ix (zCn a) (zTX a b.toNat).2.1 (zTX a b.toNat).2.2.1 ∈ zWS) (hb0 : 0 ≤ b ∧ b < (zfN a : Int) ∧ a < 13) (hty : zTy a b.toNat = .int ∨ zTy a b.toNat = .boolean) (hd : decode (zby k) pc = .ok (.getfield ix, 3)) (hs : z_step (55, pc + 3, a, b, ts) lo st T V = some (.inl (pc', lo', st', T', V'))) (S : zSt E s T V H locs ls lo st) (kk : zK p l e R s m args below meth c Q E pc' lo' st' T T' V' cells slots) : W p l e R s m args below meth c H locs cells slots Q (F0 m pc ls (st.map (rv E))) := by
  obtain ⟨hR, hV, hL, ho, hk⟩ := S
  simp only [z_step] at hs
  obtain ⟨x, s0, rfl, hx0, rfl, rfl, rfl, rfl, rfl⟩ := zv_get hs
  have hkN : b.toNat < zfN a := by omega
  obtain ⟨-, q5⟩ := (hR.cell hx0.1 hx0.2.1).2 a hb0.2.2 hx0.2.2
  have h5 := q5 _ hkN
  rw [Int.toNat_of_nonneg hb0.1] at h5
  refine zi_getf C hv hb0 hd (v := .int (Int32.ofInt (V' x b))) hR hx0 ?_ (kk _ _ _ _ _ rfl rfl ⟨hR, hV, hL, ho, hk.tl.cons (zok0 h5)⟩)
  rw [zfv, if_neg, Int.toNat_of_nonneg hb0.1]
  rcases hty with h | h <;> rw [h] <;> decide
theorem zi_getr (C : zCX p s m args meth c E k) {ix : Nat} (hv : Jvm.Cond.fieldLink (zCn (zown k)) ix (zCn a) (zTX a b.toNat).2.1 (zTX a b.toNat).2.2.1 ∈ zWS) (hb0 : 0 ≤ b ∧ b < (zfN a : Int) ∧ a < 13) (hty : z_isR (zTy a b.toNat) = true) (hd : decode (zby k) pc = .ok (.getfield ix, 3)) (hs : z_step (56, pc + 3, a, b, ts) lo st T V = some (.inl (pc', lo', st', T', V'))) (S : zSt E s T V H locs ls lo st) (kk : zK p l e R s m args below meth c Q E pc' lo' st' T T' V' cells slots) : W p l e R s m args below meth c H locs cells slots Q (F0 m pc ls (st.map (rv E))) := by
  obtain ⟨hR, hV, hL, ho, hk⟩ := S
  simp only [z_step] at hs
  obtain ⟨x, s0, rfl, hx0, rfl, rfl, rfl, rfl, rfl⟩ := zv_get hs
  refine zi_getf C hv hb0 hd (v := zrr E (zp T' x b)) hR hx0 ?_ (kk _ _ _ _ _ rfl rfl ⟨hR, hV, hL, ho, hk.tl.cons (zokr (by decide))⟩)
  rw [zfv, if_pos hty, Int.toNat_of_nonneg hb0.1]
/-- what putfield does: the cell's slot is written, nothing else -/
theorem zi_putf (C : zCX p s m args meth c E k) {ix : Nat} (hv : Jvm.Cond.fieldLink (zCn (zown k)) ix (zCn a) (zTX a b.toNat).2.1 (zTX a b.toNat).2.2.1 ∈ zWS) (hb0 : 0 ≤ b ∧ b < (zfN a : Int) ∧ a < 13) (hfin : (zTX a b.toNat).2.2.2 = false ∨ ((zy k).name = "<init>" ∧ (zTX a b.toNat).1 = zCn (zown k))) (hd : decode (zby k) pc = .ok (.putfield ix, 3)) {x : Int} {s0 : List zV} {v : Value} (hR : zRel E T V H) (hV : va_S (zA E) s.heap H locs) (hx0 : 0 ≤ x ∧ x < zsz T ∧ zc T x = (a : Int) + 10) (hn : narrow (zTy a b.toNat) v = v) (hfit : fits (zTy a b.toNat) v = true)
    (kk : ∀ (H1 : Heap) (locs1 : List Loc), H1.size = H.size → (∀ q : Nat, q ≠ eZ E + x.toNat → H1[q]? = H[q]?) → va_S (zA E) s.heap H1 locs1 → (∃ cell : Cell, H1[eZ E + x.toNat]? = some cell ∧ cell.cls = eC E a ∧ cell.vm = .none ∧ ∀ j, j < zfN a → cell.slots[eI E a j]? = some (updV (fun j => zfv E a j (zp T x) (V x)) b.toNat v j)) → W p l e R s m args below meth c H1 locs1 cells slots Q (F0 m (pc + 3) ls (s0.map (rv E)))) : W p l e R s m args below meth c H locs cells slots Q (F0 m pc ls (v :: rv E (2, x) :: s0.map (rv E))) := by
  obtain ⟨hx, hb, hml, hown, hts, hKK, hini⟩ := C
  have hkN : b.toNat < zfN a := by omega
  have hap := zapart hts hKK hb0.2.2
  obtain ⟨⟨cell, q1, q2, q3, q4⟩, q5⟩ := (hR.cell hx0.1 hx0.2.1).2 a hb0.2.2 hx0.2.2
  obtain ⟨hS, hfc, kC, hkC, hkind⟩ := hKK.1 a hb0.2.2
  obtain ⟨cf, kf, fi, f, hi0, hsl⟩ := hS b.toNat hkN
  have hi : s.fieldFound? (zCn a) (zTX a b.toNat).2.1 (zTX a b.toNat).2.2.1 = some (cf, kf, fi, f) := by rw [← zdc_ok a hb0.2.2 _ hkN]; exact hi0
  have hlays := u_lays hts (zuws hb0.2.2) hkN
  have hst := (u_facts hfc hkC hlays hi0).1
  have hlay := hts _ (zlay hb0.2.2 hkN)
  unfold u_lay at hlay
  have hput : ∀ {V0 H1 : Heap} {locs1 : List Loc}, va_S (zA E) s.heap H locs → H1.size = H.size → (∀ q : Nat, q ≠ eZ E + x.toNat → H1[q]? = H[q]?) → va_S (zA E) s.heap H1 (locs ++ [⟨eZ E + x.toNat, f.slot⟩]) := by
    intro V0 H1 locs1 h1 h2 h3
    exact h1.put h2 h3 (show eZ E ≤ eZ E + x.toNat by omega)
  rw [show rv E (2, x) = .ref (eZ E + x.toNat) from zrr_pos hx0.1]
  by_cases hfl : (zTX a b.toNat).2.2.2 = true
  rotate_left
  · rw [if_neg hfl] at hlay
    have h6 := u_store hfc hkC hkind hlay hi0 (zty_ok a hb0.2.2 _ hkN) hn hfit
    refine W.putK hx hb (f := f) ⟨hown, hts _ hv, ⟨_, _, _, hi⟩, hst⟩ (by rw [q2]; exact h6) q1 q3 (by rw [hsl]; exact k2_hasslot (q4 _ hkN)) rfl rfl hd fun H' e1 e2 e3 => ?_
    refine kk H' _ e2 e3 (hput (V0 := H) (locs1 := locs) hV e2 e3) ⟨_, e1, q2, q3, ?_⟩
    rw [hsl]
    exact t_set q4 hap hkN v
  · obtain ⟨hf1, hf2⟩ : (zy k).name = "<init>" ∧ (zTX a b.toNat).1 = zCn (zown k) := by
      rcases hfin with h | h
      · rw [h] at hfl; cases hfl
      · exact h
    have hcf : m.cls = cf := by
      rw [if_pos hfl] at hlay
      obtain ⟨_, _, c', _, _, _, -, -, hf', -, -, -, hown2, -⟩ := Cond.laysFinal_spec hlay
      have e1 : c' = cf := by have := hi0.symm.trans hf'; simp at this; exact this.1.symm
      rw [hf2] at hown2
      rw [← e1]; exact Option.some.inj (hown.symm.trans hown2)
    have h6 := u_fits hfc hkC hkind hlays hi0 (zty_ok a hb0.2.2 _ hkN) hn hfit
    refine W.putFinK hx hb hown (hts _ hv) hi hst hcf (hini hf1) (by rw [q2]; exact h6) q1 q3 (by rw [hsl]; exact k2_hasslot (q4 _ hkN)) rfl rfl hd fun H' e1 e2 e3 => ?_
    refine kk H' _ e2 e3 (hput (V0 := H) (locs1 := locs) hV e2 e3) ⟨_, e1, q2, q3, ?_⟩
    rw [hsl]
    exact t_set q4 hap hkN v
end ZSN2
end
section
/-! AM's writes, arrays and new cells are what the machine does -/
section ZSN3
variable {p : Program} {l : Launch} {e : Env} {R : Room} {s : State} {m : MethodId} {args : Array Value} {below : List Frame} {meth : Method} {c : Code} {H : Heap} {locs : List Loc} {cells slots : Nat} {Q : State → Prop} {E : zEn} {k pc pc' a : Nat} {b : Int} {ts : List Nat} {ls : Array Slot} {lo st lo' st' : List zV} {T T' : zT} {V V' : zM}
/-- an object's cell, a number of it written -/
theorem zput_i {ci : Nat} {x b y : Int} {p0 v0 : Int → Int} {o : Option Cell} {n c0 : Int} (hci : ci < 13) (hc0 : c0 = (ci : Int) + 10) (hb0 : 0 ≤ b ∧ b < (zfN ci : Int)) (hty : zTy ci b.toNat = .int ∨ zTy ci b.toNat = .boolean) (hy : z32 y) (h5 : ∀ k, k < zfN ci → z32 (v0 (k : Int)))
    (h : ∃ cell : Cell, o = some cell ∧ cell.cls = eC E ci ∧ cell.vm = .none ∧ ∀ j, j < zfN ci → cell.slots[eI E ci j]? = some (updV (fun j => zfv E ci j p0 v0) b.toNat (.int (Int32.ofInt y)) j)) : zCell E c0 n p0 (zu v0 b y) o := by
  have hb2 := Int.toNat_of_nonneg hb0.1
  refine ⟨fun t ht h => by omega, fun cj hcj h => ?_⟩
  have e1 : cj = ci := by omega
  subst e1
  obtain ⟨cell, q1, q2, q3, q4⟩ := h
  refine ⟨⟨cell, q1, q2, q3, fun j hj => ?_⟩, fun j hj => ?_⟩
  · rw [q4 j hj]
    congr 1
    by_cases e2 : j = b.toNat
    · subst e2
      rw [updV, if_pos rfl, zfv, if_neg, hb2, zu_at]
      rcases hty with h | h <;> rw [h] <;> decide
    · rw [updV, if_neg e2, zfv, zfv, zu_ne _ _ (show ((j : Nat) : Int) ≠ b by omega)]
  · by_cases e2 : ((j : Nat) : Int) = b
    · rw [e2, zu_at]; exact hy
    · rw [zu_ne _ _ e2]; exact h5 j hj
theorem zput_r {ci : Nat} {x b y : Int} {p0 v0 : Int → Int} {o : Option Cell} {n c0 : Int} (hci : ci < 13) (hc0 : c0 = (ci : Int) + 10) (hb0 : 0 ≤ b ∧ b < (zfN ci : Int)) (hty : z_isR (zTy ci b.toNat) = true) (h5 : ∀ k, k < zfN ci → z32 (v0 (k : Int)))
    (h : ∃ cell : Cell, o = some cell ∧ cell.cls = eC E ci ∧ cell.vm = .none ∧ ∀ j, j < zfN ci → cell.slots[eI E ci j]? = some (updV (fun j => zfv E ci j p0 v0) b.toNat (zrr E y) j)) : zCell E c0 n (zu p0 b y) v0 o := by
  have hb2 := Int.toNat_of_nonneg hb0.1
  refine ⟨fun t ht h => by omega, fun cj hcj h => ?_⟩
  have e1 : cj = ci := by omega
  subst e1
  obtain ⟨cell, q1, q2, q3, q4⟩ := h
  refine ⟨⟨cell, q1, q2, q3, fun j hj => ?_⟩, h5⟩
  rw [q4 j hj]
  congr 1
  by_cases e2 : j = b.toNat
  · subst e2
    rw [updV, if_pos rfl, zfv, if_pos hty, hb2, zu_at]
  · rw [updV, if_neg e2, zfv, zfv, zu_ne _ _ (show ((j : Nat) : Int) ≠ b by omega)]
theorem zi_puti (C : zCX p s m args meth c E k) {ix : Nat} (hv : Jvm.Cond.fieldLink (zCn (zown k)) ix (zCn a) (zTX a b.toNat).2.1 (zTX a b.toNat).2.2.1 ∈ zWS) (hb0 : 0 ≤ b ∧ b < (zfN a : Int) ∧ a < 13) (hfin : (zTX a b.toNat).2.2.2 = false ∨ ((zy k).name = "<init>" ∧ (zTX a b.toNat).1 = zCn (zown k))) (hty : zTy a b.toNat = .int) (hd : decode (zby k) pc = .ok (.putfield ix, 3)) (hs : z_step (57, pc + 3, a, b, ts) lo st T V = some (.inl (pc', lo', st', T', V'))) (S : zSt E s T V H locs ls lo st) (kk : zK p l e R s m args below meth c Q E pc' lo' st' T T' V' cells slots) : W p l e R s m args below meth c H locs cells slots Q (F0 m pc ls (st.map (rv E))) := by
  obtain ⟨hR, hV, hL, ho, hk⟩ := S
  simp only [z_step] at hs
  obtain ⟨y, x, s0, rfl, hx0, hg, rfl, rfl, rfl, rfl, rfl⟩ := zv_put hs
  have hy := hk.hd.1 rfl
  obtain ⟨-, q5⟩ := (hR.cell hx0.1 hx0.2.1).2 a hb0.2.2 hx0.2.2
  have hfit : narrow (zTy a b.toNat) (.int (Int32.ofInt y)) = .int (Int32.ofInt y) ∧ fits (zTy a b.toNat) (.int (Int32.ofInt y)) = true := ⟨by rw [hty]; rfl, by rw [hty]; rfl⟩
  refine zi_putf C hv hb0 hfin hd (v := .int (Int32.ofInt y)) (s0 := st') hR hV hx0 hfit.1 hfit.2 (fun H1 locs1 e2 e3 hV1 hc => ?_)
  exact kk _ _ _ _ _ rfl rfl ⟨hR.setV hx0.1 hx0.2.1 e2 e3 (zput_i (x := x) hb0.2.2 hx0.2.2 ⟨hb0.1, hb0.2.1⟩ (by first | exact Or.inl hty | exact Or.inr hty) hy q5 hc), hV1, hL, ho, hk.tl.tl⟩
theorem zi_putz (C : zCX p s m args meth c E k) {ix : Nat} (hv : Jvm.Cond.fieldLink (zCn (zown k)) ix (zCn a) (zTX a b.toNat).2.1 (zTX a b.toNat).2.2.1 ∈ zWS) (hb0 : 0 ≤ b ∧ b < (zfN a : Int) ∧ a < 13) (hfin : (zTX a b.toNat).2.2.2 = false ∨ ((zy k).name = "<init>" ∧ (zTX a b.toNat).1 = zCn (zown k))) (hty : zTy a b.toNat = .boolean) (hd : decode (zby k) pc = .ok (.putfield ix, 3)) (hs : z_step (58, pc + 3, a, b, ts) lo st T V = some (.inl (pc', lo', st', T', V'))) (S : zSt E s T V H locs ls lo st) (kk : zK p l e R s m args below meth c Q E pc' lo' st' T T' V' cells slots) : W p l e R s m args below meth c H locs cells slots Q (F0 m pc ls (st.map (rv E))) := by
  obtain ⟨hR, hV, hL, ho, hk⟩ := S
  simp only [z_step] at hs
  obtain ⟨y, x, s0, rfl, hx0, hg, rfl, rfl, rfl, rfl, rfl⟩ := zv_put hs
  have hy := hk.hd.1 rfl
  obtain ⟨-, q5⟩ := (hR.cell hx0.1 hx0.2.1).2 a hb0.2.2 hx0.2.2
  have hfit : narrow (zTy a b.toNat) (.int (Int32.ofInt y)) = .int (Int32.ofInt y) ∧ fits (zTy a b.toNat) (.int (Int32.ofInt y)) = true := by rw [hty]; exact zbool_fit hg
  refine zi_putf C hv hb0 hfin hd (v := .int (Int32.ofInt y)) (s0 := st') hR hV hx0 hfit.1 hfit.2 (fun H1 locs1 e2 e3 hV1 hc => ?_)
  exact kk _ _ _ _ _ rfl rfl ⟨hR.setV hx0.1 hx0.2.1 e2 e3 (zput_i (x := x) hb0.2.2 hx0.2.2 ⟨hb0.1, hb0.2.1⟩ (by first | exact Or.inl hty | exact Or.inr hty) hy q5 hc), hV1, hL, ho, hk.tl.tl⟩
theorem zi_putr (C : zCX p s m args meth c E k) {ix : Nat} (hv : Jvm.Cond.fieldLink (zCn (zown k)) ix (zCn a) (zTX a b.toNat).2.1 (zTX a b.toNat).2.2.1 ∈ zWS) (hb0 : 0 ≤ b ∧ b < (zfN a : Int) ∧ a < 13) (hfin : (zTX a b.toNat).2.2.2 = false ∨ ((zy k).name = "<init>" ∧ (zTX a b.toNat).1 = zCn (zown k))) (hty : z_isR (zTy a b.toNat) = true) (hd : decode (zby k) pc = .ok (.putfield ix, 3)) (hs : z_step (59, pc + 3, a, b, ts) lo st T V = some (.inl (pc', lo', st', T', V'))) (S : zSt E s T V H locs ls lo st) (kk : zK p l e R s m args below meth c Q E pc' lo' st' T T' V' cells slots) : W p l e R s m args below meth c H locs cells slots Q (F0 m pc ls (st.map (rv E))) := by
  obtain ⟨hR, hV, hL, ho, hk⟩ := S
  simp only [z_step] at hs
  obtain ⟨y, x, s0, rfl, hx0, rfl, rfl, rfl, rfl, rfl⟩ := zv_putr hs
  obtain ⟨-, q5⟩ := (hR.cell hx0.1 hx0.2.1).2 a hb0.2.2 hx0.2.2
  have hfit := zrr_fit E y hty
  refine zi_putf C hv hb0 hfin hd (v := zrr E y) (s0 := st') hR hV hx0 hfit.1 hfit.2 (fun H1 locs1 e2 e3 hV1 hc => ?_)
  exact kk _ _ _ _ _ rfl rfl ⟨hR.setP hx0.1 hx0.2.1 e2 e3 (zput_r (x := x) hb0.2.2 hx0.2.2 ⟨hb0.1, hb0.2.1⟩ hty q5 hc), hV1, hL, ho, hk.tl.tl⟩
theorem zarr_at {t : Nat} (ht : t < 5) (hR : zRel E T V H) {x : Int} (hx0 : 0 ≤ x ∧ x < zsz T ∧ zc T x = (t : Int)) : zArr E t (zl T x) (zp T x) (V x) H[eZ E + x.toNat]? := (hR.cell hx0.1 hx0.2.1).1 t ht hx0.2.2
theorem zix {t : Nat} {x i : Int} {o : Option Cell} (h : zArr E t (zl T x) (zp T x) (V x) o) (hi : 0 ≤ i ∧ i < zl T x) : z32 i ∧ i.toNat < (zl T x).toNat := by
  obtain ⟨-, h1, h2, -⟩ := h
  exact ⟨⟨by omega, by omega⟩, by omega⟩
theorem zi_iald (C : zCX p s m args meth c E k) (hd : decode (zby k) pc = .ok (.iaload, 1)) (hs : zo_ald 0 V 0 (pc + 1) lo st T V = some (.inl (pc', lo', st', T', V'))) (S : zSt E s T V H locs ls lo st) (kk : zK p l e R s m args below meth c Q E pc' lo' st' T T' V' cells slots) : W p l e R s m args below meth c H locs cells slots Q (F0 m pc ls (st.map (rv E))) := by
  obtain ⟨hx, hb, hml, hown, hts, hKK, hini⟩ := C
  obtain ⟨hR, hV, hL, ho, hk⟩ := S
  obtain ⟨i, x, s0, rfl, hx0, hi, rfl, rfl, rfl, rfl, rfl⟩ := zv_ald hs
  have hA := zarr_at (t := 0) (by decide) hR hx0
  obtain ⟨hi32, hlt⟩ := zix hA hi
  obtain ⟨q1, q2, q3, q4⟩ := hA
  have hin := zin (n := (zl T' x).toNat) hi32 hi.1 (by omega)
  have h4 := q4 i.toNat hlt
  rw [Int.toNat_of_nonneg hi.1] at h4
  rw [List.map_cons, List.map_cons, show rv E (2, x) = .ref (eZ E + x.toNat) from zrr_pos hx0.1, show rv E (0, i) = .int (Int32.ofInt i) from rfl]
  refine W.iald (v := rv E (0, V' x i)) hx hb q1 ((hKK.2.1 0 (by decide)).1 _ _) (fun q => by cases q) (by rw [arrV_size]; exact hin) (by rw [znat hi32 hi.1, arrV_read _ _ hlt, Int.toNat_of_nonneg hi.1]; rfl) rfl rfl hd (kk _ _ _ _ _ rfl rfl ⟨hR, hV, hL, ho, hk.tl.tl.cons (zok0 h4)⟩)
theorem zi_lald (C : zCX p s m args meth c E k) (hd : decode (zby k) pc = .ok (.laload, 1)) (hs : zo_ald 1 V 1 (pc + 1) lo st T V = some (.inl (pc', lo', st', T', V'))) (S : zSt E s T V H locs ls lo st) (kk : zK p l e R s m args below meth c Q E pc' lo' st' T T' V' cells slots) : W p l e R s m args below meth c H locs cells slots Q (F0 m pc ls (st.map (rv E))) := by
  obtain ⟨hx, hb, hml, hown, hts, hKK, hini⟩ := C
  obtain ⟨hR, hV, hL, ho, hk⟩ := S
  obtain ⟨i, x, s0, rfl, hx0, hi, rfl, rfl, rfl, rfl, rfl⟩ := zv_ald hs
  have hA := zarr_at (t := 1) (by decide) hR hx0
  obtain ⟨hi32, hlt⟩ := zix hA hi
  obtain ⟨q1, q2, q3, q4⟩ := hA
  have hin := zin (n := (zl T' x).toNat) hi32 hi.1 (by omega)
  have h4 := q4 i.toNat hlt
  rw [Int.toNat_of_nonneg hi.1] at h4
  rw [List.map_cons, List.map_cons, show rv E (2, x) = .ref (eZ E + x.toNat) from zrr_pos hx0.1, show rv E (0, i) = .int (Int32.ofInt i) from rfl]
  refine W.lald (v := rv E (1, V' x i)) hx hb q1 ((hKK.2.1 1 (by decide)).1 _ _) (fun q => by cases q) (by rw [arrV_size]; exact hin) (by rw [znat hi32 hi.1, arrV_read _ _ hlt, Int.toNat_of_nonneg hi.1]; rfl) rfl rfl hd (kk _ _ _ _ _ rfl rfl ⟨hR, hV, hL, ho, hk.tl.tl.cons (zok1 h4)⟩)
theorem zi_bald (C : zCX p s m args meth c E k) (hd : decode (zby k) pc = .ok (.baload, 1)) (hs : zo_ald 0 V 2 (pc + 1) lo st T V = some (.inl (pc', lo', st', T', V'))) (S : zSt E s T V H locs ls lo st) (kk : zK p l e R s m args below meth c Q E pc' lo' st' T T' V' cells slots) : W p l e R s m args below meth c H locs cells slots Q (F0 m pc ls (st.map (rv E))) := by
  obtain ⟨hx, hb, hml, hown, hts, hKK, hini⟩ := C
  obtain ⟨hR, hV, hL, ho, hk⟩ := S
  obtain ⟨i, x, s0, rfl, hx0, hi, rfl, rfl, rfl, rfl, rfl⟩ := zv_ald hs
  have hA := zarr_at (t := 2) (by decide) hR hx0
  obtain ⟨hi32, hlt⟩ := zix hA hi
  obtain ⟨q1, q2, q3, q4⟩ := hA
  have hin := zin (n := (zl T' x).toNat) hi32 hi.1 (by omega)
  have h4 := q4 i.toNat hlt
  rw [Int.toNat_of_nonneg hi.1] at h4
  rw [List.map_cons, List.map_cons, show rv E (2, x) = .ref (eZ E + x.toNat) from zrr_pos hx0.1, show rv E (0, i) = .int (Int32.ofInt i) from rfl]
  refine W.bald (v := rv E (0, V' x i)) hx hb q1 ((hKK.2.1 2 (by decide)).1 _ _) (fun q => by cases q) (by rw [arrV_size]; exact hin) (by rw [znat hi32 hi.1, arrV_read _ _ hlt, Int.toNat_of_nonneg hi.1]; rfl) rfl rfl hd (kk _ _ _ _ _ rfl rfl ⟨hR, hV, hL, ho, hk.tl.tl.cons (zok0 ⟨by have := h4.1; omega, by have := h4.2; omega⟩)⟩)
theorem zi_zald (C : zCX p s m args meth c E k) (hd : decode (zby k) pc = .ok (.baload, 1)) (hs : zo_ald 0 V 3 (pc + 1) lo st T V = some (.inl (pc', lo', st', T', V'))) (S : zSt E s T V H locs ls lo st) (kk : zK p l e R s m args below meth c Q E pc' lo' st' T T' V' cells slots) : W p l e R s m args below meth c H locs cells slots Q (F0 m pc ls (st.map (rv E))) := by
  obtain ⟨hx, hb, hml, hown, hts, hKK, hini⟩ := C
  obtain ⟨hR, hV, hL, ho, hk⟩ := S
  obtain ⟨i, x, s0, rfl, hx0, hi, rfl, rfl, rfl, rfl, rfl⟩ := zv_ald hs
  have hA := zarr_at (t := 3) (by decide) hR hx0
  obtain ⟨hi32, hlt⟩ := zix hA hi
  obtain ⟨q1, q2, q3, q4⟩ := hA
  have hin := zin (n := (zl T' x).toNat) hi32 hi.1 (by omega)
  have h4 := q4 i.toNat hlt
  rw [Int.toNat_of_nonneg hi.1] at h4
  rw [List.map_cons, List.map_cons, show rv E (2, x) = .ref (eZ E + x.toNat) from zrr_pos hx0.1, show rv E (0, i) = .int (Int32.ofInt i) from rfl]
  refine W.zald (v := rv E (0, V' x i)) hx hb q1 ((hKK.2.1 3 (by decide)).1 _ _) (fun q => by cases q) (by rw [arrV_size]; exact hin) (by rw [znat hi32 hi.1, arrV_read _ _ hlt, Int.toNat_of_nonneg hi.1]; rfl) rfl rfl hd (kk _ _ _ _ _ rfl rfl ⟨hR, hV, hL, ho, hk.tl.tl.cons (zok0 ⟨by have := h4.1; omega, by have := h4.2; omega⟩)⟩)
theorem zi_aald (C : zCX p s m args meth c E k) (hd : decode (zby k) pc = .ok (.aaload, 1)) (hs : zo_ald 2 (zp T) 4 (pc + 1) lo st T V = some (.inl (pc', lo', st', T', V'))) (S : zSt E s T V H locs ls lo st) (kk : zK p l e R s m args below meth c Q E pc' lo' st' T T' V' cells slots) : W p l e R s m args below meth c H locs cells slots Q (F0 m pc ls (st.map (rv E))) := by
  obtain ⟨hx, hb, hml, hown, hts, hKK, hini⟩ := C
  obtain ⟨hR, hV, hL, ho, hk⟩ := S
  obtain ⟨i, x, s0, rfl, hx0, hi, rfl, rfl, rfl, rfl, rfl⟩ := zv_ald hs
  have hA := zarr_at (t := 4) (by decide) hR hx0
  obtain ⟨hi32, hlt⟩ := zix hA hi
  obtain ⟨q1, q2, q3, q4⟩ := hA
  have hin := zin (n := (zl T' x).toNat) hi32 hi.1 (by omega)
  have h4 := q4 i.toNat hlt
  rw [Int.toNat_of_nonneg hi.1] at h4
  rw [List.map_cons, List.map_cons, show rv E (2, x) = .ref (eZ E + x.toNat) from zrr_pos hx0.1, show rv E (0, i) = .int (Int32.ofInt i) from rfl]
  refine W.aald (v := rv E (2, zp T' x i)) hx hb q1 ((hKK.2.1 4 (by decide)).1 _ _) rfl (fun q => by cases q) (by rw [arrV_size]; exact hin) (by rw [znat hi32 hi.1, arrV_read _ _ hlt, Int.toNat_of_nonneg hi.1]; rfl) rfl rfl hd (kk _ _ _ _ _ rfl rfl ⟨hR, hV, hL, ho, hk.tl.tl.cons (zokr (by decide))⟩)
theorem zast_c {t : Nat} {i y n c0 : Int} {p0 v0 : Int → Int} {o : Option Cell} (ht : t < 5) (ht4 : t ≠ 4) (hc0 : c0 = (t : Int)) (hi : 0 ≤ i) (hn : 0 ≤ n ∧ n ≤ 1000000) (hrg : ∀ j : Nat, j < n.toNat → zrg t (v0 (j : Int))) (hy : zrg t y) (h : o = some (arrV (eA E t) n.toNat (updV (fun j => zav E t (p0 (j : Int)) (v0 (j : Int))) i.toNat (zav E t 0 y)))) : zCell E c0 n p0 (zu v0 i y) o := by
  refine ⟨fun u hu e1 => ?_, fun cj hcj e1 => by omega⟩
  have e2 : u = t := by omega
  subst e2
  refine ⟨?_, hn.1, hn.2, fun j hj => ?_⟩
  · rw [h]
    congr 2
    funext j
    by_cases e3 : j = i.toNat
    · subst e3
      rw [updV, if_pos rfl, Int.toNat_of_nonneg hi, zu_at]
      unfold zav
      split
      · rfl
      · exact absurd rfl ht4
      · rfl
    · rw [updV, if_neg e3, zu_ne _ _ (by omega)]
  · by_cases e3 : ((j : Nat) : Int) = i
    · rw [e3, zu_at]; exact hy
    · rw [zu_ne _ _ e3]; exact hrg j hj
theorem zi_iast (C : zCX p s m args meth c E k) (hd : decode (zby k) pc = .ok (.iastore, 1)) (hs : zo_ast 0 0 (fun _ => True) (fun _ => inferInstance) (pc + 1) lo st T V = some (.inl (pc', lo', st', T', V'))) (S : zSt E s T V H locs ls lo st) (kk : zK p l e R s m args below meth c Q E pc' lo' st' T T' V' cells slots) : W p l e R s m args below meth c H locs cells slots Q (F0 m pc ls (st.map (rv E))) := by
  obtain ⟨hx, hb, hml, hown, hts, hKK, hini⟩ := C
  obtain ⟨hR, hV, hL, ho, hk⟩ := S
  obtain ⟨y, i, x, s0, rfl, hx0, hi, hg, rfl, rfl, rfl, rfl, rfl⟩ := zv_ast hs
  have hA := zarr_at (t := 0) (by decide) hR hx0
  obtain ⟨hi32, hlt⟩ := zix hA hi
  obtain ⟨q1, q2, q3, q4⟩ := hA
  have hin := zin (n := (zl T' x).toNat) hi32 hi.1 (by omega)
  rw [List.map_cons, List.map_cons, List.map_cons, show rv E (2, x) = .ref (eZ E + x.toNat) from zrr_pos hx0.1, show rv E (0, i) = .int (Int32.ofInt i) from rfl, show rv E (0, y) = .int (Int32.ofInt y) from rfl]
  refine W.iast hx hb q1 ((hKK.2.1 0 (by decide)).1 _ _) (fun q => by cases q) (by rw [arrV_size]; exact hin) rfl rfl hd (fun H1 e1 e2 e3 => ?_)
  rw [znat hi32 hi.1, arrV_store] at e1
  refine kk _ _ _ _ _ rfl rfl ⟨hR.setV hx0.1 hx0.2.1 e2 e3 (zast_c (t := 0) (by decide) (by decide) hx0.2.2 hi.1 ⟨q2, q3⟩ q4 (hk.hd.1 rfl) e1), hV.put e2 e3 (show eZ E ≤ eZ E + x.toNat by omega), hL, ho, hk.tl.tl.tl⟩
theorem zi_last (C : zCX p s m args meth c E k) (hd : decode (zby k) pc = .ok (.lastore, 1)) (hs : zo_ast 1 1 (fun _ => True) (fun _ => inferInstance) (pc + 1) lo st T V = some (.inl (pc', lo', st', T', V'))) (S : zSt E s T V H locs ls lo st) (kk : zK p l e R s m args below meth c Q E pc' lo' st' T T' V' cells slots) : W p l e R s m args below meth c H locs cells slots Q (F0 m pc ls (st.map (rv E))) := by
  obtain ⟨hx, hb, hml, hown, hts, hKK, hini⟩ := C
  obtain ⟨hR, hV, hL, ho, hk⟩ := S
  obtain ⟨y, i, x, s0, rfl, hx0, hi, hg, rfl, rfl, rfl, rfl, rfl⟩ := zv_ast hs
  have hA := zarr_at (t := 1) (by decide) hR hx0
  obtain ⟨hi32, hlt⟩ := zix hA hi
  obtain ⟨q1, q2, q3, q4⟩ := hA
  have hin := zin (n := (zl T' x).toNat) hi32 hi.1 (by omega)
  rw [List.map_cons, List.map_cons, List.map_cons, show rv E (2, x) = .ref (eZ E + x.toNat) from zrr_pos hx0.1, show rv E (0, i) = .int (Int32.ofInt i) from rfl, show rv E (1, y) = .long (Int64.ofInt y) from rfl]
  refine W.last hx hb q1 ((hKK.2.1 1 (by decide)).1 _ _) (fun q => by cases q) (by rw [arrV_size]; exact hin) rfl rfl hd (fun H1 e1 e2 e3 => ?_)
  rw [znat hi32 hi.1, arrV_store] at e1
  refine kk _ _ _ _ _ rfl rfl ⟨hR.setV hx0.1 hx0.2.1 e2 e3 (zast_c (t := 1) (by decide) (by decide) hx0.2.2 hi.1 ⟨q2, q3⟩ q4 (hk.hd.2 rfl) e1), hV.put e2 e3 (show eZ E ≤ eZ E + x.toNat by omega), hL, ho, hk.tl.tl.tl⟩
theorem zi_bast (C : zCX p s m args meth c E k) (hd : decode (zby k) pc = .ok (.bastore, 1)) (hs : zo_ast 0 2 (fun v => -128 ≤ v ∧ v ≤ 127) (fun _ => inferInstance) (pc + 1) lo st T V = some (.inl (pc', lo', st', T', V'))) (S : zSt E s T V H locs ls lo st) (kk : zK p l e R s m args below meth c Q E pc' lo' st' T T' V' cells slots) : W p l e R s m args below meth c H locs cells slots Q (F0 m pc ls (st.map (rv E))) := by
  obtain ⟨hx, hb, hml, hown, hts, hKK, hini⟩ := C
  obtain ⟨hR, hV, hL, ho, hk⟩ := S
  obtain ⟨y, i, x, s0, rfl, hx0, hi, hg, rfl, rfl, rfl, rfl, rfl⟩ := zv_ast hs
  have hA := zarr_at (t := 2) (by decide) hR hx0
  obtain ⟨hi32, hlt⟩ := zix hA hi
  obtain ⟨q1, q2, q3, q4⟩ := hA
  have hin := zin (n := (zl T' x).toNat) hi32 hi.1 (by omega)
  rw [List.map_cons, List.map_cons, List.map_cons, show rv E (2, x) = .ref (eZ E + x.toNat) from zrr_pos hx0.1, show rv E (0, i) = .int (Int32.ofInt i) from rfl, show rv E (0, y) = .int (Int32.ofInt y) from rfl]
  refine W.bast hx hb q1 ((hKK.2.1 2 (by decide)).1 _ _) (fun q => by cases q) (by rw [arrV_size]; exact hin) rfl rfl hd (fun H1 e1 e2 e3 => ?_)
  rw [zbyte_fit hg, znat hi32 hi.1, arrV_store] at e1
  refine kk _ _ _ _ _ rfl rfl ⟨hR.setV hx0.1 hx0.2.1 e2 e3 (zast_c (t := 2) (by decide) (by decide) hx0.2.2 hi.1 ⟨q2, q3⟩ q4 (hg) e1), hV.put e2 e3 (show eZ E ≤ eZ E + x.toNat by omega), hL, ho, hk.tl.tl.tl⟩
theorem zi_zast (C : zCX p s m args meth c E k) (hd : decode (zby k) pc = .ok (.bastore, 1)) (hs : zo_ast 0 3 (fun v => 0 ≤ v ∧ v ≤ 1) (fun _ => inferInstance) (pc + 1) lo st T V = some (.inl (pc', lo', st', T', V'))) (S : zSt E s T V H locs ls lo st) (kk : zK p l e R s m args below meth c Q E pc' lo' st' T T' V' cells slots) : W p l e R s m args below meth c H locs cells slots Q (F0 m pc ls (st.map (rv E))) := by
  obtain ⟨hx, hb, hml, hown, hts, hKK, hini⟩ := C
  obtain ⟨hR, hV, hL, ho, hk⟩ := S
  obtain ⟨y, i, x, s0, rfl, hx0, hi, hg, rfl, rfl, rfl, rfl, rfl⟩ := zv_ast hs
  have hA := zarr_at (t := 3) (by decide) hR hx0
  obtain ⟨hi32, hlt⟩ := zix hA hi
  obtain ⟨q1, q2, q3, q4⟩ := hA
  have hin := zin (n := (zl T' x).toNat) hi32 hi.1 (by omega)
  rw [List.map_cons, List.map_cons, List.map_cons, show rv E (2, x) = .ref (eZ E + x.toNat) from zrr_pos hx0.1, show rv E (0, i) = .int (Int32.ofInt i) from rfl, show rv E (0, y) = .int (Int32.ofInt y) from rfl]
  refine W.zast hx hb q1 ((hKK.2.1 3 (by decide)).1 _ _) (fun q => by cases q) (by rw [arrV_size]; exact hin) rfl rfl hd (fun H1 e1 e2 e3 => ?_)
  rw [(zbool_fit hg).1, znat hi32 hi.1, arrV_store] at e1
  refine kk _ _ _ _ _ rfl rfl ⟨hR.setV hx0.1 hx0.2.1 e2 e3 (zast_c (t := 3) (by decide) (by decide) hx0.2.2 hi.1 ⟨q2, q3⟩ q4 (hg) e1), hV.put e2 e3 (show eZ E ≤ eZ E + x.toNat by omega), hL, ho, hk.tl.tl.tl⟩
theorem zi_aast (C : zCX p s m args meth c E k) (hd : decode (zby k) pc = .ok (.aastore, 1)) (hs : z_step (67, pc + 1, a, b, ts) lo st T V = some (.inl (pc', lo', st', T', V'))) (S : zSt E s T V H locs ls lo st) (kk : zK p l e R s m args below meth c Q E pc' lo' st' T T' V' cells slots) : W p l e R s m args below meth c H locs cells slots Q (F0 m pc ls (st.map (rv E))) := by
  obtain ⟨hx, hb, hml, hown, hts, hKK, hini⟩ := C
  obtain ⟨hR, hV, hL, ho, hk⟩ := S
  simp only [z_step] at hs
  obtain ⟨y, i, x, s0, rfl, hy0, hx0, hi, rfl, rfl, rfl, rfl, rfl⟩ := zv_qst hs
  have hA := zarr_at (t := 4) (by decide) hR hx0
  obtain ⟨hi32, hlt⟩ := zix hA hi
  obtain ⟨q1, q2, q3, q4⟩ := hA
  obtain ⟨⟨cellV, g1, g2, g3, -⟩, -⟩ := (hR.cell hy0.1 hy0.2.1).2 6 (by decide) hy0.2.2
  have hcls := (hKK.1 6 (by decide)).2
  obtain ⟨kA, comp, k1, k2, k3, -⟩ := (hKK.2.1 4 (by decide)).2
  have hcomp : comp = eC E 6 := Option.some.inj (k3.symm.trans hcls.1)
  subst hcomp
  obtain ⟨kC, hkC, -⟩ := hcls.2
  rw [List.map_cons, List.map_cons, List.map_cons, show rv E (2, x) = .ref (eZ E + x.toNat) from zrr_pos hx0.1, show rv E (0, i) = .int (Int32.ofInt i) from rfl, show rv E (2, y) = .ref (eZ E + y.toNat) from zrr_pos hy0.1]
  refine W.aast hx hb q1 (fun q h => by cases h) (fun h => by cases h) k1 k2 rfl hkC ⟨znn hi32 hi.1, by rw [arrV_size, znat hi32 hi.1]; exact hlt⟩ g1 (fun q h => by rw [g3] at h; cases h) (by rw [g2]; exact hkC) (by rw [g2]; exact va_assign hcls) rfl rfl hd fun H1 e1 e2 e3 => ?_
  rw [znat hi32 hi.1, arrV_store] at e1
  refine kk _ _ _ _ _ rfl rfl ⟨hR.setP hx0.1 hx0.2.1 e2 e3 ⟨fun u hu e4 => ?_, fun cj hcj e4 => by omega⟩, hV.put e2 e3 (show eZ E ≤ eZ E + x.toNat by omega), hL, ho, hk.tl.tl.tl⟩
  have e5 : u = 4 := by omega
  subst e5
  refine ⟨?_, q2, q3, q4⟩
  rw [e1]
  congr 2
  funext j
  by_cases e6 : j = i.toNat
  · subst e6
    rw [updV, if_pos rfl, Int.toNat_of_nonneg hi.1, zu_at]
    exact (zrr_pos hy0.1).symm
  · rw [updV, if_neg e6, zu_ne _ _ (by omega)]
end ZSN3
end
section
/-! lengths, new cells, the JDK's own -/
theorem z_len7 : ∀ i : Fin 7, ((z_str (i.val : Int)).length : Int) = ((zlens.getD i.val 0 : Nat) : Int) ∧ (z_str (i.val : Int)).length ≤ 6 := by decide +kernel
theorem z_byt7 : ∀ i : Fin 7, ∀ j : Fin 6, Int32.ofInt ((z_str (i.val : Int)).getD j.val 0) = (zbyts.getD i.val []).getD j.val 0 ∧ (0 ≤ (z_str (i.val : Int)).getD j.val 0 ∧ (z_str (i.val : Int)).getD j.val 0 ≤ 127) := by decide +kernel
section ZSN4
variable {p : Program} {l : Launch} {e : Env} {R : Room} {s : State} {m : MethodId} {args : Array Value} {below : List Frame} {meth : Method} {c : Code} {H : Heap} {locs : List Loc} {cells slots : Nat} {Q : State → Prop} {E : zEn} {k pc pc' a : Nat} {b : Int} {ts : List Nat} {ls : Array Slot} {lo st lo' st' : List zV} {T T' : zT} {V V' : zM}
theorem zi_slen (C : zCX p s m args meth c E k) (hd : decode (zby k) pc = .ok (.arraylength, 1)) {j : Int} {s0 : List zV} (S : zSt E s T V H locs ls lo ((4, j) :: s0)) (kk : zK p l e R s m args below meth c Q E (pc + 1) lo ((0, zl T (-2)) :: s0) T T V cells slots) : W p l e R s m args below meth c H locs cells slots Q (F0 m pc ls (((4, j) :: s0).map (rv E))) := by
  obtain ⟨hx, hb, hml, hown, hts, hKK, hini⟩ := C
  obtain ⟨hR, hV, hL, ho, hk⟩ := S
  obtain ⟨hX, hbl⟩ := hKK.2.2.2.2.2.1
  have hz := hKK.2.2.2.2.2.2.2.2
  have e1 := hR.2.2.1
  have e2 := hR.2.2.2.1
  refine va_slen (A := zA E) hx hb hX (by omega) (by show ¬ eZ E ≤ eB E; omega) hV hd ?_
  have K := kk H locs ls cells slots rfl rfl ⟨hR, hV, hL, ho, hk.tl.cons (zok0 (by rw [e1]; exact ⟨by omega, by omega⟩))⟩
  rw [List.map_cons, show rv E (0, zl T (-2)) = .int (Int32.ofInt (zl T (-2))) from rfl, e1] at K
  exact K
theorem zi_sld (C : zCX p s m args meth c E k) (hd : decode (zby k) pc = .ok (.iaload, 1)) {i j : Int} {s0 : List zV} (hi : 0 ≤ i ∧ i < zl T (-2)) (S : zSt E s T V H locs ls lo ((0, i) :: (4, j) :: s0)) (kk : zK p l e R s m args below meth c Q E (pc + 1) lo ((0, V (-2) i) :: s0) T T V cells slots) : W p l e R s m args below meth c H locs cells slots Q (F0 m pc ls (((0, i) :: (4, j) :: s0).map (rv E))) := by
  obtain ⟨hx, hb, hml, hown, hts, hKK, hini⟩ := C
  obtain ⟨hR, hV, hL, ho, hk⟩ := S
  obtain ⟨hX, hbl⟩ := hKK.2.2.2.2.2.1
  have hz := hKK.2.2.2.2.2.2.2.2
  have e1 := hR.2.2.1
  have e2 := hR.2.2.2.1
  have hi32 : z32 i := ⟨by omega, by omega⟩
  have hv := hR.2.2.2.2 i.toNat (by omega)
  rw [Int.toNat_of_nonneg hi.1] at hv
  refine va_sld (A := zA E) (i := Int32.ofInt i) hx hb hX (by omega) (by show ¬ eZ E ≤ eB E; omega) hV (zin hi32 hi.1 (by omega)) hd ?_
  have K := kk H locs ls cells slots rfl rfl ⟨hR, hV, hL, ho, hk.tl.tl.cons (zok0 (by rw [hv]; exact zi32 _))⟩
  rw [List.map_cons, show rv E (0, V (-2) i) = .int (Int32.ofInt (V (-2) i)) from rfl, hv, Int32.ofInt_toInt] at K
  rw [znat hi32 hi.1]
  exact K
theorem zi_clen (C : zCX p s m args meth c E k) (hd : decode (zby k) pc = .ok (.arraylength, 1)) {j : Int} {s0 : List zV} (hj : 0 ≤ j ∧ j < 7) (S : zSt E s T V H locs ls lo ((5, j) :: s0)) (kk : zK p l e R s m args below meth c Q E (pc + 1) lo ((0, ((z_str j).length : Int)) :: s0) T T V cells slots) : W p l e R s m args below meth c H locs cells slots Q (F0 m pc ls (((5, j) :: s0).map (rv E))) := by
  obtain ⟨hx, hb, hml, hown, hts, hKK, hini⟩ := C
  obtain ⟨hR, hV, hL, ho, hk⟩ := S
  obtain ⟨g1, g2, g3, g4⟩ := hKK.2.2.2.2.1.1 j.toNat (by omega)
  have h7 := z_len7 ⟨j.toNat, by omega⟩
  rw [show (((⟨j.toNat, by omega⟩ : Fin 7).val : Nat) : Int) = j from by show ((j.toNat : Nat) : Int) = j; omega] at h7
  obtain ⟨cell, q1, q2, q3, q4, q5, -⟩ := g4.kept hV.2.1
  have K := kk H locs ls cells slots rfl rfl ⟨hR, hV, hL, ho, hk.tl.cons (zok0 ⟨by omega, by omega⟩)⟩
  rw [List.map_cons, show rv E (0, ((z_str j).length : Int)) = .int (Int32.ofInt ((z_str j).length : Int)) from rfl, h7.1] at K
  exact W.alen (n := Int32.ofInt ((zlens.getD j.toNat 0 : Nat) : Int)) hx hb q1 q2 (by rw [q5]; rfl) rfl rfl hd K
theorem zi_cld (C : zCX p s m args meth c E k) (hd : decode (zby k) pc = .ok (.baload, 1)) {i j : Int} {s0 : List zV} (hj : 0 ≤ j ∧ j < 7) (hi : 0 ≤ i ∧ i < ((z_str j).length : Int)) (S : zSt E s T V H locs ls lo ((0, i) :: (5, j) :: s0)) (kk : zK p l e R s m args below meth c Q E (pc + 1) lo ((0, (z_str j).getD i.toNat 0) :: s0) T T V cells slots) : W p l e R s m args below meth c H locs cells slots Q (F0 m pc ls (((0, i) :: (5, j) :: s0).map (rv E))) := by
  obtain ⟨hx, hb, hml, hown, hts, hKK, hini⟩ := C
  obtain ⟨hR, hV, hL, ho, hk⟩ := S
  obtain ⟨g1, g2, g3, g4⟩ := hKK.2.2.2.2.1.1 j.toNat (by omega)
  have h7 := z_len7 ⟨j.toNat, by omega⟩
  rw [show (((⟨j.toNat, by omega⟩ : Fin 7).val : Nat) : Int) = j from by show ((j.toNat : Nat) : Int) = j; omega] at h7
  have h8 := z_byt7 ⟨j.toNat, by omega⟩ ⟨i.toNat, by omega⟩
  rw [show (((⟨j.toNat, by omega⟩ : Fin 7).val : Nat) : Int) = j from by show ((j.toNat : Nat) : Int) = j; omega] at h8
  obtain ⟨h8a, h8b⟩ := h8
  have h8a : Int32.ofInt ((z_str j).getD i.toNat 0) = (zbyts.getD j.toNat []).getD i.toNat 0 := h8a
  have h8b : 0 ≤ (z_str j).getD i.toNat 0 ∧ (z_str j).getD i.toNat 0 ≤ 127 := h8b
  obtain ⟨cell, q1, q2, q3, q4, q5, q6, -⟩ := g4.kept hV.2.1
  have hi32 : z32 i := ⟨by omega, by omega⟩
  have h7' : ((z_str j).length : Int) = ((zlens.getD j.toNat 0 : Nat) : Int) := h7.1
  have hlt : i.toNat < zlens.getD j.toNat 0 := by omega
  have K := kk H locs ls cells slots rfl rfl ⟨hR, hV, hL, ho, hk.tl.tl.cons (zok0 ⟨by omega, by omega⟩)⟩
  rw [List.map_cons, show rv E (0, (z_str j).getD i.toNat 0) = .int (Int32.ofInt ((z_str j).getD i.toNat 0)) from rfl, h8a] at K
  rw [List.map_cons, List.map_cons, show rv E (0, i) = .int (Int32.ofInt i) from rfl]
  refine W.bald (v := .int ((zbyts.getD j.toNat []).getD i.toNat 0)) hx hb q1 q2 q3 ?_ ?_ rfl rfl hd K
  · rintro (q | q)
    · exact znn hi32 hi.1 q
    · rw [znat hi32 hi.1] at q; omega
  · rw [znat hi32 hi.1]; exact q6 _ hlt
theorem zi_alen (C : zCX p s m args meth c E k) (hd : decode (zby k) pc = .ok (.arraylength, 1)) (hs : z_step (68, pc + 1, a, b, ts) lo st T V = some (.inl (pc', lo', st', T', V'))) (S : zSt E s T V H locs ls lo st) (kk : zK p l e R s m args below meth c Q E pc' lo' st' T T' V' cells slots) : W p l e R s m args below meth c H locs cells slots Q (F0 m pc ls (st.map (rv E))) := by
  simp only [z_step] at hs
  rcases zv_len hs with ⟨j, s0, rfl, rfl, rfl, rfl, rfl, rfl⟩ | ⟨j, s0, rfl, hj, rfl, rfl, rfl, rfl, rfl⟩ | ⟨x, s0, rfl, hx0, hc0, rfl, rfl, rfl, rfl, rfl⟩
  · exact zi_slen C hd S kk
  · exact zi_clen C hd hj S kk
  · obtain ⟨hx, hb, hml, hown, hts, hKK, hini⟩ := C
    obtain ⟨hR, hV, hL, ho, hk⟩ := S
    have hA := zarr_at (t := (zc T' x).toNat) (by omega) hR ⟨hx0.1, hx0.2, by omega⟩
    obtain ⟨q1, q2, q3, q4⟩ := hA
    have K := kk H locs ls cells slots rfl rfl ⟨hR, hV, hL, ho, hk.tl.cons (zok0 ⟨by omega, by omega⟩)⟩
    rw [List.map_cons, show rv E (2, x) = .ref (eZ E + x.toNat) from zrr_pos hx0.1]
    refine W.alen (n := Int32.ofInt (zl T' x)) hx hb q1 ((hKK.2.1 (zc T' x).toNat (by omega)).1 _ _) ?_ rfl rfl hd K
    rw [arrV_size]
    have h9 : Int32.ofInt (((zl T' x).toNat : Nat) : Int) = Int32.ofNat (zl T' x).toNat := rfl
    rw [Int.toNat_of_nonneg q2] at h9
    exact h9.symm
theorem zi_new (C : zCX p s m args meth c E k) {ix : Nat} (hcl : Jvm.Cond.classLink (zCn (zown k)) ix (zCn a) ∈ zWS) (hd : decode (zby k) pc = .ok (.new ix, 3)) (hs : z_step (69, pc + 3, a, b, ts) lo st T V = some (.inl (pc', lo', st', T', V'))) (hcc : cells + T'.1 ≤ R.cells + T.1) (hss : slots + T'.2.1 ≤ R.slots + T.2.1) (S : zSt E s T V H locs ls lo st) (kk : zK p l e R s m args below meth c Q E pc' lo' st' T T' V' cells slots) : W p l e R s m args below meth c H locs cells slots Q (F0 m pc ls (st.map (rv E))) := by
  obtain ⟨hx, hb, hml, hown, hts, hKK, hini⟩ := C
  obtain ⟨hR, hV, hL, ho, hk⟩ := S
  simp only [z_step] at hs
  obtain ⟨ha, rfl, rfl, rfl, rfl, rfl⟩ := zv_new hs
  have hins : Jvm.Cond.instantiable (zCn a) (zfN a) ∈ zWS ∧ Jvm.Cond.initialized (zCn a) ∈ zWS := by
    have h1 : ∀ a, a < 13 → z_ins.any (fun q => q.1 == a) = true := by decide +kernel
    obtain ⟨q, hq, h2⟩ := List.any_eq_true.mp (h1 a ha)
    have h3 := List.all_eq_true.mp zins_ok q hq
    rw [Bool.and_eq_true] at h3
    rw [beq_iff_eq.mp h2] at h3
    exact ⟨zw_mem h3.1, zw_mem h3.2⟩
  have hKn := hKK.1 a ha
  have ec : cells + (T.1 + 1) ≤ R.cells + T.1 := hcc
  have es : slots + (T.2.1 + ((zfN a : Nat) : Int).toNat) ≤ R.slots + T.2.1 := hss
  refine W.newcK hx hb hown (hts _ hcl) (hts _ hins.1) (hts _ hins.2) rfl hd (by omega) (by omega) hKn.2.1 rfl fun H1 kC hkC e1 z1 o1 => ?_
  have hz := hR.1
  rw [show ({ F0 m pc ls (st.map (rv E)) with pc := pc + 3, stack := .ref H.size :: (F0 m pc ls (st.map (rv E))).stack } : JFrame) = F0 m (pc + 3) ls (((2, zsz T) :: st).map (rv E)) by
    rw [List.map_cons, show rv E (2, zsz T) = .ref (eZ E + (zsz T).toNat) from zrr_pos (by show (0 : Int) ≤ (T.1 : Int); omega), hz]
    show _ = F0 m (pc + 3) ls (.ref (eZ E + ((T.1 : Nat) : Int).toNat) :: _)
    rfl]
  refine kk _ _ _ _ _ (by show cells + 1 + T.1 = cells + (T.1 + 1); omega) (by show slots + zfN a + T.2.1 = slots + (T.2.1 + ((zfN a : Nat) : Int).toNat); omega) ⟨hR.push z1 o1 ⟨fun t ht e2 => by omega, fun cj hcj e2 => ?_⟩, ⟨Nat.le_trans hV.1 (by omega), fun q h1 h2 => (o1 q (Nat.lt_of_lt_of_le h1 hV.1)).trans (hV.2.1 q h1 h2), hV.2.2⟩, hL, ho, hk.cons (zokr (by decide))⟩
  have e3 : cj = a := by omega
  subst e3
  obtain ⟨cell, g1, g2, g3, g4⟩ := u_born (zTy cj) hts (zuws ha) hKn hkC e1 (zty_ok cj ha)
  refine ⟨⟨cell, g1, g2, g3, fun j hj => ?_⟩, fun j hj => by show z32 0; decide⟩
  rw [g4 j hj]
  congr 1
  show defaultValue (zTy cj j) = _
  unfold zfv
  rcases ztk_ok cj ha j hj with h | h | h
  · rw [if_pos h]
    show _ = zrr E (-1)
    rw [zrr, if_pos (by decide)]
    cases hq : zTy cj j <;> rw [hq] at h <;> simp [z_isR] at h <;> rfl
  · rw [h]; rfl
  · rw [h]; rfl
theorem zi_narr (C : zCX p s m args meth c E k) {t : ArrayType} (hta : a = z_ai t) (ha : a < 4) (hd : decode (zby k) pc = .ok (.newarray t, 2)) (hs : z_step (70, pc + 2, a, b, ts) lo st T V = some (.inl (pc', lo', st', T', V'))) (hcc : cells + T'.1 ≤ R.cells + T.1) (hss : slots + T'.2.1 ≤ R.slots + T.2.1) (S : zSt E s T V H locs ls lo st) (kk : zK p l e R s m args below meth c Q E pc' lo' st' T T' V' cells slots) : W p l e R s m args below meth c H locs cells slots Q (F0 m pc ls (st.map (rv E))) := by
  obtain ⟨hx, hb, hml, hown, hts, hKK, hini⟩ := C
  obtain ⟨hR, hV, hL, ho, hk⟩ := S
  simp only [z_step] at hs
  obtain ⟨x, s0, rfl, hx0, rfl, rfl, rfl, rfl, rfl⟩ := zv_nar hs
  have hx32 : z32 x := hk.hd.1 rfl
  have hq := zarr_ok
  simp only [Bool.and_eq_true] at hq
  have hty : newarray.typeOf t = zaty a ∧ Jvm.Cond.arrayClass (newarray.typeOf t) ∈ zWS ∧ componentBytes (newarray.typeOf t) ≤ 8 ∧ (∀ v : Int, zav E a (-1) v = .int (Int32.ofInt v) ∨ zav E a (-1) v = .long (Int64.ofInt v)) ∧ defaultValue (newarray.typeOf t) = zav E a (-1) 0 ∧ zrg a 0 := by
    cases t <;> simp only [z_ai] at hta <;> subst hta <;> first | omega | skip
    · exact ⟨rfl, zw_mem hq.2.2.2, by decide, fun v => Or.inl rfl, rfl, ⟨by decide, by decide⟩⟩
    · exact ⟨rfl, zw_mem hq.2.2.1, by decide, fun v => Or.inl rfl, rfl, ⟨by decide, by decide⟩⟩
    · exact ⟨rfl, zw_mem hq.1, by decide, fun v => Or.inl rfl, rfl, ⟨by decide, by decide⟩⟩
    · exact ⟨rfl, zw_mem hq.2.1, by decide, fun v => Or.inr rfl, rfl, ⟨by decide, by decide⟩⟩
  obtain ⟨t1, t2, t3, t4, t5, t6⟩ := hty
  have ec : cells + (T.1 + 1) ≤ R.cells + T.1 := hcc
  have es : slots + (T.2.1 + x.toNat) ≤ R.slots + T.2.1 := hss
  have hbytes : x.toNat * componentBytes (newarray.typeOf t) ≤ 536870912 := by
    have h1 : x.toNat * componentBytes (newarray.typeOf t) ≤ x.toNat * 8 := Nat.mul_le_mul_left _ t3
    omega
  refine va_newaK hx hb (hts _ t2) rfl hd (n := Int32.ofInt x) (N := x.toNat) rfl (znn hx32 hx0.1) (znat hx32 hx0.1) hbytes (by omega) (by omega) rfl fun H1 cA e1 z1 o1 hAr hNm => ?_
  have hz := hR.1
  have hcA : cA = eA E a := by
    have h2 := (hKK.2.1 a (by omega)).2
    rw [← t1] at h2
    have h3 : s.vm.findClass ("[" ++ (newarray.typeOf t).toString) = some (eA E a) := by
      cases t <;> exact h2
    exact Option.some.inj (hNm.symm.trans h3)
  subst hcA
  rw [show ({ F0 m pc ls (.int (Int32.ofInt x) :: s0.map (rv E)) with pc := pc + 2, stack := .ref H.size :: s0.map (rv E) } : JFrame) = F0 m (pc + 2) ls (((2, zsz T) :: s0).map (rv E)) by
    rw [List.map_cons, show rv E (2, zsz T) = .ref (eZ E + (zsz T).toNat) from zrr_pos (by show (0 : Int) ≤ (T.1 : Int); omega), hz]
    show _ = F0 m (pc + 2) ls (.ref (eZ E + ((T.1 : Nat) : Int).toNat) :: _)
    rfl]
  refine kk _ _ _ _ _ (by show cells + 1 + T.1 = cells + (T.1 + 1); omega) (by show slots + x.toNat + T.2.1 = slots + (T.2.1 + x.toNat); omega) ⟨hR.push z1 o1 ⟨fun u hu e2 => ?_, fun cj hcj e2 => by omega⟩, ⟨Nat.le_trans hV.1 (by omega), fun q h1 h2 => (o1 q (Nat.lt_of_lt_of_le h1 hV.1)).trans (hV.2.1 q h1 h2), hV.2.2⟩, hL, ho, hk.tl.cons (zokr (by decide))⟩
  have e3 : u = a := by omega
  subst e3
  refine ⟨?_, hx0.1, hx0.2, fun j hj => t6⟩
  rw [e1, t5]
theorem zi_anew (C : zCX p s m args meth c E k) {ix : Nat} (hcl : Jvm.Cond.classLink (zCn (zown k)) ix (zCn 6) ∈ zWS) (hd : decode (zby k) pc = .ok (.anewarray ix, 3)) (hs : z_step (71, pc + 3, a, b, ts) lo st T V = some (.inl (pc', lo', st', T', V'))) (hcc : cells + T'.1 ≤ R.cells + T.1) (hss : slots + T'.2.1 ≤ R.slots + T.2.1) (S : zSt E s T V H locs ls lo st) (kk : zK p l e R s m args below meth c Q E pc' lo' st' T T' V' cells slots) : W p l e R s m args below meth c H locs cells slots Q (F0 m pc ls (st.map (rv E))) := by
  obtain ⟨hx, hb, hml, hown, hts, hKK, hini⟩ := C
  obtain ⟨hR, hV, hL, ho, hk⟩ := S
  simp only [z_step] at hs
  obtain ⟨x, s0, rfl, hx0, rfl, rfl, rfl, rfl, rfl⟩ := zv_nar hs
  have hx32 : z32 x := hk.hd.1 rfl
  have ec : cells + (T.1 + 1) ≤ R.cells + T.1 := hcc
  have es : slots + (T.2.1 + x.toNat) ≤ R.slots + T.2.1 := hss
  have hn := znat hx32 hx0.1
  refine W.anew hx hb hown (hts _ hcl) (va_AO.use hKK.2.2.2.2.2.2.2.1) rfl hd (n := Int32.ofInt x) rfl (znn hx32 hx0.1) (by rw [hn]; omega) (by omega) (by rw [hn]; omega) fun cA kA comp f1 f2 f3 f4 => ?_
  rw [hn]
  generalize hH1 : H.push ({ cls := cA, slots := Array.replicate x.toNat .null, vm := .none } : Cell) = H1
  have z1 : H1.size = H.size + 1 := by rw [← hH1, Array.size_push]
  have e1 : H1[H.size]? = some (arrV cA x.toNat (fun _ => .null)) := by rw [← hH1, Array.getElem?_push_size, ← arrV_new]
  have o1 : ∀ q : Nat, q < H.size → H1[q]? = H[q]? := fun q hq => by rw [← hH1, Array.getElem?_push, if_neg (Nat.ne_of_lt hq)]
  have hz := hR.1
  have hcA : cA = eA E 4 := by
    obtain ⟨kA', comp', k1, k2, k3, k4⟩ := (hKK.2.1 4 (by decide)).2
    exact Option.some.inj (f1.symm.trans k4)
  subst hcA
  rw [show ({ F0 m pc ls (.int (Int32.ofInt x) :: s0.map (rv E)) with pc := pc + 3, stack := .ref H.size :: s0.map (rv E) } : JFrame) = F0 m (pc + 3) ls (((2, zsz T) :: s0).map (rv E)) by
    rw [List.map_cons, show rv E (2, zsz T) = .ref (eZ E + (zsz T).toNat) from zrr_pos (by show (0 : Int) ≤ (T.1 : Int); omega), hz]
    show _ = F0 m (pc + 3) ls (.ref (eZ E + ((T.1 : Nat) : Int).toNat) :: _)
    rfl]
  refine kk _ _ _ _ _ (by show cells + 1 + T.1 = cells + (T.1 + 1); omega) (by show slots + x.toNat + T.2.1 = slots + (T.2.1 + x.toNat); omega) ⟨hR.push z1 o1 ⟨fun u hu e2 => ?_, fun cj hcj e2 => by omega⟩, ⟨Nat.le_trans hV.1 (by omega), fun q h1 h2 => (o1 q (Nat.lt_of_lt_of_le h1 hV.1)).trans (hV.2.1 q h1 h2), hV.2.2⟩, hL, ho, hk.tl.cons (zokr (by decide))⟩
  have e3 : u = 4 := by omega
  subst e3
  refine ⟨?_, hx0.1, hx0.2, fun j hj => trivial⟩
  rw [e1]
  rfl
end ZSN4
end
section
/-! Math, Object.<init>, arraycopy, statics, strings -/
theorem z_mcodes : Jvm.Cond.code Lib.Math.max.name Lib.Math.max.code 2 (some .int) ∈ zWS ∧ Jvm.Cond.code Lib.Math.min.name Lib.Math.min.code 2 (some .int) ∈ zWS ∧ Jvm.Cond.code Lib.MathLoose.min_long.x Lib.MathLoose.min_long.code 4 (some .long) ∈ zWS ∧ Jvm.Cond.code Lib.objectInit ⟨#[0xb1]⟩ 1 none ∈ zWS := by
  have key : ∀ w, k2_isCode w = true → w ∈ z_ms.map (fun q => Jvm.Cond.code q.1 q.2.1 q.2.2.1 q.2.2.2) → w ∈ zWS := by
    intro w h1 h2
    rw [← z_codes] at h2
    refine List.mem_filter.mpr ⟨(List.mem_filter.mp h2).1, ?_⟩
    cases w <;> simp [k2_isCode] at h1
    rfl
  refine ⟨key _ rfl ?_, key _ rfl ?_, key _ rfl ?_, key _ rfl ?_⟩
  · exact List.mem_map.mpr ⟨_, List.mem_of_getElem? (i := 13) rfl, rfl⟩
  · exact List.mem_map.mpr ⟨_, List.mem_of_getElem? (i := 34) rfl, rfl⟩
  · exact List.mem_map.mpr ⟨_, List.mem_of_getElem? (i := 95) rfl, rfl⟩
  · exact List.mem_map.mpr ⟨_, List.mem_of_getElem? (i := 1) rfl, rfl⟩
section ZSN5
variable {p : Program} {l : Launch} {e : Env} {R : Room} {s : State} {m : MethodId} {args : Array Value} {below : List Frame} {meth : Method} {c : Code} {H : Heap} {locs : List Loc} {cells slots : Nat} {Q : State → Prop} {E : zEn} {k pc pc' a : Nat} {b : Int} {ts : List Nat} {ls : Array Slot} {lo st lo' st' : List zV} {T T' : zT} {V V' : zM}
theorem zi_mmax (C : zCX p s m args meth c E k) (hlen : lo.length = zmL k) {ix : Nat} (hv : Jvm.Cond.methodLink (zCn (zown k)) ix Lib.Math.max.name ∈ zWS) (hd : decode (zby k) pc = .ok (.invokestatic ix, 3)) (hs : z_step (84, pc + 3, a, b, ts) lo st T V = some (.inl (pc', lo', st', T', V'))) (hRm : 1 ≤ R.frames ∧ 36 ≤ R.locals) (hcs : cells ≤ R.cells ∧ slots ≤ R.slots) (S : zSt E s T V H locs ls lo st) (kk : zK p l e R s m args below meth c Q E pc' lo' st' T T' V' cells slots) : W p l e R s m args below meth c H locs cells slots Q (F0 m pc ls (st.map (rv E))) := by
  obtain ⟨hx, hb, hml, hown, hts, hKK, hini⟩ := C
  obtain ⟨hR, hV, hL, ho, hk⟩ := S
  have hF := hKK.2.2.2.2.2.2.1.2.2
  simp only [z_step] at hs
  obtain ⟨x, y, s0, rfl, hg, rfl, rfl, rfl, rfl, rfl⟩ := zv_mm hs
  have hy := hk.hd.1 rfl
  have hxx := hk.tl.hd.1 rfl
  have hq := zmath_ok
  simp only [Bool.and_eq_true] at hq
  refine va_mmax hx hb (by rw [hml, hL.1, hlen]) hown (hts _ hv) (hts _ (zw_mem hq.1)) (hts _ (zw_mem hq.2.2.2)) (hts _ z_mcodes.1) hRm.1 (by rw [zrv_cats hF]; omega) hcs.1 hcs.2 hd ?_
  have K := kk H locs ls cells slots rfl rfl ⟨hR, hV, hL, ho, hk.tl.tl.cons (zok0 (show z32 (max x y) by have := hxx.1; have := hxx.2; have := hy.1; have := hy.2; constructor <;> omega))⟩
  have e1 : (if Int32.ofInt x < Int32.ofInt y then Int32.ofInt y else Int32.ofInt x) = Int32.ofInt (max x y) := by
    by_cases h : x < y
    · rw [if_pos ((zlt32 hxx hy).mpr h), Int.max_eq_right (by omega)]
    · rw [if_neg (fun q => h ((zlt32 hxx hy).mp q)), Int.max_eq_left (by omega)]
  rw [e1]
  exact K
theorem zi_mmin (C : zCX p s m args meth c E k) (hlen : lo.length = zmL k) {ix : Nat} (hv : Jvm.Cond.methodLink (zCn (zown k)) ix Lib.Math.min.name ∈ zWS) (hd : decode (zby k) pc = .ok (.invokestatic ix, 3)) (hs : z_step (85, pc + 3, a, b, ts) lo st T V = some (.inl (pc', lo', st', T', V'))) (hRm : 1 ≤ R.frames ∧ 36 ≤ R.locals) (hcs : cells ≤ R.cells ∧ slots ≤ R.slots) (S : zSt E s T V H locs ls lo st) (kk : zK p l e R s m args below meth c Q E pc' lo' st' T T' V' cells slots) : W p l e R s m args below meth c H locs cells slots Q (F0 m pc ls (st.map (rv E))) := by
  obtain ⟨hx, hb, hml, hown, hts, hKK, hini⟩ := C
  obtain ⟨hR, hV, hL, ho, hk⟩ := S
  have hF := hKK.2.2.2.2.2.2.1.2.2
  simp only [z_step] at hs
  obtain ⟨x, y, s0, rfl, hg, rfl, rfl, rfl, rfl, rfl⟩ := zv_mm hs
  have hy := hk.hd.1 rfl
  have hxx := hk.tl.hd.1 rfl
  have hq := zmath_ok
  simp only [Bool.and_eq_true] at hq
  refine va_mmin hx hb (by rw [hml, hL.1, hlen]) hown (hts _ hv) (hts _ (zw_mem hq.2.1)) (hts _ (zw_mem hq.2.2.2)) (hts _ z_mcodes.2.1) hRm.1 (by rw [zrv_cats hF]; omega) hcs.1 hcs.2 hd ?_
  have K := kk H locs ls cells slots rfl rfl ⟨hR, hV, hL, ho, hk.tl.tl.cons (zok0 (show z32 (min x y) by have := hxx.1; have := hxx.2; have := hy.1; have := hy.2; constructor <;> omega))⟩
  have e1 : (if Int32.ofInt y < Int32.ofInt x then Int32.ofInt y else Int32.ofInt x) = Int32.ofInt (min x y) := by
    by_cases h : y < x
    · rw [if_pos ((zlt32 hy hxx).mpr h), Int.min_eq_right (by omega)]
    · rw [if_neg (fun q => h ((zlt32 hy hxx).mp q)), Int.min_eq_left (by omega)]
  rw [e1]
  exact K
theorem zi_mminl (C : zCX p s m args meth c E k) (hlen : lo.length = zmL k) {ix : Nat} (hv : Jvm.Cond.methodLink (zCn (zown k)) ix Lib.MathLoose.min_long.x ∈ zWS) (hd : decode (zby k) pc = .ok (.invokestatic ix, 3)) (hs : z_step (86, pc + 3, a, b, ts) lo st T V = some (.inl (pc', lo', st', T', V'))) (hRm : 1 ≤ R.frames ∧ 36 ≤ R.locals) (hcs : cells ≤ R.cells ∧ slots ≤ R.slots) (S : zSt E s T V H locs ls lo st) (kk : zK p l e R s m args below meth c Q E pc' lo' st' T T' V' cells slots) : W p l e R s m args below meth c H locs cells slots Q (F0 m pc ls (st.map (rv E))) := by
  obtain ⟨hx, hb, hml, hown, hts, hKK, hini⟩ := C
  obtain ⟨hR, hV, hL, ho, hk⟩ := S
  have hF := hKK.2.2.2.2.2.2.1.2.2
  simp only [z_step] at hs
  obtain ⟨x, y, s0, rfl, hg, rfl, rfl, rfl, rfl, rfl⟩ := zv_mm hs
  have hy := hk.hd.2 rfl
  have hxx := hk.tl.hd.2 rfl
  have hq := zmath_ok
  simp only [Bool.and_eq_true] at hq
  refine va_mmin_long hx hb (by rw [hml, hL.1, hlen]) hown (hts _ hv) (hts _ (zw_mem hq.2.2.1)) (hts _ (zw_mem hq.2.2.2)) (hts _ z_mcodes.2.2.1) hRm.1 (by rw [zrv_cats hF]; omega) hcs.1 hcs.2 hd ?_
  have K := kk H locs ls cells slots rfl rfl ⟨hR, hV, hL, ho, hk.tl.tl.cons (zok1 (show z64 (min x y) by have := hxx.1; have := hxx.2; have := hy.1; have := hy.2; constructor <;> omega))⟩
  have e1 : (if Int64.ofInt y < Int64.ofInt x then Int64.ofInt y else Int64.ofInt x) = Int64.ofInt (min x y) := by
    by_cases h : y < x
    · rw [if_pos ((zlt64 hy hxx).mpr h), Int.min_eq_right (by omega)]
    · rw [if_neg (fun q => h ((zlt64 hy hxx).mp q)), Int.min_eq_left (by omega)]
  rw [e1]
  exact K
theorem zi_obj (C : zCX p s m args meth c E k) (hlen : lo.length = zmL k) {ix : Nat} (hv : Jvm.Cond.methodLink (zCn (zown k)) ix Lib.objectInit ∈ zWS) (hin : Jvm.Cond.instanceMethod Lib.objectInit ∈ zWS) (hd : decode (zby k) pc = .ok (.invokespecial ix, 3)) (hs : z_step (78, pc + 3, a, b, ts) lo st T V = some (.inl (pc', lo', st', T', V'))) (hRm : 1 ≤ R.frames ∧ 36 ≤ R.locals) (S : zSt E s T V H locs ls lo st) (kk : zK p l e R s m args below meth c Q E pc' lo' st' T T' V' cells slots) : W p l e R s m args below meth c H locs cells slots Q (F0 m pc ls (st.map (rv E))) := by
  obtain ⟨hx, hb, hml, hown, hts, hKK, hini⟩ := C
  obtain ⟨hR, hV, hL, ho, hk⟩ := S
  have hF := hKK.2.2.2.2.2.2.1.2.2
  simp only [z_step] at hs
  obtain ⟨x, s0, rfl, hg, rfl, rfl, rfl, rfl, rfl⟩ := zv_obj hs
  rw [List.map_cons, show rv E (2, x) = .ref (eZ E + x.toNat) from zrr_pos hg.1]
  refine W.objInit hx hb hown (hts _ hv) (hts _ hin) (hts _ z_mcodes.2.2.2) rfl (by rw [hml, ← hlen]; exact hL.1) rfl hd hRm.1 ?_ (kk _ _ _ _ _ rfl rfl ⟨hR, hV, hL, ho, hk.tl⟩)
  rw [zrv_cats hF]
  show 2 * 0 + _ + 12 ≤ _
  omega
theorem zi_stc (C : zCX p s m args meth c E k) {ix : Nat} (hv : Jvm.Cond.fieldLink (zCn (zown k)) ix "java/lang/String" "COMPACT_STRINGS" "Z" ∈ zWS) (hd : decode (zby k) pc = .ok (.getstatic ix, 3)) (hs : z_step (80, pc + 3, a, b, ts) lo st T V = some (.inl (pc', lo', st', T', V'))) (S : zSt E s T V H locs ls lo st) (kk : zK p l e R s m args below meth c Q E pc' lo' st' T T' V' cells slots) : W p l e R s m args below meth c H locs cells slots Q (F0 m pc ls (st.map (rv E))) := by
  obtain ⟨hx, hb, hml, hown, hts, hKK, hini⟩ := C
  obtain ⟨hR, hV, hL, ho, hk⟩ := S
  simp only [z_step] at hs
  obtain ⟨rfl, rfl, rfl, rfl, rfl⟩ := zgo_inv hs
  exact va_gets hx hb hKK.2.2.2.2.2.2.1.1 hV hown (hts _ hv) (fun _ h => h) hd (kk _ _ _ _ _ rfl rfl ⟨hR, hV, hL, ho, hk.cons (zok0 (by decide))⟩)
theorem zi_stf (C : zCX p s m args meth c E k) {ix : Nat} (hv : Jvm.Cond.fieldLink (zCn (zown k)) ix "jdk/internal/util/Preconditions" "SIOOBE_FORMATTER" "Ljava/util/function/BiFunction;" ∈ zWS) (hd : decode (zby k) pc = .ok (.getstatic ix, 3)) (hs : z_step (81, pc + 3, a, b, ts) lo st T V = some (.inl (pc', lo', st', T', V'))) (S : zSt E s T V H locs ls lo st) (kk : zK p l e R s m args below meth c Q E pc' lo' st' T T' V' cells slots) : W p l e R s m args below meth c H locs cells slots Q (F0 m pc ls (st.map (rv E))) := by
  obtain ⟨hx, hb, hml, hown, hts, hKK, hini⟩ := C
  obtain ⟨hR, hV, hL, ho, hk⟩ := S
  simp only [z_step] at hs
  obtain ⟨rfl, rfl, rfl, rfl, rfl⟩ := zgo_inv hs
  exact va_gets hx hb hKK.2.2.2.2.2.2.1.2.1 hV hown (hts _ hv) (fun _ h => h) hd (kk _ _ _ _ _ rfl rfl ⟨hR, hV, hL, ho, hk.cons (zokr (by decide))⟩)
theorem zi_strv (C : zCX p s m args meth c E k) {ix : Nat} (hv : Jvm.Cond.fieldLink (zCn (zown k)) ix "java/lang/String" "value" "[B" ∈ zWS) (hd : decode (zby k) pc = .ok (.getfield ix, 3)) (hs : z_step (82, pc + 3, a, b, ts) lo st T V = some (.inl (pc', lo', st', T', V'))) (S : zSt E s T V H locs ls lo st) (kk : zK p l e R s m args below meth c Q E pc' lo' st' T T' V' cells slots) : W p l e R s m args below meth c H locs cells slots Q (F0 m pc ls (st.map (rv E))) := by
  obtain ⟨hx, hb, hml, hown, hts, hKK, hini⟩ := C
  obtain ⟨hR, hV, hL, ho, hk⟩ := S
  simp only [z_step] at hs
  obtain ⟨x, s0, rfl, hg, rfl, rfl, rfl, rfl, rfl⟩ := zv_strv hs
  obtain ⟨g1, g2, g3, g4⟩ := hKK.2.2.2.2.1.1 x.toNat (by omega)
  exact vk_getf hx hb g3 hV hown (hts _ hv) (fun _ h => h) hd (kk _ _ _ _ _ rfl rfl ⟨hR, hV, hL, ho, hk.tl.cons (zokr (by decide))⟩)
theorem zi_strc (C : zCX p s m args meth c E k) {ix : Nat} (hv : Jvm.Cond.fieldLink (zCn (zown k)) ix "java/lang/String" "coder" "B" ∈ zWS) (hd : decode (zby k) pc = .ok (.getfield ix, 3)) (hs : z_step (83, pc + 3, a, b, ts) lo st T V = some (.inl (pc', lo', st', T', V'))) (S : zSt E s T V H locs ls lo st) (kk : zK p l e R s m args below meth c Q E pc' lo' st' T T' V' cells slots) : W p l e R s m args below meth c H locs cells slots Q (F0 m pc ls (st.map (rv E))) := by
  obtain ⟨hx, hb, hml, hown, hts, hKK, hini⟩ := C
  obtain ⟨hR, hV, hL, ho, hk⟩ := S
  simp only [z_step] at hs
  obtain ⟨x, s0, rfl, hg, rfl, rfl, rfl, rfl, rfl⟩ := zv_strc hs
  obtain ⟨g1, g2, g3, g4⟩ := hKK.2.2.2.2.1.1 x.toNat (by omega)
  exact vk_getf hx hb g2 hV hown (hts _ hv) (fun _ h => h) hd (kk _ _ _ _ _ rfl rfl ⟨hR, hV, hL, ho, hk.tl.cons (zok0 (by decide))⟩)
theorem zcpy_av {t : Nat} (ht : t = 0 ∨ t = 1) {f g p0 p1 : Int → Int} {sp dp n : Int} (h1 : 0 ≤ sp) (h2 : 0 ≤ dp) (h3 : 0 ≤ n) : (fun j : Nat => va_cpy (fun j : Nat => zav E t (p0 (j : Int)) (f (j : Int))) (fun j : Nat => zav E t (p1 (j : Int)) (g (j : Int))) sp.toNat dp.toNat n.toNat j) = fun j : Nat => zav E t (p1 (j : Int)) (zcpy f g sp dp n (j : Int)) := by
  funext j
  unfold va_cpy zcpy
  by_cases hc : dp ≤ (j : Int) ∧ (j : Int) < dp + n
  · rw [if_pos (by omega), if_pos hc]
    show zav E t (p0 ((sp.toNat + (j - dp.toNat) : Nat) : Int)) (f ((sp.toNat + (j - dp.toNat) : Nat) : Int)) = _
    rw [show ((sp.toNat + (j - dp.toNat) : Nat) : Int) = sp + ((j : Int) - dp) by omega]
    rcases ht with rfl | rfl <;> rfl
  · rw [if_neg (by omega), if_neg hc]
theorem zi_cpy (C : zCX p s m args meth c E k) (hlen : lo.length = zmL k) {ix : Nat} (hv : Jvm.Cond.methodLink (zCn (zown k)) ix arraycopyName ∈ zWS) (hd : decode (zby k) pc = .ok (.invokestatic ix, 3)) (hs : z_step (79, pc + 3, a, b, ts) lo st T V = some (.inl (pc', lo', st', T', V'))) (hRm : 1 ≤ R.frames ∧ 36 ≤ R.locals) (S : zSt E s T V H locs ls lo st) (kk : zK p l e R s m args below meth c Q E pc' lo' st' T T' V' cells slots) : W p l e R s m args below meth c H locs cells slots Q (F0 m pc ls (st.map (rv E))) := by
  obtain ⟨hx, hb, hml, hown, hts, hKK, hini⟩ := C
  obtain ⟨hR, hV, hL, ho, hk⟩ := S
  have hF := hKK.2.2.2.2.2.2.1.2.2
  simp only [z_step] at hs
  obtain ⟨n, dp, d, sp, s1, s0, rfl, ⟨⟨a1, a2, a3, a4⟩, ⟨b1, b2⟩, b3, ⟨c1, c2, c3, c4, c5⟩, d1⟩, rfl, rfl, rfl, rfl, rfl⟩ := zv_cpy hs
  obtain ⟨t, ht, ht5, hts1, htd⟩ : ∃ t : Nat, (t = 0 ∨ t = 1) ∧ t < 5 ∧ zc T' s1 = (t : Int) ∧ zc T' d = (t : Int) := by
    rcases b2 with h | h
    · exact ⟨0, Or.inl rfl, by decide, h, by rw [← b1, h]; rfl⟩
    · exact ⟨1, Or.inr rfl, by decide, h, by rw [← b1, h]; rfl⟩
  obtain ⟨p1, p2, p3, p4⟩ := zarr_at ht5 hR ⟨a1, a2, hts1⟩
  obtain ⟨q1, q2, q3, q4⟩ := zarr_at ht5 hR ⟨a3, a4, htd⟩
  have hn32 : z32 n := ⟨by omega, by omega⟩
  have hsp32 : z32 sp := ⟨by omega, by omega⟩
  have hdp32 : z32 dp := ⟨by omega, by omega⟩
  have hq := zcopy_ok
  simp only [Bool.and_eq_true] at hq
  have hK2 := (hKK.2.1 t ht5).1
  obtain ⟨-, k0, hk0, cm0, hkk0⟩ := hK2 (zl T' s1).toNat (fun j => zav E t (zp T' s1 (j : Int)) (V s1 (j : Int)))
  obtain ⟨-, k1, hk1, cm1, hkk1⟩ := hK2 (zl T' d).toNat (fun j => zav E t (zp T' d (j : Int)) (V d (j : Int)))
  rw [List.map_cons, List.map_cons, List.map_cons, List.map_cons, List.map_cons, show rv E (2, s1) = .ref (eZ E + s1.toNat) from zrr_pos a1, show rv E (2, d) = .ref (eZ E + d.toNat) from zrr_pos a3, show rv E (0, n) = .int (Int32.ofInt n) from rfl, show rv E (0, dp) = .int (Int32.ofInt dp) from rfl, show rv E (0, sp) = .int (Int32.ofInt sp) from rfl]
  intro T0 hT X
  have hval : ∀ i : Nat, i < n.toNat → (arrV (eA E t) (zl T' s1).toNat (fun j => zav E t (zp T' s1 (j : Int)) (V s1 (j : Int)))).slots.getD (sp.toNat + i) .null = zav E t (zp T' s1 ((sp.toNat + i : Nat) : Int)) (V s1 ((sp.toNat + i : Nat) : Int)) := by
    intro i hi
    rw [Array.getD_eq_getD_getElem?, arrV_read _ _ (by omega)]
    rfl
  obtain ⟨vm', X', step⟩ := X.arraycopy hx hown (hts _ hv) (hts _ (zw_mem hq.2.1)) (hts _ (zw_mem hq.1)) (hts _ (zw_mem hq.2.2)) (src := eZ E + s1.toNat) (dst := eZ E + d.toNat) (srcPos := Int32.ofInt sp) (destPos := Int32.ofInt dp) (n := Int32.ofInt n) (by rw [hT]; exact p1) (by rw [hT]; exact q1)
    (fun _ h => by cases h) (fun _ h => by cases h) (fun h => by cases h) (fun h => by cases h) hk0 hk1 hkk0 hkk1 (by rcases ht with rfl | rfl <;> rfl) (znn hsp32 c2) (znn hdp32 c3) (znn hn32 c1)
    (by rw [zt32 hsp32, zt32 hn32, arrV_size]; omega) (by rw [zt32 hdp32, zt32 hn32, arrV_size]; omega)
    (fun vm₁ _ i hi => by
      rw [znat hn32 c1] at hi
      rw [znat hsp32 c2, hval i hi]
      rcases ht with rfl | rfl
      · exact ⟨rfl, trivial⟩
      · exact ⟨rfl, trivial⟩)
    (g := F0 m pc ls (.int (Int32.ofInt n) :: .int (Int32.ofInt dp) :: .ref (eZ E + d.toNat) :: .int (Int32.ofInt sp) :: .ref (eZ E + s1.toNat) :: st'.map (rv E))) rfl (by rw [hml, ← hlen]; exact hL.1) (rest := st'.map (rv E)) rfl (by rw [hb]; exact hd) hRm.1 (by rw [zrv_cats hF]; show 2 * 0 + _ + (7 + 11) ≤ _; omega)
  have e1 : copied (arrV (eA E t) (zl T' s1).toNat (fun j => zav E t (zp T' s1 (j : Int)) (V s1 (j : Int)))) (arrV (eA E t) (zl T' d).toNat (fun j => zav E t (zp T' d (j : Int)) (V d (j : Int)))) (Int32.ofInt sp) (Int32.ofInt dp) (Int32.ofInt n) = arrV (eA E t) (zl T' d).toNat (fun j => zav E t (zp T' d (j : Int)) (zcpy (V s1) (V d) sp dp n (j : Int))) := by
    have h := va_copied (fun z : Value => z) (eA E t) (eA E t) (n0 := (zl T' s1).toNat) (n1 := (zl T' d).toNat) (sp := sp.toNat) (dp := dp.toNat) (n := n.toNat) (fun j => zav E t (zp T' s1 (j : Int)) (V s1 (j : Int))) (fun j => zav E t (zp T' d (j : Int)) (V d (j : Int))) (by omega)
    rw [zcpy_av ht c2 c3 c1] at h
    rw [← h]
    show Cell.storeRun _ (Int32.ofInt dp).toNatClampNeg (Cell.stretch _ (Int32.ofInt sp).toNatClampNeg (Int32.ofInt n).toNatClampNeg) = _
    rw [znat hdp32 c3, znat hsp32 c2, znat hn32 c1]
  rw [e1] at X' step
  generalize hcell : arrV (eA E t) (zl T' d).toNat (fun j => zav E t (zp T' d (j : Int)) (zcpy (V s1) (V d) sp dp n (j : Int))) = cell at X' step
  have hl : eZ E + d.toNat < H.size := (Array.getElem?_eq_some_iff.mp q1).1
  have hheap : ((T0.setVm vm').setCell (eZ E + d.toNat) cell).heap = H.setIfInBounds (eZ E + d.toNat) cell := by rw [← hT]; rfl
  have oq : ∀ q : Nat, q ≠ eZ E + d.toNat → (H.setIfInBounds (eZ E + d.toNat) cell)[q]? = H[q]? := fun q hq => by simp [Array.getElem?_setIfInBounds, Ne.symm hq]
  have hz1 : (H.setIfInBounds (eZ E + d.toNat) cell).size = H.size := by simp
  have hat : (H.setIfInBounds (eZ E + d.toNat) cell)[eZ E + d.toNat]? = some cell := by simp [Array.getElem?_setIfInBounds, hl]
  have K := kk (H.setIfInBounds (eZ E + d.toNat) cell) (locs ++ ((arrV (eA E t) (zl T' s1).toNat (fun j => zav E t (zp T' s1 (j : Int)) (V s1 (j : Int)))).stretch (Int32.ofInt sp).toNatClampNeg (Int32.ofInt n).toNatClampNeg).zipIdx.map fun q => ⟨eZ E + d.toNat, (Int32.ofInt dp).toNatClampNeg + q.2⟩) ls cells slots rfl rfl
    ⟨hR.setV a3 a4 hz1 oq ⟨fun u hu e2 => by
        have e3 : u = t := by omega
        subst e3
        refine ⟨by rw [hat, ← hcell], q2, q3, fun j hj => ?_⟩
        unfold zcpy
        split
        · have h9 := p4 (sp + ((j : Int) - dp)).toNat (by omega)
          rwa [Int.toNat_of_nonneg (by omega)] at h9
        · exact q4 j hj, fun cj hcj e2 => by rw [htd] at e2; omega⟩,
      ⟨by rw [hz1]; exact hV.1, fun q g1 g2 => by
        rw [oq q (fun e => g2 (by rw [e]; show eZ E ≤ _; omega))]
        exact hV.2.1 q g1 g2, fun q hq => by
        rcases List.mem_append.mp hq with h | h
        · exact hV.2.2 q h
        · obtain ⟨z, -, hz⟩ := List.mem_map.mp h
          rw [← hz]
          show eZ E ≤ eZ E + d.toNat
          omega⟩, hL, ho, hk.tl.tl.tl.tl.tl⟩
  obtain ⟨t9, a9, b9⟩ := K _ hheap X'
  exact ⟨t9, step t9 a9, b9⟩
end ZSN5
end
section
/-! what a step does to lengths and sizes; which steps call, which end -/
def zPr (lo : List zV) (T : zT) (r : zR) : Prop := ∃ (pc' : Nat) (lo' st' : List zV) (T' : zT) (V' : zM), r = .inl (pc', lo', st', T', V') ∧ lo'.length = lo.length ∧ T.1 ≤ T'.1 ∧ T.2.1 ≤ T'.2.1
theorem zPr_go {nx : Nat} {lo l1 st : List zV} {T T1 : zT} {V : zM} {r : zR} (h : zgo nx l1 st T1 V = some r) (h1 : l1.length = lo.length) (h2 : T.1 ≤ T1.1) (h3 : T.2.1 ≤ T1.2.1) : zPr lo T r := ⟨_, _, _, _, _, (Option.some.inj h).symm, h1, h2, h3⟩
theorem zr_ld {nx a : Nat} {lo st : List zV} {T : zT} {V : zM} {r : zR} {t : Nat} (h : zo_ld t nx a lo st T V = some r) : zPr lo T r := by
  unfold zo_ld at h
  repeat' split at h
  all_goals first | exact zPr_go h (by simp) (Nat.le_refl _) (Nat.le_refl _) | cases h
theorem zr_lda {nx a : Nat} {lo st : List zV} {T : zT} {V : zM} {r : zR} (h : zo_lda nx a lo st T V = some r) : zPr lo T r := by
  unfold zo_lda at h
  repeat' split at h
  all_goals first | exact zPr_go h (by simp) (Nat.le_refl _) (Nat.le_refl _) | cases h
theorem zr_st1 {nx a : Nat} {lo st : List zV} {T : zT} {V : zM} {r : zR} {q : Nat → Bool} (h : zo_st1 q nx a lo st T V = some r) : zPr lo T r := by
  unfold zo_st1 at h
  repeat' split at h
  all_goals first | exact zPr_go h (by simp) (Nat.le_refl _) (Nat.le_refl _) | cases h
theorem zr_st2 {nx a : Nat} {lo st : List zV} {T : zT} {V : zM} {r : zR} (h : zo_st2 nx a lo st T V = some r) : zPr lo T r := by
  unfold zo_st2 at h
  repeat' split at h
  all_goals first | exact zPr_go h (by simp) (Nat.le_refl _) (Nat.le_refl _) | cases h
theorem zr_inc {nx a : Nat} {b : Int} {lo st : List zV} {T : zT} {V : zM} {r : zR} (h : zo_inc nx a b lo st T V = some r) : zPr lo T r := by
  unfold zo_inc at h
  repeat' split at h
  all_goals first | exact zPr_go h (by simp) (Nat.le_refl _) (Nat.le_refl _) | cases h
theorem zr_bin {nx : Nat} {lo st : List zV} {T : zT} {V : zM} {r : zR} {t : Nat} {g : Int → Int → Prop} {dg : ∀ x y, Decidable (g x y)} {f : Int → Int → Int} (h : zo_bin t g dg f nx lo st T V = some r) : zPr lo T r := by
  unfold zo_bin at h
  repeat' split at h
  all_goals first | exact zPr_go h (by simp) (Nat.le_refl _) (Nat.le_refl _) | cases h
theorem zr_lsh {nx : Nat} {lo st : List zV} {T : zT} {V : zM} {r : zR} {g : Int → Int → Prop} {dg : ∀ x y, Decidable (g x y)} {f : Int → Int → Int} (h : zo_lsh g dg f nx lo st T V = some r) : zPr lo T r := by
  unfold zo_lsh at h
  repeat' split at h
  all_goals first | exact zPr_go h (by simp) (Nat.le_refl _) (Nat.le_refl _) | cases h
theorem zr_cmp {nx : Nat} {lo st : List zV} {T : zT} {V : zM} {r : zR} (h : zo_cmp nx lo st T V = some r) : zPr lo T r := by
  unfold zo_cmp at h
  repeat' split at h
  all_goals first | exact zPr_go h (by simp) (Nat.le_refl _) (Nat.le_refl _) | cases h
theorem zr_mm {nx : Nat} {lo st : List zV} {T : zT} {V : zM} {r : zR} {t : Nat} {f : Int → Int → Int} (h : zo_mm t f nx lo st T V = some r) : zPr lo T r := by
  unfold zo_mm at h
  repeat' split at h
  all_goals first | exact zPr_go h (by simp) (Nat.le_refl _) (Nat.le_refl _) | cases h
theorem zr_un {nx : Nat} {lo st : List zV} {T : zT} {V : zM} {r : zR} {t u : Nat} {g : Int → Prop} {dg : ∀ x, Decidable (g x)} {f : Int → Int} (h : zo_un t u g dg f nx lo st T V = some r) : zPr lo T r := by
  unfold zo_un at h
  repeat' split at h
  all_goals first | exact zPr_go h (by simp) (Nat.le_refl _) (Nat.le_refl _) | cases h
theorem zr_if1 {nx a : Nat} {lo st : List zV} {T : zT} {V : zM} {r : zR} {g : Int → Prop} {dg : ∀ x, Decidable (g x)} (h : zo_if1 g dg nx a lo st T V = some r) : zPr lo T r := by
  unfold zo_if1 at h
  repeat' split at h
  all_goals first | exact zPr_go h (by simp) (Nat.le_refl _) (Nat.le_refl _) | cases h
theorem zr_if2 {nx a : Nat} {lo st : List zV} {T : zT} {V : zM} {r : zR} {g : Int → Int → Prop} {dg : ∀ x y, Decidable (g x y)} (h : zo_if2 g dg nx a lo st T V = some r) : zPr lo T r := by
  unfold zo_if2 at h
  repeat' split at h
  all_goals first | exact zPr_go h (by simp) (Nat.le_refl _) (Nat.le_refl _) | cases h
theorem zr_nn {nx a : Nat} {lo st : List zV} {T : zT} {V : zM} {r : zR} (h : zo_nn nx a lo st T V = some r) : zPr lo T r := by
  unfold zo_nn at h
  repeat' split at h
  all_goals first | exact zPr_go h (by simp) (Nat.le_refl _) (Nat.le_refl _) | cases h
theorem zr_sw  {b : Int} {lo st : List zV} {T : zT} {V : zM} {r : zR} {ts : List Nat} (h : zo_sw b ts lo st T V = some r) : zPr lo T r := by
  unfold zo_sw at h
  repeat' split at h
  all_goals first | exact zPr_go h (by simp) (Nat.le_refl _) (Nat.le_refl _) | cases h
theorem zr_dup {nx : Nat} {lo st : List zV} {T : zT} {V : zM} {r : zR} (h : zo_dup nx lo st T V = some r) : zPr lo T r := by
  unfold zo_dup at h
  repeat' split at h
  all_goals first | exact zPr_go h (by simp) (Nat.le_refl _) (Nat.le_refl _) | cases h
theorem zr_pop {nx : Nat} {lo st : List zV} {T : zT} {V : zM} {r : zR} (h : zo_pop nx lo st T V = some r) : zPr lo T r := by
  unfold zo_pop at h
  repeat' split at h
  all_goals first | exact zPr_go h (by simp) (Nat.le_refl _) (Nat.le_refl _) | cases h
theorem zr_dup2 {nx : Nat} {lo st : List zV} {T : zT} {V : zM} {r : zR} (h : zo_dup2 nx lo st T V = some r) : zPr lo T r := by
  unfold zo_dup2 at h
  repeat' split at h
  all_goals first | exact zPr_go h (by simp) (Nat.le_refl _) (Nat.le_refl _) | cases h
theorem zr_get {nx a : Nat} {b : Int} {lo st : List zV} {T : zT} {V : zM} {r : zR} {t : Nat} {M : Int → Int → Int} (h : zo_get t M nx a b lo st T V = some r) : zPr lo T r := by
  unfold zo_get at h
  repeat' split at h
  all_goals first | exact zPr_go h (by simp) (Nat.le_refl _) (Nat.le_refl _) | cases h
theorem zr_put {nx a : Nat} {b : Int} {lo st : List zV} {T : zT} {V : zM} {r : zR} {g : Int → Prop} {dg : ∀ x, Decidable (g x)} (h : zo_put g dg nx a b lo st T V = some r) : zPr lo T r := by
  unfold zo_put at h
  repeat' split at h
  all_goals first | exact zPr_go h (by simp) (Nat.le_refl _) (Nat.le_refl _) | cases h
theorem zr_putr {nx a : Nat} {b : Int} {lo st : List zV} {T : zT} {V : zM} {r : zR} (h : zo_putr nx a b lo st T V = some r) : zPr lo T r := by
  unfold zo_putr at h
  repeat' split at h
  all_goals first | exact zPr_go h (by simp) (Nat.le_refl _) (Nat.le_refl _) | cases h
theorem zr_ald {nx : Nat} {lo st : List zV} {T : zT} {V : zM} {r : zR} {t : Nat} {M : Int → Int → Int} {c : Int} (h : zo_ald t M c nx lo st T V = some r) : zPr lo T r := by
  unfold zo_ald at h
  repeat' split at h
  all_goals first | exact zPr_go h (by simp) (Nat.le_refl _) (Nat.le_refl _) | cases h
theorem zr_ast {nx : Nat} {lo st : List zV} {T : zT} {V : zM} {r : zR} {t : Nat} {c : Int} {g : Int → Prop} {dg : ∀ x, Decidable (g x)} (h : zo_ast t c g dg nx lo st T V = some r) : zPr lo T r := by
  unfold zo_ast at h
  repeat' split at h
  all_goals first | exact zPr_go h (by simp) (Nat.le_refl _) (Nat.le_refl _) | cases h
theorem zr_qst {nx : Nat} {lo st : List zV} {T : zT} {V : zM} {r : zR} (h : zo_qst nx lo st T V = some r) : zPr lo T r := by
  unfold zo_qst at h
  repeat' split at h
  all_goals first | exact zPr_go h (by simp) (Nat.le_refl _) (Nat.le_refl _) | cases h
theorem zr_len {nx : Nat} {lo st : List zV} {T : zT} {V : zM} {r : zR} (h : zo_len nx lo st T V = some r) : zPr lo T r := by
  unfold zo_len at h
  repeat' split at h
  all_goals first | exact zPr_go h (by simp) (Nat.le_refl _) (Nat.le_refl _) | cases h
theorem zr_new {nx a : Nat} {lo st : List zV} {T : zT} {V : zM} {r : zR} (h : zo_new nx a lo st T V = some r) : zPr lo T r := by
  unfold zo_new at h
  repeat' split at h
  all_goals first | exact zPr_go h (by simp) (Nat.le_succ _) (Nat.le_add_right _ _) | cases h
theorem zr_nar {nx : Nat} {lo st : List zV} {T : zT} {V : zM} {r : zR} {c : Int} (h : zo_nar c nx lo st T V = some r) : zPr lo T r := by
  unfold zo_nar at h
  repeat' split at h
  all_goals first | exact zPr_go h (by simp) (Nat.le_succ _) (Nat.le_add_right _ _) | cases h
theorem zr_obj {nx : Nat} {lo st : List zV} {T : zT} {V : zM} {r : zR} (h : zo_obj nx lo st T V = some r) : zPr lo T r := by
  unfold zo_obj at h
  repeat' split at h
  all_goals first | exact zPr_go h (by simp) (Nat.le_refl _) (Nat.le_refl _) | cases h
theorem zr_cpy {nx : Nat} {lo st : List zV} {T : zT} {V : zM} {r : zR} (h : zo_cpy nx lo st T V = some r) : zPr lo T r := by
  unfold zo_cpy at h
  repeat' split at h
  all_goals first | exact zPr_go h (by simp) (Nat.le_refl _) (Nat.le_refl _) | cases h
theorem zr_strv {nx : Nat} {lo st : List zV} {T : zT} {V : zM} {r : zR} (h : zo_strv nx lo st T V = some r) : zPr lo T r := by
  unfold zo_strv at h
  repeat' split at h
  all_goals first | exact zPr_go h (by simp) (Nat.le_refl _) (Nat.le_refl _) | cases h
theorem zr_strc {nx : Nat} {lo st : List zV} {T : zT} {V : zM} {r : zR} (h : zo_strc nx lo st T V = some r) : zPr lo T r := by
  unfold zo_strc at h
  repeat' split at h
  all_goals first | exact zPr_go h (by simp) (Nat.le_refl _) (Nat.le_refl _) | cases h
theorem zr_ild {nx : Nat} {lo st : List zV} {T : zT} {V : zM} {r : zR} (h : zo_ild nx lo st T V = some r) : zPr lo T r := by
  unfold zo_ild at h
  repeat' split at h
  all_goals first | exact zPr_go h (by simp) (Nat.le_refl _) (Nat.le_refl _) | exact zr_ald h | cases h
theorem zr_bld {nx : Nat} {lo st : List zV} {T : zT} {V : zM} {r : zR} (h : zo_bld nx lo st T V = some r) : zPr lo T r := by
  unfold zo_bld at h
  repeat' split at h
  all_goals first | exact zPr_go h (by simp) (Nat.le_refl _) (Nat.le_refl _) | exact zr_ald h | cases h
theorem zr_bst {nx : Nat} {lo st : List zV} {T : zT} {V : zM} {r : zR} (h : zo_bst nx lo st T V = some r) : zPr lo T r := by
  unfold zo_bst at h
  repeat' split at h
  all_goals first | exact zr_ast h | cases h
theorem z_step_kind {I : zI} {lo st : List zV} {T : zT} {V : zM} {r : zR} (h : z_step I lo st T V = some r) : zPr lo T r ∨ (I.1 = 72 ∧ zo_ret I.2.2.1 st T V = some r) ∨ (I.1 = 73 ∧ st = [] ∧ r = .inr (.inr ((9, 0), T, V))) ∨ (I.1 = 74 ∧ zo_call I.2.1 I.2.2.1 I.2.2.2.1 lo st T V = some r) ∨ (I.1 = 75 ∧ zo_callI I.2.1 I.2.2.1 I.2.2.2.1 lo st T V = some r) ∨ (I.1 = 76 ∧ zo_callV I.2.1 I.2.2.1 I.2.2.2.1 I.2.2.2.2 lo st T V = some r) ∨ (I.1 = 77 ∧ zo_callS I.2.1 I.2.2.1 I.2.2.2.1 lo st T V = some r) := by
  obtain ⟨op, nx, a, b, ts⟩ := I
  unfold z_step at h
  simp only at h
  split at h
  all_goals first
    | (split at h <;> first | exact Or.inr (Or.inr (Or.inl ⟨rfl, rfl, (Option.some.inj h).symm⟩)) | (exfalso; cases h; done))
    | (left; first | exact zPr_go h rfl (Nat.le_refl _) (Nat.le_refl _) | exact zr_ld h | exact zr_lda h | exact zr_st1 h | exact zr_st2 h | exact zr_inc h | exact zr_bin h | exact zr_lsh h | exact zr_cmp h | exact zr_mm h | exact zr_un h | exact zr_if1 h | exact zr_if2 h | exact zr_nn h | exact zr_sw h | exact zr_dup h | exact zr_pop h | exact zr_dup2 h | exact zr_get h | exact zr_put h | exact zr_putr h | exact zr_ald h | exact zr_ast h | exact zr_qst h | exact zr_len h | exact zr_new h | exact zr_nar h | exact zr_obj h | exact zr_cpy h | exact zr_strv h | exact zr_strc h | exact zr_ild h | exact zr_bld h | exact zr_bst h | (split at h <;> first | exact zPr_go h rfl (Nat.le_refl _) (Nat.le_refl _) | (exfalso; cases h; done)))
    | exact Or.inr (Or.inl ⟨rfl, h⟩)
    | exact Or.inr (Or.inr (Or.inr (Or.inl ⟨rfl, h⟩)))
    | exact Or.inr (Or.inr (Or.inr (Or.inr (Or.inl ⟨rfl, h⟩))))
    | exact Or.inr (Or.inr (Or.inr (Or.inr (Or.inr (Or.inl ⟨rfl, h⟩)))))
    | exact Or.inr (Or.inr (Or.inr (Or.inr (Or.inr (Or.inr ⟨rfl, h⟩)))))
    | cases h
theorem zv_call {nx a : Nat} {b : Int} {lo st : List zV} {T : zT} {V : zM} {r : zR} (h : zo_call nx a b lo st T V = some r) : (b.toNat ≤ st.length ∧ zcat (st.drop b.toNat) ≤ 8) ∧ r = .inr (.inl (a, (st.take b.toNat).reverse, nx, lo, st.drop b.toNat, T, V)) := by
  unfold zo_call at h
  split at h
  · rename_i h1
    exact ⟨h1, (Option.some.inj h).symm⟩
  · cases h
theorem zv_callI {nx a : Nat} {b : Int} {lo st : List zV} {T : zT} {V : zM} {r : zR} (h : zo_callI nx a b lo st T V = some r) : (∃ (x : Int) (q : List zV), (st.take b.toNat).reverse = (2, x) :: q ∧ 0 ≤ x) ∧ zo_call nx a b lo st T V = some r := by
  unfold zo_callI at h
  split at h
  · rename_i x q he
    split at h
    · rename_i h1
      obtain ⟨t, x⟩ := x
      have h0 : t = 2 := h1.1
      subst h0
      exact ⟨⟨x, q, he, h1.2⟩, h⟩
    · cases h
  · cases h
theorem zv_callV {nx a : Nat} {b : Int} {ts : List Nat} {lo st : List zV} {T : zT} {V : zM} {r : zR} (h : zo_callV nx a b ts lo st T V = some r) : (∃ (x : Int) (q : List zV), (st.take b.toNat).reverse = (2, x) :: q ∧ (0 ≤ x ∧ x < zsz T ∧ zc T x = ((ts.getD 0 0 : Nat) : Int) + 10)) ∧ zo_call nx a b lo st T V = some r := by
  unfold zo_callV at h
  split at h
  · rename_i x q he
    split at h
    · rename_i h1
      obtain ⟨t, x⟩ := x
      have h0 : t = 2 := h1.1
      subst h0
      exact ⟨⟨x, q, he, h1.2⟩, h⟩
    · cases h
  · cases h
theorem zv_callS {nx a : Nat} {b : Int} {lo st : List zV} {T : zT} {V : zM} {r : zR} (h : zo_callS nx a b lo st T V = some r) : (∃ (x : Int) (q : List zV), (st.take b.toNat).reverse = (3, x) :: q ∧ (0 ≤ x ∧ x < 7)) ∧ zo_call nx a b lo st T V = some r := by
  unfold zo_callS at h
  split at h
  · rename_i x q he
    split at h
    · rename_i h1
      obtain ⟨t, x⟩ := x
      have h0 : t = 3 := h1.1
      subst h0
      exact ⟨⟨x, q, he, h1.2⟩, h⟩
    · cases h
  · cases h
theorem zv_ret {a : Nat} {st : List zV} {T : zT} {V : zM} {r : zR} (h : zo_ret a st T V = some r) : ∃ x : zV, st = [x] ∧ ((a = 0 ∧ x.1 = 0) ∨ (a = 1 ∧ x.1 = 1) ∨ (a = 2 ∧ x.1 = 2) ∨ (a = 3 ∧ x.1 = 0 ∧ 0 ≤ x.2 ∧ x.2 ≤ 1) ∨ (a = 4 ∧ x.1 = 0 ∧ -128 ≤ x.2 ∧ x.2 ≤ 127) ∨ (a = 5 ∧ x.1 = 0 ∧ 0 ≤ x.2 ∧ x.2 ≤ 65535)) ∧ r = .inr (.inr (x, T, V)) := by
  unfold zo_ret at h
  split at h
  · rename_i x
    split at h
    · rename_i h1
      exact ⟨x, rfl, h1, (Option.some.inj h).symm⟩
    · cases h
  · cases h
/-- a step that calls -/
theorem z_step_calls {I : zI} {lo st : List zV} {T : zT} {V : zM} {k' : Nat} {args : List zV} {nx : Nat} {l' st' : List zV} {T' : zT} {V' : zM} (h : z_step I lo st T V = some (.inr (.inl (k', args, nx, l', st', T', V')))) : (k' = I.2.2.1 ∧ args = (st.take I.2.2.2.1.toNat).reverse ∧ nx = I.2.1 ∧ l' = lo ∧ st' = st.drop I.2.2.2.1.toNat ∧ T' = T ∧ V' = V) ∧ (I.2.2.2.1.toNat ≤ st.length ∧ zcat (st.drop I.2.2.2.1.toNat) ≤ 8) ∧ (I.1 = 74 ∨ (I.1 = 75 ∧ ∃ (x : Int) (q : List zV), args = (2, x) :: q ∧ 0 ≤ x) ∨ (I.1 = 76 ∧ ∃ (x : Int) (q : List zV), args = (2, x) :: q ∧ (0 ≤ x ∧ x < zsz T ∧ zc T x = ((I.2.2.2.2.getD 0 0 : Nat) : Int) + 10)) ∨ (I.1 = 77 ∧ ∃ (x : Int) (q : List zV), args = (3, x) :: q ∧ (0 ≤ x ∧ x < 7))) := by
  rcases z_step_kind h with h1 | ⟨-, h1⟩ | ⟨-, -, h1⟩ | ⟨h0, h1⟩ | ⟨h0, h1⟩ | ⟨h0, h1⟩ | ⟨h0, h1⟩
  · obtain ⟨_, _, _, _, _, h2, -⟩ := h1
    cases h2
  · obtain ⟨_, -, -, h2⟩ := zv_ret h1
    cases h2
  · cases h1
  · obtain ⟨h2, h3⟩ := zv_call h1
    simp only [Sum.inr.injEq, Sum.inl.injEq, Prod.mk.injEq] at h3
    exact ⟨⟨h3.1, h3.2.1, h3.2.2.1, h3.2.2.2.1, h3.2.2.2.2.1, h3.2.2.2.2.2.1, h3.2.2.2.2.2.2⟩, h2, Or.inl h0⟩
  · obtain ⟨h4, h1⟩ := zv_callI h1
    obtain ⟨h2, h3⟩ := zv_call h1
    simp only [Sum.inr.injEq, Sum.inl.injEq, Prod.mk.injEq] at h3
    rw [← h3.2.1] at h4
    exact ⟨⟨h3.1, h3.2.1, h3.2.2.1, h3.2.2.2.1, h3.2.2.2.2.1, h3.2.2.2.2.2.1, h3.2.2.2.2.2.2⟩, h2, Or.inr (Or.inl ⟨h0, h4⟩)⟩
  · obtain ⟨h4, h1⟩ := zv_callV h1
    obtain ⟨h2, h3⟩ := zv_call h1
    simp only [Sum.inr.injEq, Sum.inl.injEq, Prod.mk.injEq] at h3
    rw [← h3.2.1] at h4
    exact ⟨⟨h3.1, h3.2.1, h3.2.2.1, h3.2.2.2.1, h3.2.2.2.2.1, h3.2.2.2.2.2.1, h3.2.2.2.2.2.2⟩, h2, Or.inr (Or.inr (Or.inl ⟨h0, h4⟩))⟩
  · obtain ⟨h4, h1⟩ := zv_callS h1
    obtain ⟨h2, h3⟩ := zv_call h1
    simp only [Sum.inr.injEq, Sum.inl.injEq, Prod.mk.injEq] at h3
    rw [← h3.2.1] at h4
    exact ⟨⟨h3.1, h3.2.1, h3.2.2.1, h3.2.2.2.1, h3.2.2.2.2.1, h3.2.2.2.2.2.1, h3.2.2.2.2.2.2⟩, h2, Or.inr (Or.inr (Or.inr ⟨h0, h4⟩))⟩
theorem z_step_ends {I : zI} {lo st : List zV} {T : zT} {V : zM} {x : zV} {T' : zT} {V' : zM} (h : z_step I lo st T V = some (.inr (.inr (x, T', V')))) : T' = T ∧ V' = V ∧ ((I.1 = 72 ∧ st = [x] ∧ ((I.2.2.1 = 0 ∧ x.1 = 0) ∨ (I.2.2.1 = 1 ∧ x.1 = 1) ∨ (I.2.2.1 = 2 ∧ x.1 = 2) ∨ (I.2.2.1 = 3 ∧ x.1 = 0 ∧ 0 ≤ x.2 ∧ x.2 ≤ 1) ∨ (I.2.2.1 = 4 ∧ x.1 = 0 ∧ -128 ≤ x.2 ∧ x.2 ≤ 127) ∨ (I.2.2.1 = 5 ∧ x.1 = 0 ∧ 0 ≤ x.2 ∧ x.2 ≤ 65535))) ∨ (I.1 = 73 ∧ st = [] ∧ x = (9, 0))) := by
  rcases z_step_kind h with h1 | ⟨h0, h1⟩ | ⟨h0, h2, h1⟩ | ⟨h0, h1⟩ | ⟨h0, h1⟩ | ⟨h0, h1⟩ | ⟨h0, h1⟩
  · obtain ⟨_, _, _, _, _, h2, -⟩ := h1
    cases h2
  · obtain ⟨y, h2, h3, h4⟩ := zv_ret h1
    simp only [Sum.inr.injEq, Prod.mk.injEq] at h4
    obtain ⟨rfl, rfl, rfl⟩ := h4
    exact ⟨rfl, rfl, Or.inl ⟨h0, h2, h3⟩⟩
  · simp only [Sum.inr.injEq, Prod.mk.injEq] at h1
    exact ⟨h1.2.1, h1.2.2, Or.inr ⟨h0, h2, h1.1⟩⟩
  · cases (zv_call h1).2
  · cases (zv_call (zv_callI h1).2).2
  · cases (zv_call (zv_callV h1).2).2
  · cases (zv_call (zv_callS h1).2).2
theorem am_grow : ∀ (n k pc : Nat) (l st : List zV) (T : zT) (V : zM) (r : zV) (T' : zT) (V' : zM), am n k pc l st T V = some (r, T', V') → T.1 ≤ T'.1 ∧ T.2.1 ≤ T'.2.1 := by
  intro n
  induction n with
  | zero => intro k pc l st T V r T' V' h; simp [am] at h
  | succ n ih =>
    intro k pc l st T V r T' V' h
    unfold am at h
    cases hc : zcode k pc with
    | none => rw [hc] at h; simp at h
    | some I =>
      rw [hc] at h
      simp only at h
      cases hs : z_step I l st T V with
      | none => rw [hs] at h; simp at h
      | some q =>
        rw [hs] at h
        rcases q with ⟨pc', l', st', T1, V1⟩ | ⟨k', args, nx, l', st', T1, V1⟩ | ⟨y, T1, V1⟩
        · simp only at h
          have h2 := ih _ _ _ _ _ _ _ _ _ h
          rcases z_step_kind hs with h1 | ⟨-, h1⟩ | ⟨-, -, h1⟩ | ⟨h0, h1⟩ | ⟨h0, h1⟩ | ⟨h0, h1⟩ | ⟨h0, h1⟩
          · obtain ⟨_, _, _, T3, _, h3, -, h4, h5⟩ := h1
            simp only [Sum.inl.injEq, Prod.mk.injEq] at h3
            obtain ⟨-, -, -, rfl, -⟩ := h3
            omega
          · obtain ⟨_, -, -, h3⟩ := zv_ret h1
            cases h3
          · cases h1
          · cases (zv_call h1).2
          · cases (zv_call (zv_callI h1).2).2
          · cases (zv_call (zv_callV h1).2).2
          · cases (zv_call (zv_callS h1).2).2
        · simp only at h
          obtain ⟨⟨-, -, -, -, -, e5, e6⟩, -⟩ := z_step_calls hs
          subst e5
          by_cases hl : zlv k' < zlv k ∧ (z_sp args).length ≤ zmL k'
          · rw [if_pos hl] at h
            cases ha : am n k' 0 (z_ent (zmL k') args) [] T1 V1 with
            | none => rw [ha] at h; simp at h
            | some z =>
              obtain ⟨r2, T2, V2⟩ := z
              rw [ha] at h
              simp only at h
              have h1 := ih _ _ _ _ _ _ _ _ _ ha
              have h2 := ih _ _ _ _ _ _ _ _ _ h
              omega
          · rw [if_neg hl] at h; simp at h
        · simp only at h
          obtain ⟨e1, e2, -⟩ := z_step_ends hs
          cases h
          subst e1
          exact ⟨Nat.le_refl _, Nat.le_refl _⟩
end
section
/-! every step that goes on is what the machine does -/
theorem zlk_f {o ix a : Nat} {b : Int} (h : z_fl.any (fun q => q.1 == o && (q.2.1 == ix && (q.2.2.1 == a && ((q.2.2.2.1 : Nat) : Int) == b))) = true) : Jvm.Cond.fieldLink (zCn o) ix (zCn a) (zTX a b.toNat).2.1 (zTX a b.toNat).2.2.1 ∈ zWS := by
  obtain ⟨q, hq, h1⟩ := List.any_eq_true.mp h
  simp only [Bool.and_eq_true, beq_iff_eq] at h1
  obtain ⟨h2, h3, h4, h5⟩ := h1
  have h6 := zw_mem (List.all_eq_true.mp zfl_ok q hq)
  rw [h2, h3, h4, show q.2.2.2.1 = b.toNat by omega] at h6
  exact h6
theorem zlk_sf {o ix w : Nat} (h : z_sf.any (fun q => q.1 == o && (q.2.1 == ix && q.2.2.1 == w)) = true) : (if w = 0 then Jvm.Cond.fieldLink (zCn o) ix "java/lang/String" "value" "[B" else if w = 1 then .fieldLink (zCn o) ix "java/lang/String" "coder" "B" else if w = 2 then .fieldLink (zCn o) ix "java/lang/String" "COMPACT_STRINGS" "Z" else .fieldLink (zCn o) ix "jdk/internal/util/Preconditions" "SIOOBE_FORMATTER" "Ljava/util/function/BiFunction;") ∈ zWS := by
  obtain ⟨q, hq, h1⟩ := List.any_eq_true.mp h
  simp only [Bool.and_eq_true, beq_iff_eq] at h1
  obtain ⟨h2, h3, h4⟩ := h1
  have h6 := zw_mem (List.all_eq_true.mp zsf_ok q hq)
  rw [h2, h3, h4] at h6
  exact h6
theorem zlk_ci {o ix : Nat} {b : Int} (h : z_ci.any (fun q => q.1 == o && (q.2.1 == ix && q.2.2.1 == b)) = true) : Jvm.Cond.constant (zCn o) ix (Int32.ofInt b) ∈ zWS := by
  obtain ⟨q, hq, h1⟩ := List.any_eq_true.mp h
  simp only [Bool.and_eq_true, beq_iff_eq] at h1
  obtain ⟨h2, h3, h4⟩ := h1
  have h5 := List.all_eq_true.mp zci_ok q hq
  rw [Bool.and_eq_true] at h5
  have h6 := zw_mem h5.1
  rw [h2, h3, h4] at h6
  exact h6
theorem zlk_cL {o ix : Nat} {b : Int} (h : z_cL.any (fun q => q.1 == o && (q.2.1 == ix && q.2.2.1 == b)) = true) : Jvm.Cond.constantLong (zCn o) ix (Int64.ofInt b) ∈ zWS := by
  obtain ⟨q, hq, h1⟩ := List.any_eq_true.mp h
  simp only [Bool.and_eq_true, beq_iff_eq] at h1
  obtain ⟨h2, h3, h4⟩ := h1
  have h5 := List.all_eq_true.mp zcL_ok q hq
  rw [Bool.and_eq_true] at h5
  have h6 := zw_mem h5.1
  rw [h2, h3, h4] at h6
  exact h6
theorem zlk_cl {o ix a : Nat} (h : z_cl.any (fun q => q.1 == o && (q.2.1 == ix && q.2.2.1 == a)) = true) : Jvm.Cond.classLink (zCn o) ix (zCn a) ∈ zWS := by
  obtain ⟨q, hq, h1⟩ := List.any_eq_true.mp h
  simp only [Bool.and_eq_true, beq_iff_eq] at h1
  obtain ⟨h2, h3, h4⟩ := h1
  have h6 := zw_mem (List.all_eq_true.mp zcl_ok q hq)
  rw [h2, h3, h4] at h6
  exact h6
theorem zlk_oi {o ix : Nat} (h : z_oi.any (fun q => q.1 == o && q.2.1 == ix) = true) : Jvm.Cond.methodLink (zCn o) ix Lib.objectInit ∈ zWS := by
  obtain ⟨q, hq, h1⟩ := List.any_eq_true.mp h
  simp only [Bool.and_eq_true, beq_iff_eq] at h1
  have h6 := zw_mem (List.all_eq_true.mp zoi_ok q hq)
  rw [h1.1, h1.2] at h6
  exact h6
theorem zlk_cp {o ix : Nat} (h : z_cp.any (fun q => q.1 == o && q.2.1 == ix) = true) : Jvm.Cond.methodLink (zCn o) ix arraycopyName ∈ zWS := by
  obtain ⟨q, hq, h1⟩ := List.any_eq_true.mp h
  simp only [Bool.and_eq_true, beq_iff_eq] at h1
  have h6 := zw_mem (List.all_eq_true.mp zcp_ok q hq)
  rw [h1.1, h1.2] at h6
  exact h6
theorem zlk_mm {o ix w : Nat} (h : z_mm.any (fun q => q.1 == o && (q.2.1 == ix && q.2.2.1 == w)) = true) : Jvm.Cond.methodLink (zCn o) ix (if w = 84 then Lib.Math.max.name else if w = 85 then Lib.Math.min.name else Lib.MathLoose.min_long.x) ∈ zWS := by
  obtain ⟨q, hq, h1⟩ := List.any_eq_true.mp h
  simp only [Bool.and_eq_true, beq_iff_eq] at h1
  obtain ⟨h2, h3, h4⟩ := h1
  have h5 := List.all_eq_true.mp zmm_ok q hq
  rw [Bool.and_eq_true] at h5
  have h6 := zw_mem h5.1
  rw [h2, h3, h4] at h6
  exact h6
theorem zobj_in : zw 107 (.instanceMethod Lib.objectInit) = true := by decide +kernel
section ZGO
variable {p : Program} {l : Launch} {e : Env} {R : Room} {s : State} {m : MethodId} {args : Array Value} {below : List Frame} {meth : Method} {c : Code} {H : Heap} {locs : List Loc} {cells slots : Nat} {Q : State → Prop} {E : zEn} {k pc pc' : Nat} {ls : Array Slot} {lo st lo' st' : List zV} {T T' : zT} {V V' : zM}
set_option maxHeartbeats 4000000 in
theorem z_go {I : zI} {i : Instr} {n : Nat} (C : zCX p s m args meth c E k) (hlen : lo.length = zmL k) (hd : decode (zby k) pc = .ok (i, n)) (hv : z_vi (zown k) k pc i n I = true) (hs : z_step I lo st T V = some (.inl (pc', lo', st', T', V'))) (hRm : 1 ≤ R.frames ∧ 36 ≤ R.locals) (hcs : cells ≤ R.cells ∧ slots ≤ R.slots) (hcc : cells + T'.1 ≤ R.cells + T.1) (hss : slots + T'.2.1 ≤ R.slots + T.2.1) (S : zSt E s T V H locs ls lo st) (kk : zK p l e R s m args below meth c Q E pc' lo' st' T T' V' cells slots) : W p l e R s m args below meth c H locs cells slots Q (F0 m pc ls (st.map (rv E))) := by
  obtain ⟨op, nx, a, b, ts⟩ := I
  cases i with
  | iconst v =>
    simp only [z_vi, Bool.and_eq_true, Bool.or_eq_true, Bool.not_eq_true', beq_iff_eq, decide_eq_true_eq] at hv
    obtain ⟨rfl, rfl, rfl, rfl⟩ := hv
    exact zi_iconst C hd hs S kk
  | bipush v =>
    simp only [z_vi, Bool.and_eq_true, Bool.or_eq_true, Bool.not_eq_true', beq_iff_eq, decide_eq_true_eq] at hv
    obtain ⟨rfl, rfl, h1, rfl, rfl⟩ := hv
    exact zi_bipush C h1 hd hs S kk
  | sipush v =>
    simp only [z_vi, Bool.and_eq_true, Bool.or_eq_true, Bool.not_eq_true', beq_iff_eq, decide_eq_true_eq] at hv
    obtain ⟨rfl, rfl, h1, rfl, rfl⟩ := hv
    exact zi_sipush C h1 hd hs S kk
  | lconst v =>
    simp only [z_vi, Bool.and_eq_true, Bool.or_eq_true, Bool.not_eq_true', beq_iff_eq, decide_eq_true_eq] at hv
    obtain ⟨rfl, h1, rfl, rfl⟩ := hv
    exact zi_lconst C h1 hd hs S kk
  | ldc ix =>
    have hv : (((op == 0 && z_ci.any (fun q => q.1 == zown k && (q.2.1 == ix && q.2.2.1 == b))) || (op == 3 && z_cs.any (fun q => q.1 == zown k && (q.2.1 == ix && q.2.2.1 == a)))) && (n == 2 && nx == pc + 2)) = true := hv
    rw [Bool.and_eq_true, Bool.or_eq_true] at hv
    obtain ⟨h1, h2⟩ := hv
    simp only [Bool.and_eq_true, beq_iff_eq] at h2
    obtain ⟨rfl, rfl⟩ := h2
    rcases h1 with h1 | h1
    · rw [Bool.and_eq_true, beq_iff_eq] at h1
      obtain ⟨rfl, h1⟩ := h1
      exact zi_ldc C (zlk_ci h1) hd hs S kk
    · rw [Bool.and_eq_true, beq_iff_eq] at h1
      obtain ⟨rfl, h1⟩ := h1
      obtain ⟨q, hq, h3⟩ := List.any_eq_true.mp h1
      simp only [Bool.and_eq_true, beq_iff_eq] at h3
      exact zi_ldcs C ⟨q, hq, h3.1, h3.2.1, h3.2.2⟩ hd hs S kk
  | ldc_w ix =>
    have hv : (op == 0 && (z_ci.any (fun q => q.1 == zown k && (q.2.1 == ix && q.2.2.1 == b)) && (n == 3 && nx == pc + 3))) = true := hv
    rw [Bool.and_eq_true, Bool.and_eq_true, Bool.and_eq_true, beq_iff_eq, beq_iff_eq, beq_iff_eq] at hv
    obtain ⟨rfl, h1, rfl, rfl⟩ := hv
    exact zi_ldcw C (zlk_ci h1) hd hs S kk
  | ldc2_w ix =>
    have hv : (op == 1 && (z_cL.any (fun q => q.1 == zown k && (q.2.1 == ix && q.2.2.1 == b)) && (n == 3 && nx == pc + 3))) = true := hv
    rw [Bool.and_eq_true, Bool.and_eq_true, Bool.and_eq_true, beq_iff_eq, beq_iff_eq, beq_iff_eq] at hv
    obtain ⟨rfl, h1, rfl, rfl⟩ := hv
    exact zi_ldc2 C (zlk_cL h1) hd hs S kk
  | aconst_null =>
    simp only [z_vi, Bool.and_eq_true, Bool.or_eq_true, Bool.not_eq_true', beq_iff_eq, decide_eq_true_eq] at hv
    obtain ⟨rfl, rfl, rfl⟩ := hv
    exact zi_null C hd hs S kk
  | iload_n v =>
    simp only [z_vi, Bool.and_eq_true, Bool.or_eq_true, Bool.not_eq_true', beq_iff_eq, decide_eq_true_eq] at hv
    obtain ⟨rfl, rfl, rfl, rfl⟩ := hv
    exact zi_iload_n C rfl hd hs S kk
  | iload v =>
    simp only [z_vi, Bool.and_eq_true, Bool.or_eq_true, Bool.not_eq_true', beq_iff_eq, decide_eq_true_eq] at hv
    obtain ⟨rfl, rfl, rfl, rfl⟩ := hv
    exact zi_iload C hd hs S kk
  | lload_n v =>
    simp only [z_vi, Bool.and_eq_true, Bool.or_eq_true, Bool.not_eq_true', beq_iff_eq, decide_eq_true_eq] at hv
    obtain ⟨rfl, rfl, rfl, rfl⟩ := hv
    exact zi_lload_n C rfl hd hs S kk
  | lload v =>
    simp only [z_vi, Bool.and_eq_true, Bool.or_eq_true, Bool.not_eq_true', beq_iff_eq, decide_eq_true_eq] at hv
    obtain ⟨rfl, rfl, rfl, rfl⟩ := hv
    exact zi_lload C hd hs S kk
  | aload_n v =>
    simp only [z_vi, Bool.and_eq_true, Bool.or_eq_true, Bool.not_eq_true', beq_iff_eq, decide_eq_true_eq] at hv
    obtain ⟨rfl, rfl, rfl, rfl⟩ := hv
    exact zi_aload_n C rfl hd hs S kk
  | aload v =>
    simp only [z_vi, Bool.and_eq_true, Bool.or_eq_true, Bool.not_eq_true', beq_iff_eq, decide_eq_true_eq] at hv
    obtain ⟨rfl, rfl, rfl, rfl⟩ := hv
    exact zi_aload C hd hs S kk
  | istore_n v =>
    simp only [z_vi, Bool.and_eq_true, Bool.or_eq_true, Bool.not_eq_true', beq_iff_eq, decide_eq_true_eq] at hv
    obtain ⟨rfl, rfl, rfl, rfl⟩ := hv
    exact zi_istore_n C rfl hd hs S kk
  | istore v =>
    simp only [z_vi, Bool.and_eq_true, Bool.or_eq_true, Bool.not_eq_true', beq_iff_eq, decide_eq_true_eq] at hv
    obtain ⟨rfl, rfl, rfl, rfl⟩ := hv
    exact zi_istore C hd hs S kk
  | lstore_n v =>
    simp only [z_vi, Bool.and_eq_true, Bool.or_eq_true, Bool.not_eq_true', beq_iff_eq, decide_eq_true_eq] at hv
    obtain ⟨rfl, rfl, rfl, rfl⟩ := hv
    exact zi_lstore_n C rfl hd hs S kk
  | lstore v =>
    simp only [z_vi, Bool.and_eq_true, Bool.or_eq_true, Bool.not_eq_true', beq_iff_eq, decide_eq_true_eq] at hv
    obtain ⟨rfl, rfl, rfl, rfl⟩ := hv
    exact zi_lstore C hd hs S kk
  | astore_n v =>
    simp only [z_vi, Bool.and_eq_true, Bool.or_eq_true, Bool.not_eq_true', beq_iff_eq, decide_eq_true_eq] at hv
    obtain ⟨rfl, rfl, rfl, rfl⟩ := hv
    exact zi_astore_n C rfl hd hs S kk
  | astore v =>
    simp only [z_vi, Bool.and_eq_true, Bool.or_eq_true, Bool.not_eq_true', beq_iff_eq, decide_eq_true_eq] at hv
    obtain ⟨rfl, rfl, rfl, rfl⟩ := hv
    exact zi_astore C hd hs S kk
  | iinc v c =>
    simp only [z_vi, Bool.and_eq_true, Bool.or_eq_true, Bool.not_eq_true', beq_iff_eq, decide_eq_true_eq] at hv
    obtain ⟨rfl, rfl, rfl, h1, rfl, rfl⟩ := hv
    exact zi_iinc C hd hs S kk
  | iadd =>
    simp only [z_vi, Bool.and_eq_true, Bool.or_eq_true, Bool.not_eq_true', beq_iff_eq, decide_eq_true_eq] at hv
    obtain ⟨rfl, rfl, rfl⟩ := hv
    exact zi_iadd C hd hs S kk
  | isub =>
    simp only [z_vi, Bool.and_eq_true, Bool.or_eq_true, Bool.not_eq_true', beq_iff_eq, decide_eq_true_eq] at hv
    obtain ⟨rfl, rfl, rfl⟩ := hv
    exact zi_isub C hd hs S kk
  | imul =>
    simp only [z_vi, Bool.and_eq_true, Bool.or_eq_true, Bool.not_eq_true', beq_iff_eq, decide_eq_true_eq] at hv
    obtain ⟨rfl, rfl, rfl⟩ := hv
    exact zi_imul C hd hs S kk
  | iand =>
    simp only [z_vi, Bool.and_eq_true, Bool.or_eq_true, Bool.not_eq_true', beq_iff_eq, decide_eq_true_eq] at hv
    obtain ⟨rfl, rfl, rfl⟩ := hv
    exact zi_iand C hd hs S kk
  | ior =>
    simp only [z_vi, Bool.and_eq_true, Bool.or_eq_true, Bool.not_eq_true', beq_iff_eq, decide_eq_true_eq] at hv
    obtain ⟨rfl, rfl, rfl⟩ := hv
    exact zi_ior C hd hs S kk
  | ixor =>
    simp only [z_vi, Bool.and_eq_true, Bool.or_eq_true, Bool.not_eq_true', beq_iff_eq, decide_eq_true_eq] at hv
    obtain ⟨rfl, rfl, rfl⟩ := hv
    exact zi_ixor C hd hs S kk
  | idiv =>
    simp only [z_vi, Bool.and_eq_true, Bool.or_eq_true, Bool.not_eq_true', beq_iff_eq, decide_eq_true_eq] at hv
    obtain ⟨rfl, rfl, rfl⟩ := hv
    exact zi_idiv C hd hs S kk
  | irem =>
    simp only [z_vi, Bool.and_eq_true, Bool.or_eq_true, Bool.not_eq_true', beq_iff_eq, decide_eq_true_eq] at hv
    obtain ⟨rfl, rfl, rfl⟩ := hv
    exact zi_irem C hd hs S kk
  | ineg =>
    simp only [z_vi, Bool.and_eq_true, Bool.or_eq_true, Bool.not_eq_true', beq_iff_eq, decide_eq_true_eq] at hv
    obtain ⟨rfl, rfl, rfl⟩ := hv
    exact zi_ineg C hd hs S kk
  | ishl =>
    simp only [z_vi, Bool.and_eq_true, Bool.or_eq_true, Bool.not_eq_true', beq_iff_eq, decide_eq_true_eq] at hv
    obtain ⟨rfl, rfl, rfl⟩ := hv
    exact zi_ishl C hd hs S kk
  | ishr =>
    simp only [z_vi, Bool.and_eq_true, Bool.or_eq_true, Bool.not_eq_true', beq_iff_eq, decide_eq_true_eq] at hv
    obtain ⟨rfl, rfl, rfl⟩ := hv
    exact zi_ishr C hd hs S kk
  | iushr =>
    simp only [z_vi, Bool.and_eq_true, Bool.or_eq_true, Bool.not_eq_true', beq_iff_eq, decide_eq_true_eq] at hv
    obtain ⟨rfl, rfl, rfl⟩ := hv
    exact zi_iushr C hd hs S kk
  | ladd =>
    simp only [z_vi, Bool.and_eq_true, Bool.or_eq_true, Bool.not_eq_true', beq_iff_eq, decide_eq_true_eq] at hv
    obtain ⟨rfl, rfl, rfl⟩ := hv
    exact zi_ladd C hd hs S kk
  | lsub =>
    simp only [z_vi, Bool.and_eq_true, Bool.or_eq_true, Bool.not_eq_true', beq_iff_eq, decide_eq_true_eq] at hv
    obtain ⟨rfl, rfl, rfl⟩ := hv
    exact zi_lsub C hd hs S kk
  | lmul =>
    simp only [z_vi, Bool.and_eq_true, Bool.or_eq_true, Bool.not_eq_true', beq_iff_eq, decide_eq_true_eq] at hv
    obtain ⟨rfl, rfl, rfl⟩ := hv
    exact zi_lmul C hd hs S kk
  | land =>
    simp only [z_vi, Bool.and_eq_true, Bool.or_eq_true, Bool.not_eq_true', beq_iff_eq, decide_eq_true_eq] at hv
    obtain ⟨rfl, rfl, rfl⟩ := hv
    exact zi_land C hd hs S kk
  | lor =>
    simp only [z_vi, Bool.and_eq_true, Bool.or_eq_true, Bool.not_eq_true', beq_iff_eq, decide_eq_true_eq] at hv
    obtain ⟨rfl, rfl, rfl⟩ := hv
    exact zi_lor C hd hs S kk
  | lrem =>
    simp only [z_vi, Bool.and_eq_true, Bool.or_eq_true, Bool.not_eq_true', beq_iff_eq, decide_eq_true_eq] at hv
    obtain ⟨rfl, rfl, rfl⟩ := hv
    exact zi_lrem C hd hs S kk
  | lshl =>
    simp only [z_vi, Bool.and_eq_true, Bool.or_eq_true, Bool.not_eq_true', beq_iff_eq, decide_eq_true_eq] at hv
    obtain ⟨rfl, rfl, rfl⟩ := hv
    exact zi_lshl C hd hs S kk
  | lshr =>
    simp only [z_vi, Bool.and_eq_true, Bool.or_eq_true, Bool.not_eq_true', beq_iff_eq, decide_eq_true_eq] at hv
    obtain ⟨rfl, rfl, rfl⟩ := hv
    exact zi_lshr C hd hs S kk
  | lcmp =>
    simp only [z_vi, Bool.and_eq_true, Bool.or_eq_true, Bool.not_eq_true', beq_iff_eq, decide_eq_true_eq] at hv
    obtain ⟨rfl, rfl, rfl⟩ := hv
    exact zi_lcmp C hd hs S kk
  | i2l =>
    simp only [z_vi, Bool.and_eq_true, Bool.or_eq_true, Bool.not_eq_true', beq_iff_eq, decide_eq_true_eq] at hv
    obtain ⟨rfl, rfl, rfl⟩ := hv
    exact zi_i2l C hd hs S kk
  | l2i =>
    simp only [z_vi, Bool.and_eq_true, Bool.or_eq_true, Bool.not_eq_true', beq_iff_eq, decide_eq_true_eq] at hv
    obtain ⟨rfl, rfl, rfl⟩ := hv
    exact zi_l2i C hd hs S kk
  | i2b =>
    simp only [z_vi, Bool.and_eq_true, Bool.or_eq_true, Bool.not_eq_true', beq_iff_eq, decide_eq_true_eq] at hv
    obtain ⟨rfl, rfl, rfl⟩ := hv
    exact zi_i2b C hd hs S kk
  | i2c =>
    simp only [z_vi, Bool.and_eq_true, Bool.or_eq_true, Bool.not_eq_true', beq_iff_eq, decide_eq_true_eq] at hv
    obtain ⟨rfl, rfl, rfl⟩ := hv
    exact zi_i2c C hd hs S kk
  | dup =>
    simp only [z_vi, Bool.and_eq_true, Bool.or_eq_true, Bool.not_eq_true', beq_iff_eq, decide_eq_true_eq] at hv
    obtain ⟨rfl, rfl, rfl⟩ := hv
    exact zi_dup C hd hs S kk
  | pop =>
    simp only [z_vi, Bool.and_eq_true, Bool.or_eq_true, Bool.not_eq_true', beq_iff_eq, decide_eq_true_eq] at hv
    obtain ⟨rfl, rfl, rfl⟩ := hv
    exact zi_pop C hd hs S kk
  | dup2 =>
    simp only [z_vi, Bool.and_eq_true, Bool.or_eq_true, Bool.not_eq_true', beq_iff_eq, decide_eq_true_eq] at hv
    obtain ⟨rfl, rfl, rfl⟩ := hv
    exact zi_dup2 C hd hs S kk
  | ifCond cd off =>
    simp only [z_vi, Bool.and_eq_true, beq_iff_eq] at hv
    obtain ⟨rfl, h1, rfl, rfl⟩ := hv
    cases cd with
    | eq => exact zi_ifeq C h1 hd hs S kk
    | ne => exact zi_ifne C h1 hd hs S kk
    | lt => exact zi_iflt C h1 hd hs S kk
    | ge => exact zi_ifge C h1 hd hs S kk
    | gt => exact zi_ifgt C h1 hd hs S kk
    | le => exact zi_ifle C h1 hd hs S kk
  | if_icmp cd off =>
    simp only [z_vi, Bool.and_eq_true, beq_iff_eq] at hv
    obtain ⟨rfl, h1, rfl, rfl⟩ := hv
    cases cd with
    | eq => exact zi_icmpeq C h1 hd hs S kk
    | ne => exact zi_icmpne C h1 hd hs S kk
    | lt => exact zi_icmplt C h1 hd hs S kk
    | ge => exact zi_icmpge C h1 hd hs S kk
    | gt => exact zi_icmpgt C h1 hd hs S kk
    | le => exact zi_icmple C h1 hd hs S kk
  | ifnonnull off =>
    simp only [z_vi, Bool.and_eq_true, Bool.or_eq_true, Bool.not_eq_true', beq_iff_eq, decide_eq_true_eq] at hv
    obtain ⟨rfl, h1, rfl, rfl⟩ := hv
    exact zi_ifnonnull C h1 hd hs S kk
  | goto off =>
    simp only [z_vi, Bool.and_eq_true, Bool.or_eq_true, Bool.not_eq_true', beq_iff_eq, decide_eq_true_eq] at hv
    obtain ⟨rfl, h1, rfl⟩ := hv
    exact zi_goto C h1 hd hs S kk
  | tableswitch d l0 hi offs =>
    simp only [z_vi, Bool.and_eq_true, beq_iff_eq, decide_eq_true_eq] at hv
    obtain ⟨rfl, rfl, h1, h2, h3⟩ := hv
    exact zi_tsw C h1 h2 hd hs S kk
  | getfield ix =>
    have hv : ((n == 3 && nx == pc + 3) && (((op == 55 && (decide (zTy a b.toNat = .int ∨ zTy a b.toNat = .boolean)) || op == 56 && z_isR (zTy a b.toNat)) && (decide (0 ≤ b ∧ b < (zfN a : Int) ∧ a < 13) && z_fl.any (fun q => q.1 == zown k && (q.2.1 == ix && (q.2.2.1 == a && ((q.2.2.2.1 : Nat) : Int) == b))))) || ((op == 82 && z_sf.any (fun q => q.1 == zown k && (q.2.1 == ix && q.2.2.1 == 0))) || (op == 83 && z_sf.any (fun q => q.1 == zown k && (q.2.1 == ix && q.2.2.1 == 1)))))) = true := hv
    rw [Bool.and_eq_true, Bool.and_eq_true, beq_iff_eq, beq_iff_eq, Bool.or_eq_true, Bool.or_eq_true] at hv
    obtain ⟨⟨rfl, rfl⟩, h1 | h1 | h1⟩ := hv
    · rw [Bool.and_eq_true, Bool.and_eq_true, Bool.or_eq_true, decide_eq_true_eq] at h1
      obtain ⟨h1 | h1, h2, h3⟩ := h1
      · rw [Bool.and_eq_true, beq_iff_eq, decide_eq_true_eq] at h1
        obtain ⟨rfl, h1⟩ := h1
        exact zi_geti C (zlk_f h3) h2 h1 hd hs S kk
      · rw [Bool.and_eq_true, beq_iff_eq] at h1
        obtain ⟨rfl, h1⟩ := h1
        exact zi_getr C (zlk_f h3) h2 h1 hd hs S kk
    · rw [Bool.and_eq_true, beq_iff_eq] at h1
      obtain ⟨rfl, h1⟩ := h1
      exact zi_strv C (zlk_sf h1) hd hs S kk
    · rw [Bool.and_eq_true, beq_iff_eq] at h1
      obtain ⟨rfl, h1⟩ := h1
      exact zi_strc C (zlk_sf h1) hd hs S kk
  | putfield ix =>
    have hv : ((n == 3 && nx == pc + 3) && ((op == 57 && decide (zTy a b.toNat = .int) || (op == 58 && decide (zTy a b.toNat = .boolean) || op == 59 && z_isR (zTy a b.toNat))) && (decide (0 ≤ b ∧ b < (zfN a : Int) ∧ a < 13) && (z_fl.any (fun q => q.1 == zown k && (q.2.1 == ix && (q.2.2.1 == a && ((q.2.2.2.1 : Nat) : Int) == b))) && (!(zTX a b.toNat).2.2.2 || (decide ((zy k).name = "<init>") && decide ((zTX a b.toNat).1 = zCn (zown k)))))))) = true := hv
    rw [Bool.and_eq_true, Bool.and_eq_true, beq_iff_eq, beq_iff_eq, Bool.and_eq_true, Bool.and_eq_true, Bool.and_eq_true, Bool.or_eq_true, Bool.or_eq_true, Bool.or_eq_true, decide_eq_true_eq] at hv
    obtain ⟨⟨rfl, rfl⟩, h1, h2, h3, h4⟩ := hv
    have h4 : (zTX a b.toNat).2.2.2 = false ∨ ((zy k).name = "<init>" ∧ (zTX a b.toNat).1 = zCn (zown k)) := by
      rcases h4 with h4 | h4
      · exact Or.inl (by simpa using h4)
      · exact Or.inr (by simpa using h4)
    rcases h1 with h1 | h1 | h1
    · rw [Bool.and_eq_true, beq_iff_eq, decide_eq_true_eq] at h1
      obtain ⟨rfl, h1⟩ := h1
      exact zi_puti C (zlk_f h3) h2 h4 h1 hd hs S kk
    · rw [Bool.and_eq_true, beq_iff_eq, decide_eq_true_eq] at h1
      obtain ⟨rfl, h1⟩ := h1
      exact zi_putz C (zlk_f h3) h2 h4 h1 hd hs S kk
    · rw [Bool.and_eq_true, beq_iff_eq] at h1
      obtain ⟨rfl, h1⟩ := h1
      exact zi_putr C (zlk_f h3) h2 h4 h1 hd hs S kk
  | getstatic ix =>
    have hv : ((n == 3 && nx == pc + 3) && ((op == 80 && (z_sf.any (fun q => q.1 == zown k && (q.2.1 == ix && q.2.2.1 == 2)))) || (op == 81 && z_sf.any (fun q => q.1 == zown k && (q.2.1 == ix && q.2.2.1 == 3))))) = true := hv
    rw [Bool.and_eq_true, Bool.and_eq_true, beq_iff_eq, beq_iff_eq, Bool.or_eq_true] at hv
    obtain ⟨⟨rfl, rfl⟩, h1 | h1⟩ := hv
    · rw [Bool.and_eq_true, beq_iff_eq] at h1
      obtain ⟨rfl, h1⟩ := h1
      exact zi_stc C (zlk_sf h1) hd hs S kk
    · rw [Bool.and_eq_true, beq_iff_eq] at h1
      obtain ⟨rfl, h1⟩ := h1
      exact zi_stf C (zlk_sf h1) hd hs S kk
  | iaload =>
    simp only [z_vi, Bool.and_eq_true, beq_iff_eq] at hv
    obtain ⟨rfl, rfl, rfl⟩ := hv
    simp only [z_step] at hs
    rcases zv_ild hs with ⟨i, j, s0, rfl, hi, rfl, rfl, rfl, rfl, rfl⟩ | h1
    · exact zi_sld C hd hi S kk
    · exact zi_iald C hd h1 S kk
  | laload =>
    simp only [z_vi, Bool.and_eq_true, beq_iff_eq] at hv
    obtain ⟨rfl, rfl, rfl⟩ := hv
    exact zi_lald C hd hs S kk
  | baload =>
    simp only [z_vi, Bool.and_eq_true, beq_iff_eq] at hv
    obtain ⟨rfl, rfl, rfl⟩ := hv
    simp only [z_step] at hs
    rcases zv_bld hs with ⟨i, j, s0, rfl, hj, hi, rfl, rfl, rfl, rfl, rfl⟩ | h1 | h1
    · exact zi_cld C hd hj hi S kk
    · exact zi_zald C hd h1 S kk
    · exact zi_bald C hd h1 S kk
  | aaload =>
    simp only [z_vi, Bool.and_eq_true, beq_iff_eq] at hv
    obtain ⟨rfl, rfl, rfl⟩ := hv
    exact zi_aald C hd hs S kk
  | iastore =>
    simp only [z_vi, Bool.and_eq_true, beq_iff_eq] at hv
    obtain ⟨rfl, rfl, rfl⟩ := hv
    exact zi_iast C hd hs S kk
  | lastore =>
    simp only [z_vi, Bool.and_eq_true, beq_iff_eq] at hv
    obtain ⟨rfl, rfl, rfl⟩ := hv
    exact zi_last C hd hs S kk
  | bastore =>
    simp only [z_vi, Bool.and_eq_true, beq_iff_eq] at hv
    obtain ⟨rfl, rfl, rfl⟩ := hv
    simp only [z_step] at hs
    rcases zv_bst hs with h1 | h1
    · exact zi_zast C hd h1 S kk
    · exact zi_bast C hd h1 S kk
  | aastore =>
    simp only [z_vi, Bool.and_eq_true, beq_iff_eq] at hv
    obtain ⟨rfl, rfl, rfl⟩ := hv
    exact zi_aast C hd hs S kk
  | arraylength =>
    simp only [z_vi, Bool.and_eq_true, beq_iff_eq] at hv
    obtain ⟨rfl, rfl, rfl⟩ := hv
    exact zi_alen C hd hs S kk
  | new ix =>
    have hv : (op == 69 && ((n == 3 && nx == pc + 3) && z_cl.any (fun q => q.1 == zown k && (q.2.1 == ix && q.2.2.1 == a)))) = true := hv
    rw [Bool.and_eq_true, Bool.and_eq_true, Bool.and_eq_true, beq_iff_eq, beq_iff_eq, beq_iff_eq] at hv
    obtain ⟨rfl, ⟨rfl, rfl⟩, h1⟩ := hv
    exact zi_new C (zlk_cl h1) hd hs hcc hss S kk
  | newarray t =>
    simp only [z_vi, Bool.and_eq_true, beq_iff_eq, decide_eq_true_eq] at hv
    obtain ⟨rfl, ⟨rfl, rfl⟩, h1, h2⟩ := hv
    exact zi_narr C h1 h2 hd hs hcc hss S kk
  | anewarray ix =>
    have hv : (op == 71 && ((n == 3 && nx == pc + 3) && z_cl.any (fun q => q.1 == zown k && (q.2.1 == ix && q.2.2.1 == 6)))) = true := hv
    rw [Bool.and_eq_true, Bool.and_eq_true, Bool.and_eq_true, beq_iff_eq, beq_iff_eq, beq_iff_eq] at hv
    obtain ⟨rfl, ⟨rfl, rfl⟩, h1⟩ := hv
    exact zi_anew C (zlk_cl h1) hd hs hcc hss S kk
  | ireturn =>
    simp only [z_vi, Bool.and_eq_true, beq_iff_eq] at hv
    obtain ⟨rfl, -⟩ := hv
    obtain ⟨_, _, _, h2⟩ := zv_ret (show zo_ret a st T V = _ from hs)
    cases h2
  | lreturn =>
    simp only [z_vi, Bool.and_eq_true, beq_iff_eq] at hv
    obtain ⟨rfl, -⟩ := hv
    obtain ⟨_, _, _, h2⟩ := zv_ret (show zo_ret a st T V = _ from hs)
    cases h2
  | areturn =>
    simp only [z_vi, Bool.and_eq_true, beq_iff_eq] at hv
    obtain ⟨rfl, -⟩ := hv
    obtain ⟨_, _, _, h2⟩ := zv_ret (show zo_ret a st T V = _ from hs)
    cases h2
  | return_ =>
    simp only [z_vi, Bool.and_eq_true, beq_iff_eq] at hv
    obtain ⟨rfl, -⟩ := hv
    simp only [z_step] at hs
    split at hs <;> cases hs
  | invokestatic ix =>
    have hv : ((n == 3 && nx == pc + 3) && ((op == 74 && (z_cal.any (fun q => q.1 == a && (q.2.1 == 0 && ((q.2.2.1 : Nat) : Int) == b)) && (z_ml.any (fun q => q.1 == zown k && (q.2.1 == ix && q.2.2.1 == a)) || z_mn.any (fun q => q.1 == zown k && (q.2.1 == ix && q.2.2.1 == a))))) || ((op == 79 && z_cp.any (fun q => q.1 == zown k && q.2.1 == ix)) || (decide (84 ≤ op ∧ op ≤ 86) && z_mm.any (fun q => q.1 == zown k && (q.2.1 == ix && q.2.2.1 == op)))))) = true := hv
    rw [Bool.and_eq_true, Bool.and_eq_true, beq_iff_eq, beq_iff_eq, Bool.or_eq_true, Bool.or_eq_true] at hv
    obtain ⟨⟨rfl, rfl⟩, h1 | h1 | h1⟩ := hv
    · rw [Bool.and_eq_true, beq_iff_eq] at h1
      obtain ⟨rfl, -⟩ := h1
      cases (zv_call (show zo_call (pc + 3) a b lo st T V = _ from hs)).2
    · rw [Bool.and_eq_true, beq_iff_eq] at h1
      obtain ⟨rfl, h1⟩ := h1
      exact zi_cpy C hlen (zlk_cp h1) hd hs hRm S kk
    · rw [Bool.and_eq_true, decide_eq_true_eq] at h1
      obtain ⟨h2, h1⟩ := h1
      have h3 : op = 84 ∨ op = 85 ∨ op = 86 := by omega
      rcases h3 with rfl | rfl | rfl
      · exact zi_mmax C hlen (zlk_mm h1) hd hs hRm hcs S kk
      · exact zi_mmin C hlen (zlk_mm h1) hd hs hRm hcs S kk
      · exact zi_mminl C hlen (zlk_mm h1) hd hs hRm hcs S kk
  | invokespecial ix =>
    have hv : ((n == 3 && nx == pc + 3) && ((op == 75 && (z_cal.any (fun q => q.1 == a && (q.2.1 == 1 && ((q.2.2.1 : Nat) : Int) + 1 == b)) && (z_ml.any (fun q => q.1 == zown k && (q.2.1 == ix && q.2.2.1 == a)) || z_mn.any (fun q => q.1 == zown k && (q.2.1 == ix && q.2.2.1 == a))))) || (op == 78 && z_oi.any (fun q => q.1 == zown k && q.2.1 == ix)))) = true := hv
    rw [Bool.and_eq_true, Bool.and_eq_true, beq_iff_eq, beq_iff_eq, Bool.or_eq_true] at hv
    obtain ⟨⟨rfl, rfl⟩, h1 | h1⟩ := hv
    · rw [Bool.and_eq_true, beq_iff_eq] at h1
      obtain ⟨rfl, -⟩ := h1
      cases (zv_call (zv_callI (show zo_callI (pc + 3) a b lo st T V = _ from hs)).2).2
    · rw [Bool.and_eq_true, beq_iff_eq] at h1
      obtain ⟨rfl, h1⟩ := h1
      exact zi_obj C hlen (zlk_oi h1) (zw_mem zobj_in) hd hs hRm S kk
  | invokevirtual ix =>
    have hv : ((n == 3 && nx == pc + 3) && (z_cal.any (fun q => q.1 == a && (q.2.1 == 2 && ((q.2.2.1 : Nat) : Int) + 1 == b)) && (z_ml.any (fun q => q.1 == zown k && (q.2.1 == ix && q.2.2.1 == a)) && ((op == 76 && (decide (ts = [zown a]) && decide (zown a < 13))) || (op == 77 && zown a == 16))))) = true := hv
    rw [Bool.and_eq_true, Bool.and_eq_true, Bool.and_eq_true, Bool.and_eq_true, Bool.or_eq_true, beq_iff_eq, beq_iff_eq] at hv
    obtain ⟨⟨rfl, rfl⟩, -, -, h1 | h1⟩ := hv
    · rw [Bool.and_eq_true, beq_iff_eq] at h1
      obtain ⟨rfl, -⟩ := h1
      cases (zv_call (zv_callV (show zo_callV (pc + 3) a b ts lo st T V = _ from hs)).2).2
    · rw [Bool.and_eq_true, beq_iff_eq] at h1
      obtain ⟨rfl, -⟩ := h1
      cases (zv_call (zv_callS (show zo_callS (pc + 3) a b lo st T V = _ from hs)).2).2
  | _ => exact absurd (show false = true from hv) (by decide)
end ZGO
end
section
/-! calls, ends, and the whole: what AM computes the machine does -/
theorem zall_ok : ∀ k, k < 245 → zmL k = (z_all.getD k zM0).2.2.1 ∧ 1 ≤ zlv k := by decide +kernel
theorem zcal_lt : z_cal.all (fun q => decide (1 ≤ q.1 ∧ q.1 < 245)) = true := by decide +kernel
theorem zml_le : z_cal.all (fun q => decide (zmL q.1 + 19 ≤ 36)) = true := by decide +kernel
def zrO (E : zEn) (r : zV) : Option Value := if r.1 = 9 then none else some (rv E r)
def zwk (k : Nat) : List Jvm.Cond := Jvm.Cond.code (zy k) (zby k) (zmL k) (zret k) :: zWS
theorem zcode_in {k : Nat} (h1 : 1 ≤ k) (h2 : k < 245) : Jvm.Cond.code (zy k) (zby k) (zmL k) (zret k) ∈ zWS := by
  have hl : z_ms.length = 244 := by decide +kernel
  have h3 : z_all.getD k zM0 = z_ms.getD (k - 1) zM0 := by
    obtain ⟨j, rfl⟩ : ∃ j, k = j + 1 := ⟨k - 1, by omega⟩
    rfl
  have h4 : z_ms[k - 1]? = some (z_all.getD k zM0) := by
    rw [h3, List.getD_eq_getElem?_getD, List.getElem?_eq_getElem (by omega)]
    rfl
  have h5 : Jvm.Cond.code (zy k) (zby k) (zmL k) (zret k) ∈ z_ms.map (fun q => Jvm.Cond.code q.1 q.2.1 q.2.2.1 q.2.2.2) := by
    refine List.mem_map.mpr ⟨z_all.getD k zM0, List.mem_of_getElem? h4, ?_⟩
    rw [(zall_ok k h2).1]
    rfl
  rw [← z_codes] at h5
  exact List.mem_filter.mpr ⟨(List.mem_filter.mp h5).1, rfl⟩
theorem zgoodk {k : Nat} (h1 : 1 ≤ k) (h2 : k < 245) : GoodIn zWS (zwk k) := fun w hw => by
  rcases List.mem_cons.mp hw with rfl | h
  · exact ⟨zcode_in h1 h2, good_of_word rfl⟩
  · exact zWS_good w h
def zRm (k : Nat) (T T' : zT) : Room := { frames := zlv k, cells := T'.1 - T.1, slots := T'.2.1 - T.2.1, locals := 36 * zlv k }
def zPc (E : zEn) (as : List zV) (T : zT) (V : zM) : Array Value → State → Prop := fun a U => a = (as.map (rv E)).toArray ∧ zRel E T V U.heap ∧ zKK E U
def zQc (E : zEn) (r : zV) (T' : zT) (V' : zM) : Array Value → State → Outcome → State → Prop := fun _ st o t => o = .returned (zrO E r) ∧ zRel E T' V' t.heap ∧ va_F (zA E) st t ∧ zVok r
def zMet (l : Launch) (E : zEn) (k : Nat) (as : List zV) (T : zT) (V : zM) (r : zV) (T' : zT) (V' : zM) : Prop := Met l (zy k) (zwk k) (zRm k T T') (zPc E as T V) (zQc E r T' V') (T'.1 - T.1) (T'.2.1 - T.2.1) (zA E)
theorem zPc_blind (E : zEn) (as : List zV) (T : zT) (V : zM) : FrameBlind (zPc E as T V) := fun _ _ _ _ h => ⟨h.1, h.2.1, h.2.2.same rfl rfl⟩
section ZCA
variable {p : Program} {l : Launch} {e : Env} {R : Room} {s : State} {m : MethodId} {args : Array Value} {below : List Frame} {meth : Method} {c : Code} {H : Heap} {locs : List Loc} {cells slots mc ms : Nat} {Q : State → Prop} {E : zEn} {k pc : Nat} {ls : Array Slot} {rest st0 : List Value} {A : Array Value} {r : zV} {T' : zT} {V' : zM}
theorem z_after (hr : va_Run p l e R s m args below meth c H locs cells slots mc ms (F0 m pc ls st0) rest (zQc E r T' V' A) (zA E)) (hV : va_S (zA E) s.heap H locs)
    (kk : ∀ (H1 : Heap) (locs1 : List Loc), zRel E T' V' H1 → va_S (zA E) s.heap H1 locs1 → zVok r → W p l e R s m args below meth c H1 locs1 (cells + mc) (slots + ms) Q (F0 m (pc + 3) ls ((zrO E r).toList ++ rest))) : W p l e R s m args below meth c H locs cells slots Q (F0 m pc ls st0) := by
  intro T hT X
  obtain ⟨v, st₀, t, T', L, h0, X', hL, e1, e2, ⟨hv, hRel, ⟨hz, hk⟩, hok⟩, st⟩ := hr T hT X
  have hv : v = zrO E r := Outcome.returned.inj hv
  subst hv
  rw [h0] at hz hk
  obtain ⟨t2, a1, b1⟩ := kk T'.heap (locs ++ L) (by rw [e1]; exact hRel)
    ⟨Nat.le_trans hV.1 (by rw [e1]; exact hz), fun q h1 h2 => by rw [e1, hk q (Nat.lt_of_lt_of_le h1 hV.1) h2]; exact hV.2.1 q h1 h2, fun q hq => by
      rcases List.mem_append.mp hq with h | h
      · exact hV.2.2 q h
      · exact hL q h⟩ hok T' rfl X'
  exact ⟨t2, st t2 a1, b1⟩
end ZCA
theorem z_cal_spec {a kd : Nat} {f : Nat → Int} {b : Int} (h : z_cal.any (fun q => q.1 == a && (q.2.1 == kd && f q.2.2.1 == b)) = true) : ∃ np : Nat, f np = b ∧ (1 ≤ a ∧ a < 245) ∧ zmL a + 19 ≤ 36 ∧ Jvm.Cond.initialized (zy a).cls ∈ zWS ∧ ((zy a).cls ≠ "java/lang/invoke/MethodHandle" ∧ (zy a).cls ≠ "java/lang/invoke/VarHandle" ∧ (parseMethodDescriptor (zy a).desc).map (fun d => d.parameters.length) = some np) ∧ zCn (zown a) = (zy a).cls ∧ Jvm.plainName (zy a).cls = true ∧
    (if kd = 0 then Jvm.Cond.static (zy a) ∈ zWS else if kd = 1 then Jvm.Cond.instanceMethod (zy a) ∈ zWS ∧ (zy a).name = "<init>" ∧ zret a = none else Jvm.Cond.instanceMethod (zy a) ∈ zWS ∧ Jvm.Cond.selects (zy a).cls (zy a) (zy a) ∈ zWS) := by
  obtain ⟨q, hq, h1⟩ := List.any_eq_true.mp h
  simp only [Bool.and_eq_true, beq_iff_eq] at h1
  obtain ⟨h2, h3, h4⟩ := h1
  have h5 := List.all_eq_true.mp zcal_ok q hq
  have h6 := of_decide_eq_true (List.all_eq_true.mp zcal_lt q hq)
  have h7 := of_decide_eq_true (List.all_eq_true.mp zml_le q hq)
  unfold z_calq at h5
  rw [Bool.and_eq_true, Bool.and_eq_true, Bool.and_eq_true, Bool.and_eq_true, decide_eq_true_eq, decide_eq_true_eq] at h5
  obtain ⟨g1, g2, g3, g4, g5⟩ := h5
  rw [h2] at g1 g2 g3 g4 g5 h6 h7
  refine ⟨q.2.2.1, h4, h6, h7, zw_mem g1, g2, g3, g4, ?_⟩
  rw [h3] at g5
  split
  · rename_i hk
    rw [if_pos hk] at g5
    exact zw_mem g5
  · rename_i hk
    rw [if_neg hk] at g5
    split
    · rename_i hk2
      rw [if_pos hk2, Bool.and_eq_true, Bool.and_eq_true, decide_eq_true_eq, decide_eq_true_eq] at g5
      exact ⟨zw_mem g5.1, g5.2.1, g5.2.2⟩
    · rename_i hk2
      rw [if_neg hk2, Bool.and_eq_true] at g5
      exact ⟨zw_mem g5.1, zw_mem g5.2⟩
theorem zlk_ml {o ix a : Nat} (h : z_ml.any (fun q => q.1 == o && (q.2.1 == ix && q.2.2.1 == a)) = true) : Jvm.Cond.methodLink (zCn o) ix (zy a) ∈ zWS := by
  obtain ⟨q, hq, h1⟩ := List.any_eq_true.mp h
  simp only [Bool.and_eq_true, beq_iff_eq] at h1
  obtain ⟨h2, h3, h4⟩ := h1
  have h6 := zw_mem (List.all_eq_true.mp zml_ok q hq)
  rw [h2, h3, h4] at h6
  exact h6
theorem znp {n np : Nat} {b : Int} (h : n + 1 = b.toNat) (h2 : ((np : Nat) : Int) + 1 = b) : n = np := by omega
section ZCB
variable {p : Program} {l : Launch} {e : Env} {R : Room} {s : State} {m : MethodId} {args : Array Value} {below : List Frame} {meth : Method} {c : Code} {H : Heap} {locs : List Loc} {cells slots : Nat} {Q : State → Prop} {E : zEn} {k pc : Nat} {ls : Array Slot} {lo st : List zV} {T : zT} {V : zM} {r : zV} {T2 : zT} {V2 : zM}
set_option maxHeartbeats 2000000 in
/-- a call -/
theorem z_callW {I : zI} {i : Instr} {n : Nat} {k' nx : Nat} {as l' st' : List zV} {T1 : zT} {V1 : zM} (C : zCX p s m args meth c E k) (hlen : lo.length = zmL k) (hd : decode (zby k) pc = .ok (i, n)) (hv : z_vi (zown k) k pc i n I = true) (hs : z_step I lo st T V = some (.inr (.inl (k', as, nx, l', st', T1, V1)))) (hlv : zlv k' < zlv k) (hM : 1 ≤ k' → k' < 245 → zCn (zown k') = (zy k').cls → Jvm.plainName (zy k').cls = true → zMet l E k' as T V r T2 V2) (hRf : zlv k ≤ R.frames) (hRl : 36 * zlv k ≤ R.locals) (hcc : cells + (T2.1 - T.1) ≤ R.cells) (hss : slots + (T2.2.1 - T.2.1) ≤ R.slots) (S : zSt E s T V H locs ls lo st)
    (kk : ∀ (H1 : Heap) (locs1 : List Loc), zSt E s T2 V2 H1 locs1 ls lo (z_push r st') → W p l e R s m args below meth c H1 locs1 (cells + (T2.1 - T.1)) (slots + (T2.2.1 - T.2.1)) Q (F0 m nx ls ((z_push r st').map (rv E)))) : W p l e R s m args below meth c H locs cells slots Q (F0 m pc ls (st.map (rv E))) := by
  obtain ⟨hx, hb, hml, hown, hts, hKK, hini⟩ := C
  obtain ⟨hR, hV, hL, ho, hk⟩ := S
  have hF := hKK.2.2.2.2.2.2.1.2.2
  obtain ⟨⟨e1, e2, e3, e4, e5, e6, e7⟩, ⟨g1, g2⟩, g3⟩ := z_step_calls hs
  obtain ⟨op, nx0, a, b, ts⟩ := I
  have e1 : k' = a := e1
  have e2 : as = (st.take b.toNat).reverse := e2
  have e3 : nx = nx0 := e3
  have e5 : st' = st.drop b.toNat := e5
  have g1 : b.toNat ≤ st.length := g1
  have g2 : zcat (st.drop b.toNat) ≤ 8 := g2
  subst e1; subst e3; subst e4; subst e6; subst e7
  rw [← e5] at g2
  have hst : st = as.reverse ++ st' := by rw [e2, e5, List.reverse_reverse, List.take_append_drop]
  have hasl : as.length = b.toNat := by rw [e2, List.length_reverse, List.length_take]; exact Nat.min_eq_left g1
  have hstk : st.map (rv E) = (as.map (rv E)).reverse ++ st'.map (rv E) := by rw [hst, List.map_append, List.map_reverse]
  have hok' : zoks st' := fun w hw => hk w (by rw [hst]; exact List.mem_append_right _ hw)
  have hW : 2 * (F0 m pc ls (st.map (rv E))).monitorRoom + ((st'.map (rv E)).map fun v => v.category).sum ≤ 8 := by
    rw [zrv_cats hF]; show 2 * 0 + _ ≤ 8; omega
  have hsize : (F0 m pc ls (st.map (rv E))).locals.size = zmL k := by rw [← hlen]; exact hL.1
  have S0 : CallFix p m c (zby k) (zmL k) s args zWS (zCn (zown k)) := ⟨hx, hb, hml, hown, hts⟩
  have fin : ∀ {A : Array Value}, va_Run p l e R s m args below meth c H locs cells slots (T2.1 - T1.1) (T2.2.1 - T1.2.1) (F0 m pc ls (st.map (rv E))) (st'.map (rv E)) (zQc E r T2 V2 A) (zA E) → nx = pc + 3 → W p l e R s m args below meth c H locs cells slots Q (F0 m pc ls (st.map (rv E))) := by
    intro A hr hnx
    refine z_after hr hV fun H1 locs1 hR1 hV1 hok => ?_
    have K := kk H1 locs1 ⟨hR1, hV1, hL, ho, by
      unfold z_push
      split
      · exact hok'
      · exact hok'.cons hok⟩
    rw [hnx] at K
    have e9 : (z_push r st').map (rv E) = (zrO E r).toList ++ st'.map (rv E) := by
      unfold z_push zrO
      split <;> rfl
    rw [e9] at K
    exact K
  have hPc : ∀ U : State, U.heap = H → s.WarmedH U.vm → zPc E as T1 V1 (as.map (rv E)).toArray U := fun U hU hW => ⟨rfl, by rw [hU]; exact hR, hKK.to hW (by rw [hU]; exact hV.2.1) (by rw [hU]; exact hV.1)⟩
  cases i with
  | invokestatic ix =>
    have hv : ((n == 3 && nx == pc + 3) && ((op == 74 && (z_cal.any (fun q => q.1 == k' && (q.2.1 == 0 && ((q.2.2.1 : Nat) : Int) == b)) && (z_ml.any (fun q => q.1 == zown k && (q.2.1 == ix && q.2.2.1 == k')) || z_mn.any (fun q => q.1 == zown k && (q.2.1 == ix && q.2.2.1 == k'))))) || ((op == 79 && z_cp.any (fun q => q.1 == zown k && q.2.1 == ix)) || (decide (84 ≤ op ∧ op ≤ 86) && z_mm.any (fun q => q.1 == zown k && (q.2.1 == ix && q.2.2.1 == op)))))) = true := hv
    rw [Bool.and_eq_true, Bool.and_eq_true, beq_iff_eq, beq_iff_eq, Bool.or_eq_true, Bool.or_eq_true] at hv
    obtain ⟨⟨hn, hnx⟩, h1 | h1 | h1⟩ := hv
    · rw [Bool.and_eq_true, Bool.and_eq_true, Bool.or_eq_true, beq_iff_eq] at h1
      obtain ⟨h0, h2, h3⟩ := h1
      subst hn
      obtain ⟨np, f1, f2, f3, f4, f5, f6, f7, f8⟩ := z_cal_spec (kd := 0) (f := fun np => ((np : Nat) : Int)) h2
      rw [if_pos rfl] at f8
      have f1 : ((np : Nat) : Int) = b := f1
      have hal : (as.map (rv E)).length = np := by rw [List.length_map, hasl, ← f1]; rfl
      have hMM := hM f2.1 f2.2 f6 f7
      have hRR : (zRm k' T1 T2).frames + 1 ≤ R.frames ∧ 8 + (zmL k' + 11) + (zRm k' T1 T2).locals ≤ R.locals := by
        constructor
        · show zlv k' + 1 ≤ _; omega
        · show _ + 36 * zlv k' ≤ _; omega
      rcases h3 with h3 | h3
      · exact fin (va_runS S0 hMM ⟨callB_of np hts (zgoodk f2.1 f2.2) rfl rfl rfl (hts _ f4) (hts _ (zlk_ml h3)) f5 hRR, hts _ f8⟩ ⟨zPc_blind _ _ _ _, hPc⟩ rfl hal hsize hstk hW hd ⟨hcc, hss⟩) hnx
      · obtain ⟨q, hq, h4⟩ := List.any_eq_true.mp h3
        simp only [Bool.and_eq_true, beq_iff_eq] at h4
        have hN := hKK.2.2.1 q hq
        rw [h4.1, h4.2.1, h4.2.2] at hN
        exact fin (va_runSN S0 hMM ⟨va_cnB np hts (zgoodk f2.1 f2.2) rfl rfl rfl hN (hts _ f4) f5 hRR, hts _ f8, trivial⟩ ⟨zPc_blind _ _ _ _, hPc⟩ rfl hal hsize hstk hW hd ⟨hcc, hss⟩) hnx
    · rw [Bool.and_eq_true, beq_iff_eq] at h1
      have : op = 79 := h1.1
      rcases g3 with h | ⟨h, -⟩ | ⟨h, -⟩ | ⟨h, -⟩ <;> (have h : op = _ := h; omega)
    · rw [Bool.and_eq_true, decide_eq_true_eq] at h1
      have := h1.1
      rcases g3 with h | ⟨h, -⟩ | ⟨h, -⟩ | ⟨h, -⟩ <;> (have h : op = _ := h; omega)
  | invokespecial ix =>
    have hv : ((n == 3 && nx == pc + 3) && ((op == 75 && (z_cal.any (fun q => q.1 == k' && (q.2.1 == 1 && ((q.2.2.1 : Nat) : Int) + 1 == b)) && (z_ml.any (fun q => q.1 == zown k && (q.2.1 == ix && q.2.2.1 == k')) || z_mn.any (fun q => q.1 == zown k && (q.2.1 == ix && q.2.2.1 == k'))))) || (op == 78 && z_oi.any (fun q => q.1 == zown k && q.2.1 == ix)))) = true := hv
    rw [Bool.and_eq_true, Bool.and_eq_true, beq_iff_eq, beq_iff_eq, Bool.or_eq_true] at hv
    obtain ⟨⟨hn, hnx⟩, h1 | h1⟩ := hv
    · rw [Bool.and_eq_true, Bool.and_eq_true, Bool.or_eq_true, beq_iff_eq] at h1
      obtain ⟨h0, h2, h3⟩ := h1
      subst hn
      obtain ⟨np, f1, f2, f3, f4, f5, f6, f7, f8⟩ := z_cal_spec (kd := 1) (f := fun np => ((np : Nat) : Int) + 1) h2
      rw [if_neg (by decide), if_pos rfl] at f8
      obtain ⟨f8, f9, f10⟩ := f8
      have f1 : ((np : Nat) : Int) + 1 = b := f1
      obtain ⟨x, q, hq, hx0⟩ : ∃ (x : Int) (q : List zV), as = (2, x) :: q ∧ 0 ≤ x := by
        rcases g3 with h | ⟨h, g⟩ | ⟨h, -⟩ | ⟨h, -⟩
        · have h : op = _ := h; omega
        · exact g
        · have h : op = _ := h; omega
        · have h : op = _ := h; omega
      have hal : (q.map (rv E)).length = np := by rw [List.length_map]; exact znp (by rw [← hasl, hq]; rfl) f1
      have hMM := hM f2.1 f2.2 f6 f7
      have hRR : (zRm k' T1 T2).frames + 1 ≤ R.frames ∧ 8 + (zmL k' + 11) + (zRm k' T1 T2).locals ≤ R.locals := by
        constructor
        · show zlv k' + 1 ≤ _; omega
        · show _ + 36 * zlv k' ≤ _; omega
      have e8 : as.map (rv E) = .ref (eZ E + x.toNat) :: q.map (rv E) := by rw [hq, List.map_cons, show rv E (2, x) = _ from zrr_pos hx0]
      rw [e8] at hstk hPc
      rw [List.reverse_cons, List.append_assoc] at hstk
      have hwk : zwk k' = Jvm.Cond.code (zy k') (zby k') (zmL k') none :: zWS := by unfold zwk; rw [f10]
      rcases h3 with h3 | h3
      · exact fin (va_runI S0 hMM ⟨callB_of np hts (zgoodk f2.1 f2.2) hwk rfl rfl (hts _ f4) (hts _ (zlk_ml h3)) f5 hRR, f9, hts _ f8⟩ ⟨zPc_blind _ _ _ _, hPc⟩ rfl hal hsize hstk hW hd ⟨hcc, hss⟩) hnx
      · obtain ⟨q9, hq9, h4⟩ := List.any_eq_true.mp h3
        simp only [Bool.and_eq_true, beq_iff_eq] at h4
        have hN := hKK.2.2.1 q9 hq9
        rw [h4.1, h4.2.1, h4.2.2] at hN
        exact fin (va_runIN S0 hMM ⟨va_cnB np hts (zgoodk f2.1 f2.2) hwk rfl rfl hN (hts _ f4) f5 hRR, f9, hts _ f8⟩ ⟨zPc_blind _ _ _ _, hPc⟩ rfl hal hsize hstk hW hd ⟨hcc, hss⟩) hnx
    · rw [Bool.and_eq_true, beq_iff_eq] at h1
      have : op = 78 := h1.1
      rcases g3 with h | ⟨h, -⟩ | ⟨h, -⟩ | ⟨h, -⟩ <;> (have h : op = _ := h; omega)
  | invokevirtual ix =>
    have hv : ((n == 3 && nx == pc + 3) && (z_cal.any (fun q => q.1 == k' && (q.2.1 == 2 && ((q.2.2.1 : Nat) : Int) + 1 == b)) && (z_ml.any (fun q => q.1 == zown k && (q.2.1 == ix && q.2.2.1 == k')) && ((op == 76 && (decide (ts = [zown k']) && decide (zown k' < 13))) || (op == 77 && zown k' == 16))))) = true := hv
    rw [Bool.and_eq_true, Bool.and_eq_true, Bool.and_eq_true, Bool.and_eq_true, Bool.or_eq_true, beq_iff_eq, beq_iff_eq] at hv
    obtain ⟨⟨hn, hnx⟩, h2, h3, h1⟩ := hv
    subst hn
    obtain ⟨np, f1, f2, f3, f4, f5, f6, f7, f8⟩ := z_cal_spec (kd := 2) (f := fun np => ((np : Nat) : Int) + 1) h2
    rw [if_neg (by decide), if_neg (by decide)] at f8
    obtain ⟨f8, f9⟩ := f8
    have f1 : ((np : Nat) : Int) + 1 = b := f1
    have hMM := hM f2.1 f2.2 f6 f7
    have hRR : (zRm k' T1 T2).frames + 1 ≤ R.frames ∧ 8 + (zmL k' + 11) + (zRm k' T1 T2).locals ≤ R.locals := by
      constructor
      · show zlv k' + 1 ≤ _; omega
      · show _ + 36 * zlv k' ≤ _; omega
    have cw : CallW R s args (zCn (zown k)) (zy k').cls ix (zy k') (zby k') (zmL k') (zret k') (zwk k') (zRm k' T1 T2) (T2.1 - T1.1) (T2.2.1 - T1.2.1) np := ⟨callB_of np hts (zgoodk f2.1 f2.2) rfl rfl rfl (hts _ f4) (hts _ (zlk_ml h3)) f5 hRR, hts _ f8, hts _ f9⟩
    rcases h1 with h1 | h1
    · rw [Bool.and_eq_true, Bool.and_eq_true, beq_iff_eq, decide_eq_true_eq, decide_eq_true_eq] at h1
      obtain ⟨h0, h4, h5⟩ := h1
      obtain ⟨x, q, hq, hx0⟩ : ∃ (x : Int) (q : List zV), as = (2, x) :: q ∧ (0 ≤ x ∧ x < zsz T1 ∧ zc T1 x = ((ts.getD 0 0 : Nat) : Int) + 10) := by
        rcases g3 with h | ⟨h, -⟩ | ⟨h, g⟩ | ⟨h, -⟩
        · have h : op = _ := h; omega
        · have h : op = _ := h; omega
        · exact g
        · have h : op = _ := h; omega
      have hal : (q.map (rv E)).length = np := by rw [List.length_map]; exact znp (by rw [← hasl, hq]; rfl) f1
      have e8 : as.map (rv E) = .ref (eZ E + x.toNat) :: q.map (rv E) := by rw [hq, List.map_cons, show rv E (2, x) = _ from zrr_pos hx0.1]
      rw [e8] at hstk hPc
      rw [List.reverse_cons, List.append_assoc] at hstk
      have hts2 : ts.getD 0 0 = zown k' := by rw [h4]; rfl
      rw [hts2] at hx0
      obtain ⟨⟨cell, q1, q2, q3, -⟩, -⟩ := (hR.cell hx0.1 hx0.2.1).2 (zown k') h5 hx0.2.2
      have hrec : ∃ cellB : Cell, H[eZ E + x.toNat]? = some cellB ∧ cellB.vm.isStatics = false ∧ s.vm.findClass (zy k').cls = some cellB.cls := ⟨cell, q1, by rw [q3]; rfl, by rw [q2, ← f6]; exact (hKK.1 (zown k') h5).2.1⟩
      exact fin (va_runV S0 hMM cw ⟨zPc_blind _ _ _ _, hrec, hPc⟩ rfl hal hsize hstk hW hd ⟨hcc, hss⟩) hnx
    · rw [Bool.and_eq_true, beq_iff_eq, beq_iff_eq] at h1
      obtain ⟨h0, h4⟩ := h1
      obtain ⟨x, q, hq, hx0⟩ : ∃ (x : Int) (q : List zV), as = (3, x) :: q ∧ (0 ≤ x ∧ x < 7) := by
        rcases g3 with h | ⟨h, -⟩ | ⟨h, -⟩ | ⟨h, g⟩
        · have h : op = _ := h; omega
        · have h : op = _ := h; omega
        · have h : op = _ := h; omega
        · exact g
      have hal : (q.map (rv E)).length = np := by rw [List.length_map]; exact znp (by rw [← hasl, hq]; rfl) f1
      have e8 : as.map (rv E) = .ref (eK E x.toNat) :: q.map (rv E) := by rw [hq, List.map_cons]; rfl
      rw [e8] at hstk hPc
      rw [List.reverse_cons, List.append_assoc] at hstk
      have hcls : (zy k').cls = "java/lang/String" := by rw [← f6, h4]; rfl
      have hrec : ∃ cellB : Cell, H[eK E x.toNat]? = some cellB ∧ cellB.vm.isStatics = false ∧ s.vm.findClass (zy k').cls = some cellB.cls := by
        rw [hcls]
        exact vk_recv hKK.2.2.2.2.1 (by omega) hV
      exact fin (va_runV S0 hMM cw ⟨zPc_blind _ _ _ _, hrec, hPc⟩ rfl hal hsize hstk hW hd ⟨hcc, hss⟩) hnx
  | ifCond cd off =>
    exfalso
    rcases g3 with h | ⟨h, -⟩ | ⟨h, -⟩ | ⟨h, -⟩ <;> (have h : op = _ := h; subst h; revert hv; cases cd <;> simp [z_vi, z_cc])
  | if_icmp cd off =>
    exfalso
    rcases g3 with h | ⟨h, -⟩ | ⟨h, -⟩ | ⟨h, -⟩ <;> (have h : op = _ := h; subst h; revert hv; cases cd <;> simp [z_vi, z_cc])
  | _ =>
    exfalso
    rcases g3 with h | ⟨h, -⟩ | ⟨h, -⟩ | ⟨h, -⟩ <;> (have h : op = _ := h; subst h; revert hv; simp [z_vi])
end ZCB
end
section
/-! the whole: what AM computes the machine does -/
def zretOK (k : Nat) (r : zV) (i : Instr) : Prop :=
  (i = .ireturn ∧ r.1 = 0 ∧ ∃ ty, zret k = some ty ∧ narrow ty (.int (Int32.ofInt r.2)) = .int (Int32.ofInt r.2)) ∨ (i = .lreturn ∧ r.1 = 1 ∧ zret k = some .long) ∨ (i = .areturn ∧ r.1 = 2 ∧ ∃ rt, zret k = some rt ∧ ((∃ n, rt = .object n) ∨ ∃ t, rt = .array t)) ∨ (i = .return_ ∧ r = (9, 0) ∧ zret k = none)
def zBody (l : Launch) (E : zEn) (n : Nat) : Prop := ∀ (k pc : Nat) (lo st : List zV) (T : zT) (V : zM) (r : zV) (T' : zT) (V' : zM), am n k pc lo st T V = some (r, T', V') → ∀ (p : Program) (e : Env) (R : Room) (s : State) (m : MethodId) (args : Array Value) (below : List Frame) (meth : Method) (c : Code) (H : Heap) (locs : List Loc) (cells slots fc fs : Nat) (Q : State → Prop) (ls : Array Slot),
  zCX p s m args meth c E k → lo.length = zmL k → zlv k ≤ R.frames → 36 * zlv k ≤ R.locals → 1 ≤ zlv k → cells + T'.1 = fc + T.1 → slots + T'.2.1 = fs + T.2.1 → fc ≤ R.cells → fs ≤ R.slots → zSt E s T V H locs ls lo st →
  (∀ (pc : Nat) (ls : Array Slot) (H : Heap) (locs : List Loc) (i : Instr), decode (zby k) pc = .ok (i, 1) → zretOK k r i → zRel E T' V' H → va_S (zA E) s.heap H locs → zVok r → W p l e R s m args below meth c H locs fc fs Q (F0 m pc ls (zrO E r).toList)) →
  W p l e R s m args below meth c H locs cells slots Q (F0 m pc ls (st.map (rv E)))
theorem zchar_nar {x : Int} (h0 : 0 ≤ x) (h1 : x ≤ 65535) : narrow .char (.int (Int32.ofInt x)) = .int (Int32.ofInt x) := by
  show Value.int _ = _
  congr 1
  exact zi2c ⟨by omega, by omega⟩ h0 h1
theorem z_sp_at (E : zEn) (hF : eF E = .null ∨ ∃ a, eF E = .ref a) : ∀ as : List zV, (lg_sl (as.map (rv E))).length = (z_sp as).length ∧ ∀ (i : Nat) (v : zV), (z_sp as)[i]? = some v → v.1 ≠ 9 → (lg_sl (as.map (rv E)))[i]? = some (.val (rv E v)) := by
  intro as
  induction as with
  | nil => exact ⟨rfl, fun i v h => by simp [z_sp] at h⟩
  | cons w as ih =>
    have hc := zrv_cat hF w
    have e1 : lg_sl ((w :: as).map (rv E)) = (if (rv E w).category = 2 then [.val (rv E w), .second] else [.val (rv E w)]) ++ lg_sl (as.map (rv E)) := rfl
    rw [e1, hc]
    unfold z_sp
    by_cases h1 : w.1 = 1
    · rw [if_pos h1, if_pos h1, if_pos rfl]
      refine ⟨by simp [ih.1], fun i v hi hv => ?_⟩
      match i, hi with
      | 0, hi => cases hi; rfl
      | 1, hi => cases hi; exact absurd rfl hv
      | i + 2, hi => exact ih.2 i v hi hv
    · rw [if_neg h1, if_neg h1, if_neg (by decide)]
      refine ⟨by simp [ih.1], fun i v hi hv => ?_⟩
      match i, hi with
      | 0, hi => cases hi; rfl
      | i + 1, hi => exact ih.2 i v hi hv
theorem z_ent_len {n : Nat} {as : List zV} (h : (z_sp as).length ≤ n) : (z_ent n as).length = n := by
  unfold z_ent
  rw [List.length_append, List.length_replicate]
  omega
theorem z_ent_loc {E : zEn} (hF : eF E = .null ∨ ∃ a, eF E = .ref a) {n : Nat} {as : List zV} (h : (z_sp as).length ≤ n) : zLoc E (lg_sl (as.map (rv E)) ++ List.replicate (n - (lg_sl (as.map (rv E))).length) Slot.unset).toArray (z_ent n as) := by
  obtain ⟨h1, h2⟩ := z_sp_at E hF as
  have hl := lv_entry (as.map (rv E)) (n := n) (by omega)
  refine ⟨by rw [z_ent_len h]; exact hl.1, hl.2.1, fun i v hi hv => ?_⟩
  unfold z_ent at hi
  rw [List.getElem?_append] at hi
  split at hi
  · rename_i h3
    have h4 := h2 i v hi hv
    rw [List.getElem?_toArray, List.getElem?_append_left (by omega)]
    exact h4
  · rw [List.getElem?_replicate] at hi
    split at hi
    · cases hi; exact absurd rfl hv
    · cases hi
theorem z_sp_ok : ∀ {as : List zV}, zoks as → zoks (z_sp as) := by
  intro as
  induction as with
  | nil => intro h; exact h
  | cons w as ih =>
    intro h
    unfold z_sp
    split
    · exact ((ih h.tl).cons (zokr (by decide))).cons h.hd
    · exact (ih h.tl).cons h.hd
theorem z_ent_ok {n : Nat} {as : List zV} (h : zoks as) : zoks (z_ent n as) := fun w hw => by
  rcases List.mem_append.mp hw with h1 | h1
  · exact z_sp_ok h w h1
  · rw [(List.mem_replicate.mp h1).2]; exact zokr (by decide)
theorem z_met {l : Launch} {E : zEn} {n : Nat} (hB : zBody l E n) {k : Nat} {as : List zV} {T : zT} {V : zM} {r : zV} {T' : zT} {V' : zM} (h : am n k 0 (z_ent (zmL k) as) [] T V = some (r, T', V')) (hk1 : 1 ≤ k) (hk2 : k < 245) (hn : zCn (zown k) = (zy k).cls) (hpl : Jvm.plainName (zy k).cls = true) (hsp : (z_sp as).length ≤ zmL k) (hok : zoks as) : zMet l E k as T V r T' V' := by
  have hg := am_grow _ _ _ _ _ _ _ _ _ _ h
  refine Met.ofW (cc := zby k) (maxL := zmL k) (ret := zret k) hpl rfl ?_
  intro p e s m args below meth c s₁ B hml hv
  obtain ⟨rfl, hR, hKK⟩ := hv
  have hF := hKK.2.2.2.2.2.2.1.2.2
  have hts0 := atoms_spec (ws := zwk k) B.pre
  have hts : ∀ w ∈ zWS, w.before (as.map (rv E)).toArray s = true := fun w hw => hts0 w (List.mem_cons_of_mem _ hw)
  have hown : s.vm.findClass (zCn (zown k)) = some m.cls := by rw [hn]; exact findClass_of_methodNamed B.named
  have hname : meth.name = (zy k).name := (name_of_methodNamed B.named B.method).1
  have hlocks := B.notSynchronized
  have hr := B.returns
  rw [lg_entry_eq]
  refine hB k 0 (z_ent (zmL k) as) [] T V r T' V' h p e _ s m _ below meth c s.heap [] 0 0 (T'.1 - T.1) (T'.2.1 - T.2.1) _ _ ⟨B.exec, B.bytes, hml, hown, hts, hKK, fun hi => by rw [hname]; exact hi⟩ (z_ent_len hsp) (Nat.le_refl _) (Nat.le_refl _) (zall_ok k hk2).2 (by omega) (by omega) (Nat.le_refl _) (Nat.le_refl _) ⟨hR, va_S.rf, z_ent_loc hF hsp, z_ent_ok hok, fun w hw => by cases hw⟩ ?_
  intro pc ls H locs i hd hret hR' hV hvr
  have hq : ∀ v, zrO E r = v → ∀ t : State, t.heap = H → s.WarmedH t.vm → zQc E r T' V' (as.map (rv E)).toArray s (.returned v) t := fun v hv t ht _ => ⟨by rw [hv], by rw [ht]; exact hR', hV.F ht, hvr⟩
  obtain ⟨tg, x⟩ := r
  rcases hret with ⟨rfl, h1, ty, h2, h3⟩ | ⟨rfl, h1, h2⟩ | ⟨rfl, h1, rt, h2, h3⟩ | ⟨rfl, h1, h2⟩
  · have h1 : tg = 0 := h1
    subst h1
    exact W.zret (v := Int32.ofInt x) (ty := ty) B.exec B.bytes (by rw [hr]; exact h2) h3 (hq _ rfl) hV.2.2 hd hlocks
  · have h1 : tg = 1 := h1
    subst h1
    exact W.lret (v := Int64.ofInt x) B.exec B.bytes (by rw [hr]; exact h2) (hq _ rfl) hV.2.2 hd hlocks
  · have h1 : tg = 2 := h1
    subst h1
    exact W.aret (v := zrr E x) B.exec B.bytes (by rw [hr]; exact h2) h3 (zrv_ref hF (v := (2, x)) ⟨show 2 ≤ 2 by decide, show 2 ≤ 6 by decide⟩) (hq _ rfl) hV.2.2 hd hlocks
  · cases h1
    exact W.vret B.exec B.bytes (by rw [hr]; exact h2) (hq _ rfl) hV.2.2 hd hlocks
theorem z_at_mem : ∀ {L : List (Nat × zI)} {pc : Nat} {I : zI}, z_at L pc = some I → (pc, I) ∈ L := by
  intro L
  induction L with
  | nil => intro pc I h; simp [z_at] at h
  | cons q L ih =>
    intro pc I h
    unfold z_at at h
    split at h
    · rename_i h1
      cases h
      rw [← h1]
      exact List.mem_cons_self
    · exact List.mem_cons_of_mem _ (ih h)
theorem z_body (l : Launch) (E : zEn) : ∀ n, zBody l E n := by
  intro n
  induction n with
  | zero => intro k pc lo st T V r T' V' h; simp [am] at h
  | succ n ih =>
    intro k pc lo st T V r T' V' h p e R s m args below meth c H locs cells slots fc fs Q ls C hlen hRf hRl hlv hc0 hs0 hfc hfs S hQ
    have hgr := am_grow _ _ _ _ _ _ _ _ _ _ h
    unfold am at h
    cases hc : zcode k pc with
    | none => rw [hc] at h; simp at h
    | some I =>
      rw [hc] at h
      simp only at h
      have hvl := List.all_eq_true.mp (zV_all k) _ (z_at_mem hc)
      obtain ⟨i, n0, hd, hv⟩ : ∃ (i : Instr) (n0 : Nat), decode (zby k) pc = .ok (i, n0) ∧ z_vi (zown k) k pc i n0 I = true := by
        unfold z_vl at hvl
        split at hvl
        · rename_i i n0 hd
          exact ⟨i, n0, hd, hvl⟩
        · cases hvl
      cases hs : z_step I lo st T V with
      | none => rw [hs] at h; simp at h
      | some q =>
        rw [hs] at h
        rcases q with ⟨pc', l', st', T1, V1⟩ | ⟨k', as, nx, l', st', T1, V1⟩ | ⟨y, T1, V1⟩
        · simp only at h
          have hg1 := am_grow _ _ _ _ _ _ _ _ _ _ h
          obtain ⟨e1, e2, e3⟩ : l'.length = lo.length ∧ T.1 ≤ T1.1 ∧ T.2.1 ≤ T1.2.1 := by
            rcases z_step_kind hs with h1 | ⟨-, h1⟩ | ⟨-, -, h1⟩ | ⟨h0, h1⟩ | ⟨h0, h1⟩ | ⟨h0, h1⟩ | ⟨h0, h1⟩
            · obtain ⟨_, _, _, T3, _, h3, h6, h4, h5⟩ := h1
              simp only [Sum.inl.injEq, Prod.mk.injEq] at h3
              obtain ⟨-, rfl, -, rfl, -⟩ := h3
              exact ⟨h6, h4, h5⟩
            · obtain ⟨_, -, -, h3⟩ := zv_ret h1
              cases h3
            · cases h1
            · cases (zv_call h1).2
            · cases (zv_call (zv_callI h1).2).2
            · cases (zv_call (zv_callV h1).2).2
            · cases (zv_call (zv_callS h1).2).2
          refine z_go C hlen hd hv hs ⟨by omega, by omega⟩ ⟨by omega, by omega⟩ (by omega) (by omega) S ?_
          intro H' locs' ls' cells' slots' g1 g2 S'
          exact ih k pc' l' st' T1 V1 r T' V' h p e R s m args below meth c H' locs' cells' slots' fc fs Q ls' C (e1.trans hlen) hRf hRl hlv (by omega) (by omega) hfc hfs S' hQ
        · simp only at h
          obtain ⟨⟨d1, d2, d3, d4, d5, d6, d7⟩, -⟩ := z_step_calls hs
          by_cases hl : zlv k' < zlv k ∧ (z_sp as).length ≤ zmL k'
          · rw [if_pos hl] at h
            cases ha : am n k' 0 (z_ent (zmL k') as) [] T1 V1 with
            | none => rw [ha] at h; simp at h
            | some z =>
              obtain ⟨r2, T2, V2⟩ := z
              rw [ha] at h
              simp only at h
              rw [d6, d7] at ha
              have hg1 := am_grow _ _ _ _ _ _ _ _ _ _ ha
              have hg2 := am_grow _ _ _ _ _ _ _ _ _ _ h
              have hoka : zoks as := fun w hw => by
                rw [d2] at hw
                exact S.2.2.2.2 w (List.mem_of_mem_take (List.mem_reverse.mp hw))
              refine z_callW (r := r2) (T2 := T2) (V2 := V2) C hlen hd hv hs hl.1 (fun f1 f2 f3 f4 => z_met ih ha f1 f2 f3 f4 hl.2 hoka) hRf hRl (by omega) (by omega) S ?_
              intro H1 locs1 S1
              rw [d4] at h
              exact ih k nx lo (z_push r2 st') T2 V2 r T' V' h p e R s m args below meth c H1 locs1 _ _ fc fs Q ls C hlen hRf hRl hlv (by omega) (by omega) hfc hfs S1 hQ
          · rw [if_neg hl] at h; simp at h
        · simp only at h
          obtain ⟨e1, e2, e3⟩ := z_step_ends hs
          cases h
          subst e1
          subst e2
          obtain ⟨hR, hV, hL, ho, hk⟩ := S
          have ec : cells = fc := by omega
          have es : slots = fs := by omega
          subst ec
          subst es
          obtain ⟨op, nx, a, b, ts⟩ := I
          rcases e3 with ⟨h72, hst, hkind⟩ | ⟨h73, hst, hr9⟩
          · have h72 : op = 72 := h72
            subst h72
            subst hst
            have hvr : zVok r := hk r List.mem_cons_self
            have hst2 : ([r] : List zV).map (rv E) = (zrO E r).toList := by
              unfold zrO
              rw [if_neg]
              · rfl
              · rcases hkind with ⟨-, h⟩ | ⟨-, h⟩ | ⟨-, h⟩ | ⟨-, h, -⟩ | ⟨-, h, -⟩ | ⟨-, h, -⟩ <;> omega
            rw [hst2]
            have hkind : (a = 0 ∧ r.1 = 0) ∨ (a = 1 ∧ r.1 = 1) ∨ (a = 2 ∧ r.1 = 2) ∨ (a = 3 ∧ r.1 = 0 ∧ 0 ≤ r.2 ∧ r.2 ≤ 1) ∨ (a = 4 ∧ r.1 = 0 ∧ -128 ≤ r.2 ∧ r.2 ≤ 127) ∨ (a = 5 ∧ r.1 = 0 ∧ 0 ≤ r.2 ∧ r.2 ≤ 65535) := hkind
            cases i with
            | ireturn =>
              simp only [z_vi, Bool.and_eq_true, Bool.or_eq_true, beq_iff_eq, decide_eq_true_eq] at hv
              obtain ⟨-, rfl, hv⟩ := hv
              refine hQ pc ls H locs _ hd (Or.inl ⟨rfl, ?_⟩) hR hV hvr
              rcases hv with ⟨q1, q2⟩ | ⟨q1, q2⟩ | ⟨q1, q2⟩ | ⟨q1, q2⟩
              · exact ⟨by omega, _, q2, rfl⟩
              · exact ⟨by omega, _, q2, (zbool_fit (by omega)).1⟩
              · exact ⟨by omega, _, q2, zbyte_fit (by omega)⟩
              · exact ⟨by omega, _, q2, zchar_nar (by omega) (by omega)⟩
            | lreturn =>
              simp only [z_vi, Bool.and_eq_true, beq_iff_eq, decide_eq_true_eq] at hv
              obtain ⟨-, rfl, q1, q2⟩ := hv
              exact hQ pc ls H locs _ hd (Or.inr (Or.inl ⟨rfl, by omega, q2⟩)) hR hV hvr
            | areturn =>
              simp only [z_vi, Bool.and_eq_true, beq_iff_eq] at hv
              obtain ⟨-, rfl, q1, q2⟩ := hv
              refine hQ pc ls H locs _ hd (Or.inr (Or.inr (Or.inl ⟨rfl, by omega, ?_⟩))) hR hV hvr
              cases hz : zret k with
              | none => rw [hz] at q2; cases q2
              | some rt =>
                rw [hz] at q2
                have q2 : z_isR rt = true := q2
                refine ⟨rt, rfl, ?_⟩
                cases rt <;> simp [z_isR] at q2
                · exact Or.inl ⟨_, rfl⟩
                · exact Or.inr ⟨_, rfl⟩
            | ifCond cd off => revert hv; cases cd <;> simp [z_vi, z_cc]
            | if_icmp cd off => revert hv; cases cd <;> simp [z_vi, z_cc]
            | _ => revert hv; simp [z_vi]
          · have h73 : op = 73 := h73
            subst h73
            subst hst
            subst hr9
            cases i with
            | return_ =>
              simp only [z_vi, Bool.and_eq_true, beq_iff_eq, decide_eq_true_eq] at hv
              obtain ⟨-, rfl, q2⟩ := hv
              exact hQ pc ls H locs _ hd (Or.inr (Or.inr (Or.inr ⟨rfl, rfl, q2⟩))) hR hV (zokr (by decide))
            | ifCond cd off => revert hv; cases cd <;> simp [z_vi, z_cc]
            | if_icmp cd off => revert hv; cases cd <;> simp [z_vi, z_cc]
            | _ => revert hv; simp [z_vi]
end
section
/-! the start: what the Statement gives is what AM needs -/
def ztm (i : Nat) : Term := Term.string "TwoWayWall$TableReader" ([47, 62, 66, 71, 76, 81, 93].getD i 0)
def zFl : List Jvm.Cond := flatC (Jvm.Cond.and given_1 narrow_1)
theorem zf_ex : ∀ i, i < 7 → Jvm.Cond.exactly (ztm i) "java/lang/String" ∈ zFl := by decide +kernel
theorem zf_co : ∀ i, i < 7 → Jvm.Cond.eq (.field (ztm i) "java/lang/String" "coder" "B") (.int 0) ∈ zFl := by decide +kernel
theorem zf_ar : ∀ i, i < 7 → Jvm.Cond.arrayOf (.field (ztm i) "java/lang/String" "value" "[B") .byte ∈ zFl := by decide +kernel
theorem zf_le : ∀ i, i < 7 → Jvm.Cond.eq (.length (.field (ztm i) "java/lang/String" "value" "[B")) (.int (Int32.ofNat (zlens.getD i 0))) ∈ zFl := by decide +kernel
theorem zf_el : ∀ i, i < 7 → ∀ j, j < zlens.getD i 0 → Jvm.Cond.eq (.elem (.field (ztm i) "java/lang/String" "value" "[B") (.int (Int32.ofNat j))) (.int ((zbyts.getD i []).getD j 0)) ∈ zFl := by decide +kernel
theorem zf_ne : ∀ i, i < 7 → ∀ j, j < 7 → i ≠ j → (Jvm.Cond.not (Jvm.Cond.eq (ztm i) (ztm j)) ∈ zFl ∨ Jvm.Cond.not (Jvm.Cond.eq (ztm j) (ztm i)) ∈ zFl) := by decide +kernel
theorem zf_cs : Jvm.Cond.eq (.static "java/lang/String" "COMPACT_STRINGS" "Z") (.int 1) ∈ zFl := by decide +kernel
theorem zf_fm : Jvm.Cond.isRef (.static "jdk/internal/util/Preconditions" "SIOOBE_FORMATTER" "Ljava/util/function/BiFunction;") ∈ zFl := by decide +kernel
theorem zcs_ix : ∀ q ∈ z_cs, q.1 = 7 ∧ q.2.2.1 < 7 ∧ q.2.1 = [47, 62, 66, 71, 76, 81, 93].getD q.2.2.1 0 ∧ lw_tbl[q.2.2.2]? = some (.stringRef (zCn q.1) q.2.1 (ztx q.2.2.1)) := by decide +kernel
theorem zst_in : Jvm.Cond.laysStatic "java/lang/String" "COMPACT_STRINGS" "Z" ∈ lw_tbl ∧ Jvm.Cond.laysStatic "jdk/internal/util/Preconditions" "SIOOBE_FORMATTER" "Ljava/util/function/BiFunction;" ∈ lw_tbl ∧ Jvm.Cond.initialized "java/lang/String" ∈ lw_tbl ∧ Jvm.Cond.initialized "jdk/internal/util/Preconditions" ∈ lw_tbl := ⟨List.mem_of_getElem? (i := 676) (by decide +kernel), List.mem_of_getElem? (i := 692) (by decide +kernel), by decide +kernel, by decide +kernel⟩
theorem zar_in : Jvm.Cond.arrayClass .int ∈ lw_tbl ∧ Jvm.Cond.arrayClass .long ∈ lw_tbl ∧ Jvm.Cond.arrayClass .byte ∈ lw_tbl ∧ Jvm.Cond.arrayClass .boolean ∈ lw_tbl ∧ Jvm.Cond.arrayOver (.object "TwoWayWall$State") ∈ lw_tbl := ⟨List.mem_of_getElem? (i := 174) (by decide +kernel), List.mem_of_getElem? (i := 463) (by decide +kernel), List.mem_of_getElem? (i := 770) (by decide +kernel), List.mem_of_getElem? (i := 417) (by decide +kernel), List.mem_of_getElem? (i := 242) (by decide +kernel)⟩
theorem zin_in : ∀ ci, ci < 13 → z_ins.any (fun q => q.1 == ci) = true := by decide +kernel
theorem z_env {s : State} {b L : Nat} {xs : Nat → Int32} (hts : ∀ w ∈ lw_tbl, w.before #[Value.ref b] s = true) (hX : va_X b L xs s s.heap) (hbl : b < s.heap.size) (hgv : (Jvm.Cond.and given_1 narrow_1).before #[Value.ref b] s = true) : ∃ E : zEn, eZ E = s.heap.size ∧ eB E = b ∧ eL E = L ∧ eX E = xs ∧ zKK E s := by
  have hfl := flat_of_before _ hgv
  have hA : ∀ a : Nat, a < s.heap.size → ¬ (fun q : Nat => s.heap.size ≤ q) a := fun a h => by show ¬ _ ≤ _; omega
  -- classes
  have hcl : ∀ ci : Nat, ∃ q : ClassId × (Nat → Nat), ci < 13 → u_Kn s (zCn ci) (zTX ci) (zfN ci) q.1 q.2 := by
    intro ci
    by_cases h : ci < 13
    · obtain ⟨q, hq, h2⟩ := List.any_eq_true.mp (zin_in ci h)
      have h3 := List.all_eq_true.mp zins_ok q hq
      rw [Bool.and_eq_true] at h3
      have h4 := zw_mem h3.1
      rw [beq_iff_eq.mp h2] at h4
      have hts2 : ∀ w ∈ zWS, w.before #[Value.ref b] s = true := fun w hw => hts w (List.mem_filter.mp hw).1
      obtain ⟨cC, iS, hK⟩ := u_known (ws := zWS) hts2 (zuws h) (hts2 _ h4)
      exact ⟨(cC, iS), fun _ => hK⟩
    · exact ⟨(0, fun _ => 0), fun h1 => absurd h1 h⟩
  obtain ⟨dd, hdd⟩ := Classical.axiomOfChoice hcl
  -- arrays
  have har : ∀ t : Nat, ∃ cA : ClassId, t < 5 → ArrOfT s cA (zaty t) ∧ va_RA s cA (zaty t) := by
    have one : ∀ ty : FieldType, Jvm.Cond.arrayClass ty ∈ lw_tbl → (∀ C, ty ≠ .object C) → ∃ cA : ClassId, ArrOfT s cA ty ∧ va_RA s cA ty := by
      intro ty h hne
      obtain ⟨c, k, comp, h1, h2, h3⟩ := Cond.arrayClass_spec (hts _ h)
      refine ⟨c, fun n z => ⟨fun k h => (by cases h), k, h2, comp, h3⟩, ?_⟩
      cases ty <;> first | exact h1 | exact absurd rfl (hne _)
    intro t
    match t with
    | 0 => obtain ⟨c, h⟩ := one .int zar_in.1 (fun _ => by simp); exact ⟨c, fun _ => h⟩
    | 1 => obtain ⟨c, h⟩ := one .long zar_in.2.1 (fun _ => by simp); exact ⟨c, fun _ => h⟩
    | 2 => obtain ⟨c, h⟩ := one .byte zar_in.2.2.1 (fun _ => by simp); exact ⟨c, fun _ => h⟩
    | 3 => obtain ⟨c, h⟩ := one .boolean zar_in.2.2.2.1 (fun _ => by simp); exact ⟨c, fun _ => h⟩
    | 4 =>
      obtain ⟨comp, c, k, h1, -, h2, h3, h4⟩ := Cond.arrayOver_spec (hts _ zar_in.2.2.2.2)
      exact ⟨c, fun _ => ⟨fun n z => ⟨fun k h => (by cases h), k, h2, comp, h3⟩, k, comp, h2, h3, h1, h4⟩⟩
    | t + 5 => exact ⟨0, fun h => by omega⟩
  obtain ⟨kA, hkA⟩ := Classical.axiomOfChoice har
  -- strings
  obtain ⟨adK, adV, hS, hev⟩ := vk_Sof (N := 7) (tm := ztm) (len := zlens) (byt := zbyts) (A := fun q : Nat => s.heap.size ≤ q) (fun i hi => by
      have h : ∀ i, i < 7 → zlens.getD i 0 < 2 ^ 31 := by decide
      exact h i hi) (fun i hi => hfl _ (zf_ex i hi)) (fun i hi => hfl _ (zf_co i hi)) (fun i hi => hfl _ (zf_ar i hi)) (fun i hi => hfl _ (zf_le i hi)) (fun i hi j hj => hfl _ (zf_el i hi j hj)) (fun i j hi hj hne => by
      rcases zf_ne i hi j hj hne with h | h
      · exact Or.inl (hfl _ h)
      · exact Or.inr (hfl _ h)) hA
  -- statics
  have hZ1 : va_Z "java/lang/String" "COMPACT_STRINGS" "Z" (.int 1) (fun q : Nat => s.heap.size ≤ q) s s.heap := va_Zof (hts _ zst_in.1) (hts _ zst_in.2.2.1) (va_eqt (hfl _ zf_cs)) hA
  have hZ2 : va_Zq "jdk/internal/util/Preconditions" "SIOOBE_FORMATTER" "Ljava/util/function/BiFunction;" (fun q : Nat => s.heap.size ≤ q) s s.heap := va_Zqof (hts _ zst_in.2.1) (hts _ zst_in.2.2.2) (hfl _ zf_fm) hA
  obtain ⟨fm, hfm, hfv⟩ : ∃ fm : Value, va_Z "jdk/internal/util/Preconditions" "SIOOBE_FORMATTER" "Ljava/util/function/BiFunction;" fm (fun q : Nat => s.heap.size ≤ q) s s.heap ∧ (fm = .null ∨ ∃ a, fm = .ref a) := by
    rcases hZ2 with h | ⟨t, h⟩
    · exact ⟨_, h, Or.inl rfl⟩
    · exact ⟨_, h, Or.inr ⟨t, rfl⟩⟩
  refine ⟨(fun ci => (dd ci).1, fun ci => (dd ci).2, kA, s.heap.size, (b, L, xs), adK, adV, fm), rfl, rfl, rfl, rfl, fun ci hci => hdd ci hci, fun t ht => hkA t ht, fun q hq => ?_, fun q hq => ?_, hS, ⟨hX, hbl⟩, ⟨hZ1, hfm, hfv⟩, va_AO.of (hts _ zar_in.2.2.2.2), Nat.le_refl _⟩
  · have h1 := of_decide_eq_true (List.all_eq_true.mp zmn_ok q hq)
    exact va_Nw.of rfl (hts _ (List.mem_of_getElem? h1))
  · obtain ⟨h1, h2, h3, h4⟩ := zcs_ix q hq
    refine vk_R.of (A := #[Value.ref b]) (hts _ (List.mem_of_getElem? h4)) ?_
    have h5 := hev q.2.2.1 h2
    rw [h1, h3]
    exact h5
def zT0 (L : Nat) : zT := (0, 0, fun _ => -1, fun a => if a = -2 then (L : Int) else 0, fun _ _ => -1)
def zV0 (xs : Nat → Int32) : zM := fun a j => if a = -2 then (xs j.toNat).toInt else 0
/-- the pure half: the law, as AM runs it, answers 1 and keeps to the room -/
def zLaw : Prop := ∀ (L : Nat) (xs : Nat → Int32), L ≤ 3072 → ∃ (n : Nat) (T' : zT) (V' : zM), am n 0 0 [(4, 0), (9, 0), (9, 0), (9, 0)] [] (zT0 L) (zV0 xs) = some ((0, 1), T', V') ∧ T'.1 ≤ 600000 ∧ T'.2.1 ≤ 7302250
end
section
/-! THE CLAIM OUT OF ONE WALK OF THE LAW'S BODY. Your part is whole_start (and what it stands on); all else here is the same for every law, but numbers. -/
def R_law : String := "TwoWayWallLaw"
def lw_P (b : Addr) (xs : List Int32) (args : Array Value) (s : State) : Prop := args = #[.ref b] ∧ s.IntsAt b xs ∧ xs.length ≤ 3072 ∧ (Jvm.Cond.and given_1 narrow_1).before args s = true
def lw_Q (_ : Array Value) (s : State) (o : Outcome) (t : State) : Prop := o = .returned (some (.int 1)) ∧ Framed s o t [] 600000 7302250
def lw_Z (below : List Frame) (a : Array Value) (s : State) : State → Prop := fun t => ∃ o, t.status = .running ∧ Ended t below o ∧ lw_Q a s o t
/-- the law's own end, with 1 on the stack, nothing written that was there before, its room as the claim has it -/
theorem lw_ret {p : Program} {l : Launch} {e : Env} {s : State} {m : MethodId} {below : List Frame} {meth : Method} {c : Code} {b : Nat} (hx : p.tables.exec = Jvm.exec) (hb : c.code = code) (hr : meth.sig.returnType = ret) (hlocks : meth.locks = false) {pc : Nat} {H : Heap} {ls : Array Slot} (hdg : decode code pc = .ok (.ireturn, 1)) : W p l e room_1 s m #[Value.ref b] below meth c H [] 600000 7302250 (lw_Z below #[Value.ref b] s) (F0 m pc ls [.int 1]) := by
  intro T hT X
  obtain ⟨fs, hret, hrun, hended, hW, hframe⟩ := X.leave (v := some (.int 1)) (hlocks := hlocks) (fun h => by rw [hr] at h; cases h)
  have hmeth' : T.vm.method? m = some meth := X.method'
  refine ⟨T.setFrames fs, ?_, .returned (some (.int 1)), hrun, hended, rfl, ⟨_, rfl⟩, hW, hframe⟩
  jvm_step X.here [X.here.top, hx, hb, hdg, hmeth', hr, ret, narrow_b1]
  (try refine ⟨rfl, ?_⟩); (try refine ⟨rfl, ?_⟩)
  first | (intro acts; rw [hret _ acts rfl rfl rfl]) | rw [hret _ _ rfl rfl rfl]
  exact Steps.refl _
/-- what holds at the law's entry: the machine, the code, the tables' words (any of lw_tbl by 'hts w (by decide +kernel)'), the script of L ints xs at the cell b, what the Statement gives of the start (any of its parts by flat_of_before) -/
def lw_At (p : Program) (s : State) (m : MethodId) (meth : Method) (c : Code) (b L : Nat) (xs : Nat → Int32) : Prop :=
  p.tables.exec = Jvm.exec ∧ c.code = code ∧ meth.sig.returnType = ret ∧ c.maxLocals = 4 ∧ s.vm.findClass R_law = some m.cls ∧ (∀ w ∈ lw_tbl, w.before #[Value.ref b] s = true) ∧ va_X b L xs s s.heap ∧ b < s.heap.size ∧ meth.locks = false ∧ (Jvm.Cond.and given_1 narrow_1).before #[Value.ref b] s = true
/-- from the entry, for every script of at most 3072 ints, the law comes to its end with true -/
theorem whole_start (hzl : zLaw) {p : Program} {e : Env} {s : State} {m : MethodId} {below : List Frame} {meth : Method} {c : Code} (l : Launch) {b L : Nat} {xs : Nat → Int32} (hL : L ≤ 3072) (C0 : lw_At p s m meth c b L xs) : W p l e room_1 s m #[Value.ref b] below meth c s.heap [] 0 0 (lw_Z below #[Value.ref b] s) (entryFrame m ([Value.ref b] : List Value).toArray 4) := by
  obtain ⟨hx, hb, hr, hml, hown, hts, hX, hbl, hlocks, hgv⟩ := C0
  obtain ⟨E, e1, e2, e3, e4, hKK⟩ := z_env hts hX hbl hgv
  obtain ⟨n, T', V', ham, hT1, hT2⟩ := hzl L xs hL
  have hF := hKK.2.2.2.2.2.2.1.2.2
  have hzm : zmL 0 = 4 := rfl
  have hlv : zlv 0 = 13 := rfl
  have hown0 : zown 0 = 13 := rfl
  have hby : zby 0 = code := rfl
  have hloc := z_ent_loc (E := E) hF (n := 4) (as := [(4, 0)]) (by decide)
  have hent : entryFrame m ([Value.ref b] : List Value).toArray 4 = F0 m 0 ((lg_sl (([(4, 0)] : List zV).map (rv E)) ++ List.replicate (4 - (lg_sl (([(4, 0)] : List zV).map (rv E))).length) Slot.unset).toArray) [] := by
    rw [show ([Value.ref b] : List Value) = ([(4, 0)] : List zV).map (rv E) by show _ = [Value.ref (eB E)]; rw [e2]]
    exact lg_entry_eq _ _ _
  rw [hent]
  have hts2 : ∀ w ∈ zWS, w.before #[Value.ref b] s = true := fun w hw => hts w (List.mem_filter.mp hw).1
  refine z_body l E n 0 0 [(4, 0), (9, 0), (9, 0), (9, 0)] [] (zT0 L) (zV0 xs) (0, 1) T' V' ham p e room_1 s m #[Value.ref b] below meth c s.heap [] 0 0 T'.1 T'.2.1 _ _ ⟨hx, hb, hml, ?_, hts2, hKK, ?_⟩ rfl (by rw [hlv]; exact Nat.le_refl _) (by rw [hlv]; exact Nat.le_refl _) (by rw [hlv]; decide) (by show 0 + T'.1 = T'.1 + 0; omega) (by show 0 + T'.2.1 = T'.2.1 + 0; omega) hT1 hT2 ⟨?_, va_S.rf, hloc, ?_, fun w hw => by cases hw⟩ ?_
  · rw [hown0]; exact hown
  · intro h; exact absurd h (by decide +kernel)
  · refine ⟨by rw [e1]; rfl, fun k hk => absurd hk (Nat.not_lt_zero _), ?_, by rw [e3]; exact hL, fun j hj => ?_⟩
    · rw [e3]; rfl
    · rw [e4]; rfl
  · intro w hw
    simp only [List.mem_cons, List.not_mem_nil, or_false] at hw
    rcases hw with rfl | rfl | rfl | rfl <;> exact zokr (by decide)
  · intro pc ls H locs i hd hret hR' hV hvr
    have hi : i = .ireturn := by
      rcases hret with ⟨h, -⟩ | ⟨-, h, -⟩ | ⟨-, h, -⟩ | ⟨-, h, -⟩
      · exact h
      · exact absurd h (show ¬ (0 : Nat) = 1 by decide)
      · exact absurd h (show ¬ (0 : Nat) = 2 by decide)
      · exact absurd h (by simp)
    subst hi
    rw [hby] at hd
    refine va_forget (fun q hq => by have h := hV.2.2 q hq; have h : eZ E ≤ q.base := h; omega) ?_
    refine W.widen (k := 600000) (n := 7302250) hT1 hT2 ?_
    exact lw_ret hx hb hr hlocks hd
set_option maxHeartbeats 4000000 in
theorem lw_walk (hzl : zLaw) (l : Launch) (b : Addr) (xs : List Int32) : MetFree l x (headSpec (Jvm.Cond.code x code maxLocals ret :: tables_1) room_1) (lw_P b xs) (fun _ _ _ _ _ => True) lw_Q := by
  refine MetFree.of_bodyS (code := code) (maxLocals := maxLocals) (ret := ret) (by decide) ?_ ?_
  · intro args s m h hn
    obtain ⟨meth, c, h1, h2, h3, h4, h5, h6, -, -⟩ := Cond.code_spec hn (atoms_spec (ws := Jvm.Cond.code x code maxLocals ret :: tables_1) h _ List.mem_cons_self)
    exact ⟨meth, c, h1, h2, h3, h4, h5, h6⟩
  · intro p e s m args below meth c s₁ B hml0 hP _
    obtain ⟨rfl, hx, hbd, hgv⟩ := hP
    obtain ⟨scr, harrAt, hlist, hof, hsmall⟩ := hx
    obtain ⟨hcb, hkn, -, -⟩ := State.arrayAt?_spec harrAt
    have hown : s.vm.findClass R_law = some m.cls := findClass_of_methodNamed B.named
    have hts0 : ∀ c ∈ (Jvm.Cond.code x code maxLocals ret :: tables_1), c.before #[Value.ref b] s = true := atoms_spec (ws := Jvm.Cond.code x code maxLocals ret :: tables_1) B.pre
    have hts : ∀ w ∈ lw_tbl, w.before #[Value.ref b] s = true := k2_hts_sels lw_privs (fun w hw => hts0 w (List.mem_cons_of_mem _ hw)) lw_privs_ok
    have hml : c.maxLocals = 4 := B.maxLocals_eq (hts0 _ List.mem_cons_self)
    have X₀ : Stand p l e room_1 s m #[Value.ref b] below meth c s₁ [] 0 0 := Stand.of_body B
    have hh0 : s₁.heap = s.heap := by rw [B.state]; rfl
    have hsz : scr.slots.size = xs.length := by rw [← Array.length_toList, hlist, List.length_map]
    have hval : ∀ j : Nat, j < xs.length → scr.slots[j]? = some (.int (xs.getD j 0)) := fun j hj => by
      rw [← Array.getElem?_toList, hlist]
      simp [hj]
    have hbl : b < s.heap.size := (Array.getElem?_eq_some_iff.mp hcb).1
    have hX : va_X b xs.length (fun j => xs.getD j 0) s s.heap := ⟨scr, hcb, hof, hkn, hsz, hval⟩
    have K : W p l e room_1 s m #[Value.ref b] below meth c s₁.heap [] 0 0 (lw_Z below #[Value.ref b] s) (entryFrame m ([Value.ref b] : List Value).toArray 4) := by
      rw [hh0]
      exact whole_start hzl l hbd ⟨B.exec, B.bytes, B.returns, hml, hown, hts, hX, hbl, B.notSynchronized, hgv⟩
    obtain ⟨t, a1, o, b1, b2, b3⟩ := K s₁ rfl X₀
    exact ⟨t, o, a1, b1, b2, b3⟩
theorem lw_pre_spec {args : Array Value} {s : State} (h : (Jvm.Cond.and given_1 narrow_1).before args s = true) (hr : rest_1_c.before args s = true) : ∃ (b : Addr) (xs : List Int32), lw_P b xs args s := by
  have hs := flat_of_before _ h
  have hq := flat_of_before _ hr
  have hc : (Cond.count 1).before args s = true := hs _ (by decide +kernel)
  have harr : (Cond.arrayOf (.arg 0) .int).before args s = true := hs _ (by decide +kernel)
  have hle : (Cond.le (.length (.arg 0)) (.int 3072)).before args s = true := hs _ (by decide +kernel)
  have hlen : (Cond.isInt (.length (.arg 0))).before args s = true := hq _ (by decide +kernel)
  have hall : (Cond.all (.arg 0) (.isInt (.elem (.arg 0) (.index 0)))).before args s = true := hq _ (by decide +kernel)
  obtain ⟨b, xs, hb, hx⟩ := State.ints_of_pre rfl harr hlen hall
  have hsm : xs.length < 2 ^ 31 := hx.choose_spec.2.2.2
  have hev : (Term.length (.arg 0)).eval args s none [] s = some (.int xs.length.toInt32) := hx.length_eval hb
  have hv := Cond.le_ints hev (show (Term.int 3072).eval args s none [] s = some (.int 3072) from rfl)
  have hd : xs.length.toInt32 ≤ 3072 := by
    simpa [Cond.before, Cond.holds, hv] using hle
  have hN : xs.length ≤ 3072 := (Int32.ofNat_le_ofNat hsm (by decide)).mp (show Int32.ofNat xs.length ≤ Int32.ofNat 3072 from hd)
  exact ⟨b, xs, Cond.one_arg hc (show args[0]? = some (.ref b) from hb), hx, hN, h⟩
theorem lw_comes (hzl : zLaw) (l : Launch) : Comes l x (Jvm.Cond.code x code maxLocals ret :: tables_1) room_1 (fun tb e args s => Calls_1 tb e args s ∧ rest_1 tb e args s ∧ Pre_1 tb e args s)
    (fun _ _ args s o t => lw_Q args s o t) := by
  intro p e ha hc hk s m args below hf hfit hheap happ hpre
  obtain ⟨b, xs, hP⟩ := lw_pre_spec hpre.2.2 hpre.2.1
  obtain ⟨k, o, h1, h2, h3, hQ⟩ := lw_walk hzl l b xs p e ha hc hk s m args below hf ((Spec.applies_iff_loose hf).mp happ).1 hP trivial
  exact ⟨k, o, h1, h2, h3, hQ⟩
theorem lw_frame {s t : State} {o : Outcome} {args : Array Value} (h : Framed s o t [] 600000 7302250) :
    Framed s o t (fieldLocs frame_1_writes args s ++ arrayLocs frame_1_arrays args s ++ staticLocs frame_1_statics s) 600000 7302250 := h
theorem lw_limb (hzl : zLaw) (L : Cond) (hL : ∀ (args : Array Value) (s t : State), L.after args s (.returned (some (.int 1))) t = true) :
    ArmFor flags0 classFile x code maxLocals ret World_1 tables_1 room_1 Calls_1 rest_1 Pre_1
      (fun tb e a s o t => postC L tb e a s o t ∧ Framed s o t (fieldLocs frame_1_writes a s ++ arrayLocs frame_1_arrays a s ++ staticLocs frame_1_statics s) 600000 7302250) := by
  intro l _ _ _ p e ha hc hk s m args below hf hfit hheap happ hpre
  obtain ⟨k, o, h1, h2, h3, rfl, hF⟩ := lw_comes hzl l p e ha hc hk s m args below hf hfit hheap happ hpre
  exact ⟨k, _, h1, h2, h3, hL args s _, lw_frame hF⟩
theorem i_vc_of (hzl : zLaw) : Claimed_1_1 ∧ Claimed_1_2 := ⟨lw_limb hzl limb_1_1 (fun args s t => by simp [limb_1_1, Cond.after, Cond.holds, Cond.value]), lw_limb hzl limb_1_2 (fun args s t => Cond.after_iff.mpr (by
  first | (rw [show limb_1_2 = Cond.eq .result (.int 1) from rfl, Cond.eq_ints (x := 1) (y := 1) rfl rfl]; simp; done) | (simp [limb_1_2, Cond.value, Term.eval]; done)))⟩
end
section
/-! a step of AM as an equation, by its instruction -/
section ZEV
variable {k pc nx a : Nat} {b : Int} {ts : List Nat} {l st : List zV} {T : zT} {V : zM} {x y i : Int}
theorem ev_ci (h : zcode k pc = some (0, nx, a, b, ts)) (hb : z32 b) : ev k pc l st T V = ev k nx l ((0, b) :: st) T V := ev_go h (by simp only [z_step]; rw [if_pos hb]; rfl)
theorem ev_cl (h : zcode k pc = some (1, nx, a, b, ts)) (hb : z64 b) : ev k pc l st T V = ev k nx l ((1, b) :: st) T V := ev_go h (by simp only [z_step]; rw [if_pos hb]; rfl)
theorem ev_null (h : zcode k pc = some (2, nx, a, b, ts)) : ev k pc l st T V = ev k nx l ((2, -1) :: st) T V := ev_go h rfl
theorem ev_cs (h : zcode k pc = some (3, nx, a, b, ts)) (ha : a < 7) : ev k pc l st T V = ev k nx l ((3, (a : Int)) :: st) T V := ev_go h (by simp only [z_step]; rw [if_pos ha]; rfl)
theorem ev_ldi (h : zcode k pc = some (4, nx, a, b, ts)) (hl : l[a]? = some (0, x)) : ev k pc l st T V = ev k nx l ((0, x) :: st) T V := ev_go h (by simp only [z_step, zo_ld, hl]; rfl)
theorem ev_ldl (h : zcode k pc = some (5, nx, a, b, ts)) (hl : l[a]? = some (1, x)) : ev k pc l st T V = ev k nx l ((1, x) :: st) T V := ev_go h (by simp only [z_step, zo_ld, hl]; rfl)
theorem ev_lda (h : zcode k pc = some (6, nx, a, b, ts)) {t : Nat} (hl : l[a]? = some (t, x)) (ht : 2 ≤ t ∧ t ≤ 6) : ev k pc l st T V = ev k nx l ((t, x) :: st) T V := ev_go h (by simp only [z_step, zo_lda, hl]; rw [if_pos ht]; rfl)
theorem ev_sti (h : zcode k pc = some (7, nx, a, b, ts)) (ha : a < l.length ∧ (a = 0 ∨ (l.getD (a - 1) (9, 0)).1 ≠ 1)) : ev k pc l ((0, x) :: st) T V = ev k nx (l.set a (0, x)) st T V := ev_go h (by simp only [z_step, zo_st1]; rw [if_pos ⟨rfl, ha⟩]; rfl)
theorem ev_stl (h : zcode k pc = some (8, nx, a, b, ts)) (ha : a + 1 < l.length ∧ (a = 0 ∨ (l.getD (a - 1) (9, 0)).1 ≠ 1)) : ev k pc l ((1, x) :: st) T V = ev k nx ((l.set a (1, x)).set (a + 1) (9, 0)) st T V := ev_go h (by simp only [z_step, zo_st2]; rw [if_pos ⟨trivial, ha⟩]; rfl)
theorem ev_sta (h : zcode k pc = some (9, nx, a, b, ts)) (ha : a < l.length ∧ (a = 0 ∨ (l.getD (a - 1) (9, 0)).1 ≠ 1)) : ev k pc l ((2, x) :: st) T V = ev k nx (l.set a (2, x)) st T V := ev_go h (by simp only [z_step, zo_st1]; rw [if_pos ⟨rfl, ha⟩]; rfl)
theorem ev_inc (h : zcode k pc = some (10, nx, a, b, ts)) (hl : l[a]? = some (0, x)) (hr : z32 (x + b)) (ha : a = 0 ∨ (l.getD (a - 1) (9, 0)).1 ≠ 1) : ev k pc l st T V = ev k nx (l.set a (0, x + b)) st T V := ev_go h (by simp only [z_step, zo_inc, hl]; rw [if_pos ⟨trivial, hr, ha⟩]; rfl)
theorem ev_add (h : zcode k pc = some (11, nx, a, b, ts)) (hr : z32 (x + y)) : ev k pc l ((0, y) :: (0, x) :: st) T V = ev k nx l ((0, x + y) :: st) T V := ev_go h (by simp only [z_step, zo_bin]; rw [if_pos ⟨trivial, trivial⟩, if_pos hr]; rfl)
theorem ev_sub (h : zcode k pc = some (12, nx, a, b, ts)) (hr : z32 (x - y)) : ev k pc l ((0, y) :: (0, x) :: st) T V = ev k nx l ((0, x - y) :: st) T V := ev_go h (by simp only [z_step, zo_bin]; rw [if_pos ⟨trivial, trivial⟩, if_pos hr]; rfl)
theorem ev_mul (h : zcode k pc = some (13, nx, a, b, ts)) (hr : z32 (x * y)) : ev k pc l ((0, y) :: (0, x) :: st) T V = ev k nx l ((0, x * y) :: st) T V := ev_go h (by simp only [z_step, zo_bin]; rw [if_pos ⟨trivial, trivial⟩, if_pos hr]; rfl)
theorem ev_and (h : zcode k pc = some (14, nx, a, b, ts)) : ev k pc l ((0, y) :: (0, x) :: st) T V = ev k nx l ((0, zand x y) :: st) T V := ev_go h (by simp only [z_step, zo_bin]; rw [if_pos ⟨trivial, trivial⟩, if_pos trivial]; rfl)
theorem ev_or (h : zcode k pc = some (15, nx, a, b, ts)) : ev k pc l ((0, y) :: (0, x) :: st) T V = ev k nx l ((0, zor x y) :: st) T V := ev_go h (by simp only [z_step, zo_bin]; rw [if_pos ⟨trivial, trivial⟩, if_pos trivial]; rfl)
theorem ev_xor (h : zcode k pc = some (16, nx, a, b, ts)) : ev k pc l ((0, y) :: (0, x) :: st) T V = ev k nx l ((0, zxor x y) :: st) T V := ev_go h (by simp only [z_step, zo_bin]; rw [if_pos ⟨trivial, trivial⟩, if_pos trivial]; rfl)
theorem ev_div (h : zcode k pc = some (17, nx, a, b, ts)) (hr : 0 ≤ x ∧ 0 < y) : ev k pc l ((0, y) :: (0, x) :: st) T V = ev k nx l ((0, x / y) :: st) T V := ev_go h (by simp only [z_step, zo_bin]; rw [if_pos ⟨trivial, trivial⟩, if_pos hr]; rfl)
theorem ev_rem (h : zcode k pc = some (18, nx, a, b, ts)) (hr : 0 ≤ x ∧ 0 < y) : ev k pc l ((0, y) :: (0, x) :: st) T V = ev k nx l ((0, x % y) :: st) T V := ev_go h (by simp only [z_step, zo_bin]; rw [if_pos ⟨trivial, trivial⟩, if_pos hr]; rfl)
theorem ev_neg (h : zcode k pc = some (19, nx, a, b, ts)) (hr : z32 (-x)) : ev k pc l ((0, x) :: st) T V = ev k nx l ((0, -x) :: st) T V := ev_go h (by simp only [z_step, zo_un]; rw [if_pos trivial, if_pos hr]; rfl)
theorem ev_shl (h : zcode k pc = some (20, nx, a, b, ts)) (hr : 0 ≤ y ∧ y < 32 ∧ z32 (x * 2 ^ y.toNat)) : ev k pc l ((0, y) :: (0, x) :: st) T V = ev k nx l ((0, x * 2 ^ y.toNat) :: st) T V := ev_go h (by simp only [z_step, zo_bin]; rw [if_pos ⟨trivial, trivial⟩, if_pos hr]; rfl)
theorem ev_shr (h : zcode k pc = some (21, nx, a, b, ts)) (hr : 0 ≤ y ∧ y < 32) : ev k pc l ((0, y) :: (0, x) :: st) T V = ev k nx l ((0, x / 2 ^ y.toNat) :: st) T V := ev_go h (by simp only [z_step, zo_bin]; rw [if_pos ⟨trivial, trivial⟩, if_pos hr]; rfl)
theorem ev_ushr (h : zcode k pc = some (22, nx, a, b, ts)) (hr : 0 ≤ y ∧ y < 32) : ev k pc l ((0, y) :: (0, x) :: st) T V = ev k nx l ((0, if y = 0 then x else (x % 4294967296) / 2 ^ y.toNat) :: st) T V := ev_go h (by simp only [z_step, zo_bin]; rw [if_pos ⟨trivial, trivial⟩, if_pos hr]; rfl)
theorem ev_ladd (h : zcode k pc = some (23, nx, a, b, ts)) (hr : z64 (x + y)) : ev k pc l ((1, y) :: (1, x) :: st) T V = ev k nx l ((1, x + y) :: st) T V := ev_go h (by simp only [z_step, zo_bin]; rw [if_pos ⟨trivial, trivial⟩, if_pos hr]; rfl)
theorem ev_lsub (h : zcode k pc = some (24, nx, a, b, ts)) (hr : z64 (x - y)) : ev k pc l ((1, y) :: (1, x) :: st) T V = ev k nx l ((1, x - y) :: st) T V := ev_go h (by simp only [z_step, zo_bin]; rw [if_pos ⟨trivial, trivial⟩, if_pos hr]; rfl)
theorem ev_lmul (h : zcode k pc = some (25, nx, a, b, ts)) (hr : z64 (x * y)) : ev k pc l ((1, y) :: (1, x) :: st) T V = ev k nx l ((1, x * y) :: st) T V := ev_go h (by simp only [z_step, zo_bin]; rw [if_pos ⟨trivial, trivial⟩, if_pos hr]; rfl)
theorem ev_land (h : zcode k pc = some (26, nx, a, b, ts)) : ev k pc l ((1, y) :: (1, x) :: st) T V = ev k nx l ((1, zlnd x y) :: st) T V := ev_go h (by simp only [z_step, zo_bin]; rw [if_pos ⟨trivial, trivial⟩, if_pos trivial]; rfl)
theorem ev_lor (h : zcode k pc = some (27, nx, a, b, ts)) : ev k pc l ((1, y) :: (1, x) :: st) T V = ev k nx l ((1, zlor x y) :: st) T V := ev_go h (by simp only [z_step, zo_bin]; rw [if_pos ⟨trivial, trivial⟩, if_pos trivial]; rfl)
theorem ev_lrem (h : zcode k pc = some (28, nx, a, b, ts)) (hr : 0 ≤ x ∧ 0 < y) : ev k pc l ((1, y) :: (1, x) :: st) T V = ev k nx l ((1, x % y) :: st) T V := ev_go h (by simp only [z_step, zo_bin]; rw [if_pos ⟨trivial, trivial⟩, if_pos hr]; rfl)
theorem ev_lshl (h : zcode k pc = some (29, nx, a, b, ts)) (hr : 0 ≤ y ∧ y < 64 ∧ z64 (x * 2 ^ y.toNat)) : ev k pc l ((0, y) :: (1, x) :: st) T V = ev k nx l ((1, x * 2 ^ y.toNat) :: st) T V := ev_go h (by simp only [z_step, zo_lsh]; rw [if_pos ⟨trivial, trivial⟩, if_pos hr]; rfl)
theorem ev_lshr (h : zcode k pc = some (30, nx, a, b, ts)) (hr : 0 ≤ y ∧ y < 64) : ev k pc l ((0, y) :: (1, x) :: st) T V = ev k nx l ((1, x / 2 ^ y.toNat) :: st) T V := ev_go h (by simp only [z_step, zo_lsh]; rw [if_pos ⟨trivial, trivial⟩, if_pos hr]; rfl)
theorem ev_lcmp (h : zcode k pc = some (31, nx, a, b, ts)) : ev k pc l ((1, y) :: (1, x) :: st) T V = ev k nx l ((0, if y < x then 1 else if x = y then 0 else -1) :: st) T V := ev_go h (by simp only [z_step, zo_cmp]; rw [if_pos ⟨trivial, trivial⟩]; rfl)
theorem ev_i2l (h : zcode k pc = some (32, nx, a, b, ts)) : ev k pc l ((0, x) :: st) T V = ev k nx l ((1, x) :: st) T V := ev_go h (by simp only [z_step, zo_un]; rw [if_pos trivial, if_pos trivial]; rfl)
theorem ev_l2i (h : zcode k pc = some (33, nx, a, b, ts)) (hr : z32 x) : ev k pc l ((1, x) :: st) T V = ev k nx l ((0, x) :: st) T V := ev_go h (by simp only [z_step, zo_un]; rw [if_pos trivial, if_pos hr]; rfl)
theorem ev_i2b (h : zcode k pc = some (34, nx, a, b, ts)) : ev k pc l ((0, x) :: st) T V = ev k nx l ((0, (x + 128) % 256 - 128) :: st) T V := ev_go h (by simp only [z_step, zo_un]; rw [if_pos trivial, if_pos trivial]; rfl)
theorem ev_i2c (h : zcode k pc = some (35, nx, a, b, ts)) (hr : 0 ≤ x ∧ x ≤ 65535) : ev k pc l ((0, x) :: st) T V = ev k nx l ((0, x) :: st) T V := ev_go h (by simp only [z_step, zo_un]; rw [if_pos trivial, if_pos hr]; rfl)
theorem ev_dup (h : zcode k pc = some (36, nx, a, b, ts)) {t : Nat} (ht : t = 0 ∨ t = 2) : ev k pc l ((t, x) :: st) T V = ev k nx l ((t, x) :: (t, x) :: st) T V := ev_go h (by simp only [z_step, zo_dup]; rw [if_pos ht]; rfl)
theorem ev_pop (h : zcode k pc = some (37, nx, a, b, ts)) {t : Nat} (ht : t = 0 ∨ t = 2) : ev k pc l ((t, x) :: st) T V = ev k nx l st T V := ev_go h (by simp only [z_step, zo_pop]; rw [if_pos ht]; rfl)
theorem ev_dup2 (h : zcode k pc = some (38, nx, a, b, ts)) {t u : Nat} (ht : (t = 0 ∨ t = 2) ∧ (u = 0 ∨ u = 2)) : ev k pc l ((t, y) :: (u, x) :: st) T V = ev k nx l ((t, y) :: (u, x) :: (t, y) :: (u, x) :: st) T V := ev_go h (by simp only [z_step, zo_dup2]; rw [if_pos ht]; rfl)
theorem ev_if1 {op : Nat} {g : Int → Prop} {dg : ∀ x, Decidable (g x)} (h : zcode k pc = some (op, nx, a, b, ts)) (hz : z_step (op, nx, a, b, ts) l ((0, x) :: st) T V = zo_if1 g dg nx a l ((0, x) :: st) T V) : ev k pc l ((0, x) :: st) T V = @ite _ (g x) (dg x) (ev k a l st T V) (ev k nx l st T V) := by
  by_cases hg : g x
  · rw [if_pos hg]; exact ev_go h (by rw [hz]; simp only [zo_if1]; rw [if_pos trivial, if_pos hg]; rfl)
  · rw [if_neg hg]; exact ev_go h (by rw [hz]; simp only [zo_if1]; rw [if_pos trivial, if_neg hg]; rfl)
theorem ev_eq (h : zcode k pc = some (40, nx, a, b, ts)) : ev k pc l ((0, x) :: st) T V = if x = 0 then ev k a l st T V else ev k nx l st T V := ev_if1 (g := fun x => x = 0) (dg := fun _ => inferInstance) h rfl
theorem ev_ne (h : zcode k pc = some (41, nx, a, b, ts)) : ev k pc l ((0, x) :: st) T V = if x = 0 then ev k nx l st T V else ev k a l st T V := by
  rw [ev_if1 (g := fun x => ¬ x = 0) (dg := fun _ => inferInstance) h rfl]
  by_cases hx : x = 0 <;> simp [hx]
theorem ev_lt (h : zcode k pc = some (42, nx, a, b, ts)) : ev k pc l ((0, x) :: st) T V = if x < 0 then ev k a l st T V else ev k nx l st T V := ev_if1 (g := fun x => x < 0) (dg := fun _ => inferInstance) h rfl
theorem ev_ge (h : zcode k pc = some (43, nx, a, b, ts)) : ev k pc l ((0, x) :: st) T V = if 0 ≤ x then ev k a l st T V else ev k nx l st T V := ev_if1 (g := fun x => 0 ≤ x) (dg := fun _ => inferInstance) h rfl
theorem ev_gt (h : zcode k pc = some (44, nx, a, b, ts)) : ev k pc l ((0, x) :: st) T V = if 0 < x then ev k a l st T V else ev k nx l st T V := ev_if1 (g := fun x => 0 < x) (dg := fun _ => inferInstance) h rfl
theorem ev_le (h : zcode k pc = some (45, nx, a, b, ts)) : ev k pc l ((0, x) :: st) T V = if x ≤ 0 then ev k a l st T V else ev k nx l st T V := ev_if1 (g := fun x => x ≤ 0) (dg := fun _ => inferInstance) h rfl
theorem ev_if2 {op : Nat} {g : Int → Int → Prop} {dg : ∀ x y, Decidable (g x y)} (h : zcode k pc = some (op, nx, a, b, ts)) (hz : z_step (op, nx, a, b, ts) l ((0, y) :: (0, x) :: st) T V = zo_if2 g dg nx a l ((0, y) :: (0, x) :: st) T V) : ev k pc l ((0, y) :: (0, x) :: st) T V = @ite _ (g x y) (dg x y) (ev k a l st T V) (ev k nx l st T V) := by
  by_cases hg : g x y
  · rw [if_pos hg]; exact ev_go h (by rw [hz]; simp only [zo_if2]; rw [if_pos ⟨trivial, trivial⟩, if_pos hg]; rfl)
  · rw [if_neg hg]; exact ev_go h (by rw [hz]; simp only [zo_if2]; rw [if_pos ⟨trivial, trivial⟩, if_neg hg]; rfl)
theorem ev_ceq (h : zcode k pc = some (46, nx, a, b, ts)) : ev k pc l ((0, y) :: (0, x) :: st) T V = if x = y then ev k a l st T V else ev k nx l st T V := ev_if2 (g := fun x y => x = y) (dg := fun _ _ => inferInstance) h rfl
theorem ev_cne (h : zcode k pc = some (47, nx, a, b, ts)) : ev k pc l ((0, y) :: (0, x) :: st) T V = if x = y then ev k nx l st T V else ev k a l st T V := by
  rw [ev_if2 (g := fun x y => ¬ x = y) (dg := fun _ _ => inferInstance) h rfl]
  by_cases hx : x = y <;> simp [hx]
theorem ev_clt (h : zcode k pc = some (48, nx, a, b, ts)) : ev k pc l ((0, y) :: (0, x) :: st) T V = if x < y then ev k a l st T V else ev k nx l st T V := ev_if2 (g := fun x y => x < y) (dg := fun _ _ => inferInstance) h rfl
theorem ev_cge (h : zcode k pc = some (49, nx, a, b, ts)) : ev k pc l ((0, y) :: (0, x) :: st) T V = if y ≤ x then ev k a l st T V else ev k nx l st T V := ev_if2 (g := fun x y => y ≤ x) (dg := fun _ _ => inferInstance) h rfl
theorem ev_cgt (h : zcode k pc = some (50, nx, a, b, ts)) : ev k pc l ((0, y) :: (0, x) :: st) T V = if y < x then ev k a l st T V else ev k nx l st T V := ev_if2 (g := fun x y => y < x) (dg := fun _ _ => inferInstance) h rfl
theorem ev_cle (h : zcode k pc = some (51, nx, a, b, ts)) : ev k pc l ((0, y) :: (0, x) :: st) T V = if x ≤ y then ev k a l st T V else ev k nx l st T V := ev_if2 (g := fun x y => x ≤ y) (dg := fun _ _ => inferInstance) h rfl
theorem ev_nn (h : zcode k pc = some (52, nx, a, b, ts)) : ev k pc l ((2, x) :: st) T V = if 0 ≤ x then ev k a l st T V else ev k nx l st T V := by
  by_cases hg : 0 ≤ x
  · rw [if_pos hg]; exact ev_go h (by simp only [z_step, zo_nn]; rw [if_pos trivial, if_pos hg]; rfl)
  · rw [if_neg hg]; exact ev_go h (by simp only [z_step, zo_nn]; rw [if_pos trivial, if_neg hg]; rfl)
theorem ev_goto (h : zcode k pc = some (53, nx, a, b, ts)) : ev k pc l st T V = ev k a l st T V := ev_go h rfl
theorem ev_sw (h : zcode k pc = some (54, nx, a, b, ts)) : ev k pc l ((0, x) :: st) T V = ev k (if b ≤ x ∧ x < b + (ts.length : Int) - 1 then ts.getD ((x - b).toNat + 1) 0 else ts.getD 0 0) l st T V := by
  by_cases hg : b ≤ x ∧ x < b + (ts.length : Int) - 1
  · rw [if_pos hg]; exact ev_go h (by simp only [z_step, zo_sw]; rw [if_pos trivial, if_pos hg]; rfl)
  · rw [if_neg hg]; exact ev_go h (by simp only [z_step, zo_sw]; rw [if_pos trivial, if_neg hg]; rfl)
/-- an object of class c, an array of kind c and length n -/
def zO (T : zT) (x c : Int) : Prop := 0 ≤ x ∧ x < zsz T ∧ zc T x = c + 10
def zAr (T : zT) (x c n : Int) : Prop := (0 ≤ x ∧ x < zsz T ∧ zc T x = c) ∧ zl T x = n
theorem ev_gi (h : zcode k pc = some (55, nx, a, b, ts)) (hx : zO T x (a : Int)) : ev k pc l ((2, x) :: st) T V = ev k nx l ((0, V x b) :: st) T V := ev_go h (by simp only [z_step, zo_get]; rw [if_pos ⟨trivial, hx⟩]; rfl)
theorem ev_gr (h : zcode k pc = some (56, nx, a, b, ts)) (hx : zO T x (a : Int)) : ev k pc l ((2, x) :: st) T V = ev k nx l ((2, zp T x b) :: st) T V := ev_go h (by simp only [z_step, zo_get]; rw [if_pos ⟨trivial, hx⟩]; rfl)
theorem ev_gq (h : zcode k pc = some (56, nx, a, b, ts)) (hx : zO T x (a : Int)) (hq : zp T x b = y) : ev k pc l ((2, x) :: st) T V = ev k nx l ((2, y) :: st) T V := by rw [ev_gr h hx, hq]
theorem ev_pi (h : zcode k pc = some (57, nx, a, b, ts)) (hx : zO T x (a : Int)) : ev k pc l ((0, y) :: (2, x) :: st) T V = ev k nx l st T (zs V x (zu (V x) b y)) := ev_go h (by simp only [z_step, zo_put]; rw [if_pos ⟨⟨trivial, trivial⟩, hx⟩, if_pos trivial]; rfl)
theorem ev_pz (h : zcode k pc = some (58, nx, a, b, ts)) (hx : zO T x (a : Int)) (hy : 0 ≤ y ∧ y ≤ 1) : ev k pc l ((0, y) :: (2, x) :: st) T V = ev k nx l st T (zs V x (zu (V x) b y)) := ev_go h (by simp only [z_step, zo_put]; rw [if_pos ⟨⟨trivial, trivial⟩, hx⟩, if_pos hy]; rfl)
theorem ev_pr (h : zcode k pc = some (59, nx, a, b, ts)) (hx : zO T x (a : Int)) : ev k pc l ((2, y) :: (2, x) :: st) T V = ev k nx l st (zq T x (zu (zp T x) b y)) V := ev_go h (by simp only [z_step, zo_putr]; rw [if_pos ⟨⟨trivial, trivial⟩, hx⟩]; rfl)
theorem ev_scr (h : zcode k pc = some (60, nx, a, b, ts)) (hi : 0 ≤ i ∧ i < zl T (-2)) : ev k pc l ((0, i) :: (4, x) :: st) T V = ev k nx l ((0, V (-2) i) :: st) T V := ev_go h (by simp only [z_step, zo_ild]; rw [if_pos trivial, if_pos ⟨trivial, hi⟩]; rfl)
theorem ev_ia (h : zcode k pc = some (60, nx, a, b, ts)) {n : Int} (hx : zAr T x 0 n) (hi : 0 ≤ i ∧ i < n) : ev k pc l ((0, i) :: (2, x) :: st) T V = ev k nx l ((0, V x i) :: st) T V := ev_go h (by obtain ⟨h1, h2⟩ := hx; rw [← h2] at hi; simp only [z_step, zo_ild]; rw [if_neg (by decide)]; simp only [zo_ald]; rw [if_pos ⟨⟨trivial, trivial⟩, h1, hi⟩]; rfl)
theorem ev_la (h : zcode k pc = some (61, nx, a, b, ts)) {n : Int} (hx : zAr T x 1 n) (hi : 0 ≤ i ∧ i < n) : ev k pc l ((0, i) :: (2, x) :: st) T V = ev k nx l ((1, V x i) :: st) T V := ev_go h (by obtain ⟨h1, h2⟩ := hx; rw [← h2] at hi; simp only [z_step, zo_ald]; rw [if_pos ⟨⟨trivial, trivial⟩, h1, hi⟩]; rfl)
theorem ev_za (h : zcode k pc = some (62, nx, a, b, ts)) {n : Int} (hx : zAr T x 3 n) (hi : 0 ≤ i ∧ i < n) : ev k pc l ((0, i) :: (2, x) :: st) T V = ev k nx l ((0, V x i) :: st) T V := ev_go h (by obtain ⟨h1, h2⟩ := hx; rw [← h2] at hi; simp only [z_step, zo_bld]; rw [if_neg (by decide), if_pos ⟨trivial, h1.2.2⟩]; simp only [zo_ald]; rw [if_pos ⟨⟨trivial, trivial⟩, h1, hi⟩]; rfl)
theorem ev_ba (h : zcode k pc = some (62, nx, a, b, ts)) {n : Int} (hx : zAr T x 2 n) (hi : 0 ≤ i ∧ i < n) : ev k pc l ((0, i) :: (2, x) :: st) T V = ev k nx l ((0, V x i) :: st) T V := ev_go h (by obtain ⟨h1, h2⟩ := hx; rw [← h2] at hi; simp only [z_step, zo_bld]; rw [if_neg (by decide), if_neg (by rw [h1.2.2]; decide)]; simp only [zo_ald]; rw [if_pos ⟨⟨trivial, trivial⟩, h1, hi⟩]; rfl)
theorem ev_ca (h : zcode k pc = some (62, nx, a, b, ts)) (hx : 0 ≤ x ∧ x < 7) (hi : 0 ≤ i ∧ i < ((z_str x).length : Int)) : ev k pc l ((0, i) :: (5, x) :: st) T V = ev k nx l ((0, (z_str x).getD i.toNat 0) :: st) T V := ev_go h (by simp only [z_step, zo_bld]; rw [if_pos trivial, if_pos ⟨trivial, hx, hi⟩]; rfl)
theorem ev_qa (h : zcode k pc = some (63, nx, a, b, ts)) {n : Int} (hx : zAr T x 4 n) (hi : 0 ≤ i ∧ i < n) : ev k pc l ((0, i) :: (2, x) :: st) T V = ev k nx l ((2, zp T x i) :: st) T V := ev_go h (by obtain ⟨h1, h2⟩ := hx; rw [← h2] at hi; simp only [z_step, zo_ald]; rw [if_pos ⟨⟨trivial, trivial⟩, h1, hi⟩]; rfl)
theorem ev_is (h : zcode k pc = some (64, nx, a, b, ts)) {n : Int} (hx : zAr T x 0 n) (hi : 0 ≤ i ∧ i < n) : ev k pc l ((0, y) :: (0, i) :: (2, x) :: st) T V = ev k nx l st T (zs V x (zu (V x) i y)) := ev_go h (by obtain ⟨h1, h2⟩ := hx; rw [← h2] at hi; simp only [z_step, zo_ast]; rw [if_pos ⟨⟨trivial, trivial, trivial⟩, h1, hi⟩, if_pos trivial]; rfl)
theorem ev_ls (h : zcode k pc = some (65, nx, a, b, ts)) {n : Int} (hx : zAr T x 1 n) (hi : 0 ≤ i ∧ i < n) : ev k pc l ((1, y) :: (0, i) :: (2, x) :: st) T V = ev k nx l st T (zs V x (zu (V x) i y)) := ev_go h (by obtain ⟨h1, h2⟩ := hx; rw [← h2] at hi; simp only [z_step, zo_ast]; rw [if_pos ⟨⟨trivial, trivial, trivial⟩, h1, hi⟩, if_pos trivial]; rfl)
theorem ev_zs (h : zcode k pc = some (66, nx, a, b, ts)) {n : Int} (hx : zAr T x 3 n) (hi : 0 ≤ i ∧ i < n) (hy : 0 ≤ y ∧ y ≤ 1) : ev k pc l ((0, y) :: (0, i) :: (2, x) :: st) T V = ev k nx l st T (zs V x (zu (V x) i y)) := ev_go h (by obtain ⟨h1, h2⟩ := hx; rw [← h2] at hi; simp only [z_step, zo_bst]; rw [if_pos h1.2.2]; simp only [zo_ast]; rw [if_pos ⟨⟨trivial, trivial, trivial⟩, h1, hi⟩, if_pos hy]; rfl)
theorem ev_bs (h : zcode k pc = some (66, nx, a, b, ts)) {n : Int} (hx : zAr T x 2 n) (hi : 0 ≤ i ∧ i < n) (hy : -128 ≤ y ∧ y ≤ 127) : ev k pc l ((0, y) :: (0, i) :: (2, x) :: st) T V = ev k nx l st T (zs V x (zu (V x) i y)) := ev_go h (by obtain ⟨h1, h2⟩ := hx; rw [← h2] at hi; simp only [z_step, zo_bst]; rw [if_neg (by rw [h1.2.2]; decide)]; simp only [zo_ast]; rw [if_pos ⟨⟨trivial, trivial, trivial⟩, h1, hi⟩, if_pos hy]; rfl)
theorem ev_qs (h : zcode k pc = some (67, nx, a, b, ts)) {n : Int} (hx : zAr T x 4 n) (hi : 0 ≤ i ∧ i < n) (hy : zO T y 6) : ev k pc l ((2, y) :: (0, i) :: (2, x) :: st) T V = ev k nx l st (zq T x (zu (zp T x) i y)) V := ev_go h (by obtain ⟨h1, h2⟩ := hx; rw [← h2] at hi; simp only [z_step, zo_qst]; rw [if_pos ⟨⟨trivial, trivial, trivial⟩, hy, h1, hi⟩]; rfl)
theorem ev_slen (h : zcode k pc = some (68, nx, a, b, ts)) : ev k pc l ((4, x) :: st) T V = ev k nx l ((0, zl T (-2)) :: st) T V := ev_go h (by simp only [z_step, zo_len]; rw [if_pos trivial]; rfl)
theorem ev_clen (h : zcode k pc = some (68, nx, a, b, ts)) (hx : 0 ≤ x ∧ x < 7) : ev k pc l ((5, x) :: st) T V = ev k nx l ((0, ((z_str x).length : Int)) :: st) T V := ev_go h (by simp only [z_step, zo_len]; rw [if_neg (by decide), if_pos trivial, if_pos hx]; rfl)
theorem ev_len (h : zcode k pc = some (68, nx, a, b, ts)) {n c : Int} (hx : zAr T x c n) (hc : 0 ≤ c ∧ c ≤ 4) : ev k pc l ((2, x) :: st) T V = ev k nx l ((0, n) :: st) T V := ev_go h (by obtain ⟨⟨h1, h2, h3⟩, h4⟩ := hx; rw [← h4]; rw [← h3] at hc; simp only [z_step, zo_len]; rw [if_neg (by decide), if_neg (by decide), if_pos ⟨trivial, ⟨h1, h2⟩, hc⟩]; rfl)
theorem ev_new (h : zcode k pc = some (69, nx, a, b, ts)) (ha : a < 13) : ev k pc l st T V = ev k nx l ((2, zsz T) :: st) (zn T ((a : Int) + 10) (zfN a : Int)) (zs V (zsz T) (fun _ => 0)) := ev_go h (by simp only [z_step, zo_new]; rw [if_pos ha]; rfl)
theorem ev_narr (h : zcode k pc = some (70, nx, a, b, ts)) (hx : 0 ≤ x ∧ x ≤ 1000000) : ev k pc l ((0, x) :: st) T V = ev k nx l ((2, zsz T) :: st) (zn T (a : Int) x) (zs V (zsz T) (fun _ => 0)) := ev_go h (by simp only [z_step, zo_nar]; rw [if_pos ⟨trivial, hx⟩]; rfl)
theorem ev_anew (h : zcode k pc = some (71, nx, a, b, ts)) (hx : 0 ≤ x ∧ x ≤ 1000000) : ev k pc l ((0, x) :: st) T V = ev k nx l ((2, zsz T) :: st) (zn T 4 x) (zs V (zsz T) (fun _ => 0)) := ev_go h (by simp only [z_step, zo_nar]; rw [if_pos ⟨trivial, hx⟩]; rfl)
theorem ev_rv (h : zcode k pc = some (72, nx, a, b, ts)) {t : Nat} (hx : (a = 0 ∧ t = 0) ∨ (a = 1 ∧ t = 1) ∨ (a = 2 ∧ t = 2) ∨ (a = 3 ∧ t = 0 ∧ 0 ≤ x ∧ x ≤ 1) ∨ (a = 4 ∧ t = 0 ∧ -128 ≤ x ∧ x ≤ 127) ∨ (a = 5 ∧ t = 0 ∧ 0 ≤ x ∧ x ≤ 65535)) : ev k pc l [(t, x)] T V = some ((t, x), T, V) := ev_end h (by simp only [z_step, zo_ret]; rw [if_pos hx])
theorem ev_rz (h : zcode k pc = some (72, nx, 3, b, ts)) (hx : 0 ≤ x ∧ x ≤ 1) : ev k pc l [(0, x)] T V = some ((0, x), T, V) := ev_rv h (Or.inr (Or.inr (Or.inr (Or.inl ⟨rfl, rfl, hx⟩))))
theorem ev_rb (h : zcode k pc = some (72, nx, 4, b, ts)) (hx : -128 ≤ x ∧ x ≤ 127) : ev k pc l [(0, x)] T V = some ((0, x), T, V) := ev_rv h (Or.inr (Or.inr (Or.inr (Or.inr (Or.inl ⟨rfl, rfl, hx⟩)))))
theorem ev_rc (h : zcode k pc = some (72, nx, 5, b, ts)) (hx : 0 ≤ x ∧ x ≤ 65535) : ev k pc l [(0, x)] T V = some ((0, x), T, V) := ev_rv h (Or.inr (Or.inr (Or.inr (Or.inr (Or.inr ⟨rfl, rfl, hx⟩)))))
theorem ev_ri (h : zcode k pc = some (72, nx, 0, b, ts)) : ev k pc l [(0, x)] T V = some ((0, x), T, V) := ev_rv h (Or.inl ⟨rfl, rfl⟩)
theorem ev_rl (h : zcode k pc = some (72, nx, 1, b, ts)) : ev k pc l [(1, x)] T V = some ((1, x), T, V) := ev_rv h (Or.inr (Or.inl ⟨rfl, rfl⟩))
theorem ev_rr (h : zcode k pc = some (72, nx, 2, b, ts)) : ev k pc l [(2, x)] T V = some ((2, x), T, V) := ev_rv h (Or.inr (Or.inr (Or.inl ⟨rfl, rfl⟩)))
theorem ev_rn (h : zcode k pc = some (73, nx, a, b, ts)) : ev k pc l [] T V = some ((9, 0), T, V) := ev_end h rfl
/-- calls: the arguments, and what is left -/
theorem ev_cstat {args rest : List zV} (h : zcode k pc = some (74, nx, a, b, ts)) (hst : st = args.reverse ++ rest) (hb : b.toNat = args.length) (hc : zcat rest ≤ 8) (hl : zlv a < zlv k ∧ (z_sp args).length ≤ zmL a) : ev k pc l st T V = (zcall a args T V).bind fun x => ev k nx l (z_push x.1 rest) x.2.1 x.2.2 := by
  subst hst
  have e1 : (args.reverse ++ rest).take b.toNat = args.reverse := by rw [hb, ← List.length_reverse]; exact List.take_left
  have e2 : (args.reverse ++ rest).drop b.toNat = rest := by rw [hb, ← List.length_reverse]; exact List.drop_left
  refine ev_call h ?_ hl
  simp only [z_step, zo_call]
  rw [e1, e2, List.reverse_reverse, if_pos ⟨by rw [hb, List.length_append, List.length_reverse]; omega, hc⟩]
theorem ev_cspec {args rest : List zV} (h : zcode k pc = some (75, nx, a, b, ts)) (hst : st = ((2, x) :: args).reverse ++ rest) (hx : 0 ≤ x) (hb : b.toNat = args.length + 1) (hc : zcat rest ≤ 8) (hl : zlv a < zlv k ∧ (z_sp ((2, x) :: args)).length ≤ zmL a) : ev k pc l st T V = (zcall a ((2, x) :: args) T V).bind fun x => ev k nx l (z_push x.1 rest) x.2.1 x.2.2 := by
  subst hst
  have e1 : (((2, x) :: args).reverse ++ rest).take b.toNat = ((2, x) :: args).reverse := by rw [hb, ← List.length_cons (a := ((2 : Nat), x)), ← List.length_reverse]; exact List.take_left
  have e2 : (((2, x) :: args).reverse ++ rest).drop b.toNat = rest := by rw [hb, ← List.length_cons (a := ((2 : Nat), x)), ← List.length_reverse]; exact List.drop_left
  refine ev_call h ?_ hl
  simp only [z_step, zo_callI]
  rw [e1, List.reverse_reverse]
  simp only
  rw [if_pos ⟨trivial, hx⟩]
  simp only [zo_call]
  rw [e1, e2, List.reverse_reverse, if_pos ⟨by rw [hb, List.length_append, List.length_reverse, List.length_cons]; omega, hc⟩]
theorem ev_cvirt {args rest : List zV} {c : Nat} (h : zcode k pc = some (76, nx, a, b, [c])) (hst : st = ((2, x) :: args).reverse ++ rest) (hx : zO T x (c : Int)) (hb : b.toNat = args.length + 1) (hc : zcat rest ≤ 8) (hl : zlv a < zlv k ∧ (z_sp ((2, x) :: args)).length ≤ zmL a) : ev k pc l st T V = (zcall a ((2, x) :: args) T V).bind fun x => ev k nx l (z_push x.1 rest) x.2.1 x.2.2 := by
  subst hst
  have e1 : (((2, x) :: args).reverse ++ rest).take b.toNat = ((2, x) :: args).reverse := by rw [hb, ← List.length_cons (a := ((2 : Nat), x)), ← List.length_reverse]; exact List.take_left
  have e2 : (((2, x) :: args).reverse ++ rest).drop b.toNat = rest := by rw [hb, ← List.length_cons (a := ((2 : Nat), x)), ← List.length_reverse]; exact List.drop_left
  refine ev_call h ?_ hl
  simp only [z_step, zo_callV]
  rw [e1, List.reverse_reverse]
  simp only
  rw [if_pos ⟨trivial, hx⟩]
  simp only [zo_call]
  rw [e1, e2, List.reverse_reverse, if_pos ⟨by rw [hb, List.length_append, List.length_reverse, List.length_cons]; omega, hc⟩]
theorem ev_cstr {args rest : List zV} (h : zcode k pc = some (77, nx, a, b, ts)) (hst : st = ((3, x) :: args).reverse ++ rest) (hx : 0 ≤ x ∧ x < 7) (hb : b.toNat = args.length + 1) (hc : zcat rest ≤ 8) (hl : zlv a < zlv k ∧ (z_sp ((3, x) :: args)).length ≤ zmL a) : ev k pc l st T V = (zcall a ((3, x) :: args) T V).bind fun x => ev k nx l (z_push x.1 rest) x.2.1 x.2.2 := by
  subst hst
  have e1 : (((3, x) :: args).reverse ++ rest).take b.toNat = ((3, x) :: args).reverse := by rw [hb, ← List.length_cons (a := ((3 : Nat), x)), ← List.length_reverse]; exact List.take_left
  have e2 : (((3, x) :: args).reverse ++ rest).drop b.toNat = rest := by rw [hb, ← List.length_cons (a := ((3 : Nat), x)), ← List.length_reverse]; exact List.drop_left
  refine ev_call h ?_ hl
  simp only [z_step, zo_callS]
  rw [e1, List.reverse_reverse]
  simp only
  rw [if_pos ⟨trivial, hx⟩]
  simp only [zo_call]
  rw [e1, e2, List.reverse_reverse, if_pos ⟨by rw [hb, List.length_append, List.length_reverse, List.length_cons]; omega, hc⟩]
theorem ev_obj (h : zcode k pc = some (78, nx, a, b, ts)) (hx : 0 ≤ x ∧ zcat st ≤ 8) : ev k pc l ((2, x) :: st) T V = ev k nx l st T V := ev_go h (by simp only [z_step, zo_obj]; rw [if_pos ⟨trivial, hx⟩]; rfl)
theorem ev_cpyi (h : zcode k pc = some (79, nx, a, b, ts)) {n dp d sp s nd ns c : Int} (hc : c = 0 ∨ c = 1) (hs : zAr T s c ns) (hd : zAr T d c nd) (hne : s ≠ d) (hr : 0 ≤ n ∧ 0 ≤ sp ∧ 0 ≤ dp ∧ sp + n ≤ ns ∧ dp + n ≤ nd) (hq : zcat st ≤ 8) : ev k pc l ((0, n) :: (0, dp) :: (2, d) :: (0, sp) :: (2, s) :: st) T V = ev k nx l st T (zs V d (zcpy (V s) (V d) sp dp n)) := ev_go h (by
  obtain ⟨⟨h1, h2, h3⟩, h4⟩ := hs
  obtain ⟨⟨g1, g2, g3⟩, g4⟩ := hd
  rw [← h4, ← g4] at hr
  rw [← h3] at hc
  simp only [z_step, zo_cpy]
  rw [if_pos ⟨⟨trivial, trivial, trivial, trivial, trivial⟩, ⟨h1, h2, g1, g2⟩, ⟨by rw [h3, g3], hc⟩, hne, hr, hq⟩]; rfl)
theorem ev_cst (h : zcode k pc = some (80, nx, a, b, ts)) : ev k pc l st T V = ev k nx l ((0, 1) :: st) T V := ev_go h rfl
theorem ev_fst (h : zcode k pc = some (81, nx, a, b, ts)) : ev k pc l st T V = ev k nx l ((6, 0) :: st) T V := ev_go h rfl
theorem ev_strv (h : zcode k pc = some (82, nx, a, b, ts)) (hx : 0 ≤ x ∧ x < 7) : ev k pc l ((3, x) :: st) T V = ev k nx l ((5, x) :: st) T V := ev_go h (by simp only [z_step, zo_strv]; rw [if_pos ⟨trivial, hx⟩]; rfl)
theorem ev_strc (h : zcode k pc = some (83, nx, a, b, ts)) (hx : 0 ≤ x ∧ x < 7) : ev k pc l ((3, x) :: st) T V = ev k nx l ((0, 0) :: st) T V := ev_go h (by simp only [z_step, zo_strc]; rw [if_pos ⟨trivial, hx⟩]; rfl)
theorem ev_max (h : zcode k pc = some (84, nx, a, b, ts)) (hc : zcat st ≤ 8) : ev k pc l ((0, y) :: (0, x) :: st) T V = ev k nx l ((0, max x y) :: st) T V := ev_go h (by simp only [z_step, zo_mm]; rw [if_pos ⟨trivial, trivial, hc⟩]; rfl)
theorem ev_min (h : zcode k pc = some (85, nx, a, b, ts)) (hc : zcat st ≤ 8) : ev k pc l ((0, y) :: (0, x) :: st) T V = ev k nx l ((0, min x y) :: st) T V := ev_go h (by simp only [z_step, zo_mm]; rw [if_pos ⟨trivial, trivial, hc⟩]; rfl)
theorem ev_minl (h : zcode k pc = some (86, nx, a, b, ts)) (hc : zcat st ≤ 8) : ev k pc l ((1, y) :: (1, x) :: st) T V = ev k nx l ((1, min x y) :: st) T V := ev_go h (by simp only [z_step, zo_mm]; rw [if_pos ⟨trivial, trivial, hc⟩]; rfl)
end ZEV
end
section
/-! the owed statement -/
theorem z_law : zLaw := sorry
theorem i_vc : Claimed_1_1 ∧ Claimed_1_2 := i_vc_of z_law
end
