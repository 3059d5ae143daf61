/-- a private method of a class that the tables say can be made, by its rows of tables_1 -/
def lw_okq (q : MethodName × Nat) : Prop := (q.1.cls ≠ "java/lang/invoke/MethodHandle" ∧ q.1.cls ≠ "java/lang/invoke/VarHandle") ∧ Cond.instantiable q.1.cls q.2 ∈ tables_1 ∧ Cond.privateMethod q.1 ∈ tables_1 ∧ Cond.instanceMethod q.1 ∈ tables_1
theorem lw_p0 : lw_okq (⟨"ANailInTheWall$Wall", "woodsByLaw", "(I)I"⟩, 14) := ⟨⟨by decide +kernel, by decide +kernel⟩, List.mem_of_getElem? (i := 25) (by decide +kernel), List.mem_of_getElem? (i := 35) (by decide +kernel), List.mem_of_getElem? (i := 36) (by decide +kernel)⟩
theorem lw_p1 : lw_okq (⟨"ANailInTheWall$Wall", "byLeft", "(I)I"⟩, 14) := ⟨⟨by decide +kernel, by decide +kernel⟩, List.mem_of_getElem? (i := 25) (by decide +kernel), List.mem_of_getElem? (i := 39) (by decide +kernel), List.mem_of_getElem? (i := 40) (by decide +kernel)⟩
theorem lw_p2 : lw_okq (⟨"ANailInTheWall$Wall", "byDoored", "(I)I"⟩, 14) := ⟨⟨by decide +kernel, by decide +kernel⟩, List.mem_of_getElem? (i := 25) (by decide +kernel), List.mem_of_getElem? (i := 43) (by decide +kernel), List.mem_of_getElem? (i := 44) (by decide +kernel)⟩
theorem lw_p3 : lw_okq (⟨"ANailInTheWall$Wall", "allOffsets", "()I"⟩, 14) := ⟨⟨by decide +kernel, by decide +kernel⟩, List.mem_of_getElem? (i := 25) (by decide +kernel), List.mem_of_getElem? (i := 47) (by decide +kernel), List.mem_of_getElem? (i := 48) (by decide +kernel)⟩
theorem lw_p4 : lw_okq (⟨"ANailInTheWall$Wall", "isCorner", "(I)Z"⟩, 14) := ⟨⟨by decide +kernel, by decide +kernel⟩, List.mem_of_getElem? (i := 25) (by decide +kernel), List.mem_of_getElem? (i := 51) (by decide +kernel), List.mem_of_getElem? (i := 52) (by decide +kernel)⟩
theorem lw_p5 : lw_okq (⟨"ANailInTheWall$Wall", "addUp", "()V"⟩, 14) := ⟨⟨by decide +kernel, by decide +kernel⟩, List.mem_of_getElem? (i := 25) (by decide +kernel), List.mem_of_getElem? (i := 55) (by decide +kernel), List.mem_of_getElem? (i := 56) (by decide +kernel)⟩
theorem lw_p6 : lw_okq (⟨"ANailInTheWall", "refuse", "(I)I"⟩, 8) := ⟨⟨by decide +kernel, by decide +kernel⟩, List.mem_of_getElem? (i := 17) (by decide +kernel), List.mem_of_getElem? (i := 222) (by decide +kernel), List.mem_of_getElem? (i := 223) (by decide +kernel)⟩
theorem lw_p7 : lw_okq (⟨"ANailInTheWall$Text", "passStatement", "()Z"⟩, 3) := ⟨⟨by decide +kernel, by decide +kernel⟩, List.mem_of_getElem? (i := 134) (by decide +kernel), List.mem_of_getElem? (i := 234) (by decide +kernel), List.mem_of_getElem? (i := 235) (by decide +kernel)⟩
theorem lw_p8 : lw_okq (⟨"ANailInTheWall$Text", "signAt", "(I)C"⟩, 3) := ⟨⟨by decide +kernel, by decide +kernel⟩, List.mem_of_getElem? (i := 134) (by decide +kernel), List.mem_of_getElem? (i := 238) (by decide +kernel), List.mem_of_getElem? (i := 239) (by decide +kernel)⟩
theorem lw_p9 : lw_okq (⟨"ANailInTheWall$Text", "skipSign", "()V"⟩, 3) := ⟨⟨by decide +kernel, by decide +kernel⟩, List.mem_of_getElem? (i := 134) (by decide +kernel), List.mem_of_getElem? (i := 378) (by decide +kernel), List.mem_of_getElem? (i := 379) (by decide +kernel)⟩
theorem lw_p10 : lw_okq (⟨"ANailInTheWall$Text", "readSpaces", "(LANailInTheWall$Wall;)Z"⟩, 3) := ⟨⟨by decide +kernel, by decide +kernel⟩, List.mem_of_getElem? (i := 134) (by decide +kernel), List.mem_of_getElem? (i := 382) (by decide +kernel), List.mem_of_getElem? (i := 383) (by decide +kernel)⟩
theorem lw_p11 : lw_okq (⟨"ANailInTheWall$Text", "readNumber", "(I)I"⟩, 3) := ⟨⟨by decide +kernel, by decide +kernel⟩, List.mem_of_getElem? (i := 134) (by decide +kernel), List.mem_of_getElem? (i := 386) (by decide +kernel), List.mem_of_getElem? (i := 387) (by decide +kernel)⟩
theorem lw_p12 : lw_okq (⟨"ANailInTheWall$Text", "readLaw", "(LANailInTheWall$Wall;)Z"⟩, 3) := ⟨⟨by decide +kernel, by decide +kernel⟩, List.mem_of_getElem? (i := 134) (by decide +kernel), List.mem_of_getElem? (i := 398) (by decide +kernel), List.mem_of_getElem? (i := 399) (by decide +kernel)⟩
theorem lw_p13 : lw_okq (⟨"ANailInTheWall$Text", "readDoor", "(LANailInTheWall$Wall;)Z"⟩, 3) := ⟨⟨by decide +kernel, by decide +kernel⟩, List.mem_of_getElem? (i := 134) (by decide +kernel), List.mem_of_getElem? (i := 402) (by decide +kernel), List.mem_of_getElem? (i := 403) (by decide +kernel)⟩
theorem lw_p14 : lw_okq (⟨"ANailInTheWall$Text", "readTelling", "(LANailInTheWall$Wall;)Z"⟩, 3) := ⟨⟨by decide +kernel, by decide +kernel⟩, List.mem_of_getElem? (i := 134) (by decide +kernel), List.mem_of_getElem? (i := 406) (by decide +kernel), List.mem_of_getElem? (i := 407) (by decide +kernel)⟩
theorem lw_p15 : lw_okq (⟨"ANailInTheWall$Text", "readPlus", "()Z"⟩, 3) := ⟨⟨by decide +kernel, by decide +kernel⟩, List.mem_of_getElem? (i := 134) (by decide +kernel), List.mem_of_getElem? (i := 410) (by decide +kernel), List.mem_of_getElem? (i := 411) (by decide +kernel)⟩
def lw_privs_1 : List (MethodName × Nat) := [(⟨"ANailInTheWall$Wall", "woodsByLaw", "(I)I"⟩, 14), (⟨"ANailInTheWall$Wall", "byLeft", "(I)I"⟩, 14), (⟨"ANailInTheWall$Wall", "byDoored", "(I)I"⟩, 14), (⟨"ANailInTheWall$Wall", "allOffsets", "()I"⟩, 14), (⟨"ANailInTheWall$Wall", "isCorner", "(I)Z"⟩, 14), (⟨"ANailInTheWall$Wall", "addUp", "()V"⟩, 14), (⟨"ANailInTheWall", "refuse", "(I)I"⟩, 8), (⟨"ANailInTheWall$Text", "passStatement", "()Z"⟩, 3), (⟨"ANailInTheWall$Text", "signAt", "(I)C"⟩, 3), (⟨"ANailInTheWall$Text", "skipSign", "()V"⟩, 3), (⟨"ANailInTheWall$Text", "readSpaces", "(LANailInTheWall$Wall;)Z"⟩, 3), (⟨"ANailInTheWall$Text", "readNumber", "(I)I"⟩, 3), (⟨"ANailInTheWall$Text", "readLaw", "(LANailInTheWall$Wall;)Z"⟩, 3), (⟨"ANailInTheWall$Text", "readDoor", "(LANailInTheWall$Wall;)Z"⟩, 3), (⟨"ANailInTheWall$Text", "readTelling", "(LANailInTheWall$Wall;)Z"⟩, 3), (⟨"ANailInTheWall$Text", "readPlus", "()Z"⟩, 3)]
theorem lw_r1 : ∀ q ∈ lw_privs_1, lw_okq q := List.forall_mem_cons.mpr ⟨lw_p0, List.forall_mem_cons.mpr ⟨lw_p1, List.forall_mem_cons.mpr ⟨lw_p2, List.forall_mem_cons.mpr ⟨lw_p3, List.forall_mem_cons.mpr ⟨lw_p4, List.forall_mem_cons.mpr ⟨lw_p5, List.forall_mem_cons.mpr ⟨lw_p6, List.forall_mem_cons.mpr ⟨lw_p7, List.forall_mem_cons.mpr ⟨lw_p8, List.forall_mem_cons.mpr ⟨lw_p9, List.forall_mem_cons.mpr ⟨lw_p10, List.forall_mem_cons.mpr ⟨lw_p11, List.forall_mem_cons.mpr ⟨lw_p12, List.forall_mem_cons.mpr ⟨lw_p13, List.forall_mem_cons.mpr ⟨lw_p14, List.forall_mem_cons.mpr ⟨lw_p15, fun _ h => absurd h List.not_mem_nil⟩⟩⟩⟩⟩⟩⟩⟩⟩⟩⟩⟩⟩⟩⟩⟩
theorem lw_p16 : lw_okq (⟨"ANailInTheWall$Wall", "drill", "(I)V"⟩, 14) := ⟨⟨by decide +kernel, by decide +kernel⟩, List.mem_of_getElem? (i := 25) (by decide +kernel), List.mem_of_getElem? (i := 435) (by decide +kernel), List.mem_of_getElem? (i := 436) (by decide +kernel)⟩
theorem lw_p17 : lw_okq (⟨"ANailInTheWall$Wall", "lessenWeights", "()V"⟩, 14) := ⟨⟨by decide +kernel, by decide +kernel⟩, List.mem_of_getElem? (i := 25) (by decide +kernel), List.mem_of_getElem? (i := 439) (by decide +kernel), List.mem_of_getElem? (i := 440) (by decide +kernel)⟩
theorem lw_p18 : lw_okq (⟨"ANailInTheWall$Text", "readNail", "(LANailInTheWall$Wall;)Z"⟩, 3) := ⟨⟨by decide +kernel, by decide +kernel⟩, List.mem_of_getElem? (i := 134) (by decide +kernel), List.mem_of_getElem? (i := 446) (by decide +kernel), List.mem_of_getElem? (i := 447) (by decide +kernel)⟩
theorem lw_p19 : lw_okq (⟨"ANailInTheWall$Wall", "offsetsByNail", "(IZ)I"⟩, 14) := ⟨⟨by decide +kernel, by decide +kernel⟩, List.mem_of_getElem? (i := 25) (by decide +kernel), List.mem_of_getElem? (i := 454) (by decide +kernel), List.mem_of_getElem? (i := 455) (by decide +kernel)⟩
theorem lw_p20 : lw_okq (⟨"ANailInTheWall$Text", "readPipe", "(LANailInTheWall$Wall;)Z"⟩, 3) := ⟨⟨by decide +kernel, by decide +kernel⟩, List.mem_of_getElem? (i := 134) (by decide +kernel), List.mem_of_getElem? (i := 462) (by decide +kernel), List.mem_of_getElem? (i := 463) (by decide +kernel)⟩
theorem lw_p21 : lw_okq (⟨"ANailInTheWall", "isNoOffset", "(I)Z"⟩, 8) := ⟨⟨by decide +kernel, by decide +kernel⟩, List.mem_of_getElem? (i := 17) (by decide +kernel), List.mem_of_getElem? (i := 495) (by decide +kernel), List.mem_of_getElem? (i := 496) (by decide +kernel)⟩
theorem lw_p22 : lw_okq (⟨"ANailInTheWall", "refuseLong", "(I)J"⟩, 8) := ⟨⟨by decide +kernel, by decide +kernel⟩, List.mem_of_getElem? (i := 17) (by decide +kernel), List.mem_of_getElem? (i := 504) (by decide +kernel), List.mem_of_getElem? (i := 505) (by decide +kernel)⟩
theorem lw_p23 : lw_okq (⟨"ANailInTheWall$Wall", "tillWood", "(II)I"⟩, 14) := ⟨⟨by decide +kernel, by decide +kernel⟩, List.mem_of_getElem? (i := 25) (by decide +kernel), List.mem_of_getElem? (i := 614) (by decide +kernel), List.mem_of_getElem? (i := 615) (by decide +kernel)⟩
theorem lw_p24 : lw_okq (⟨"ANailInTheWall$Search", "gatherUnlike", "(LANailInTheWall$Wall;)V"⟩, 5) := ⟨⟨by decide +kernel, by decide +kernel⟩, List.mem_of_getElem? (i := 169) (by decide +kernel), List.mem_of_getElem? (i := 645) (by decide +kernel), List.mem_of_getElem? (i := 646) (by decide +kernel)⟩
theorem lw_p25 : lw_okq (⟨"ANailInTheWall$Search", "greatestThen", "(LANailInTheWall$Wall;IZ)J"⟩, 5) := ⟨⟨by decide +kernel, by decide +kernel⟩, List.mem_of_getElem? (i := 169) (by decide +kernel), List.mem_of_getElem? (i := 654) (by decide +kernel), List.mem_of_getElem? (i := 655) (by decide +kernel)⟩
theorem lw_p26 : lw_okq (⟨"ANailInTheWall$Wall", "inchOfMost", "(I)I"⟩, 14) := ⟨⟨by decide +kernel, by decide +kernel⟩, List.mem_of_getElem? (i := 25) (by decide +kernel), List.mem_of_getElem? (i := 770) (by decide +kernel), List.mem_of_getElem? (i := 771) (by decide +kernel)⟩
theorem lw_p27 : lw_okq (⟨"ANailInTheWallModel", "alike", "()V"⟩, 24) := ⟨⟨by decide +kernel, by decide +kernel⟩, List.mem_of_getElem? (i := 787) (by decide +kernel), List.mem_of_getElem? (i := 793) (by decide +kernel), List.mem_of_getElem? (i := 794) (by decide +kernel)⟩
theorem lw_p28 : lw_okq (⟨"ANailInTheWallModel", "no", "(I)I"⟩, 24) := ⟨⟨by decide +kernel, by decide +kernel⟩, List.mem_of_getElem? (i := 787) (by decide +kernel), List.mem_of_getElem? (i := 877) (by decide +kernel), List.mem_of_getElem? (i := 878) (by decide +kernel)⟩
theorem lw_p29 : lw_okq (⟨"ANailInTheWallModel", "statement", "()Z"⟩, 24) := ⟨⟨by decide +kernel, by decide +kernel⟩, List.mem_of_getElem? (i := 787) (by decide +kernel), List.mem_of_getElem? (i := 885) (by decide +kernel), List.mem_of_getElem? (i := 886) (by decide +kernel)⟩
theorem lw_p30 : lw_okq (⟨"ANailInTheWallModel", "next", "()I"⟩, 24) := ⟨⟨by decide +kernel, by decide +kernel⟩, List.mem_of_getElem? (i := 787) (by decide +kernel), List.mem_of_getElem? (i := 889) (by decide +kernel), List.mem_of_getElem? (i := 890) (by decide +kernel)⟩
theorem lw_p31 : lw_okq (⟨"ANailInTheWallModel", "readsAll", "(II)Z"⟩, 24) := ⟨⟨by decide +kernel, by decide +kernel⟩, List.mem_of_getElem? (i := 787) (by decide +kernel), List.mem_of_getElem? (i := 893) (by decide +kernel), List.mem_of_getElem? (i := 894) (by decide +kernel)⟩
def lw_privs_2 : List (MethodName × Nat) := [(⟨"ANailInTheWall$Wall", "drill", "(I)V"⟩, 14), (⟨"ANailInTheWall$Wall", "lessenWeights", "()V"⟩, 14), (⟨"ANailInTheWall$Text", "readNail", "(LANailInTheWall$Wall;)Z"⟩, 3), (⟨"ANailInTheWall$Wall", "offsetsByNail", "(IZ)I"⟩, 14), (⟨"ANailInTheWall$Text", "readPipe", "(LANailInTheWall$Wall;)Z"⟩, 3), (⟨"ANailInTheWall", "isNoOffset", "(I)Z"⟩, 8), (⟨"ANailInTheWall", "refuseLong", "(I)J"⟩, 8), (⟨"ANailInTheWall$Wall", "tillWood", "(II)I"⟩, 14), (⟨"ANailInTheWall$Search", "gatherUnlike", "(LANailInTheWall$Wall;)V"⟩, 5), (⟨"ANailInTheWall$Search", "greatestThen", "(LANailInTheWall$Wall;IZ)J"⟩, 5), (⟨"ANailInTheWall$Wall", "inchOfMost", "(I)I"⟩, 14), (⟨"ANailInTheWallModel", "alike", "()V"⟩, 24), (⟨"ANailInTheWallModel", "no", "(I)I"⟩, 24), (⟨"ANailInTheWallModel", "statement", "()Z"⟩, 24), (⟨"ANailInTheWallModel", "next", "()I"⟩, 24), (⟨"ANailInTheWallModel", "readsAll", "(II)Z"⟩, 24)]
theorem lw_r2 : ∀ q ∈ lw_privs_2, lw_okq q := List.forall_mem_cons.mpr ⟨lw_p16, List.forall_mem_cons.mpr ⟨lw_p17, List.forall_mem_cons.mpr ⟨lw_p18, List.forall_mem_cons.mpr ⟨lw_p19, List.forall_mem_cons.mpr ⟨lw_p20, List.forall_mem_cons.mpr ⟨lw_p21, List.forall_mem_cons.mpr ⟨lw_p22, List.forall_mem_cons.mpr ⟨lw_p23, List.forall_mem_cons.mpr ⟨lw_p24, List.forall_mem_cons.mpr ⟨lw_p25, List.forall_mem_cons.mpr ⟨lw_p26, List.forall_mem_cons.mpr ⟨lw_p27, List.forall_mem_cons.mpr ⟨lw_p28, List.forall_mem_cons.mpr ⟨lw_p29, List.forall_mem_cons.mpr ⟨lw_p30, List.forall_mem_cons.mpr ⟨lw_p31, fun _ h => absurd h List.not_mem_nil⟩⟩⟩⟩⟩⟩⟩⟩⟩⟩⟩⟩⟩⟩⟩⟩
theorem lw_p32 : lw_okq (⟨"ANailInTheWallModel", "readsSpace", "(I)Z"⟩, 24) := ⟨⟨by decide +kernel, by decide +kernel⟩, List.mem_of_getElem? (i := 787) (by decide +kernel), List.mem_of_getElem? (i := 897) (by decide +kernel), List.mem_of_getElem? (i := 898) (by decide +kernel)⟩
theorem lw_p33 : lw_okq (⟨"ANailInTheWallModel", "readsNumber", "(III)Z"⟩, 24) := ⟨⟨by decide +kernel, by decide +kernel⟩, List.mem_of_getElem? (i := 787) (by decide +kernel), List.mem_of_getElem? (i := 901) (by decide +kernel), List.mem_of_getElem? (i := 902) (by decide +kernel)⟩
theorem lw_p34 : lw_okq (⟨"ANailInTheWallModel", "readsLaw", "(I)Z"⟩, 24) := ⟨⟨by decide +kernel, by decide +kernel⟩, List.mem_of_getElem? (i := 787) (by decide +kernel), List.mem_of_getElem? (i := 908) (by decide +kernel), List.mem_of_getElem? (i := 909) (by decide +kernel)⟩
theorem lw_p35 : lw_okq (⟨"ANailInTheWallModel", "readsSign", "(I)Z"⟩, 24) := ⟨⟨by decide +kernel, by decide +kernel⟩, List.mem_of_getElem? (i := 787) (by decide +kernel), List.mem_of_getElem? (i := 915) (by decide +kernel), List.mem_of_getElem? (i := 916) (by decide +kernel)⟩
theorem lw_p36 : lw_okq (⟨"ANailInTheWallModel", "passesAll", "(IZ)V"⟩, 24) := ⟨⟨by decide +kernel, by decide +kernel⟩, List.mem_of_getElem? (i := 787) (by decide +kernel), List.mem_of_getElem? (i := 919) (by decide +kernel), List.mem_of_getElem? (i := 920) (by decide +kernel)⟩
theorem lw_p37 : lw_okq (⟨"ANailInTheWallModel", "passes", "([I)V"⟩, 24) := ⟨⟨by decide +kernel, by decide +kernel⟩, List.mem_of_getElem? (i := 787) (by decide +kernel), List.mem_of_getElem? (i := 923) (by decide +kernel), List.mem_of_getElem? (i := 924) (by decide +kernel)⟩
theorem lw_p38 : lw_okq (⟨"ANailInTheWallModel", "passOne", "(I)I"⟩, 24) := ⟨⟨by decide +kernel, by decide +kernel⟩, List.mem_of_getElem? (i := 787) (by decide +kernel), List.mem_of_getElem? (i := 927) (by decide +kernel), List.mem_of_getElem? (i := 928) (by decide +kernel)⟩
theorem lw_p39 : lw_okq (⟨"ANailInTheWallModel", "comes", "(I)Z"⟩, 24) := ⟨⟨by decide +kernel, by decide +kernel⟩, List.mem_of_getElem? (i := 787) (by decide +kernel), List.mem_of_getElem? (i := 931) (by decide +kernel), List.mem_of_getElem? (i := 932) (by decide +kernel)⟩
theorem lw_p40 : lw_okq (⟨"ANailInTheWallModel", "comesSet", "(II)Z"⟩, 24) := ⟨⟨by decide +kernel, by decide +kernel⟩, List.mem_of_getElem? (i := 787) (by decide +kernel), List.mem_of_getElem? (i := 935) (by decide +kernel), List.mem_of_getElem? (i := 936) (by decide +kernel)⟩
theorem lw_p41 : lw_okq (⟨"ANailInTheWallModel", "tells", "(III)V"⟩, 24) := ⟨⟨by decide +kernel, by decide +kernel⟩, List.mem_of_getElem? (i := 787) (by decide +kernel), List.mem_of_getElem? (i := 948) (by decide +kernel), List.mem_of_getElem? (i := 949) (by decide +kernel)⟩
theorem lw_p42 : lw_okq (⟨"ANailInTheWallModel", "tenths", "(IIII)I"⟩, 24) := ⟨⟨by decide +kernel, by decide +kernel⟩, List.mem_of_getElem? (i := 787) (by decide +kernel), List.mem_of_getElem? (i := 952) (by decide +kernel), List.mem_of_getElem? (i := 953) (by decide +kernel)⟩
theorem lw_p43 : lw_okq (⟨"ANailInTheWallModel", "isWood", "(II)Z"⟩, 24) := ⟨⟨by decide +kernel, by decide +kernel⟩, List.mem_of_getElem? (i := 787) (by decide +kernel), List.mem_of_getElem? (i := 956) (by decide +kernel), List.mem_of_getElem? (i := 957) (by decide +kernel)⟩
theorem lw_p44 : lw_okq (⟨"ANailInTheWallModel", "isLeft", "(II)Z"⟩, 24) := ⟨⟨by decide +kernel, by decide +kernel⟩, List.mem_of_getElem? (i := 787) (by decide +kernel), List.mem_of_getElem? (i := 960) (by decide +kernel), List.mem_of_getElem? (i := 961) (by decide +kernel)⟩
theorem lw_p45 : lw_okq (⟨"ANailInTheWallModel", "isDoored", "(II)Z"⟩, 24) := ⟨⟨by decide +kernel, by decide +kernel⟩, List.mem_of_getElem? (i := 787) (by decide +kernel), List.mem_of_getElem? (i := 967) (by decide +kernel), List.mem_of_getElem? (i := 968) (by decide +kernel)⟩
theorem lw_p46 : lw_okq (⟨"ANailInTheWallModel", "divides", "()V"⟩, 24) := ⟨⟨by decide +kernel, by decide +kernel⟩, List.mem_of_getElem? (i := 787) (by decide +kernel), List.mem_of_getElem? (i := 977) (by decide +kernel), List.mem_of_getElem? (i := 978) (by decide +kernel)⟩
theorem lw_p47 : lw_okq (⟨"ANailInTheWallModel", "leftBy", "(II)I"⟩, 24) := ⟨⟨by decide +kernel, by decide +kernel⟩, List.mem_of_getElem? (i := 787) (by decide +kernel), List.mem_of_getElem? (i := 984) (by decide +kernel), List.mem_of_getElem? (i := 985) (by decide +kernel)⟩
def lw_privs_3 : List (MethodName × Nat) := [(⟨"ANailInTheWallModel", "readsSpace", "(I)Z"⟩, 24), (⟨"ANailInTheWallModel", "readsNumber", "(III)Z"⟩, 24), (⟨"ANailInTheWallModel", "readsLaw", "(I)Z"⟩, 24), (⟨"ANailInTheWallModel", "readsSign", "(I)Z"⟩, 24), (⟨"ANailInTheWallModel", "passesAll", "(IZ)V"⟩, 24), (⟨"ANailInTheWallModel", "passes", "([I)V"⟩, 24), (⟨"ANailInTheWallModel", "passOne", "(I)I"⟩, 24), (⟨"ANailInTheWallModel", "comes", "(I)Z"⟩, 24), (⟨"ANailInTheWallModel", "comesSet", "(II)Z"⟩, 24), (⟨"ANailInTheWallModel", "tells", "(III)V"⟩, 24), (⟨"ANailInTheWallModel", "tenths", "(IIII)I"⟩, 24), (⟨"ANailInTheWallModel", "isWood", "(II)Z"⟩, 24), (⟨"ANailInTheWallModel", "isLeft", "(II)Z"⟩, 24), (⟨"ANailInTheWallModel", "isDoored", "(II)Z"⟩, 24), (⟨"ANailInTheWallModel", "divides", "()V"⟩, 24), (⟨"ANailInTheWallModel", "leftBy", "(II)I"⟩, 24)]
theorem lw_r3 : ∀ q ∈ lw_privs_3, lw_okq q := List.forall_mem_cons.mpr ⟨lw_p32, List.forall_mem_cons.mpr ⟨lw_p33, List.forall_mem_cons.mpr ⟨lw_p34, List.forall_mem_cons.mpr ⟨lw_p35, List.forall_mem_cons.mpr ⟨lw_p36, List.forall_mem_cons.mpr ⟨lw_p37, List.forall_mem_cons.mpr ⟨lw_p38, List.forall_mem_cons.mpr ⟨lw_p39, List.forall_mem_cons.mpr ⟨lw_p40, List.forall_mem_cons.mpr ⟨lw_p41, List.forall_mem_cons.mpr ⟨lw_p42, List.forall_mem_cons.mpr ⟨lw_p43, List.forall_mem_cons.mpr ⟨lw_p44, List.forall_mem_cons.mpr ⟨lw_p45, List.forall_mem_cons.mpr ⟨lw_p46, List.forall_mem_cons.mpr ⟨lw_p47, fun _ h => absurd h List.not_mem_nil⟩⟩⟩⟩⟩⟩⟩⟩⟩⟩⟩⟩⟩⟩⟩⟩
theorem lw_p48 : lw_okq (⟨"ANailInTheWallModel", "nails", "(II)V"⟩, 24) := ⟨⟨by decide +kernel, by decide +kernel⟩, List.mem_of_getElem? (i := 787) (by decide +kernel), List.mem_of_getElem? (i := 988) (by decide +kernel), List.mem_of_getElem? (i := 989) (by decide +kernel)⟩
theorem lw_p49 : lw_okq (⟨"ANailInTheWallModel", "leaves", "(II)V"⟩, 24) := ⟨⟨by decide +kernel, by decide +kernel⟩, List.mem_of_getElem? (i := 787) (by decide +kernel), List.mem_of_getElem? (i := 992) (by decide +kernel), List.mem_of_getElem? (i := 993) (by decide +kernel)⟩
theorem lw_p50 : lw_okq (⟨"ANailInTheWallModel", "comesPipe", "(II)V"⟩, 24) := ⟨⟨by decide +kernel, by decide +kernel⟩, List.mem_of_getElem? (i := 787) (by decide +kernel), List.mem_of_getElem? (i := 996) (by decide +kernel), List.mem_of_getElem? (i := 997) (by decide +kernel)⟩
theorem lw_p51 : lw_okq (⟨"ANailInTheWallModel", "isOffset", "(I)Z"⟩, 24) := ⟨⟨by decide +kernel, by decide +kernel⟩, List.mem_of_getElem? (i := 787) (by decide +kernel), List.mem_of_getElem? (i := 1016) (by decide +kernel), List.mem_of_getElem? (i := 1017) (by decide +kernel)⟩
theorem lw_p52 : lw_okq (⟨"ANailInTheWallModel", "lowest", "(I)J"⟩, 24) := ⟨⟨by decide +kernel, by decide +kernel⟩, List.mem_of_getElem? (i := 787) (by decide +kernel), List.mem_of_getElem? (i := 1024) (by decide +kernel), List.mem_of_getElem? (i := 1025) (by decide +kernel)⟩
theorem lw_p53 : lw_okq (⟨"ANailInTheWallModel", "withWeight", "()I"⟩, 24) := ⟨⟨by decide +kernel, by decide +kernel⟩, List.mem_of_getElem? (i := 787) (by decide +kernel), List.mem_of_getElem? (i := 1044) (by decide +kernel), List.mem_of_getElem? (i := 1045) (by decide +kernel)⟩
theorem lw_p54 : lw_okq (⟨"ANailInTheWallModel", "chancesAt", "(I)I"⟩, 24) := ⟨⟨by decide +kernel, by decide +kernel⟩, List.mem_of_getElem? (i := 787) (by decide +kernel), List.mem_of_getElem? (i := 1056) (by decide +kernel), List.mem_of_getElem? (i := 1057) (by decide +kernel)⟩
theorem lw_p55 : lw_okq (⟨"ANailInTheWallModel", "holesMany", "()I"⟩, 24) := ⟨⟨by decide +kernel, by decide +kernel⟩, List.mem_of_getElem? (i := 787) (by decide +kernel), List.mem_of_getElem? (i := 1068) (by decide +kernel), List.mem_of_getElem? (i := 1069) (by decide +kernel)⟩
theorem lw_p56 : lw_okq (⟨"ANailInTheWallModel", "woodAt", "(I)J"⟩, 24) := ⟨⟨by decide +kernel, by decide +kernel⟩, List.mem_of_getElem? (i := 787) (by decide +kernel), List.mem_of_getElem? (i := 1076) (by decide +kernel), List.mem_of_getElem? (i := 1077) (by decide +kernel)⟩
theorem lw_p57 : lw_okq (⟨"ANailInTheWallModel", "all", "()J"⟩, 24) := ⟨⟨by decide +kernel, by decide +kernel⟩, List.mem_of_getElem? (i := 787) (by decide +kernel), List.mem_of_getElem? (i := 1080) (by decide +kernel), List.mem_of_getElem? (i := 1081) (by decide +kernel)⟩
theorem lw_p58 : lw_okq (⟨"ANailInTheWallModel", "bestNow", "()I"⟩, 24) := ⟨⟨by decide +kernel, by decide +kernel⟩, List.mem_of_getElem? (i := 787) (by decide +kernel), List.mem_of_getElem? (i := 1095) (by decide +kernel), List.mem_of_getElem? (i := 1096) (by decide +kernel)⟩
theorem lw_p59 : lw_okq (⟨"ANailInTheWallModel", "safeAt", "(I)J"⟩, 24) := ⟨⟨by decide +kernel, by decide +kernel⟩, List.mem_of_getElem? (i := 787) (by decide +kernel), List.mem_of_getElem? (i := 1103) (by decide +kernel), List.mem_of_getElem? (i := 1104) (by decide +kernel)⟩
theorem lw_p60 : lw_okq (⟨"ANailInTheWallModel", "holesBy", "(II)I"⟩, 24) := ⟨⟨by decide +kernel, by decide +kernel⟩, List.mem_of_getElem? (i := 787) (by decide +kernel), List.mem_of_getElem? (i := 1111) (by decide +kernel), List.mem_of_getElem? (i := 1112) (by decide +kernel)⟩
theorem lw_p61 : lw_okq (⟨"ANailInTheWallModel", "holesAll", "(I)J"⟩, 24) := ⟨⟨by decide +kernel, by decide +kernel⟩, List.mem_of_getElem? (i := 787) (by decide +kernel), List.mem_of_getElem? (i := 1119) (by decide +kernel), List.mem_of_getElem? (i := 1120) (by decide +kernel)⟩
theorem lw_p62 : lw_okq (⟨"ANailInTheWallModel", "findNext", "(I)V"⟩, 24) := ⟨⟨by decide +kernel, by decide +kernel⟩, List.mem_of_getElem? (i := 787) (by decide +kernel), List.mem_of_getElem? (i := 1131) (by decide +kernel), List.mem_of_getElem? (i := 1132) (by decide +kernel)⟩
theorem lw_p63 : lw_okq (⟨"ANailInTheWallModel", "nextParts", "(II)J"⟩, 24) := ⟨⟨by decide +kernel, by decide +kernel⟩, List.mem_of_getElem? (i := 787) (by decide +kernel), List.mem_of_getElem? (i := 1136) (by decide +kernel), List.mem_of_getElem? (i := 1137) (by decide +kernel)⟩
def lw_privs_4 : List (MethodName × Nat) := [(⟨"ANailInTheWallModel", "nails", "(II)V"⟩, 24), (⟨"ANailInTheWallModel", "leaves", "(II)V"⟩, 24), (⟨"ANailInTheWallModel", "comesPipe", "(II)V"⟩, 24), (⟨"ANailInTheWallModel", "isOffset", "(I)Z"⟩, 24), (⟨"ANailInTheWallModel", "lowest", "(I)J"⟩, 24), (⟨"ANailInTheWallModel", "withWeight", "()I"⟩, 24), (⟨"ANailInTheWallModel", "chancesAt", "(I)I"⟩, 24), (⟨"ANailInTheWallModel", "holesMany", "()I"⟩, 24), (⟨"ANailInTheWallModel", "woodAt", "(I)J"⟩, 24), (⟨"ANailInTheWallModel", "all", "()J"⟩, 24), (⟨"ANailInTheWallModel", "bestNow", "()I"⟩, 24), (⟨"ANailInTheWallModel", "safeAt", "(I)J"⟩, 24), (⟨"ANailInTheWallModel", "holesBy", "(II)I"⟩, 24), (⟨"ANailInTheWallModel", "holesAll", "(I)J"⟩, 24), (⟨"ANailInTheWallModel", "findNext", "(I)V"⟩, 24), (⟨"ANailInTheWallModel", "nextParts", "(II)J"⟩, 24)]
theorem lw_r4 : ∀ q ∈ lw_privs_4, lw_okq q := List.forall_mem_cons.mpr ⟨lw_p48, List.forall_mem_cons.mpr ⟨lw_p49, List.forall_mem_cons.mpr ⟨lw_p50, List.forall_mem_cons.mpr ⟨lw_p51, List.forall_mem_cons.mpr ⟨lw_p52, List.forall_mem_cons.mpr ⟨lw_p53, List.forall_mem_cons.mpr ⟨lw_p54, List.forall_mem_cons.mpr ⟨lw_p55, List.forall_mem_cons.mpr ⟨lw_p56, List.forall_mem_cons.mpr ⟨lw_p57, List.forall_mem_cons.mpr ⟨lw_p58, List.forall_mem_cons.mpr ⟨lw_p59, List.forall_mem_cons.mpr ⟨lw_p60, List.forall_mem_cons.mpr ⟨lw_p61, List.forall_mem_cons.mpr ⟨lw_p62, List.forall_mem_cons.mpr ⟨lw_p63, fun _ h => absurd h List.not_mem_nil⟩⟩⟩⟩⟩⟩⟩⟩⟩⟩⟩⟩⟩⟩⟩⟩
theorem lw_p64 : lw_okq (⟨"ANailInTheWallModel", "greatestBehind", "(III)J"⟩, 24) := ⟨⟨by decide +kernel, by decide +kernel⟩, List.mem_of_getElem? (i := 787) (by decide +kernel), List.mem_of_getElem? (i := 1140) (by decide +kernel), List.mem_of_getElem? (i := 1141) (by decide +kernel)⟩
theorem lw_p65 : lw_okq (⟨"ANailInTheWallModel", "worthParts", "(I)J"⟩, 24) := ⟨⟨by decide +kernel, by decide +kernel⟩, List.mem_of_getElem? (i := 787) (by decide +kernel), List.mem_of_getElem? (i := 1148) (by decide +kernel), List.mem_of_getElem? (i := 1149) (by decide +kernel)⟩
theorem lw_p66 : lw_okq (⟨"ANailInTheWallModel", "covered", "(II)I"⟩, 24) := ⟨⟨by decide +kernel, by decide +kernel⟩, List.mem_of_getElem? (i := 787) (by decide +kernel), List.mem_of_getElem? (i := 1161) (by decide +kernel), List.mem_of_getElem? (i := 1162) (by decide +kernel)⟩
theorem lw_p67 : lw_okq (⟨"ANailInTheWallModel", "likeliestIn", "(II)J"⟩, 24) := ⟨⟨by decide +kernel, by decide +kernel⟩, List.mem_of_getElem? (i := 787) (by decide +kernel), List.mem_of_getElem? (i := 1169) (by decide +kernel), List.mem_of_getElem? (i := 1170) (by decide +kernel)⟩
theorem lw_p68 : lw_okq (⟨"ANailInTheWallModel", "twoBy", "(I)I"⟩, 24) := ⟨⟨by decide +kernel, by decide +kernel⟩, List.mem_of_getElem? (i := 787) (by decide +kernel), List.mem_of_getElem? (i := 1181) (by decide +kernel), List.mem_of_getElem? (i := 1182) (by decide +kernel)⟩
theorem lw_p69 : lw_okq (⟨"ANailInTheWallModel", "bothAt", "(II)J"⟩, 24) := ⟨⟨by decide +kernel, by decide +kernel⟩, List.mem_of_getElem? (i := 787) (by decide +kernel), List.mem_of_getElem? (i := 1185) (by decide +kernel), List.mem_of_getElem? (i := 1186) (by decide +kernel)⟩
theorem lw_p70 : lw_okq (⟨"ANailInTheWallModel", "areInches", "()Z"⟩, 24) := ⟨⟨by decide +kernel, by decide +kernel⟩, List.mem_of_getElem? (i := 787) (by decide +kernel), List.mem_of_getElem? (i := 1213) (by decide +kernel), List.mem_of_getElem? (i := 1214) (by decide +kernel)⟩
theorem lw_p71 : lw_okq (⟨"ANailInTheWallModel", "isAsTold", "(I)Z"⟩, 24) := ⟨⟨by decide +kernel, by decide +kernel⟩, List.mem_of_getElem? (i := 787) (by decide +kernel), List.mem_of_getElem? (i := 1217) (by decide +kernel), List.mem_of_getElem? (i := 1218) (by decide +kernel)⟩
theorem lw_p72 : lw_okq (⟨"ANailInTheWallModel", "nailsBy", "(I)I"⟩, 24) := ⟨⟨by decide +kernel, by decide +kernel⟩, List.mem_of_getElem? (i := 787) (by decide +kernel), List.mem_of_getElem? (i := 1236) (by decide +kernel), List.mem_of_getElem? (i := 1237) (by decide +kernel)⟩
def lw_privs_5 : List (MethodName × Nat) := [(⟨"ANailInTheWallModel", "greatestBehind", "(III)J"⟩, 24), (⟨"ANailInTheWallModel", "worthParts", "(I)J"⟩, 24), (⟨"ANailInTheWallModel", "covered", "(II)I"⟩, 24), (⟨"ANailInTheWallModel", "likeliestIn", "(II)J"⟩, 24), (⟨"ANailInTheWallModel", "twoBy", "(I)I"⟩, 24), (⟨"ANailInTheWallModel", "bothAt", "(II)J"⟩, 24), (⟨"ANailInTheWallModel", "areInches", "()Z"⟩, 24), (⟨"ANailInTheWallModel", "isAsTold", "(I)Z"⟩, 24), (⟨"ANailInTheWallModel", "nailsBy", "(I)I"⟩, 24)]
theorem lw_r5 : ∀ q ∈ lw_privs_5, lw_okq q := List.forall_mem_cons.mpr ⟨lw_p64, List.forall_mem_cons.mpr ⟨lw_p65, List.forall_mem_cons.mpr ⟨lw_p66, List.forall_mem_cons.mpr ⟨lw_p67, List.forall_mem_cons.mpr ⟨lw_p68, List.forall_mem_cons.mpr ⟨lw_p69, List.forall_mem_cons.mpr ⟨lw_p70, List.forall_mem_cons.mpr ⟨lw_p71, List.forall_mem_cons.mpr ⟨lw_p72, fun _ h => absurd h List.not_mem_nil⟩⟩⟩⟩⟩⟩⟩⟩⟩
def lw_privs : List (MethodName × Nat) := lw_privs_1 ++ (lw_privs_2 ++ (lw_privs_3 ++ (lw_privs_4 ++ (lw_privs_5))))
def lw_tbl : List Cond := k2_sels lw_privs ++ tables_1
theorem lw_privs_ok : ∀ q ∈ lw_privs, lw_okq q := by
  show ∀ q ∈ lw_privs_1 ++ (lw_privs_2 ++ (lw_privs_3 ++ (lw_privs_4 ++ (lw_privs_5)))), lw_okq q
  exact List.forall_mem_append.mpr ⟨lw_r1, List.forall_mem_append.mpr ⟨lw_r2, List.forall_mem_append.mpr ⟨lw_r3, List.forall_mem_append.mpr ⟨lw_r4, lw_r5⟩⟩⟩⟩
def RX0 : String := "ANailInTheWall$Row"
def TX0 : u_T := fun k => match k with
  | 0 => ("ANailInTheWall$Row", "numbers", "[I", true)
  | _ => ("ANailInTheWall$Row", "length", "I", false)
def tyX0 : Nat → FieldType := fun k => match k with
  | 0 => .array .int
  | _ => .int
abbrev wsX00 : List Cond := u_ws RX0 TX0 2
theorem nmX0 : ∀ a, a < 2 → ∀ b, b < 2 → a ≠ b → (TX0 a).2.1 ≠ (TX0 b).2.1 := by decide +kernel
theorem tyX0_ok : ∀ k, k < 2 → parseFieldDescriptor (TX0 k).2.2.1 = some (tyX0 k) := by decide +kernel
abbrev cX0_init : ByteArray := prog_2_method_1_code
def yX0_init : MethodName := ⟨RX0, "<init>", "()V"⟩
abbrev cX0_inchOf : ByteArray := prog_2_method_2_code
def yX0_inchOf : MethodName := ⟨RX0, "inchOf", "(I)I"⟩
abbrev cX0_tellsWood : ByteArray := prog_2_method_3_code
def yX0_tellsWood : MethodName := ⟨RX0, "tellsWood", "(I)Z"⟩
abbrev cX0_offsetsBy : ByteArray := prog_2_method_4_code
def yX0_offsetsBy : MethodName := ⟨RX0, "offsetsBy", "(LANailInTheWall$Wall;I)I"⟩
abbrev cX0_offsetsThatFit : ByteArray := prog_2_method_5_code
def yX0_offsetsThatFit : MethodName := ⟨RX0, "offsetsThatFit", "(LANailInTheWall$Wall;I)I"⟩
abbrev cX0_waysToTell : ByteArray := prog_2_method_6_code
def yX0_waysToTell : MethodName := ⟨RX0, "waysToTell", "(LANailInTheWall$Wall;I)J"⟩
abbrev cX0_tenthsOf : ByteArray := prog_2_method_7_code
def yX0_tenthsOf : MethodName := ⟨RX0, "tenthsOf", "(LANailInTheWall$Wall;III)I"⟩
abbrev cX0_allWays : ByteArray := prog_2_method_8_code
def yX0_allWays : MethodName := ⟨RX0, "allWays", "(LANailInTheWall$Wall;)J"⟩
def RX1 : String := "ANailInTheWall$Search"
def TX1 : u_T := fun k => match k with
  | 0 => ("ANailInTheWall$Search", "inch", "I", false)
  | 1 => ("ANailInTheWall$Search", "gain", "J", false)
  | 2 => ("ANailInTheWall$Search", "unlike", "[I", true)
  | 3 => ("ANailInTheWall$Search", "unlikes", "I", false)
  | _ => ("ANailInTheWall$Search", "shared", "[J", true)
def tyX1 : Nat → FieldType := fun k => match k with
  | 0 => .int
  | 1 => .long
  | 2 => .array .int
  | 3 => .int
  | _ => .array .long
abbrev wsX10 : List Cond := u_ws RX1 TX1 5
theorem nmX1 : ∀ a, a < 5 → ∀ b, b < 5 → a ≠ b → (TX1 a).2.1 ≠ (TX1 b).2.1 := by decide +kernel
theorem tyX1_ok : ∀ k, k < 5 → parseFieldDescriptor (TX1 k).2.2.1 = some (tyX1 k) := by decide +kernel
abbrev cX1_init : ByteArray := prog_3_method_1_code
def yX1_init : MethodName := ⟨RX1, "<init>", "()V"⟩
abbrev cX1_lookWith : ByteArray := prog_3_method_2_code
def yX1_lookWith : MethodName := ⟨RX1, "lookWith", "(LANailInTheWall$Wall;I)V"⟩
abbrev cX1_gatherUnlike : ByteArray := prog_3_method_3_code
def yX1_gatherUnlike : MethodName := ⟨RX1, "gatherUnlike", "(LANailInTheWall$Wall;)V"⟩
abbrev cX1_greatestThen : ByteArray := prog_3_method_4_code
def yX1_greatestThen : MethodName := ⟨RX1, "greatestThen", "(LANailInTheWall$Wall;IZ)J"⟩
def RX2 : String := "ANailInTheWall$Text"
def TX2 : u_T := fun k => match k with
  | 0 => ("ANailInTheWall$Text", "signs", "[C", true)
  | 1 => ("ANailInTheWall$Text", "length", "I", false)
  | _ => ("ANailInTheWall$Text", "place", "I", false)
def tyX2 : Nat → FieldType := fun k => match k with
  | 0 => .array .char
  | 1 => .int
  | _ => .int
abbrev wsX20 : List Cond := u_ws RX2 TX2 3
theorem nmX2 : ∀ a, a < 3 → ∀ b, b < 3 → a ≠ b → (TX2 a).2.1 ≠ (TX2 b).2.1 := by decide +kernel
theorem tyX2_ok : ∀ k, k < 3 → parseFieldDescriptor (TX2 k).2.2.1 = some (tyX2 k) := by decide +kernel
abbrev cX2_init : ByteArray := prog_4_method_1_code
def yX2_init : MethodName := ⟨RX2, "<init>", "()V"⟩
abbrev cX2_signAt : ByteArray := prog_4_method_2_code
def yX2_signAt : MethodName := ⟨RX2, "signAt", "(I)C"⟩
abbrev cX2_passAll : ByteArray := prog_4_method_3_code
def yX2_passAll : MethodName := ⟨RX2, "passAll", "()Z"⟩
abbrev cX2_passStatement : ByteArray := prog_4_method_4_code
def yX2_passStatement : MethodName := ⟨RX2, "passStatement", "()Z"⟩
abbrev cX2_formBehind : ByteArray := prog_4_method_5_code
def yX2_formBehind : MethodName := ⟨RX2, "formBehind", "(C)Ljava/lang/String;"⟩
abbrev cX2_fits : ByteArray := prog_4_method_6_code
def yX2_fits : MethodName := ⟨RX2, "fits", "(CC)Z"⟩
abbrev cX2_readStatement : ByteArray := prog_4_method_7_code
def yX2_readStatement : MethodName := ⟨RX2, "readStatement", "(LANailInTheWall$Wall;)Z"⟩
abbrev cX2_readSpaces : ByteArray := prog_4_method_8_code
def yX2_readSpaces : MethodName := ⟨RX2, "readSpaces", "(LANailInTheWall$Wall;)Z"⟩
abbrev cX2_readLaw : ByteArray := prog_4_method_9_code
def yX2_readLaw : MethodName := ⟨RX2, "readLaw", "(LANailInTheWall$Wall;)Z"⟩
abbrev cX2_readDoor : ByteArray := prog_4_method_10_code
def yX2_readDoor : MethodName := ⟨RX2, "readDoor", "(LANailInTheWall$Wall;)Z"⟩
abbrev cX2_readTelling : ByteArray := prog_4_method_11_code
def yX2_readTelling : MethodName := ⟨RX2, "readTelling", "(LANailInTheWall$Wall;)Z"⟩
abbrev cX2_readNail : ByteArray := prog_4_method_12_code
def yX2_readNail : MethodName := ⟨RX2, "readNail", "(LANailInTheWall$Wall;)Z"⟩
abbrev cX2_readPipe : ByteArray := prog_4_method_13_code
def yX2_readPipe : MethodName := ⟨RX2, "readPipe", "(LANailInTheWall$Wall;)Z"⟩
abbrev cX2_readNumber : ByteArray := prog_4_method_14_code
def yX2_readNumber : MethodName := ⟨RX2, "readNumber", "(I)I"⟩
abbrev cX2_readPlus : ByteArray := prog_4_method_15_code
def yX2_readPlus : MethodName := ⟨RX2, "readPlus", "()Z"⟩
abbrev cX2_skipSign : ByteArray := prog_4_method_16_code
def yX2_skipSign : MethodName := ⟨RX2, "skipSign", "()V"⟩
def RX3 : String := "ANailInTheWall$Wall"
def TX3 : u_T := fun k => match k with
  | 0 => ("ANailInTheWall$Wall", "space", "I", false)
  | 1 => ("ANailInTheWall$Wall", "beam", "I", false)
  | 2 => ("ANailInTheWall$Wall", "door", "I", false)
  | 3 => ("ANailInTheWall$Wall", "law", "I", false)
  | 4 => ("ANailInTheWall$Wall", "used", "I", false)
  | 5 => ("ANailInTheWall$Wall", "pipes", "I", false)
  | 6 => ("ANailInTheWall$Wall", "drilled", "J", false)
  | 7 => ("ANailInTheWall$Wall", "pipeInches", "[I", true)
  | 8 => ("ANailInTheWall$Wall", "pipeChances", "[I", true)
  | 9 => ("ANailInTheWall$Wall", "weights", "[J", true)
  | 10 => ("ANailInTheWall$Wall", "woods", "[I", true)
  | 11 => ("ANailInTheWall$Wall", "sums", "[J", true)
  | 12 => ("ANailInTheWall$Wall", "total", "J", false)
  | _ => ("ANailInTheWall$Wall", "open", "I", false)
def tyX3 : Nat → FieldType := fun k => match k with
  | 0 => .int
  | 1 => .int
  | 2 => .int
  | 3 => .int
  | 4 => .int
  | 5 => .int
  | 6 => .long
  | 7 => .array .int
  | 8 => .array .int
  | 9 => .array .long
  | 10 => .array .int
  | 11 => .array .long
  | 12 => .long
  | _ => .int
abbrev wsX30 : List Cond := u_ws RX3 TX3 14
theorem nmX3 : ∀ a, a < 14 → ∀ b, b < 14 → a ≠ b → (TX3 a).2.1 ≠ (TX3 b).2.1 := by decide +kernel
theorem tyX3_ok : ∀ k, k < 14 → parseFieldDescriptor (TX3 k).2.2.1 = some (tyX3 k) := by decide +kernel
abbrev cX3_init : ByteArray := prog_5_method_1_code
def yX3_init : MethodName := ⟨RX3, "<init>", "()V"⟩
abbrev cX3_becomeAs : ByteArray := prog_5_method_2_code
def yX3_becomeAs : MethodName := ⟨RX3, "becomeAs", "(LANailInTheWall$Wall;)V"⟩
abbrev cX3_measure : ByteArray := prog_5_method_3_code
def yX3_measure : MethodName := ⟨RX3, "measure", "(I)I"⟩
abbrev cX3_changeMeasure : ByteArray := prog_5_method_4_code
def yX3_changeMeasure : MethodName := ⟨RX3, "changeMeasure", "(II)V"⟩
abbrev cX3_beginAnew : ByteArray := prog_5_method_5_code
def yX3_beginAnew : MethodName := ⟨RX3, "beginAnew", "()V"⟩
abbrev cX3_woodsByLaw : ByteArray := prog_5_method_6_code
def yX3_woodsByLaw : MethodName := ⟨RX3, "woodsByLaw", "(I)I"⟩
abbrev cX3_byLeft : ByteArray := prog_5_method_7_code
def yX3_byLeft : MethodName := ⟨RX3, "byLeft", "(I)I"⟩
abbrev cX3_byDoored : ByteArray := prog_5_method_8_code
def yX3_byDoored : MethodName := ⟨RX3, "byDoored", "(I)I"⟩
abbrev cX3_isCorner : ByteArray := prog_5_method_9_code
def yX3_isCorner : MethodName := ⟨RX3, "isCorner", "(I)Z"⟩
abbrev cX3_allOffsets : ByteArray := prog_5_method_10_code
def yX3_allOffsets : MethodName := ⟨RX3, "allOffsets", "()I"⟩
abbrev cX3_hasWood : ByteArray := prog_5_method_11_code
def yX3_hasWood : MethodName := ⟨RX3, "hasWood", "(II)Z"⟩
abbrev cX3_addUp : ByteArray := prog_5_method_12_code
def yX3_addUp : MethodName := ⟨RX3, "addUp", "()V"⟩
abbrev cX3_sumOf : ByteArray := prog_5_method_13_code
def yX3_sumOf : MethodName := ⟨RX3, "sumOf", "(I)J"⟩
abbrev cX3_sumAtBoth : ByteArray := prog_5_method_14_code
def yX3_sumAtBoth : MethodName := ⟨RX3, "sumAtBoth", "(II)J"⟩
abbrev cX3_takeTelling : ByteArray := prog_5_method_15_code
def yX3_takeTelling : MethodName := ⟨RX3, "takeTelling", "(IIZ)V"⟩
abbrev cX3_offsetsByNail : ByteArray := prog_5_method_16_code
def yX3_offsetsByNail : MethodName := ⟨RX3, "offsetsByNail", "(IZ)I"⟩
abbrev cX3_couldNail : ByteArray := prog_5_method_17_code
def yX3_couldNail : MethodName := ⟨RX3, "couldNail", "(IZ)Z"⟩
abbrev cX3_takeNail : ByteArray := prog_5_method_18_code
def yX3_takeNail : MethodName := ⟨RX3, "takeNail", "(IZ)V"⟩
abbrev cX3_lessenWeights : ByteArray := prog_5_method_19_code
def yX3_lessenWeights : MethodName := ⟨RX3, "lessenWeights", "()V"⟩
abbrev cX3_drill : ByteArray := prog_5_method_20_code
def yX3_drill : MethodName := ⟨RX3, "drill", "(I)V"⟩
abbrev cX3_holesWithin : ByteArray := prog_5_method_21_code
def yX3_holesWithin : MethodName := ⟨RX3, "holesWithin", "(II)I"⟩
abbrev cX3_hasRoomForPipe : ByteArray := prog_5_method_22_code
def yX3_hasRoomForPipe : MethodName := ⟨RX3, "hasRoomForPipe", "()Z"⟩
abbrev cX3_takePipe : ByteArray := prog_5_method_23_code
def yX3_takePipe : MethodName := ⟨RX3, "takePipe", "(II)V"⟩
abbrev cX3_riskAt : ByteArray := prog_5_method_24_code
def yX3_riskAt : MethodName := ⟨RX3, "riskAt", "(I)I"⟩
abbrev cX3_safety : ByteArray := prog_5_method_25_code
def yX3_safety : MethodName := ⟨RX3, "safety", "(I)J"⟩
abbrev cX3_isSure : ByteArray := prog_5_method_26_code
def yX3_isSure : MethodName := ⟨RX3, "isSure", "(IZ)Z"⟩
abbrev cX3_likeliest : ByteArray := prog_5_method_27_code
def yX3_likeliest : MethodName := ⟨RX3, "likeliest", "(II)I"⟩
abbrev cX3_likeliestPair : ByteArray := prog_5_method_28_code
def yX3_likeliestPair : MethodName := ⟨RX3, "likeliestPair", "(I)I"⟩
abbrev cX3_tillWood : ByteArray := prog_5_method_29_code
def yX3_tillWood : MethodName := ⟨RX3, "tillWood", "(II)I"⟩
abbrev cX3_worstTillWood : ByteArray := prog_5_method_30_code
def yX3_worstTillWood : MethodName := ⟨RX3, "worstTillWood", "(I)I"⟩
abbrev cX3_allTillWood : ByteArray := prog_5_method_31_code
def yX3_allTillWood : MethodName := ⟨RX3, "allTillWood", "(I)J"⟩
abbrev cX3_nailsTillWood : ByteArray := prog_5_method_32_code
def yX3_nailsTillWood : MethodName := ⟨RX3, "nailsTillWood", "(I)I"⟩
abbrev cX3_inchOfMost : ByteArray := prog_5_method_33_code
def yX3_inchOfMost : MethodName := ⟨RX3, "inchOfMost", "(I)I"⟩
def RX4 : String := "ANailInTheWall"
def TX4 : u_T := fun k => match k with
  | 0 => ("ANailInTheWall", "now", "LANailInTheWall$Wall;", true)
  | 1 => ("ANailInTheWall", "kept", "LANailInTheWall$Wall;", true)
  | 2 => ("ANailInTheWall", "trial", "LANailInTheWall$Wall;", true)
  | 3 => ("ANailInTheWall", "text", "LANailInTheWall$Text;", true)
  | 4 => ("ANailInTheWall", "told", "LANailInTheWall$Row;", true)
  | 5 => ("ANailInTheWall", "search", "LANailInTheWall$Search;", true)
  | 6 => ("ANailInTheWall", "refusals", "[I", true)
  | _ => ("ANailInTheWall", "isKept", "Z", false)
def tyX4 : Nat → FieldType := fun k => match k with
  | 0 => .object "ANailInTheWall$Wall"
  | 1 => .object "ANailInTheWall$Wall"
  | 2 => .object "ANailInTheWall$Wall"
  | 3 => .object "ANailInTheWall$Text"
  | 4 => .object "ANailInTheWall$Row"
  | 5 => .object "ANailInTheWall$Search"
  | 6 => .array .int
  | _ => .boolean
abbrev wsX40 : List Cond := u_ws RX4 TX4 8
theorem nmX4 : ∀ a, a < 8 → ∀ b, b < 8 → a ≠ b → (TX4 a).2.1 ≠ (TX4 b).2.1 := by decide +kernel
theorem tyX4_ok : ∀ k, k < 8 → parseFieldDescriptor (TX4 k).2.2.1 = some (tyX4 k) := by decide +kernel
abbrev cX4_init : ByteArray := prog_1_method_1_code
def yX4_init : MethodName := ⟨RX4, "<init>", "()V"⟩
abbrev cX4_letter : ByteArray := prog_1_method_2_code
def yX4_letter : MethodName := ⟨RX4, "letter", "(I)I"⟩
abbrev cX4_wall : ByteArray := prog_1_method_3_code
def yX4_wall : MethodName := ⟨RX4, "wall", "()I"⟩
abbrev cX4_set : ByteArray := prog_1_method_4_code
def yX4_set : MethodName := ⟨RX4, "set", "(II)I"⟩
abbrev cX4_wood : ByteArray := prog_1_method_5_code
def yX4_wood : MethodName := ⟨RX4, "wood", "(II)I"⟩
abbrev cX4_weight : ByteArray := prog_1_method_6_code
def yX4_weight : MethodName := ⟨RX4, "weight", "(I)J"⟩
abbrev cX4_tool : ByteArray := prog_1_method_7_code
def yX4_tool : MethodName := ⟨RX4, "tool", "(II)I"⟩
abbrev cX4_telling : ByteArray := prog_1_method_8_code
def yX4_telling : MethodName := ⟨RX4, "telling", "(III)I"⟩
abbrev cX4_nail : ByteArray := prog_1_method_9_code
def yX4_nail : MethodName := ⟨RX4, "nail", "(II)I"⟩
abbrev cX4_pipe : ByteArray := prog_1_method_10_code
def yX4_pipe : MethodName := ⟨RX4, "pipe", "(II)I"⟩
abbrev cX4_risk : ByteArray := prog_1_method_11_code
def yX4_risk : MethodName := ⟨RX4, "risk", "(I)I"⟩
abbrev cX4_hole : ByteArray := prog_1_method_12_code
def yX4_hole : MethodName := ⟨RX4, "hole", "(I)I"⟩
abbrev cX4_fill : ByteArray := prog_1_method_13_code
def yX4_fill : MethodName := ⟨RX4, "fill", "()I"⟩
abbrev cX4_likely : ByteArray := prog_1_method_14_code
def yX4_likely : MethodName := ⟨RX4, "likely", "(II)J"⟩
abbrev cX4_sure : ByteArray := prog_1_method_15_code
def yX4_sure : MethodName := ⟨RX4, "sure", "(II)I"⟩
abbrev cX4_best : ByteArray := prog_1_method_16_code
def yX4_best : MethodName := ⟨RX4, "best", "()I"⟩
abbrev cX4_safest : ByteArray := prog_1_method_17_code
def yX4_safest : MethodName := ⟨RX4, "safest", "()I"⟩
abbrev cX4_holes : ByteArray := prog_1_method_18_code
def yX4_holes : MethodName := ⟨RX4, "holes", "(I)I"⟩
abbrev cX4_mean : ByteArray := prog_1_method_19_code
def yX4_mean : MethodName := ⟨RX4, "mean", "(II)J"⟩
abbrev cX4_from : ByteArray := prog_1_method_20_code
def yX4_from : MethodName := ⟨RX4, "from", "()I"⟩
abbrev cX4_next : ByteArray := prog_1_method_21_code
def yX4_next : MethodName := ⟨RX4, "next", "(I)I"⟩
abbrev cX4_worth : ByteArray := prog_1_method_22_code
def yX4_worth : MethodName := ⟨RX4, "worth", "(II)J"⟩
abbrev cX4_kind : ByteArray := prog_1_method_23_code
def yX4_kind : MethodName := ⟨RX4, "kind", "()I"⟩
abbrev cX4_covers : ByteArray := prog_1_method_24_code
def yX4_covers : MethodName := ⟨RX4, "covers", "(II)I"⟩
abbrev cX4_hang : ByteArray := prog_1_method_25_code
def yX4_hang : MethodName := ⟨RX4, "hang", "(I)I"⟩
abbrev cX4_middle : ByteArray := prog_1_method_26_code
def yX4_middle : MethodName := ⟨RX4, "middle", "(II)I"⟩
abbrev cX4_two : ByteArray := prog_1_method_27_code
def yX4_two : MethodName := ⟨RX4, "two", "(I)I"⟩
abbrev cX4_both : ByteArray := prog_1_method_28_code
def yX4_both : MethodName := ⟨RX4, "both", "(II)J"⟩
abbrev cX4_wire : ByteArray := prog_1_method_29_code
def yX4_wire : MethodName := ⟨RX4, "wire", "(II)I"⟩
abbrev cX4_twin : ByteArray := prog_1_method_30_code
def yX4_twin : MethodName := ⟨RX4, "twin", "(I)I"⟩
abbrev cX4_twinLikely : ByteArray := prog_1_method_31_code
def yX4_twinLikely : MethodName := ⟨RX4, "twinLikely", "(III)J"⟩
abbrev cX4_row : ByteArray := prog_1_method_32_code
def yX4_row : MethodName := ⟨RX4, "row", "(I)I"⟩
abbrev cX4_old : ByteArray := prog_1_method_33_code
def yX4_old : MethodName := ⟨RX4, "old", "()I"⟩
abbrev cX4_happened : ByteArray := prog_1_method_34_code
def yX4_happened : MethodName := ⟨RX4, "happened", "(II)J"⟩
abbrev cX4_judge : ByteArray := prog_1_method_35_code
def yX4_judge : MethodName := ⟨RX4, "judge", "()I"⟩
abbrev cX4_lots : ByteArray := prog_1_method_36_code
def yX4_lots : MethodName := ⟨RX4, "lots", "(II)I"⟩
abbrev cX4_image : ByteArray := prog_1_method_37_code
def yX4_image : MethodName := ⟨RX4, "image", "()I"⟩
abbrev cX4_on : ByteArray := prog_1_method_38_code
def yX4_on : MethodName := ⟨RX4, "on", "()I"⟩
abbrev cX4_count : ByteArray := prog_1_method_39_code
def yX4_count : MethodName := ⟨RX4, "count", "(I)I"⟩
abbrev cX4_refuse : ByteArray := prog_1_method_40_code
def yX4_refuse : MethodName := ⟨RX4, "refuse", "(I)I"⟩
abbrev cX4_refuseLong : ByteArray := prog_1_method_41_code
def yX4_refuseLong : MethodName := ⟨RX4, "refuseLong", "(I)J"⟩
abbrev cX4_isNoOffset : ByteArray := prog_1_method_42_code
def yX4_isNoOffset : MethodName := ⟨RX4, "isNoOffset", "(I)Z"⟩
abbrev cX4_isNoInch : ByteArray := prog_1_method_43_code
def yX4_isNoInch : MethodName := ⟨RX4, "isNoInch", "(I)Z"⟩
abbrev cX4_isNoTool : ByteArray := prog_1_method_44_code
def yX4_isNoTool : MethodName := ⟨RX4, "isNoTool", "(I)Z"⟩
abbrev cX4_isOut : ByteArray := prog_1_method_45_code
def yX4_isOut : MethodName := ⟨RX4, "isOut", "(II)Z"⟩
abbrev cX4_isNoPart : ByteArray := prog_1_method_46_code
def yX4_isNoPart : MethodName := ⟨RX4, "isNoPart", "(I)Z"⟩
abbrev cX4_modulo : ByteArray := prog_1_method_47_code
def yX4_modulo : MethodName := ⟨RX4, "modulo", "(II)I"⟩
abbrev cX4_isIn : ByteArray := prog_1_method_48_code
def yX4_isIn : MethodName := ⟨RX4, "isIn", "(II)Z"⟩
abbrev cX4_partOf : ByteArray := prog_1_method_49_code
def yX4_partOf : MethodName := ⟨RX4, "partOf", "(JJI)J"⟩
abbrev cX4_commonDivisor : ByteArray := prog_1_method_50_code
def yX4_commonDivisor : MethodName := ⟨RX4, "commonDivisor", "(JJ)J"⟩
abbrev cX4_tenths : ByteArray := prog_1_method_51_code
def yX4_tenths : MethodName := ⟨RX4, "tenths", "(IZZ)I"⟩
def RX5 : String := "ANailInTheWallModel"
def TX5 : u_T := fun k => match k with
  | 0 => ("ANailInTheWallModel", "refused", "[I", true)
  | 1 => ("ANailInTheWallModel", "setting", "[I", true)
  | 2 => ("ANailInTheWallModel", "hole", "[I", true)
  | 3 => ("ANailInTheWallModel", "pipeAt", "[I", true)
  | 4 => ("ANailInTheWallModel", "chance", "[I", true)
  | 5 => ("ANailInTheWallModel", "weight", "[I", true)
  | 6 => ("ANailInTheWallModel", "pipes", "I", false)
  | 7 => ("ANailInTheWallModel", "used", "I", false)
  | 8 => ("ANailInTheWallModel", "tape", "[I", true)
  | 9 => ("ANailInTheWallModel", "letter", "[I", true)
  | 10 => ("ANailInTheWallModel", "letterAt", "[I", true)
  | 11 => ("ANailInTheWallModel", "told", "[I", true)
  | 12 => ("ANailInTheWallModel", "taped", "I", false)
  | 13 => ("ANailInTheWallModel", "at", "I", false)
  | 14 => ("ANailInTheWallModel", "statements", "I", false)
  | 15 => ("ANailInTheWallModel", "kept", "[I", true)
  | 16 => ("ANailInTheWallModel", "hasImage", "Z", false)
  | 17 => ("ANailInTheWallModel", "isKeeping", "Z", false)
  | 18 => ("ANailInTheWallModel", "cursor", "I", false)
  | 19 => ("ANailInTheWallModel", "then", "[J", true)
  | 20 => ("ANailInTheWallModel", "nextAt", "I", false)
  | 21 => ("ANailInTheWallModel", "nextMost", "J", false)
  | 22 => ("ANailInTheWallModel", "row", "[I", true)
  | _ => ("ANailInTheWallModel", "rowMany", "I", false)
def tyX5 : Nat → FieldType := fun k => match k with
  | 0 => .array .int
  | 1 => .array .int
  | 2 => .array .int
  | 3 => .array .int
  | 4 => .array .int
  | 5 => .array .int
  | 6 => .int
  | 7 => .int
  | 8 => .array .int
  | 9 => .array .int
  | 10 => .array .int
  | 11 => .array .int
  | 12 => .int
  | 13 => .int
  | 14 => .int
  | 15 => .array .int
  | 16 => .boolean
  | 17 => .boolean
  | 18 => .int
  | 19 => .array .long
  | 20 => .int
  | 21 => .long
  | 22 => .array .int
  | _ => .int
abbrev wsX50 : List Cond := u_ws RX5 TX5 24
theorem nmX5 : ∀ a, a < 24 → ∀ b, b < 24 → a ≠ b → (TX5 a).2.1 ≠ (TX5 b).2.1 := by decide +kernel
theorem tyX5_ok : ∀ k, k < 24 → parseFieldDescriptor (TX5 k).2.2.1 = some (tyX5 k) := by decide +kernel
abbrev cX5_init : ByteArray := prog_7_method_1_code
def yX5_init : MethodName := ⟨RX5, "<init>", "()V"⟩
abbrev cX5_no : ByteArray := prog_7_method_2_code
def yX5_no : MethodName := ⟨RX5, "no", "(I)I"⟩
abbrev cX5_lowest : ByteArray := prog_7_method_3_code
def yX5_lowest : MethodName := ⟨RX5, "lowest", "(I)J"⟩
abbrev cX5_isIn : ByteArray := prog_7_method_4_code
def yX5_isIn : MethodName := ⟨RX5, "isIn", "(III)Z"⟩
abbrev cX5_bound : ByteArray := prog_7_method_5_code
def yX5_bound : MethodName := ⟨RX5, "bound", "(III)I"⟩
abbrev cX5_isInch : ByteArray := prog_7_method_6_code
def yX5_isInch : MethodName := ⟨RX5, "isInch", "(I)Z"⟩
abbrev cX5_modulo : ByteArray := prog_7_method_7_code
def yX5_modulo : MethodName := ⟨RX5, "modulo", "(II)I"⟩
abbrev cX5_alike : ByteArray := prog_7_method_8_code
def yX5_alike : MethodName := ⟨RX5, "alike", "()V"⟩
abbrev cX5_letter : ByteArray := prog_7_method_9_code
def yX5_letter : MethodName := ⟨RX5, "letter", "(I)I"⟩
abbrev cX5_next : ByteArray := prog_7_method_10_code
def yX5_next : MethodName := ⟨RX5, "next", "()I"⟩
abbrev cX5_readsNumber : ByteArray := prog_7_method_11_code
def yX5_readsNumber : MethodName := ⟨RX5, "readsNumber", "(III)Z"⟩
abbrev cX5_readsSign : ByteArray := prog_7_method_12_code
def yX5_readsSign : MethodName := ⟨RX5, "readsSign", "(I)Z"⟩
abbrev cX5_readsSpace : ByteArray := prog_7_method_13_code
def yX5_readsSpace : MethodName := ⟨RX5, "readsSpace", "(I)Z"⟩
abbrev cX5_lawOf : ByteArray := prog_7_method_14_code
def yX5_lawOf : MethodName := ⟨RX5, "lawOf", "(I)I"⟩
abbrev cX5_readsLaw : ByteArray := prog_7_method_15_code
def yX5_readsLaw : MethodName := ⟨RX5, "readsLaw", "(I)Z"⟩
abbrev cX5_readsAll : ByteArray := prog_7_method_16_code
def yX5_readsAll : MethodName := ⟨RX5, "readsAll", "(II)Z"⟩
abbrev cX5_statement : ByteArray := prog_7_method_17_code
def yX5_statement : MethodName := ⟨RX5, "statement", "()Z"⟩
abbrev cX5_leastOf : ByteArray := prog_7_method_18_code
def yX5_leastOf : MethodName := ⟨RX5, "leastOf", "(I)I"⟩
abbrev cX5_mostOf : ByteArray := prog_7_method_19_code
def yX5_mostOf : MethodName := ⟨RX5, "mostOf", "(I)I"⟩
abbrev cX5_comesSet : ByteArray := prog_7_method_20_code
def yX5_comesSet : MethodName := ⟨RX5, "comesSet", "(II)Z"⟩
abbrev cX5_comes : ByteArray := prog_7_method_21_code
def yX5_comes : MethodName := ⟨RX5, "comes", "(I)Z"⟩
abbrev cX5_comesPipe : ByteArray := prog_7_method_22_code
def yX5_comesPipe : MethodName := ⟨RX5, "comesPipe", "(II)V"⟩
abbrev cX5_wall : ByteArray := prog_7_method_23_code
def yX5_wall : MethodName := ⟨RX5, "wall", "()I"⟩
abbrev cX5_passes : ByteArray := prog_7_method_24_code
def yX5_passes : MethodName := ⟨RX5, "passes", "([I)V"⟩
abbrev cX5_passOne : ByteArray := prog_7_method_25_code
def yX5_passOne : MethodName := ⟨RX5, "passOne", "(I)I"⟩
abbrev cX5_passesAll : ByteArray := prog_7_method_26_code
def yX5_passesAll : MethodName := ⟨RX5, "passesAll", "(IZ)V"⟩
abbrev cX5_image : ByteArray := prog_7_method_27_code
def yX5_image : MethodName := ⟨RX5, "image", "()I"⟩
abbrev cX5_on : ByteArray := prog_7_method_28_code
def yX5_on : MethodName := ⟨RX5, "on", "()I"⟩
abbrev cX5_isLeft : ByteArray := prog_7_method_29_code
def yX5_isLeft : MethodName := ⟨RX5, "isLeft", "(II)Z"⟩
abbrev cX5_isDoored : ByteArray := prog_7_method_30_code
def yX5_isDoored : MethodName := ⟨RX5, "isDoored", "(II)Z"⟩
abbrev cX5_isWood : ByteArray := prog_7_method_31_code
def yX5_isWood : MethodName := ⟨RX5, "isWood", "(II)Z"⟩
abbrev cX5_inWood : ByteArray := prog_7_method_32_code
def yX5_inWood : MethodName := ⟨RX5, "inWood", "(I)I"⟩
abbrev cX5_inNone : ByteArray := prog_7_method_33_code
def yX5_inNone : MethodName := ⟨RX5, "inNone", "(I)I"⟩
abbrev cX5_costOf : ByteArray := prog_7_method_34_code
def yX5_costOf : MethodName := ⟨RX5, "costOf", "(I)I"⟩
abbrev cX5_tenths : ByteArray := prog_7_method_35_code
def yX5_tenths : MethodName := ⟨RX5, "tenths", "(IIII)I"⟩
abbrev cX5_divisor : ByteArray := prog_7_method_36_code
def yX5_divisor : MethodName := ⟨RX5, "divisor", "(JJ)J"⟩
abbrev cX5_divides : ByteArray := prog_7_method_37_code
def yX5_divides : MethodName := ⟨RX5, "divides", "()V"⟩
abbrev cX5_tells : ByteArray := prog_7_method_38_code
def yX5_tells : MethodName := ⟨RX5, "tells", "(III)V"⟩
abbrev cX5_leftBy : ByteArray := prog_7_method_39_code
def yX5_leftBy : MethodName := ⟨RX5, "leftBy", "(II)I"⟩
abbrev cX5_leaves : ByteArray := prog_7_method_40_code
def yX5_leaves : MethodName := ⟨RX5, "leaves", "(II)V"⟩
abbrev cX5_nails : ByteArray := prog_7_method_41_code
def yX5_nails : MethodName := ⟨RX5, "nails", "(II)V"⟩
abbrev cX5_set : ByteArray := prog_7_method_42_code
def yX5_set : MethodName := ⟨RX5, "set", "(II)I"⟩
abbrev cX5_isOffset : ByteArray := prog_7_method_43_code
def yX5_isOffset : MethodName := ⟨RX5, "isOffset", "(I)Z"⟩
abbrev cX5_wood : ByteArray := prog_7_method_44_code
def yX5_wood : MethodName := ⟨RX5, "wood", "(II)I"⟩
abbrev cX5_weight : ByteArray := prog_7_method_45_code
def yX5_weight : MethodName := ⟨RX5, "weight", "(I)J"⟩
abbrev cX5_tool : ByteArray := prog_7_method_46_code
def yX5_tool : MethodName := ⟨RX5, "tool", "(II)I"⟩
abbrev cX5_telling : ByteArray := prog_7_method_47_code
def yX5_telling : MethodName := ⟨RX5, "telling", "(III)I"⟩
abbrev cX5_nail : ByteArray := prog_7_method_48_code
def yX5_nail : MethodName := ⟨RX5, "nail", "(II)I"⟩
abbrev cX5_pipe : ByteArray := prog_7_method_49_code
def yX5_pipe : MethodName := ⟨RX5, "pipe", "(II)I"⟩
abbrev cX5_chancesAt : ByteArray := prog_7_method_50_code
def yX5_chancesAt : MethodName := ⟨RX5, "chancesAt", "(I)I"⟩
abbrev cX5_risk : ByteArray := prog_7_method_51_code
def yX5_risk : MethodName := ⟨RX5, "risk", "(I)I"⟩
abbrev cX5_hole : ByteArray := prog_7_method_52_code
def yX5_hole : MethodName := ⟨RX5, "hole", "(I)I"⟩
abbrev cX5_holesMany : ByteArray := prog_7_method_53_code
def yX5_holesMany : MethodName := ⟨RX5, "holesMany", "()I"⟩
abbrev cX5_fill : ByteArray := prog_7_method_54_code
def yX5_fill : MethodName := ⟨RX5, "fill", "()I"⟩
abbrev cX5_withWeight : ByteArray := prog_7_method_55_code
def yX5_withWeight : MethodName := ⟨RX5, "withWeight", "()I"⟩
abbrev cX5_all : ByteArray := prog_7_method_56_code
def yX5_all : MethodName := ⟨RX5, "all", "()J"⟩
abbrev cX5_woodAt : ByteArray := prog_7_method_57_code
def yX5_woodAt : MethodName := ⟨RX5, "woodAt", "(I)J"⟩
abbrev cX5_partOf : ByteArray := prog_7_method_58_code
def yX5_partOf : MethodName := ⟨RX5, "partOf", "(JJI)J"⟩
abbrev cX5_likely : ByteArray := prog_7_method_59_code
def yX5_likely : MethodName := ⟨RX5, "likely", "(II)J"⟩
abbrev cX5_sure : ByteArray := prog_7_method_60_code
def yX5_sure : MethodName := ⟨RX5, "sure", "(II)I"⟩
abbrev cX5_bestNow : ByteArray := prog_7_method_61_code
def yX5_bestNow : MethodName := ⟨RX5, "bestNow", "()I"⟩
abbrev cX5_best : ByteArray := prog_7_method_62_code
def yX5_best : MethodName := ⟨RX5, "best", "()I"⟩
abbrev cX5_safeAt : ByteArray := prog_7_method_63_code
def yX5_safeAt : MethodName := ⟨RX5, "safeAt", "(I)J"⟩
abbrev cX5_safest : ByteArray := prog_7_method_64_code
def yX5_safest : MethodName := ⟨RX5, "safest", "()I"⟩
abbrev cX5_holesBy : ByteArray := prog_7_method_65_code
def yX5_holesBy : MethodName := ⟨RX5, "holesBy", "(II)I"⟩
abbrev cX5_holes : ByteArray := prog_7_method_66_code
def yX5_holes : MethodName := ⟨RX5, "holes", "(I)I"⟩
abbrev cX5_holesAll : ByteArray := prog_7_method_67_code
def yX5_holesAll : MethodName := ⟨RX5, "holesAll", "(I)J"⟩
abbrev cX5_mean : ByteArray := prog_7_method_68_code
def yX5_mean : MethodName := ⟨RX5, "mean", "(II)J"⟩
abbrev cX5_from : ByteArray := prog_7_method_69_code
def yX5_from : MethodName := ⟨RX5, "from", "()I"⟩
abbrev cX5_greatestBehind : ByteArray := prog_7_method_70_code
def yX5_greatestBehind : MethodName := ⟨RX5, "greatestBehind", "(III)J"⟩
abbrev cX5_nextParts : ByteArray := prog_7_method_71_code
def yX5_nextParts : MethodName := ⟨RX5, "nextParts", "(II)J"⟩
abbrev cX5_findNext : ByteArray := prog_7_method_72_code
def yX5_findNext : MethodName := ⟨RX5, "findNext", "(I)V"⟩
abbrev cX5_worthParts : ByteArray := prog_7_method_73_code
def yX5_worthParts : MethodName := ⟨RX5, "worthParts", "(I)J"⟩
abbrev cX5_next_ : ByteArray := prog_7_method_74_code
def yX5_next_ : MethodName := ⟨RX5, "next", "(I)I"⟩
abbrev cX5_worth : ByteArray := prog_7_method_75_code
def yX5_worth : MethodName := ⟨RX5, "worth", "(II)J"⟩
abbrev cX5_kind : ByteArray := prog_7_method_76_code
def yX5_kind : MethodName := ⟨RX5, "kind", "()I"⟩
abbrev cX5_covered : ByteArray := prog_7_method_77_code
def yX5_covered : MethodName := ⟨RX5, "covered", "(II)I"⟩
abbrev cX5_covers : ByteArray := prog_7_method_78_code
def yX5_covers : MethodName := ⟨RX5, "covers", "(II)I"⟩
abbrev cX5_likeliestIn : ByteArray := prog_7_method_79_code
def yX5_likeliestIn : MethodName := ⟨RX5, "likeliestIn", "(II)J"⟩
abbrev cX5_hang : ByteArray := prog_7_method_80_code
def yX5_hang : MethodName := ⟨RX5, "hang", "(I)I"⟩
abbrev cX5_middle : ByteArray := prog_7_method_81_code
def yX5_middle : MethodName := ⟨RX5, "middle", "(II)I"⟩
abbrev cX5_bothAt : ByteArray := prog_7_method_82_code
def yX5_bothAt : MethodName := ⟨RX5, "bothAt", "(II)J"⟩
abbrev cX5_twoBy : ByteArray := prog_7_method_83_code
def yX5_twoBy : MethodName := ⟨RX5, "twoBy", "(I)I"⟩
abbrev cX5_two : ByteArray := prog_7_method_84_code
def yX5_two : MethodName := ⟨RX5, "two", "(I)I"⟩
abbrev cX5_both : ByteArray := prog_7_method_85_code
def yX5_both : MethodName := ⟨RX5, "both", "(II)J"⟩
abbrev cX5_wire : ByteArray := prog_7_method_86_code
def yX5_wire : MethodName := ⟨RX5, "wire", "(II)I"⟩
abbrev cX5_twin : ByteArray := prog_7_method_87_code
def yX5_twin : MethodName := ⟨RX5, "twin", "(I)I"⟩
abbrev cX5_twinLikely : ByteArray := prog_7_method_88_code
def yX5_twinLikely : MethodName := ⟨RX5, "twinLikely", "(III)J"⟩
abbrev cX5_row : ByteArray := prog_7_method_89_code
def yX5_row : MethodName := ⟨RX5, "row", "(I)I"⟩
abbrev cX5_areInches : ByteArray := prog_7_method_90_code
def yX5_areInches : MethodName := ⟨RX5, "areInches", "()Z"⟩
abbrev cX5_isAsTold : ByteArray := prog_7_method_91_code
def yX5_isAsTold : MethodName := ⟨RX5, "isAsTold", "(I)Z"⟩
abbrev cX5_old : ByteArray := prog_7_method_92_code
def yX5_old : MethodName := ⟨RX5, "old", "()I"⟩
abbrev cX5_happened : ByteArray := prog_7_method_93_code
def yX5_happened : MethodName := ⟨RX5, "happened", "(II)J"⟩
abbrev cX5_judge : ByteArray := prog_7_method_94_code
def yX5_judge : MethodName := ⟨RX5, "judge", "()I"⟩
abbrev cX5_nailsBy : ByteArray := prog_7_method_95_code
def yX5_nailsBy : MethodName := ⟨RX5, "nailsBy", "(I)I"⟩
abbrev cX5_lots : ByteArray := prog_7_method_96_code
def yX5_lots : MethodName := ⟨RX5, "lots", "(II)I"⟩
abbrev cX5_count : ByteArray := prog_7_method_97_code
def yX5_count : MethodName := ⟨RX5, "count", "(I)I"⟩
def RJ11 : String := "java/lang/Character"
def TJ11 : u_T := fun k => match k with
  | _ => ("", "", "", false)
def tyJ11 : Nat → FieldType := fun k => match k with
  | _ => .int
abbrev cJ11_isValidCodePoint_9a6ad : ByteArray := prog_8_method_11_code
def yJ11_isValidCodePoint_9a6ad : MethodName := ⟨RJ11, "isValidCodePoint", "(I)Z"⟩
abbrev cJ11_highSurrogate_5068e : ByteArray := prog_8_method_28_code
def yJ11_highSurrogate_5068e : MethodName := ⟨RJ11, "highSurrogate", "(I)C"⟩
abbrev cJ11_lowSurrogate_5068e : ByteArray := prog_8_method_29_code
def yJ11_lowSurrogate_5068e : MethodName := ⟨RJ11, "lowSurrogate", "(I)C"⟩
def RJ6 : String := "java/lang/Integer"
def TJ6 : u_T := fun k => match k with
  | _ => ("", "", "", false)
def tyJ6 : Nat → FieldType := fun k => match k with
  | _ => .int
abbrev cJ6_bitCount_0f7a4 : ByteArray := prog_9_method_49_code
def yJ6_bitCount_0f7a4 : MethodName := ⟨RJ6, "bitCount", "(I)I"⟩
def RJ13 : String := "java/lang/Long"
def TJ13 : u_T := fun k => match k with
  | _ => ("", "", "", false)
def tyJ13 : Nat → FieldType := fun k => match k with
  | _ => .int
abbrev cJ13_bitCount_95d88 : ByteArray := prog_10_method_50_code
def yJ13_bitCount_95d88 : MethodName := ⟨RJ13, "bitCount", "(J)I"⟩
def RJ9 : String := "java/lang/Math"
def TJ9 : u_T := fun k => match k with
  | _ => ("", "", "", false)
def tyJ9 : Nat → FieldType := fun k => match k with
  | _ => .int
abbrev cJ9_floorMod_7cf53 : ByteArray := prog_11_method_50_code
def yJ9_floorMod_7cf53 : MethodName := ⟨RJ9, "floorMod", "(II)I"⟩
abbrev cJ9_abs_0f7a4 : ByteArray := prog_11_method_59_code
def yJ9_abs_0f7a4 : MethodName := ⟨RJ9, "abs", "(I)I"⟩
abbrev cJ9_max_7cf53 : ByteArray := prog_11_method_65_code
def yJ9_max_7cf53 : MethodName := ⟨RJ9, "max", "(II)I"⟩
abbrev cJ9_max_f86c9 : ByteArray := prog_11_method_66_code
def yJ9_max_f86c9 : MethodName := ⟨RJ9, "max", "(JJ)J"⟩
abbrev cJ9_min_7cf53 : ByteArray := prog_11_method_69_code
def yJ9_min_7cf53 : MethodName := ⟨RJ9, "min", "(II)I"⟩
def RJ0 : String := "java/lang/String"
def TJ0 : u_T := fun k => match k with
  | _ => ("", "", "", false)
def tyJ0 : Nat → FieldType := fun k => match k with
  | _ => .int
abbrev cJ0_length_8abf5 : ByteArray := prog_12_method_54_code
def yJ0_length_8abf5 : MethodName := ⟨RJ0, "length", "()I"⟩
abbrev cJ0_isEmpty_aae02 : ByteArray := prog_12_method_55_code
def yJ0_isEmpty_aae02 : MethodName := ⟨RJ0, "isEmpty", "()Z"⟩
abbrev cJ0_charAt_5068e : ByteArray := prog_12_method_56_code
def yJ0_charAt_5068e : MethodName := ⟨RJ0, "charAt", "(I)C"⟩
abbrev cJ0_indexOf_0f7a4 : ByteArray := prog_12_method_79_code
def yJ0_indexOf_0f7a4 : MethodName := ⟨RJ0, "indexOf", "(I)I"⟩
abbrev cJ0_indexOf_7cf53 : ByteArray := prog_12_method_80_code
def yJ0_indexOf_7cf53 : MethodName := ⟨RJ0, "indexOf", "(II)I"⟩
abbrev cJ0_coder_7d493 : ByteArray := prog_12_method_152_code
def yJ0_coder_7d493 : MethodName := ⟨RJ0, "coder", "()B"⟩
abbrev cJ0_isLatin1_aae02 : ByteArray := prog_12_method_154_code
def yJ0_isLatin1_aae02 : MethodName := ⟨RJ0, "isLatin1", "()Z"⟩
abbrev cJ0_checkIndex_df160 : ByteArray := prog_12_method_155_code
def yJ0_checkIndex_df160 : MethodName := ⟨RJ0, "checkIndex", "(II)V"⟩
abbrev cJ0_checkBoundsBeginEnd_23922 : ByteArray := prog_12_method_158_code
def yJ0_checkBoundsBeginEnd_23922 : MethodName := ⟨RJ0, "checkBoundsBeginEnd", "(III)V"⟩
def RJ1 : String := "java/lang/StringLatin1"
def TJ1 : u_T := fun k => match k with
  | _ => ("", "", "", false)
def tyJ1 : Nat → FieldType := fun k => match k with
  | _ => .int
abbrev cJ1_charAt_3b067 : ByteArray := prog_13_method_2_code
def yJ1_charAt_3b067 : MethodName := ⟨RJ1, "charAt", "([BI)C"⟩
abbrev cJ1_canEncode_9a6ad : ByteArray := prog_13_method_4_code
def yJ1_canEncode_9a6ad : MethodName := ⟨RJ1, "canEncode", "(I)Z"⟩
abbrev cJ1_indexOf_4cfef : ByteArray := prog_13_method_22_code
def yJ1_indexOf_4cfef : MethodName := ⟨RJ1, "indexOf", "([BIII)I"⟩
abbrev cJ1_indexOfChar_4cfef : ByteArray := prog_13_method_23_code
def yJ1_indexOfChar_4cfef : MethodName := ⟨RJ1, "indexOfChar", "([BIII)I"⟩
def RJ2 : String := "java/lang/StringUTF16"
def TJ2 : u_T := fun k => match k with
  | _ => ("", "", "", false)
def tyJ2 : Nat → FieldType := fun k => match k with
  | _ => .int
abbrev cJ2_getChar_3b067 : ByteArray := prog_14_method_5_code
def yJ2_getChar_3b067 : MethodName := ⟨RJ2, "getChar", "([BI)C"⟩
abbrev cJ2_length_9d52b : ByteArray := prog_14_method_6_code
def yJ2_length_9d52b : MethodName := ⟨RJ2, "length", "([B)I"⟩
abbrev cJ2_indexOf_4cfef : ByteArray := prog_14_method_40_code
def yJ2_indexOf_4cfef : MethodName := ⟨RJ2, "indexOf", "([BIII)I"⟩
abbrev cJ2_indexOfChar_4cfef : ByteArray := prog_14_method_47_code
def yJ2_indexOfChar_4cfef : MethodName := ⟨RJ2, "indexOfChar", "([BIII)I"⟩
abbrev cJ2_indexOfCharUnsafe_4cfef : ByteArray := prog_14_method_48_code
def yJ2_indexOfCharUnsafe_4cfef : MethodName := ⟨RJ2, "indexOfCharUnsafe", "([BIII)I"⟩
abbrev cJ2_indexOfSupplementary_4cfef : ByteArray := prog_14_method_49_code
def yJ2_indexOfSupplementary_4cfef : MethodName := ⟨RJ2, "indexOfSupplementary", "([BIII)I"⟩
abbrev cJ2_charAt_3b067 : ByteArray := prog_14_method_83_code
def yJ2_charAt_3b067 : MethodName := ⟨RJ2, "charAt", "([BI)C"⟩
abbrev cJ2_checkIndex_2214a : ByteArray := prog_14_method_91_code
def yJ2_checkIndex_2214a : MethodName := ⟨RJ2, "checkIndex", "(I[B)V"⟩
abbrev cJ2_checkBoundsBeginEnd_d044e : ByteArray := prog_14_method_93_code
def yJ2_checkBoundsBeginEnd_d044e : MethodName := ⟨RJ2, "checkBoundsBeginEnd", "(II[B)V"⟩
def RJ10 : String := "java/lang/System"
def TJ10 : u_T := fun k => match k with
  | _ => ("", "", "", false)
def tyJ10 : Nat → FieldType := fun k => match k with
  | _ => .int
def RJ3 : String := "jdk/internal/util/Preconditions"
def TJ3 : u_T := fun k => match k with
  | _ => ("", "", "", false)
def tyJ3 : Nat → FieldType := fun k => match k with
  | _ => .int
abbrev cJ3_checkIndex_8e157 : ByteArray := prog_16_method_11_code
def yJ3_checkIndex_8e157 : MethodName := ⟨RJ3, "checkIndex", "(IILjava/util/function/BiFunction;)I"⟩
abbrev cJ3_checkFromToIndex_8c36e : ByteArray := prog_16_method_12_code
def yJ3_checkFromToIndex_8c36e : MethodName := ⟨RJ3, "checkFromToIndex", "(IIILjava/util/function/BiFunction;)I"⟩
def RL : String := "ANailInTheWallLaw"
abbrev cL_law : ByteArray := code
def yL_law : MethodName := ⟨RL, "law", "([I)Z"⟩
abbrev vwCl : List vw_C := [(RX0, TX0, 2), (RX1, TX1, 5), (RX2, TX2, 3), (RX3, TX3, 14), (RX4, TX4, 8), (RX5, TX5, 24)]
