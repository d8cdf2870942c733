section
-- ===== PART A: goes FIRST, ahead of the names: the tables' words, and 'selects' of the private methods out of them =====
/-- a private method of a class that the tables say can be made, by its rows of tables_1 -/
def lw_okq (q : MethodName × Nat) : Prop := (q.1.cls ≠ "java/lang/invoke/MethodHandle" ∧ q.1.cls ≠ "java/lang/invoke/VarHandle") ∧ Cond.instantiable q.1.cls q.2 ∈ tables_1 ∧ Cond.privateMethod q.1 ∈ tables_1 ∧ Cond.instanceMethod q.1 ∈ tables_1
theorem lw_p0 : lw_okq (⟨"PhiHall$Told", "reckon", "()V"⟩, 13) := ⟨⟨by decide +kernel, by decide +kernel⟩, List.mem_of_getElem? (i := 33) (by decide +kernel), List.mem_of_getElem? (i := 80) (by decide +kernel), List.mem_of_getElem? (i := 81) (by decide +kernel)⟩
theorem lw_p1 : lw_okq (⟨"PhiHall$Told", "readLines", "(I)V"⟩, 13) := ⟨⟨by decide +kernel, by decide +kernel⟩, List.mem_of_getElem? (i := 33) (by decide +kernel), List.mem_of_getElem? (i := 111) (by decide +kernel), List.mem_of_getElem? (i := 112) (by decide +kernel)⟩
theorem lw_p2 : lw_okq (⟨"PhiHall$Flow", "reachedWithout", "(I)I"⟩, 5) := ⟨⟨by decide +kernel, by decide +kernel⟩, List.mem_of_getElem? (i := 50) (by decide +kernel), List.mem_of_getElem? (i := 127) (by decide +kernel), List.mem_of_getElem? (i := 128) (by decide +kernel)⟩
theorem lw_p3 : lw_okq (⟨"PhiHall$Flow", "addDominator", "(II)V"⟩, 5) := ⟨⟨by decide +kernel, by decide +kernel⟩, List.mem_of_getElem? (i := 50) (by decide +kernel), List.mem_of_getElem? (i := 134) (by decide +kernel), List.mem_of_getElem? (i := 135) (by decide +kernel)⟩
theorem lw_p4 : lw_okq (⟨"PhiHall$Flow", "firstReady", "(I)I"⟩, 5) := ⟨⟨by decide +kernel, by decide +kernel⟩, List.mem_of_getElem? (i := 50) (by decide +kernel), List.mem_of_getElem? (i := 138) (by decide +kernel), List.mem_of_getElem? (i := 139) (by decide +kernel)⟩
theorem lw_p5 : lw_okq (⟨"PhiHall$Told", "reckonWanted", "()V"⟩, 13) := ⟨⟨by decide +kernel, by decide +kernel⟩, List.mem_of_getElem? (i := 33) (by decide +kernel), List.mem_of_getElem? (i := 142) (by decide +kernel), List.mem_of_getElem? (i := 143) (by decide +kernel)⟩
theorem lw_p6 : lw_okq (⟨"PhiHall", "isTold", "(I)Z"⟩, 15) := ⟨⟨by decide +kernel, by decide +kernel⟩, List.mem_of_getElem? (i := 25) (by decide +kernel), List.mem_of_getElem? (i := 528) (by decide +kernel), List.mem_of_getElem? (i := 529) (by decide +kernel)⟩
theorem lw_p7 : lw_okq (⟨"java/lang/Throwable", "fillInStackTrace", "(I)Ljava/lang/Throwable;"⟩, 6) := ⟨⟨by decide +kernel, by decide +kernel⟩, List.mem_of_getElem? (i := 570) (by decide +kernel), List.mem_of_getElem? (i := 568) (by decide +kernel), List.mem_of_getElem? (i := 569) (by decide +kernel)⟩
theorem lw_p8 : lw_okq (⟨"PhiHall$Maker", "placePhis", "(LPhiHall$Told;)V"⟩, 3) := ⟨⟨by decide +kernel, by decide +kernel⟩, List.mem_of_getElem? (i := 343) (by decide +kernel), List.mem_of_getElem? (i := 689) (by decide +kernel), List.mem_of_getElem? (i := 690) (by decide +kernel)⟩
theorem lw_p9 : lw_okq (⟨"PhiHall$Maker", "whereJoined", "(LPhiHall$Told;I)I"⟩, 3) := ⟨⟨by decide +kernel, by decide +kernel⟩, List.mem_of_getElem? (i := 343) (by decide +kernel), List.mem_of_getElem? (i := 694) (by decide +kernel), List.mem_of_getElem? (i := 695) (by decide +kernel)⟩
theorem lw_p10 : lw_okq (⟨"PhiHall$Maker", "addValues", "(LPhiHall$Told;LPhiHall$Form;I)V"⟩, 3) := ⟨⟨by decide +kernel, by decide +kernel⟩, List.mem_of_getElem? (i := 343) (by decide +kernel), List.mem_of_getElem? (i := 703) (by decide +kernel), List.mem_of_getElem? (i := 704) (by decide +kernel)⟩
theorem lw_p11 : lw_okq (⟨"PhiHall$Maker", "addEdges", "(LPhiHall$Told;LPhiHall$Form;I)V"⟩, 3) := ⟨⟨by decide +kernel, by decide +kernel⟩, List.mem_of_getElem? (i := 343) (by decide +kernel), List.mem_of_getElem? (i := 708) (by decide +kernel), List.mem_of_getElem? (i := 709) (by decide +kernel)⟩
theorem lw_p12 : lw_okq (⟨"PhiHall$Maker", "holdAtBeginning", "(LPhiHall$Told;LPhiHall$Form;I)V"⟩, 3) := ⟨⟨by decide +kernel, by decide +kernel⟩, List.mem_of_getElem? (i := 343) (by decide +kernel), List.mem_of_getElem? (i := 716) (by decide +kernel), List.mem_of_getElem? (i := 717) (by decide +kernel)⟩
theorem lw_p13 : lw_okq (⟨"PhiHall$Maker", "hold", "(IIII)V"⟩, 3) := ⟨⟨by decide +kernel, by decide +kernel⟩, List.mem_of_getElem? (i := 343) (by decide +kernel), List.mem_of_getElem? (i := 724) (by decide +kernel), List.mem_of_getElem? (i := 725) (by decide +kernel)⟩
theorem lw_p14 : lw_okq (⟨"PhiHall$Maker", "followLines", "(LPhiHall$Told;LPhiHall$Form;I)V"⟩, 3) := ⟨⟨by decide +kernel, by decide +kernel⟩, List.mem_of_getElem? (i := 343) (by decide +kernel), List.mem_of_getElem? (i := 732) (by decide +kernel), List.mem_of_getElem? (i := 733) (by decide +kernel)⟩
theorem lw_p15 : lw_okq (⟨"PhiHall$Maker", "give", "(LPhiHall$Form;III)V"⟩, 3) := ⟨⟨by decide +kernel, by decide +kernel⟩, List.mem_of_getElem? (i := 343) (by decide +kernel), List.mem_of_getElem? (i := 742) (by decide +kernel), List.mem_of_getElem? (i := 743) (by decide +kernel)⟩
def lw_privs_1 : List (MethodName × Nat) := [(⟨"PhiHall$Told", "reckon", "()V"⟩, 13), (⟨"PhiHall$Told", "readLines", "(I)V"⟩, 13), (⟨"PhiHall$Flow", "reachedWithout", "(I)I"⟩, 5), (⟨"PhiHall$Flow", "addDominator", "(II)V"⟩, 5), (⟨"PhiHall$Flow", "firstReady", "(I)I"⟩, 5), (⟨"PhiHall$Told", "reckonWanted", "()V"⟩, 13), (⟨"PhiHall", "isTold", "(I)Z"⟩, 15), (⟨"java/lang/Throwable", "fillInStackTrace", "(I)Ljava/lang/Throwable;"⟩, 6), (⟨"PhiHall$Maker", "placePhis", "(LPhiHall$Told;)V"⟩, 3), (⟨"PhiHall$Maker", "whereJoined", "(LPhiHall$Told;I)I"⟩, 3), (⟨"PhiHall$Maker", "addValues", "(LPhiHall$Told;LPhiHall$Form;I)V"⟩, 3), (⟨"PhiHall$Maker", "addEdges", "(LPhiHall$Told;LPhiHall$Form;I)V"⟩, 3), (⟨"PhiHall$Maker", "holdAtBeginning", "(LPhiHall$Told;LPhiHall$Form;I)V"⟩, 3), (⟨"PhiHall$Maker", "hold", "(IIII)V"⟩, 3), (⟨"PhiHall$Maker", "followLines", "(LPhiHall$Told;LPhiHall$Form;I)V"⟩, 3), (⟨"PhiHall$Maker", "give", "(LPhiHall$Form;III)V"⟩, 3)]
theorem lw_r1 : ∀ q ∈ lw_privs_1, lw_okq q := List.forall_mem_cons.mpr ⟨lw_p0, List.forall_mem_cons.mpr ⟨lw_p1, List.forall_mem_cons.mpr ⟨lw_p2, List.forall_mem_cons.mpr ⟨lw_p3, List.forall_mem_cons.mpr ⟨lw_p4, List.forall_mem_cons.mpr ⟨lw_p5, List.forall_mem_cons.mpr ⟨lw_p6, List.forall_mem_cons.mpr ⟨lw_p7, List.forall_mem_cons.mpr ⟨lw_p8, List.forall_mem_cons.mpr ⟨lw_p9, List.forall_mem_cons.mpr ⟨lw_p10, List.forall_mem_cons.mpr ⟨lw_p11, List.forall_mem_cons.mpr ⟨lw_p12, List.forall_mem_cons.mpr ⟨lw_p13, List.forall_mem_cons.mpr ⟨lw_p14, List.forall_mem_cons.mpr ⟨lw_p15, fun _ h => absurd h List.not_mem_nil⟩⟩⟩⟩⟩⟩⟩⟩⟩⟩⟩⟩⟩⟩⟩⟩
theorem lw_p16 : lw_okq (⟨"PhiHall$Maker", "valueFor", "(II)I"⟩, 3) := ⟨⟨by decide +kernel, by decide +kernel⟩, List.mem_of_getElem? (i := 343) (by decide +kernel), List.mem_of_getElem? (i := 746) (by decide +kernel), List.mem_of_getElem? (i := 747) (by decide +kernel)⟩
theorem lw_p17 : lw_okq (⟨"PhiHall$Maker", "numberFor", "(II)I"⟩, 3) := ⟨⟨by decide +kernel, by decide +kernel⟩, List.mem_of_getElem? (i := 343) (by decide +kernel), List.mem_of_getElem? (i := 751) (by decide +kernel), List.mem_of_getElem? (i := 752) (by decide +kernel)⟩
theorem lw_p18 : lw_okq (⟨"PhiHall$Maker", "givePhisTheirs", "(LPhiHall$Form;)V"⟩, 3) := ⟨⟨by decide +kernel, by decide +kernel⟩, List.mem_of_getElem? (i := 343) (by decide +kernel), List.mem_of_getElem? (i := 761) (by decide +kernel), List.mem_of_getElem? (i := 762) (by decide +kernel)⟩
theorem lw_p19 : lw_okq (⟨"PhiHall$Maker", "givePhi", "(LPhiHall$Form;I)V"⟩, 3) := ⟨⟨by decide +kernel, by decide +kernel⟩, List.mem_of_getElem? (i := 343) (by decide +kernel), List.mem_of_getElem? (i := 765) (by decide +kernel), List.mem_of_getElem? (i := 766) (by decide +kernel)⟩
theorem lw_p20 : lw_okq (⟨"PhiHall", "passOver", "(LPhiHall$Form;I)I"⟩, 15) := ⟨⟨by decide +kernel, by decide +kernel⟩, List.mem_of_getElem? (i := 25) (by decide +kernel), List.mem_of_getElem? (i := 785) (by decide +kernel), List.mem_of_getElem? (i := 786) (by decide +kernel)⟩
theorem lw_p21 : lw_okq (⟨"PhiHall$Constants", "begin", "()V"⟩, 5) := ⟨⟨by decide +kernel, by decide +kernel⟩, List.mem_of_getElem? (i := 361) (by decide +kernel), List.mem_of_getElem? (i := 793) (by decide +kernel), List.mem_of_getElem? (i := 794) (by decide +kernel)⟩
theorem lw_p22 : lw_okq (⟨"PhiHall$Constants", "visit", "(LPhiHall$Form;I)V"⟩, 5) := ⟨⟨by decide +kernel, by decide +kernel⟩, List.mem_of_getElem? (i := 361) (by decide +kernel), List.mem_of_getElem? (i := 801) (by decide +kernel), List.mem_of_getElem? (i := 802) (by decide +kernel)⟩
theorem lw_p23 : lw_okq (⟨"PhiHall$Constants", "meet", "(LPhiHall$Form;II)V"⟩, 5) := ⟨⟨by decide +kernel, by decide +kernel⟩, List.mem_of_getElem? (i := 361) (by decide +kernel), List.mem_of_getElem? (i := 807) (by decide +kernel), List.mem_of_getElem? (i := 808) (by decide +kernel)⟩
theorem lw_p24 : lw_okq (⟨"PhiHall$Constants", "knownAt", "(LPhiHall$Form;I)I"⟩, 5) := ⟨⟨by decide +kernel, by decide +kernel⟩, List.mem_of_getElem? (i := 361) (by decide +kernel), List.mem_of_getElem? (i := 812) (by decide +kernel), List.mem_of_getElem? (i := 813) (by decide +kernel)⟩
theorem lw_p25 : lw_okq (⟨"PhiHall$Constants", "numberAt", "(LPhiHall$Form;I)I"⟩, 5) := ⟨⟨by decide +kernel, by decide +kernel⟩, List.mem_of_getElem? (i := 361) (by decide +kernel), List.mem_of_getElem? (i := 816) (by decide +kernel), List.mem_of_getElem? (i := 817) (by decide +kernel)⟩
theorem lw_p26 : lw_okq (⟨"PhiHall$Constants", "rise", "(III)V"⟩, 5) := ⟨⟨by decide +kernel, by decide +kernel⟩, List.mem_of_getElem? (i := 361) (by decide +kernel), List.mem_of_getElem? (i := 820) (by decide +kernel), List.mem_of_getElem? (i := 821) (by decide +kernel)⟩
theorem lw_p27 : lw_okq (⟨"PhiHall$Constants", "reckon", "(LPhiHall$Form;II)V"⟩, 5) := ⟨⟨by decide +kernel, by decide +kernel⟩, List.mem_of_getElem? (i := 361) (by decide +kernel), List.mem_of_getElem? (i := 825) (by decide +kernel), List.mem_of_getElem? (i := 826) (by decide +kernel)⟩
theorem lw_p28 : lw_okq (⟨"PhiHall$Constants", "goOn", "(LPhiHall$Form;I)V"⟩, 5) := ⟨⟨by decide +kernel, by decide +kernel⟩, List.mem_of_getElem? (i := 361) (by decide +kernel), List.mem_of_getElem? (i := 832) (by decide +kernel), List.mem_of_getElem? (i := 833) (by decide +kernel)⟩
theorem lw_p29 : lw_okq (⟨"PhiHall$Constants", "goAlong", "(LPhiHall$Form;I)V"⟩, 5) := ⟨⟨by decide +kernel, by decide +kernel⟩, List.mem_of_getElem? (i := 361) (by decide +kernel), List.mem_of_getElem? (i := 836) (by decide +kernel), List.mem_of_getElem? (i := 837) (by decide +kernel)⟩
theorem lw_p30 : lw_okq (⟨"PhiHall$Constants", "cutWays", "(LPhiHall$Form;)V"⟩, 5) := ⟨⟨by decide +kernel, by decide +kernel⟩, List.mem_of_getElem? (i := 361) (by decide +kernel), List.mem_of_getElem? (i := 840) (by decide +kernel), List.mem_of_getElem? (i := 841) (by decide +kernel)⟩
theorem lw_p31 : lw_okq (⟨"PhiHall$Form", "dropArgument", "(II)V"⟩, 19) := ⟨⟨by decide +kernel, by decide +kernel⟩, List.mem_of_getElem? (i := 221) (by decide +kernel), List.mem_of_getElem? (i := 853) (by decide +kernel), List.mem_of_getElem? (i := 854) (by decide +kernel)⟩
def lw_privs_2 : List (MethodName × Nat) := [(⟨"PhiHall$Maker", "valueFor", "(II)I"⟩, 3), (⟨"PhiHall$Maker", "numberFor", "(II)I"⟩, 3), (⟨"PhiHall$Maker", "givePhisTheirs", "(LPhiHall$Form;)V"⟩, 3), (⟨"PhiHall$Maker", "givePhi", "(LPhiHall$Form;I)V"⟩, 3), (⟨"PhiHall", "passOver", "(LPhiHall$Form;I)I"⟩, 15), (⟨"PhiHall$Constants", "begin", "()V"⟩, 5), (⟨"PhiHall$Constants", "visit", "(LPhiHall$Form;I)V"⟩, 5), (⟨"PhiHall$Constants", "meet", "(LPhiHall$Form;II)V"⟩, 5), (⟨"PhiHall$Constants", "knownAt", "(LPhiHall$Form;I)I"⟩, 5), (⟨"PhiHall$Constants", "numberAt", "(LPhiHall$Form;I)I"⟩, 5), (⟨"PhiHall$Constants", "rise", "(III)V"⟩, 5), (⟨"PhiHall$Constants", "reckon", "(LPhiHall$Form;II)V"⟩, 5), (⟨"PhiHall$Constants", "goOn", "(LPhiHall$Form;I)V"⟩, 5), (⟨"PhiHall$Constants", "goAlong", "(LPhiHall$Form;I)V"⟩, 5), (⟨"PhiHall$Constants", "cutWays", "(LPhiHall$Form;)V"⟩, 5), (⟨"PhiHall$Form", "dropArgument", "(II)V"⟩, 19)]
theorem lw_r2 : ∀ q ∈ lw_privs_2, lw_okq q := List.forall_mem_cons.mpr ⟨lw_p16, List.forall_mem_cons.mpr ⟨lw_p17, List.forall_mem_cons.mpr ⟨lw_p18, List.forall_mem_cons.mpr ⟨lw_p19, List.forall_mem_cons.mpr ⟨lw_p20, List.forall_mem_cons.mpr ⟨lw_p21, List.forall_mem_cons.mpr ⟨lw_p22, List.forall_mem_cons.mpr ⟨lw_p23, List.forall_mem_cons.mpr ⟨lw_p24, List.forall_mem_cons.mpr ⟨lw_p25, List.forall_mem_cons.mpr ⟨lw_p26, List.forall_mem_cons.mpr ⟨lw_p27, List.forall_mem_cons.mpr ⟨lw_p28, List.forall_mem_cons.mpr ⟨lw_p29, List.forall_mem_cons.mpr ⟨lw_p30, List.forall_mem_cons.mpr ⟨lw_p31, fun _ h => absurd h List.not_mem_nil⟩⟩⟩⟩⟩⟩⟩⟩⟩⟩⟩⟩⟩⟩⟩⟩
theorem lw_p32 : lw_okq (⟨"PhiHall$Constants", "loseBlocks", "(LPhiHall$Form;)V"⟩, 5) := ⟨⟨by decide +kernel, by decide +kernel⟩, List.mem_of_getElem? (i := 361) (by decide +kernel), List.mem_of_getElem? (i := 861) (by decide +kernel), List.mem_of_getElem? (i := 862) (by decide +kernel)⟩
theorem lw_p33 : lw_okq (⟨"PhiHall$Constants", "replaceNumbers", "(LPhiHall$Form;)V"⟩, 5) := ⟨⟨by decide +kernel, by decide +kernel⟩, List.mem_of_getElem? (i := 361) (by decide +kernel), List.mem_of_getElem? (i := 874) (by decide +kernel), List.mem_of_getElem? (i := 875) (by decide +kernel)⟩
theorem lw_p34 : lw_okq (⟨"PhiHall$Numbers", "readEdges", "(LPhiHall$Form;)V"⟩, 1) := ⟨⟨by decide +kernel, by decide +kernel⟩, List.mem_of_getElem? (i := 385) (by decide +kernel), List.mem_of_getElem? (i := 891) (by decide +kernel), List.mem_of_getElem? (i := 892) (by decide +kernel)⟩
theorem lw_p35 : lw_okq (⟨"PhiHall$Numbers", "visit", "(LPhiHall$Form;I)V"⟩, 1) := ⟨⟨by decide +kernel, by decide +kernel⟩, List.mem_of_getElem? (i := 385) (by decide +kernel), List.mem_of_getElem? (i := 901) (by decide +kernel), List.mem_of_getElem? (i := 902) (by decide +kernel)⟩
theorem lw_p36 : lw_okq (⟨"PhiHall$Numbers", "twinOfReckoning", "(LPhiHall$Form;II)I"⟩, 1) := ⟨⟨by decide +kernel, by decide +kernel⟩, List.mem_of_getElem? (i := 385) (by decide +kernel), List.mem_of_getElem? (i := 921) (by decide +kernel), List.mem_of_getElem? (i := 922) (by decide +kernel)⟩
theorem lw_p37 : lw_okq (⟨"PhiHall$Dead", "needArguments", "(LPhiHall$Form;I)V"⟩, 2) := ⟨⟨by decide +kernel, by decide +kernel⟩, List.mem_of_getElem? (i := 397) (by decide +kernel), List.mem_of_getElem? (i := 951) (by decide +kernel), List.mem_of_getElem? (i := 952) (by decide +kernel)⟩
theorem lw_p38 : lw_okq (⟨"PhiHall$Dead", "loseOthers", "(LPhiHall$Form;)V"⟩, 2) := ⟨⟨by decide +kernel, by decide +kernel⟩, List.mem_of_getElem? (i := 397) (by decide +kernel), List.mem_of_getElem? (i := 955) (by decide +kernel), List.mem_of_getElem? (i := 956) (by decide +kernel)⟩
theorem lw_p39 : lw_okq (⟨"PhiHall", "manyOfForm", "(I)I"⟩, 15) := ⟨⟨by decide +kernel, by decide +kernel⟩, List.mem_of_getElem? (i := 25) (by decide +kernel), List.mem_of_getElem? (i := 1001) (by decide +kernel), List.mem_of_getElem? (i := 1002) (by decide +kernel)⟩
theorem lw_p40 : lw_okq (⟨"PhiHall$Runner", "doPhis", "(LPhiHall$Form;II)V"⟩, 3) := ⟨⟨by decide +kernel, by decide +kernel⟩, List.mem_of_getElem? (i := 419) (by decide +kernel), List.mem_of_getElem? (i := 1042) (by decide +kernel), List.mem_of_getElem? (i := 1043) (by decide +kernel)⟩
theorem lw_p41 : lw_okq (⟨"PhiHall$Runner", "reckon", "(LPhiHall$Form;II)I"⟩, 3) := ⟨⟨by decide +kernel, by decide +kernel⟩, List.mem_of_getElem? (i := 419) (by decide +kernel), List.mem_of_getElem? (i := 1048) (by decide +kernel), List.mem_of_getElem? (i := 1049) (by decide +kernel)⟩
theorem lw_p42 : lw_okq (⟨"PhiHall$Runner", "doValues", "(LPhiHall$Form;ILPhiHall$Tape;)V"⟩, 3) := ⟨⟨by decide +kernel, by decide +kernel⟩, List.mem_of_getElem? (i := 419) (by decide +kernel), List.mem_of_getElem? (i := 1054) (by decide +kernel), List.mem_of_getElem? (i := 1055) (by decide +kernel)⟩
theorem lw_p43 : lw_okq (⟨"PhiHall$Tape", "finish", "(I)V"⟩, 8) := ⟨⟨by decide +kernel, by decide +kernel⟩, List.mem_of_getElem? (i := 437) (by decide +kernel), List.mem_of_getElem? (i := 1070) (by decide +kernel), List.mem_of_getElem? (i := 1071) (by decide +kernel)⟩
theorem lw_p44 : lw_okq (⟨"PhiHall", "isEnd", "(IIII)Z"⟩, 15) := ⟨⟨by decide +kernel, by decide +kernel⟩, List.mem_of_getElem? (i := 25) (by decide +kernel), List.mem_of_getElem? (i := 1143) (by decide +kernel), List.mem_of_getElem? (i := 1144) (by decide +kernel)⟩
theorem lw_p45 : lw_okq (⟨"PhiHall", "isTarget", "(I)Z"⟩, 15) := ⟨⟨by decide +kernel, by decide +kernel⟩, List.mem_of_getElem? (i := 25) (by decide +kernel), List.mem_of_getElem? (i := 1147) (by decide +kernel), List.mem_of_getElem? (i := 1148) (by decide +kernel)⟩
theorem lw_p46 : lw_okq (⟨"PhiHall$Runner", "doLines", "(LPhiHall$Told;ILPhiHall$Tape;)V"⟩, 3) := ⟨⟨by decide +kernel, by decide +kernel⟩, List.mem_of_getElem? (i := 419) (by decide +kernel), List.mem_of_getElem? (i := 1169) (by decide +kernel), List.mem_of_getElem? (i := 1170) (by decide +kernel)⟩
theorem lw_p47 : lw_okq (⟨"PhiHall$Runner", "read", "(I)I"⟩, 3) := ⟨⟨by decide +kernel, by decide +kernel⟩, List.mem_of_getElem? (i := 419) (by decide +kernel), List.mem_of_getElem? (i := 1173) (by decide +kernel), List.mem_of_getElem? (i := 1174) (by decide +kernel)⟩
def lw_privs_3 : List (MethodName × Nat) := [(⟨"PhiHall$Constants", "loseBlocks", "(LPhiHall$Form;)V"⟩, 5), (⟨"PhiHall$Constants", "replaceNumbers", "(LPhiHall$Form;)V"⟩, 5), (⟨"PhiHall$Numbers", "readEdges", "(LPhiHall$Form;)V"⟩, 1), (⟨"PhiHall$Numbers", "visit", "(LPhiHall$Form;I)V"⟩, 1), (⟨"PhiHall$Numbers", "twinOfReckoning", "(LPhiHall$Form;II)I"⟩, 1), (⟨"PhiHall$Dead", "needArguments", "(LPhiHall$Form;I)V"⟩, 2), (⟨"PhiHall$Dead", "loseOthers", "(LPhiHall$Form;)V"⟩, 2), (⟨"PhiHall", "manyOfForm", "(I)I"⟩, 15), (⟨"PhiHall$Runner", "doPhis", "(LPhiHall$Form;II)V"⟩, 3), (⟨"PhiHall$Runner", "reckon", "(LPhiHall$Form;II)I"⟩, 3), (⟨"PhiHall$Runner", "doValues", "(LPhiHall$Form;ILPhiHall$Tape;)V"⟩, 3), (⟨"PhiHall$Tape", "finish", "(I)V"⟩, 8), (⟨"PhiHall", "isEnd", "(IIII)Z"⟩, 15), (⟨"PhiHall", "isTarget", "(I)Z"⟩, 15), (⟨"PhiHall$Runner", "doLines", "(LPhiHall$Told;ILPhiHall$Tape;)V"⟩, 3), (⟨"PhiHall$Runner", "read", "(I)I"⟩, 3)]
theorem lw_r3 : ∀ q ∈ lw_privs_3, lw_okq q := List.forall_mem_cons.mpr ⟨lw_p32, List.forall_mem_cons.mpr ⟨lw_p33, List.forall_mem_cons.mpr ⟨lw_p34, List.forall_mem_cons.mpr ⟨lw_p35, List.forall_mem_cons.mpr ⟨lw_p36, List.forall_mem_cons.mpr ⟨lw_p37, List.forall_mem_cons.mpr ⟨lw_p38, List.forall_mem_cons.mpr ⟨lw_p39, List.forall_mem_cons.mpr ⟨lw_p40, List.forall_mem_cons.mpr ⟨lw_p41, List.forall_mem_cons.mpr ⟨lw_p42, List.forall_mem_cons.mpr ⟨lw_p43, List.forall_mem_cons.mpr ⟨lw_p44, List.forall_mem_cons.mpr ⟨lw_p45, List.forall_mem_cons.mpr ⟨lw_p46, List.forall_mem_cons.mpr ⟨lw_p47, fun _ h => absurd h List.not_mem_nil⟩⟩⟩⟩⟩⟩⟩⟩⟩⟩⟩⟩⟩⟩⟩⟩
theorem lw_p48 : lw_okq (⟨"PhiHall", "countRun", "()V"⟩, 15) := ⟨⟨by decide +kernel, by decide +kernel⟩, List.mem_of_getElem? (i := 25) (by decide +kernel), List.mem_of_getElem? (i := 1179) (by decide +kernel), List.mem_of_getElem? (i := 1180) (by decide +kernel)⟩
theorem lw_p49 : lw_okq (⟨"PhiHall", "mixedWithBlocks", "(J)J"⟩, 15) := ⟨⟨by decide +kernel, by decide +kernel⟩, List.mem_of_getElem? (i := 25) (by decide +kernel), List.mem_of_getElem? (i := 1232) (by decide +kernel), List.mem_of_getElem? (i := 1233) (by decide +kernel)⟩
theorem lw_p50 : lw_okq (⟨"PhiHall", "mixedWithRun", "(J)J"⟩, 15) := ⟨⟨by decide +kernel, by decide +kernel⟩, List.mem_of_getElem? (i := 25) (by decide +kernel), List.mem_of_getElem? (i := 1237) (by decide +kernel), List.mem_of_getElem? (i := 1238) (by decide +kernel)⟩
theorem lw_p51 : lw_okq (⟨"PhiHall", "mixedWithPlace", "(JI)J"⟩, 15) := ⟨⟨by decide +kernel, by decide +kernel⟩, List.mem_of_getElem? (i := 25) (by decide +kernel), List.mem_of_getElem? (i := 1244) (by decide +kernel), List.mem_of_getElem? (i := 1245) (by decide +kernel)⟩
theorem lw_p52 : lw_okq (⟨"PhiHall", "mixedWithValue", "(JI)J"⟩, 15) := ⟨⟨by decide +kernel, by decide +kernel⟩, List.mem_of_getElem? (i := 25) (by decide +kernel), List.mem_of_getElem? (i := 1269) (by decide +kernel), List.mem_of_getElem? (i := 1270) (by decide +kernel)⟩
theorem lw_p53 : lw_okq (⟨"PhiHall", "isValue", "(I)Z"⟩, 15) := ⟨⟨by decide +kernel, by decide +kernel⟩, List.mem_of_getElem? (i := 25) (by decide +kernel), List.mem_of_getElem? (i := 1277) (by decide +kernel), List.mem_of_getElem? (i := 1278) (by decide +kernel)⟩
theorem lw_p54 : lw_okq (⟨"PhiHall", "isArgument", "(II)Z"⟩, 15) := ⟨⟨by decide +kernel, by decide +kernel⟩, List.mem_of_getElem? (i := 25) (by decide +kernel), List.mem_of_getElem? (i := 1291) (by decide +kernel), List.mem_of_getElem? (i := 1292) (by decide +kernel)⟩
def lw_privs_4 : List (MethodName × Nat) := [(⟨"PhiHall", "countRun", "()V"⟩, 15), (⟨"PhiHall", "mixedWithBlocks", "(J)J"⟩, 15), (⟨"PhiHall", "mixedWithRun", "(J)J"⟩, 15), (⟨"PhiHall", "mixedWithPlace", "(JI)J"⟩, 15), (⟨"PhiHall", "mixedWithValue", "(JI)J"⟩, 15), (⟨"PhiHall", "isValue", "(I)Z"⟩, 15), (⟨"PhiHall", "isArgument", "(II)Z"⟩, 15)]
theorem lw_r4 : ∀ q ∈ lw_privs_4, lw_okq q := List.forall_mem_cons.mpr ⟨lw_p48, List.forall_mem_cons.mpr ⟨lw_p49, List.forall_mem_cons.mpr ⟨lw_p50, List.forall_mem_cons.mpr ⟨lw_p51, List.forall_mem_cons.mpr ⟨lw_p52, List.forall_mem_cons.mpr ⟨lw_p53, List.forall_mem_cons.mpr ⟨lw_p54, fun _ h => absurd h List.not_mem_nil⟩⟩⟩⟩⟩⟩⟩
def lw_privs : List (MethodName × Nat) := lw_privs_1 ++ (lw_privs_2 ++ (lw_privs_3 ++ (lw_privs_4)))
def lw_tbl : List Cond := k2_sels lw_privs ++ tables_1
theorem lw_privs_ok : ∀ q ∈ lw_privs, lw_okq q := by
  show ∀ q ∈ lw_privs_1 ++ (lw_privs_2 ++ (lw_privs_3 ++ (lw_privs_4))), lw_okq q
  exact List.forall_mem_append.mpr ⟨lw_r1, List.forall_mem_append.mpr ⟨lw_r2, List.forall_mem_append.mpr ⟨lw_r3, lw_r4⟩⟩⟩
def RX0 : String := "PhiHall$Constants"
def TX0 : u_T := fun k => match k with
  | 0 => ("PhiHall$Constants", "known", "LPhiHall$Row;", true)
  | 1 => ("PhiHall$Constants", "numbers", "LPhiHall$Row;", true)
  | 2 => ("PhiHall$Constants", "come", "I", false)
  | 3 => ("PhiHall$Constants", "along", "I", false)
  | _ => ("PhiHall$Constants", "hasRisen", "Z", false)
def tyX0 : Nat → FieldType := fun k => match k with
  | 0 => .object "PhiHall$Row"
  | 1 => .object "PhiHall$Row"
  | 2 => .int
  | 3 => .int
  | _ => .boolean
theorem nmX0 : ∀ a, a < 5 → ∀ b, b < 5 → a ≠ b → (TX0 a).2.1 ≠ (TX0 b).2.1 := by decide +kernel
theorem tyX0_ok : ∀ k, k < 5 → parseFieldDescriptor (TX0 k).2.2.1 = some (tyX0 k) := by decide +kernel
abbrev cX0_init : ByteArray := prog_2_method_1_code
def yX0_init : MethodName := ⟨RX0, "<init>", "()V"⟩
abbrev cX0_goOver : ByteArray := prog_2_method_2_code
def yX0_goOver : MethodName := ⟨RX0, "goOver", "(LPhiHall$Form;)V"⟩
abbrev cX0_begin : ByteArray := prog_2_method_3_code
def yX0_begin : MethodName := ⟨RX0, "begin", "()V"⟩
abbrev cX0_visit : ByteArray := prog_2_method_4_code
def yX0_visit : MethodName := ⟨RX0, "visit", "(LPhiHall$Form;I)V"⟩
abbrev cX0_meet : ByteArray := prog_2_method_5_code
def yX0_meet : MethodName := ⟨RX0, "meet", "(LPhiHall$Form;II)V"⟩
abbrev cX0_reckon : ByteArray := prog_2_method_6_code
def yX0_reckon : MethodName := ⟨RX0, "reckon", "(LPhiHall$Form;II)V"⟩
abbrev cX0_knownAt : ByteArray := prog_2_method_7_code
def yX0_knownAt : MethodName := ⟨RX0, "knownAt", "(LPhiHall$Form;I)I"⟩
abbrev cX0_numberAt : ByteArray := prog_2_method_8_code
def yX0_numberAt : MethodName := ⟨RX0, "numberAt", "(LPhiHall$Form;I)I"⟩
abbrev cX0_rise : ByteArray := prog_2_method_9_code
def yX0_rise : MethodName := ⟨RX0, "rise", "(III)V"⟩
abbrev cX0_goOn : ByteArray := prog_2_method_10_code
def yX0_goOn : MethodName := ⟨RX0, "goOn", "(LPhiHall$Form;I)V"⟩
abbrev cX0_goAlong : ByteArray := prog_2_method_11_code
def yX0_goAlong : MethodName := ⟨RX0, "goAlong", "(LPhiHall$Form;I)V"⟩
abbrev cX0_cutWays : ByteArray := prog_2_method_12_code
def yX0_cutWays : MethodName := ⟨RX0, "cutWays", "(LPhiHall$Form;)V"⟩
abbrev cX0_loseBlocks : ByteArray := prog_2_method_13_code
def yX0_loseBlocks : MethodName := ⟨RX0, "loseBlocks", "(LPhiHall$Form;)V"⟩
abbrev cX0_replaceNumbers : ByteArray := prog_2_method_14_code
def yX0_replaceNumbers : MethodName := ⟨RX0, "replaceNumbers", "(LPhiHall$Form;)V"⟩
def RX1 : String := "PhiHall$Dead"
def TX1 : u_T := fun k => match k with
  | 0 => ("PhiHall$Dead", "needed", "LPhiHall$Row;", true)
  | _ => ("PhiHall$Dead", "hasRisen", "Z", false)
def tyX1 : Nat → FieldType := fun k => match k with
  | 0 => .object "PhiHall$Row"
  | _ => .boolean
theorem nmX1 : ∀ a, a < 2 → ∀ b, b < 2 → a ≠ b → (TX1 a).2.1 ≠ (TX1 b).2.1 := by decide +kernel
theorem tyX1_ok : ∀ k, k < 2 → parseFieldDescriptor (TX1 k).2.2.1 = some (tyX1 k) := by decide +kernel
abbrev cX1_init : ByteArray := prog_3_method_1_code
def yX1_init : MethodName := ⟨RX1, "<init>", "()V"⟩
abbrev cX1_goOver : ByteArray := prog_3_method_2_code
def yX1_goOver : MethodName := ⟨RX1, "goOver", "(LPhiHall$Form;)V"⟩
abbrev cX1_isNeededBySelf : ByteArray := prog_3_method_3_code
def yX1_isNeededBySelf : MethodName := ⟨RX1, "isNeededBySelf", "(LPhiHall$Form;I)Z"⟩
abbrev cX1_needArguments : ByteArray := prog_3_method_4_code
def yX1_needArguments : MethodName := ⟨RX1, "needArguments", "(LPhiHall$Form;I)V"⟩
abbrev cX1_loseOthers : ByteArray := prog_3_method_5_code
def yX1_loseOthers : MethodName := ⟨RX1, "loseOthers", "(LPhiHall$Form;)V"⟩
def RX2 : String := "PhiHall$Flow"
def TX2 : u_T := fun k => match k with
  | 0 => ("PhiHall$Flow", "next", "LPhiHall$Row;", true)
  | 1 => ("PhiHall$Flow", "dominated", "LPhiHall$Row;", true)
  | 2 => ("PhiHall$Flow", "dominators", "LPhiHall$Row;", true)
  | 3 => ("PhiHall$Flow", "order", "LPhiHall$Row;", true)
  | _ => ("PhiHall$Flow", "reached", "I", false)
def tyX2 : Nat → FieldType := fun k => match k with
  | 0 => .object "PhiHall$Row"
  | 1 => .object "PhiHall$Row"
  | 2 => .object "PhiHall$Row"
  | 3 => .object "PhiHall$Row"
  | _ => .int
theorem nmX2 : ∀ a, a < 5 → ∀ b, b < 5 → a ≠ b → (TX2 a).2.1 ≠ (TX2 b).2.1 := by decide +kernel
theorem tyX2_ok : ∀ k, k < 5 → parseFieldDescriptor (TX2 k).2.2.1 = some (tyX2 k) := by decide +kernel
abbrev cX2_init : ByteArray := prog_4_method_1_code
def yX2_init : MethodName := ⟨RX2, "<init>", "()V"⟩
abbrev cX2_forget : ByteArray := prog_4_method_2_code
def yX2_forget : MethodName := ⟨RX2, "forget", "()V"⟩
abbrev cX2_lead : ByteArray := prog_4_method_3_code
def yX2_lead : MethodName := ⟨RX2, "lead", "(II)V"⟩
abbrev cX2_reckon : ByteArray := prog_4_method_4_code
def yX2_reckon : MethodName := ⟨RX2, "reckon", "()V"⟩
abbrev cX2_reachedWithout : ByteArray := prog_4_method_5_code
def yX2_reachedWithout : MethodName := ⟨RX2, "reachedWithout", "(I)I"⟩
abbrev cX2_addDominator : ByteArray := prog_4_method_6_code
def yX2_addDominator : MethodName := ⟨RX2, "addDominator", "(II)V"⟩
abbrev cX2_firstReady : ByteArray := prog_4_method_7_code
def yX2_firstReady : MethodName := ⟨RX2, "firstReady", "(I)I"⟩
abbrev cX2_frontier : ByteArray := prog_4_method_8_code
def yX2_frontier : MethodName := ⟨RX2, "frontier", "(I)I"⟩
abbrev cX2_nearestDominator : ByteArray := prog_4_method_9_code
def yX2_nearestDominator : MethodName := ⟨RX2, "nearestDominator", "(I)I"⟩
def RX3 : String := "PhiHall$Form"
def TX3 : u_T := fun k => match k with
  | 0 => ("PhiHall$Form", "kinds", "LPhiHall$Row;", true)
  | 1 => ("PhiHall$Form", "places", "LPhiHall$Row;", true)
  | 2 => ("PhiHall$Form", "variables", "LPhiHall$Row;", true)
  | 3 => ("PhiHall$Form", "arguments", "LPhiHall$Row;", true)
  | 4 => ("PhiHall$Form", "starts", "LPhiHall$Row;", true)
  | 5 => ("PhiHall$Form", "argumentValues", "LPhiHall$Row;", true)
  | 6 => ("PhiHall$Form", "argumentNumbers", "LPhiHall$Row;", true)
  | 7 => ("PhiHall$Form", "sizes", "LPhiHall$Row;", true)
  | 8 => ("PhiHall$Form", "listed", "LPhiHall$Row;", true)
  | 9 => ("PhiHall$Form", "edges", "LPhiHall$Row;", true)
  | 10 => ("PhiHall$Form", "waysTo", "LPhiHall$Row;", true)
  | 11 => ("PhiHall$Form", "endKinds", "LPhiHall$Row;", true)
  | 12 => ("PhiHall$Form", "targets", "LPhiHall$Row;", true)
  | 13 => ("PhiHall$Form", "blocks", "I", false)
  | 14 => ("PhiHall$Form", "there", "I", false)
  | 15 => ("PhiHall$Form", "values", "I", false)
  | 16 => ("PhiHall$Form", "given", "I", false)
  | 17 => ("PhiHall$Form", "passes", "I", false)
  | _ => ("PhiHall$Form", "gone", "I", false)
def tyX3 : Nat → FieldType := fun k => match k with
  | 0 => .object "PhiHall$Row"
  | 1 => .object "PhiHall$Row"
  | 2 => .object "PhiHall$Row"
  | 3 => .object "PhiHall$Row"
  | 4 => .object "PhiHall$Row"
  | 5 => .object "PhiHall$Row"
  | 6 => .object "PhiHall$Row"
  | 7 => .object "PhiHall$Row"
  | 8 => .object "PhiHall$Row"
  | 9 => .object "PhiHall$Row"
  | 10 => .object "PhiHall$Row"
  | 11 => .object "PhiHall$Row"
  | 12 => .object "PhiHall$Row"
  | 13 => .int
  | 14 => .int
  | 15 => .int
  | 16 => .int
  | 17 => .int
  | _ => .int
theorem nmX3 : ∀ a, a < 19 → ∀ b, b < 19 → a ≠ b → (TX3 a).2.1 ≠ (TX3 b).2.1 := by decide +kernel
theorem tyX3_ok : ∀ k, k < 19 → parseFieldDescriptor (TX3 k).2.2.1 = some (tyX3 k) := by decide +kernel
abbrev cX3_init : ByteArray := prog_5_method_1_code
def yX3_init : MethodName := ⟨RX3, "<init>", "()V"⟩
abbrev cX3_begin : ByteArray := prog_5_method_2_code
def yX3_begin : MethodName := ⟨RX3, "begin", "(II)V"⟩
abbrev cX3_take : ByteArray := prog_5_method_3_code
def yX3_take : MethodName := ⟨RX3, "take", "(LPhiHall$Form;)V"⟩
abbrev cX3_addValue : ByteArray := prog_5_method_4_code
def yX3_addValue : MethodName := ⟨RX3, "addValue", "(III)V"⟩
abbrev cX3_putInto : ByteArray := prog_5_method_5_code
def yX3_putInto : MethodName := ⟨RX3, "putInto", "(II)V"⟩
abbrev cX3_addArgument : ByteArray := prog_5_method_6_code
def yX3_addArgument : MethodName := ⟨RX3, "addArgument", "(III)V"⟩
abbrev cX3_addEdge : ByteArray := prog_5_method_7_code
def yX3_addEdge : MethodName := ⟨RX3, "addEdge", "(II)V"⟩
abbrev cX3_valueIn : ByteArray := prog_5_method_8_code
def yX3_valueIn : MethodName := ⟨RX3, "valueIn", "(II)I"⟩
abbrev cX3_wayTo : ByteArray := prog_5_method_9_code
def yX3_wayTo : MethodName := ⟨RX3, "wayTo", "(II)I"⟩
abbrev cX3_valueOf : ByteArray := prog_5_method_10_code
def yX3_valueOf : MethodName := ⟨RX3, "valueOf", "(II)I"⟩
abbrev cX3_numberOf : ByteArray := prog_5_method_11_code
def yX3_numberOf : MethodName := ⟨RX3, "numberOf", "(II)I"⟩
abbrev cX3_allIn : ByteArray := prog_5_method_12_code
def yX3_allIn : MethodName := ⟨RX3, "allIn", "(LPhiHall$Row;)I"⟩
abbrev cX3_allPhis : ByteArray := prog_5_method_13_code
def yX3_allPhis : MethodName := ⟨RX3, "allPhis", "()I"⟩
abbrev cX3_usesOf : ByteArray := prog_5_method_14_code
def yX3_usesOf : MethodName := ⟨RX3, "usesOf", "(I)I"⟩
abbrev cX3_edgeOf : ByteArray := prog_5_method_15_code
def yX3_edgeOf : MethodName := ⟨RX3, "edgeOf", "(II)I"⟩
abbrev cX3_replace : ByteArray := prog_5_method_16_code
def yX3_replace : MethodName := ⟨RX3, "replace", "(III)V"⟩
abbrev cX3_redirect : ByteArray := prog_5_method_17_code
def yX3_redirect : MethodName := ⟨RX3, "redirect", "(III)V"⟩
abbrev cX3_lose : ByteArray := prog_5_method_18_code
def yX3_lose : MethodName := ⟨RX3, "lose", "(I)V"⟩
abbrev cX3_loseBlock : ByteArray := prog_5_method_19_code
def yX3_loseBlock : MethodName := ⟨RX3, "loseBlock", "(I)V"⟩
abbrev cX3_sweep : ByteArray := prog_5_method_20_code
def yX3_sweep : MethodName := ⟨RX3, "sweep", "()V"⟩
abbrev cX3_dropEdge : ByteArray := prog_5_method_21_code
def yX3_dropEdge : MethodName := ⟨RX3, "dropEdge", "(I)V"⟩
abbrev cX3_dropArgument : ByteArray := prog_5_method_22_code
def yX3_dropArgument : MethodName := ⟨RX3, "dropArgument", "(II)V"⟩
abbrev cX3_changeWay : ByteArray := prog_5_method_23_code
def yX3_changeWay : MethodName := ⟨RX3, "changeWay", "(II)V"⟩
abbrev cX3_takeEnd : ByteArray := prog_5_method_24_code
def yX3_takeEnd : MethodName := ⟨RX3, "takeEnd", "(II)V"⟩
abbrev cX3_hasSameArguments : ByteArray := prog_5_method_25_code
def yX3_hasSameArguments : MethodName := ⟨RX3, "hasSameArguments", "(II)Z"⟩
abbrev cX3_hasCrossedArguments : ByteArray := prog_5_method_26_code
def yX3_hasCrossedArguments : MethodName := ⟨RX3, "hasCrossedArguments", "(II)Z"⟩
abbrev cX3_soleArgument : ByteArray := prog_5_method_27_code
def yX3_soleArgument : MethodName := ⟨RX3, "soleArgument", "(I)I"⟩
def RX4 : String := "PhiHall$Joiner"
def TX4 : u_T := fun k => match k with
  | _ => ("", "", "", false)
def tyX4 : Nat → FieldType := fun k => match k with
  | _ => .int
theorem nmX4 : ∀ a, a < 0 → ∀ b, b < 0 → a ≠ b → (TX4 a).2.1 ≠ (TX4 b).2.1 := by decide +kernel
theorem tyX4_ok : ∀ k, k < 0 → parseFieldDescriptor (TX4 k).2.2.1 = some (tyX4 k) := by decide +kernel
abbrev cX4_init : ByteArray := prog_6_method_1_code
def yX4_init : MethodName := ⟨RX4, "<init>", "()V"⟩
abbrev cX4_goOver : ByteArray := prog_6_method_2_code
def yX4_goOver : MethodName := ⟨RX4, "goOver", "(LPhiHall$Form;)V"⟩
abbrev cX4_firstToJoin : ByteArray := prog_6_method_3_code
def yX4_firstToJoin : MethodName := ⟨RX4, "firstToJoin", "(LPhiHall$Form;)I"⟩
abbrev cX4_moveValues : ByteArray := prog_6_method_4_code
def yX4_moveValues : MethodName := ⟨RX4, "moveValues", "(LPhiHall$Form;II)V"⟩
abbrev cX4_moveEnd : ByteArray := prog_6_method_5_code
def yX4_moveEnd : MethodName := ⟨RX4, "moveEnd", "(LPhiHall$Form;II)V"⟩
def RX5 : String := "PhiHall$Maker"
def TX5 : u_T := fun k => match k with
  | 0 => ("PhiHall$Maker", "heldValues", "LPhiHall$Row;", true)
  | 1 => ("PhiHall$Maker", "heldNumbers", "LPhiHall$Row;", true)
  | _ => ("PhiHall$Maker", "phis", "LPhiHall$Row;", true)
def tyX5 : Nat → FieldType := fun k => match k with
  | 0 => .object "PhiHall$Row"
  | 1 => .object "PhiHall$Row"
  | _ => .object "PhiHall$Row"
theorem nmX5 : ∀ a, a < 3 → ∀ b, b < 3 → a ≠ b → (TX5 a).2.1 ≠ (TX5 b).2.1 := by decide +kernel
theorem tyX5_ok : ∀ k, k < 3 → parseFieldDescriptor (TX5 k).2.2.1 = some (tyX5 k) := by decide +kernel
abbrev cX5_init : ByteArray := prog_7_method_1_code
def yX5_init : MethodName := ⟨RX5, "<init>", "()V"⟩
abbrev cX5_make : ByteArray := prog_7_method_2_code
def yX5_make : MethodName := ⟨RX5, "make", "(LPhiHall$Told;LPhiHall$Form;)V"⟩
abbrev cX5_placePhis : ByteArray := prog_7_method_3_code
def yX5_placePhis : MethodName := ⟨RX5, "placePhis", "(LPhiHall$Told;)V"⟩
abbrev cX5_whereJoined : ByteArray := prog_7_method_4_code
def yX5_whereJoined : MethodName := ⟨RX5, "whereJoined", "(LPhiHall$Told;I)I"⟩
abbrev cX5_addValues : ByteArray := prog_7_method_5_code
def yX5_addValues : MethodName := ⟨RX5, "addValues", "(LPhiHall$Told;LPhiHall$Form;I)V"⟩
abbrev cX5_addEdges : ByteArray := prog_7_method_6_code
def yX5_addEdges : MethodName := ⟨RX5, "addEdges", "(LPhiHall$Told;LPhiHall$Form;I)V"⟩
abbrev cX5_holdAtBeginning : ByteArray := prog_7_method_7_code
def yX5_holdAtBeginning : MethodName := ⟨RX5, "holdAtBeginning", "(LPhiHall$Told;LPhiHall$Form;I)V"⟩
abbrev cX5_hold : ByteArray := prog_7_method_8_code
def yX5_hold : MethodName := ⟨RX5, "hold", "(IIII)V"⟩
abbrev cX5_followLines : ByteArray := prog_7_method_9_code
def yX5_followLines : MethodName := ⟨RX5, "followLines", "(LPhiHall$Told;LPhiHall$Form;I)V"⟩
abbrev cX5_give : ByteArray := prog_7_method_10_code
def yX5_give : MethodName := ⟨RX5, "give", "(LPhiHall$Form;III)V"⟩
abbrev cX5_valueFor : ByteArray := prog_7_method_11_code
def yX5_valueFor : MethodName := ⟨RX5, "valueFor", "(II)I"⟩
abbrev cX5_numberFor : ByteArray := prog_7_method_12_code
def yX5_numberFor : MethodName := ⟨RX5, "numberFor", "(II)I"⟩
abbrev cX5_givePhisTheirs : ByteArray := prog_7_method_13_code
def yX5_givePhisTheirs : MethodName := ⟨RX5, "givePhisTheirs", "(LPhiHall$Form;)V"⟩
abbrev cX5_givePhi : ByteArray := prog_7_method_14_code
def yX5_givePhi : MethodName := ⟨RX5, "givePhi", "(LPhiHall$Form;I)V"⟩
def RX6 : String := "PhiHall$Numbers"
def TX6 : u_T := fun k => match k with
  | _ => ("PhiHall$Numbers", "flow", "LPhiHall$Flow;", true)
def tyX6 : Nat → FieldType := fun k => match k with
  | _ => .object "PhiHall$Flow"
theorem nmX6 : ∀ a, a < 1 → ∀ b, b < 1 → a ≠ b → (TX6 a).2.1 ≠ (TX6 b).2.1 := by decide +kernel
theorem tyX6_ok : ∀ k, k < 1 → parseFieldDescriptor (TX6 k).2.2.1 = some (tyX6 k) := by decide +kernel
abbrev cX6_init : ByteArray := prog_8_method_1_code
def yX6_init : MethodName := ⟨RX6, "<init>", "()V"⟩
abbrev cX6_goOver : ByteArray := prog_8_method_2_code
def yX6_goOver : MethodName := ⟨RX6, "goOver", "(LPhiHall$Form;)V"⟩
abbrev cX6_readEdges : ByteArray := prog_8_method_3_code
def yX6_readEdges : MethodName := ⟨RX6, "readEdges", "(LPhiHall$Form;)V"⟩
abbrev cX6_visit : ByteArray := prog_8_method_4_code
def yX6_visit : MethodName := ⟨RX6, "visit", "(LPhiHall$Form;I)V"⟩
abbrev cX6_twinOfPhi : ByteArray := prog_8_method_5_code
def yX6_twinOfPhi : MethodName := ⟨RX6, "twinOfPhi", "(LPhiHall$Form;II)I"⟩
abbrev cX6_twinOfReckoning : ByteArray := prog_8_method_6_code
def yX6_twinOfReckoning : MethodName := ⟨RX6, "twinOfReckoning", "(LPhiHall$Form;II)I"⟩
abbrev cX6_isStill : ByteArray := prog_8_method_7_code
def yX6_isStill : MethodName := ⟨RX6, "isStill", "(LPhiHall$Form;III)Z"⟩
def RX7 : String := "PhiHall$Row"
def TX7 : u_T := fun k => match k with
  | _ => ("PhiHall$Row", "numbers", "[I", true)
def tyX7 : Nat → FieldType := fun k => match k with
  | _ => .array .int
theorem nmX7 : ∀ a, a < 1 → ∀ b, b < 1 → a ≠ b → (TX7 a).2.1 ≠ (TX7 b).2.1 := by decide +kernel
theorem tyX7_ok : ∀ k, k < 1 → parseFieldDescriptor (TX7 k).2.2.1 = some (tyX7 k) := by decide +kernel
abbrev cX7_init : ByteArray := prog_9_method_1_code
def yX7_init : MethodName := ⟨RX7, "<init>", "(I)V"⟩
abbrev cX7_at : ByteArray := prog_9_method_2_code
def yX7_at : MethodName := ⟨RX7, "at", "(I)I"⟩
abbrev cX7_put : ByteArray := prog_9_method_3_code
def yX7_put : MethodName := ⟨RX7, "put", "(II)V"⟩
abbrev cX7_fill : ByteArray := prog_9_method_4_code
def yX7_fill : MethodName := ⟨RX7, "fill", "(I)V"⟩
abbrev cX7_take : ByteArray := prog_9_method_5_code
def yX7_take : MethodName := ⟨RX7, "take", "(LPhiHall$Row;)V"⟩
def RX8 : String := "PhiHall$Runner"
def TX8 : u_T := fun k => match k with
  | 0 => ("PhiHall$Runner", "variables", "LPhiHall$Row;", true)
  | 1 => ("PhiHall$Runner", "held", "LPhiHall$Row;", true)
  | _ => ("PhiHall$Runner", "fresh", "LPhiHall$Row;", true)
def tyX8 : Nat → FieldType := fun k => match k with
  | 0 => .object "PhiHall$Row"
  | 1 => .object "PhiHall$Row"
  | _ => .object "PhiHall$Row"
theorem nmX8 : ∀ a, a < 3 → ∀ b, b < 3 → a ≠ b → (TX8 a).2.1 ≠ (TX8 b).2.1 := by decide +kernel
theorem tyX8_ok : ∀ k, k < 3 → parseFieldDescriptor (TX8 k).2.2.1 = some (tyX8 k) := by decide +kernel
abbrev cX8_init : ByteArray := prog_10_method_1_code
def yX8_init : MethodName := ⟨RX8, "<init>", "()V"⟩
abbrev cX8_walkBlocks : ByteArray := prog_10_method_2_code
def yX8_walkBlocks : MethodName := ⟨RX8, "walkBlocks", "(LPhiHall$Told;IILPhiHall$Tape;)V"⟩
abbrev cX8_doLines : ByteArray := prog_10_method_3_code
def yX8_doLines : MethodName := ⟨RX8, "doLines", "(LPhiHall$Told;ILPhiHall$Tape;)V"⟩
abbrev cX8_read : ByteArray := prog_10_method_4_code
def yX8_read : MethodName := ⟨RX8, "read", "(I)I"⟩
abbrev cX8_walkForm : ByteArray := prog_10_method_5_code
def yX8_walkForm : MethodName := ⟨RX8, "walkForm", "(LPhiHall$Form;IILPhiHall$Tape;)V"⟩
abbrev cX8_doPhis : ByteArray := prog_10_method_6_code
def yX8_doPhis : MethodName := ⟨RX8, "doPhis", "(LPhiHall$Form;II)V"⟩
abbrev cX8_doValues : ByteArray := prog_10_method_7_code
def yX8_doValues : MethodName := ⟨RX8, "doValues", "(LPhiHall$Form;ILPhiHall$Tape;)V"⟩
abbrev cX8_reckon : ByteArray := prog_10_method_8_code
def yX8_reckon : MethodName := ⟨RX8, "reckon", "(LPhiHall$Form;II)I"⟩
def RX9 : String := "PhiHall$Tape"
def TX9 : u_T := fun k => match k with
  | 0 => ("PhiHall$Tape", "kept", "LPhiHall$Row;", true)
  | 1 => ("PhiHall$Tape", "cells", "LPhiHall$Row;", true)
  | 2 => ("PhiHall$Tape", "isOn", "Z", false)
  | 3 => ("PhiHall$Tape", "ended", "I", false)
  | 4 => ("PhiHall$Tape", "returned", "I", false)
  | 5 => ("PhiHall$Tape", "count", "I", false)
  | 6 => ("PhiHall$Tape", "cost", "I", false)
  | _ => ("PhiHall$Tape", "ends", "I", false)
def tyX9 : Nat → FieldType := fun k => match k with
  | 0 => .object "PhiHall$Row"
  | 1 => .object "PhiHall$Row"
  | 2 => .boolean
  | 3 => .int
  | 4 => .int
  | 5 => .int
  | 6 => .int
  | _ => .int
theorem nmX9 : ∀ a, a < 8 → ∀ b, b < 8 → a ≠ b → (TX9 a).2.1 ≠ (TX9 b).2.1 := by decide +kernel
theorem tyX9_ok : ∀ k, k < 8 → parseFieldDescriptor (TX9 k).2.2.1 = some (tyX9 k) := by decide +kernel
abbrev cX9_init : ByteArray := prog_11_method_1_code
def yX9_init : MethodName := ⟨RX9, "<init>", "(I)V"⟩
abbrev cX9_begin : ByteArray := prog_11_method_2_code
def yX9_begin : MethodName := ⟨RX9, "begin", "()V"⟩
abbrev cX9_finish : ByteArray := prog_11_method_3_code
def yX9_finish : MethodName := ⟨RX9, "finish", "(I)V"⟩
abbrev cX9_act : ByteArray := prog_11_method_4_code
def yX9_act : MethodName := ⟨RX9, "act", "(III)I"⟩
abbrev cX9_leaveBy : ByteArray := prog_11_method_5_code
def yX9_leaveBy : MethodName := ⟨RX9, "leaveBy", "(II)I"⟩
abbrev cX9_isLike : ByteArray := prog_11_method_6_code
def yX9_isLike : MethodName := ⟨RX9, "isLike", "(LPhiHall$Tape;)Z"⟩
def RX10 : String := "PhiHall$Told"
def TX10 : u_T := fun k => match k with
  | 0 => ("PhiHall$Told", "lines", "LPhiHall$Row;", true)
  | 1 => ("PhiHall$Told", "kinds", "LPhiHall$Row;", true)
  | 2 => ("PhiHall$Told", "variables", "LPhiHall$Row;", true)
  | 3 => ("PhiHall$Told", "firsts", "LPhiHall$Row;", true)
  | 4 => ("PhiHall$Told", "seconds", "LPhiHall$Row;", true)
  | 5 => ("PhiHall$Told", "endKinds", "LPhiHall$Row;", true)
  | 6 => ("PhiHall$Told", "endOperands", "LPhiHall$Row;", true)
  | 7 => ("PhiHall$Told", "targets", "LPhiHall$Row;", true)
  | 8 => ("PhiHall$Told", "usedFirst", "LPhiHall$Row;", true)
  | 9 => ("PhiHall$Told", "setIn", "LPhiHall$Row;", true)
  | 10 => ("PhiHall$Told", "wanted", "LPhiHall$Row;", true)
  | 11 => ("PhiHall$Told", "flow", "LPhiHall$Flow;", true)
  | _ => ("PhiHall$Told", "blocks", "I", false)
def tyX10 : Nat → FieldType := fun k => match k with
  | 0 => .object "PhiHall$Row"
  | 1 => .object "PhiHall$Row"
  | 2 => .object "PhiHall$Row"
  | 3 => .object "PhiHall$Row"
  | 4 => .object "PhiHall$Row"
  | 5 => .object "PhiHall$Row"
  | 6 => .object "PhiHall$Row"
  | 7 => .object "PhiHall$Row"
  | 8 => .object "PhiHall$Row"
  | 9 => .object "PhiHall$Row"
  | 10 => .object "PhiHall$Row"
  | 11 => .object "PhiHall$Flow"
  | _ => .int
theorem nmX10 : ∀ a, a < 13 → ∀ b, b < 13 → a ≠ b → (TX10 a).2.1 ≠ (TX10 b).2.1 := by decide +kernel
theorem tyX10_ok : ∀ k, k < 13 → parseFieldDescriptor (TX10 k).2.2.1 = some (tyX10 k) := by decide +kernel
abbrev cX10_init : ByteArray := prog_12_method_1_code
def yX10_init : MethodName := ⟨RX10, "<init>", "()V"⟩
abbrev cX10_addBlock : ByteArray := prog_12_method_2_code
def yX10_addBlock : MethodName := ⟨RX10, "addBlock", "()I"⟩
abbrev cX10_addLine : ByteArray := prog_12_method_3_code
def yX10_addLine : MethodName := ⟨RX10, "addLine", "(IIIII)I"⟩
abbrev cX10_cutLine : ByteArray := prog_12_method_4_code
def yX10_cutLine : MethodName := ⟨RX10, "cutLine", "(I)I"⟩
abbrev cX10_putEnd : ByteArray := prog_12_method_5_code
def yX10_putEnd : MethodName := ⟨RX10, "putEnd", "(IIIII)I"⟩
abbrev cX10_allLines : ByteArray := prog_12_method_6_code
def yX10_allLines : MethodName := ⟨RX10, "allLines", "()I"⟩
abbrev cX10_reckon : ByteArray := prog_12_method_7_code
def yX10_reckon : MethodName := ⟨RX10, "reckon", "()V"⟩
abbrev cX10_readLines : ByteArray := prog_12_method_8_code
def yX10_readLines : MethodName := ⟨RX10, "readLines", "(I)V"⟩
abbrev cX10_reckonWanted : ByteArray := prog_12_method_9_code
def yX10_reckonWanted : MethodName := ⟨RX10, "reckonWanted", "()V"⟩
def RX11 : String := "PhiHall"
def TX11 : u_T := fun k => match k with
  | 0 => ("PhiHall", "told", "LPhiHall$Told;", true)
  | 1 => ("PhiHall", "made", "LPhiHall$Form;", true)
  | 2 => ("PhiHall", "trial", "LPhiHall$Form;", true)
  | 3 => ("PhiHall", "maker", "LPhiHall$Maker;", true)
  | 4 => ("PhiHall", "constants", "LPhiHall$Constants;", true)
  | 5 => ("PhiHall", "numbers", "LPhiHall$Numbers;", true)
  | 6 => ("PhiHall", "dead", "LPhiHall$Dead;", true)
  | 7 => ("PhiHall", "joiner", "LPhiHall$Joiner;", true)
  | 8 => ("PhiHall", "runner", "LPhiHall$Runner;", true)
  | 9 => ("PhiHall", "latest", "LPhiHall$Tape;", true)
  | 10 => ("PhiHall", "trialOfBlocks", "LPhiHall$Tape;", true)
  | 11 => ("PhiHall", "trialOfForm", "LPhiHall$Tape;", true)
  | 12 => ("PhiHall", "isMade", "Z", false)
  | 13 => ("PhiHall", "runs", "I", false)
  | _ => ("PhiHall", "costs", "J", false)
def tyX11 : Nat → FieldType := fun k => match k with
  | 0 => .object "PhiHall$Told"
  | 1 => .object "PhiHall$Form"
  | 2 => .object "PhiHall$Form"
  | 3 => .object "PhiHall$Maker"
  | 4 => .object "PhiHall$Constants"
  | 5 => .object "PhiHall$Numbers"
  | 6 => .object "PhiHall$Dead"
  | 7 => .object "PhiHall$Joiner"
  | 8 => .object "PhiHall$Runner"
  | 9 => .object "PhiHall$Tape"
  | 10 => .object "PhiHall$Tape"
  | 11 => .object "PhiHall$Tape"
  | 12 => .boolean
  | 13 => .int
  | _ => .long
theorem nmX11 : ∀ a, a < 15 → ∀ b, b < 15 → a ≠ b → (TX11 a).2.1 ≠ (TX11 b).2.1 := by decide +kernel
theorem tyX11_ok : ∀ k, k < 15 → parseFieldDescriptor (TX11 k).2.2.1 = some (tyX11 k) := by decide +kernel
abbrev cX11_init : ByteArray := prog_1_method_1_code
def yX11_init : MethodName := ⟨RX11, "<init>", "()V"⟩
abbrev cX11_block : ByteArray := prog_1_method_2_code
def yX11_block : MethodName := ⟨RX11, "block", "()I"⟩
abbrev cX11_line : ByteArray := prog_1_method_3_code
def yX11_line : MethodName := ⟨RX11, "line", "(IIIII)I"⟩
abbrev cX11_cut : ByteArray := prog_1_method_4_code
def yX11_cut : MethodName := ⟨RX11, "cut", "(I)I"⟩
abbrev cX11_end : ByteArray := prog_1_method_5_code
def yX11_end : MethodName := ⟨RX11, "end", "(IIIII)I"⟩
abbrev cX11_ofBlock : ByteArray := prog_1_method_6_code
def yX11_ofBlock : MethodName := ⟨RX11, "ofBlock", "(II)I"⟩
abbrev cX11_form : ByteArray := prog_1_method_7_code
def yX11_form : MethodName := ⟨RX11, "form", "()I"⟩
abbrev cX11_pass : ByteArray := prog_1_method_8_code
def yX11_pass : MethodName := ⟨RX11, "pass", "(I)I"⟩
abbrev cX11_ofPlace : ByteArray := prog_1_method_9_code
def yX11_ofPlace : MethodName := ⟨RX11, "ofPlace", "(II)I"⟩
abbrev cX11_valueAt : ByteArray := prog_1_method_10_code
def yX11_valueAt : MethodName := ⟨RX11, "valueAt", "(II)I"⟩
abbrev cX11_edge : ByteArray := prog_1_method_11_code
def yX11_edge : MethodName := ⟨RX11, "edge", "(II)I"⟩
abbrev cX11_ofValue : ByteArray := prog_1_method_12_code
def yX11_ofValue : MethodName := ⟨RX11, "ofValue", "(II)I"⟩
abbrev cX11_argument : ByteArray := prog_1_method_13_code
def yX11_argument : MethodName := ⟨RX11, "argument", "(II)I"⟩
abbrev cX11_number : ByteArray := prog_1_method_14_code
def yX11_number : MethodName := ⟨RX11, "number", "(II)I"⟩
abbrev cX11_run : ByteArray := prog_1_method_15_code
def yX11_run : MethodName := ⟨RX11, "run", "(II)I"⟩
abbrev cX11_runForm : ByteArray := prog_1_method_16_code
def yX11_runForm : MethodName := ⟨RX11, "runForm", "(II)I"⟩
abbrev cX11_ofRun : ByteArray := prog_1_method_17_code
def yX11_ofRun : MethodName := ⟨RX11, "ofRun", "(I)I"⟩
abbrev cX11_printed : ByteArray := prog_1_method_18_code
def yX11_printed : MethodName := ⟨RX11, "printed", "(I)I"⟩
abbrev cX11_cell : ByteArray := prog_1_method_19_code
def yX11_cell : MethodName := ⟨RX11, "cell", "(I)I"⟩
abbrev cX11_many : ByteArray := prog_1_method_20_code
def yX11_many : MethodName := ⟨RX11, "many", "(I)I"⟩
abbrev cX11_wouldGo : ByteArray := prog_1_method_22_code
def yX11_wouldGo : MethodName := ⟨RX11, "wouldGo", "(I)I"⟩
abbrev cX11_wouldCost : ByteArray := prog_1_method_23_code
def yX11_wouldCost : MethodName := ⟨RX11, "wouldCost", "(III)I"⟩
abbrev cX11_untilStill : ByteArray := prog_1_method_24_code
def yX11_untilStill : MethodName := ⟨RX11, "untilStill", "()I"⟩
abbrev cX11_isAlike : ByteArray := prog_1_method_25_code
def yX11_isAlike : MethodName := ⟨RX11, "isAlike", "(II)Z"⟩
abbrev cX11_digest : ByteArray := prog_1_method_26_code
def yX11_digest : MethodName := ⟨RX11, "digest", "()J"⟩
abbrev cX11_isTold : ByteArray := prog_1_method_27_code
def yX11_isTold : MethodName := ⟨RX11, "isTold", "(I)Z"⟩
abbrev cX11_isTarget : ByteArray := prog_1_method_28_code
def yX11_isTarget : MethodName := ⟨RX11, "isTarget", "(I)Z"⟩
abbrev cX11_isOperand : ByteArray := prog_1_method_29_code
def yX11_isOperand : MethodName := ⟨RX11, "isOperand", "(I)Z"⟩
abbrev cX11_isLine : ByteArray := prog_1_method_30_code
def yX11_isLine : MethodName := ⟨RX11, "isLine", "(IIII)Z"⟩
abbrev cX11_isEnd : ByteArray := prog_1_method_31_code
def yX11_isEnd : MethodName := ⟨RX11, "isEnd", "(IIII)Z"⟩
abbrev cX11_isPass : ByteArray := prog_1_method_32_code
def yX11_isPass : MethodName := ⟨RX11, "isPass", "(I)Z"⟩
abbrev cX11_isValue : ByteArray := prog_1_method_33_code
def yX11_isValue : MethodName := ⟨RX11, "isValue", "(I)Z"⟩
abbrev cX11_isArgument : ByteArray := prog_1_method_34_code
def yX11_isArgument : MethodName := ⟨RX11, "isArgument", "(II)Z"⟩
abbrev cX11_countRun : ByteArray := prog_1_method_35_code
def yX11_countRun : MethodName := ⟨RX11, "countRun", "()V"⟩
abbrev cX11_manyOfForm : ByteArray := prog_1_method_36_code
def yX11_manyOfForm : MethodName := ⟨RX11, "manyOfForm", "(I)I"⟩
abbrev cX11_passBehind : ByteArray := prog_1_method_37_code
def yX11_passBehind : MethodName := ⟨RX11, "passBehind", "(I)I"⟩
abbrev cX11_passOver : ByteArray := prog_1_method_38_code
def yX11_passOver : MethodName := ⟨RX11, "passOver", "(LPhiHall$Form;I)I"⟩
abbrev cX11_mixed : ByteArray := prog_1_method_39_code
def yX11_mixed : MethodName := ⟨RX11, "mixed", "(JJ)J"⟩
abbrev cX11_mixedWithBlocks : ByteArray := prog_1_method_40_code
def yX11_mixedWithBlocks : MethodName := ⟨RX11, "mixedWithBlocks", "(J)J"⟩
abbrev cX11_mixedWithRun : ByteArray := prog_1_method_41_code
def yX11_mixedWithRun : MethodName := ⟨RX11, "mixedWithRun", "(J)J"⟩
abbrev cX11_mixedWithPlace : ByteArray := prog_1_method_42_code
def yX11_mixedWithPlace : MethodName := ⟨RX11, "mixedWithPlace", "(JI)J"⟩
abbrev cX11_mixedWithValue : ByteArray := prog_1_method_43_code
def yX11_mixedWithValue : MethodName := ⟨RX11, "mixedWithValue", "(JI)J"⟩
abbrev cX11_bit : ByteArray := prog_1_method_44_code
def yX11_bit : MethodName := ⟨RX11, "bit", "(I)I"⟩
abbrev cX11_has : ByteArray := prog_1_method_45_code
def yX11_has : MethodName := ⟨RX11, "has", "(II)Z"⟩
abbrev cX11_sets : ByteArray := prog_1_method_46_code
def yX11_sets : MethodName := ⟨RX11, "sets", "(I)Z"⟩
abbrev cX11_isReckoning : ByteArray := prog_1_method_47_code
def yX11_isReckoning : MethodName := ⟨RX11, "isReckoning", "(I)Z"⟩
abbrev cX11_variableOf : ByteArray := prog_1_method_48_code
def yX11_variableOf : MethodName := ⟨RX11, "variableOf", "(I)I"⟩
abbrev cX11_fromOf : ByteArray := prog_1_method_49_code
def yX11_fromOf : MethodName := ⟨RX11, "fromOf", "(I)I"⟩
abbrev cX11_reckoned : ByteArray := prog_1_method_50_code
def yX11_reckoned : MethodName := ⟨RX11, "reckoned", "(III)I"⟩
abbrev cX11_costOf : ByteArray := prog_1_method_51_code
def yX11_costOf : MethodName := ⟨RX11, "costOf", "(I)I"⟩
def RX12 : String := "PhiHallLaw$Own"
def TX12 : u_T := fun k => match k with
  | 0 => ("PhiHallLaw$Own", "lines", "[[[I", true)
  | 1 => ("PhiHallLaw$Own", "size", "[I", true)
  | 2 => ("PhiHallLaw$Own", "ends", "[[I", true)
  | _ => ("PhiHallLaw$Own", "blocks", "I", false)
def tyX12 : Nat → FieldType := fun k => match k with
  | 0 => .array (.array (.array .int))
  | 1 => .array .int
  | 2 => .array (.array .int)
  | _ => .int
theorem nmX12 : ∀ a, a < 4 → ∀ b, b < 4 → a ≠ b → (TX12 a).2.1 ≠ (TX12 b).2.1 := by decide +kernel
theorem tyX12_ok : ∀ k, k < 4 → parseFieldDescriptor (TX12 k).2.2.1 = some (tyX12 k) := by decide +kernel
abbrev cX12_init : ByteArray := prog_14_method_1_code
def yX12_init : MethodName := ⟨RX12, "<init>", "()V"⟩
abbrev cX12_isLine : ByteArray := prog_14_method_2_code
def yX12_isLine : MethodName := ⟨RX12, "isLine", "(LPhiHall;IIIII)Z"⟩
abbrev cX12_isEnd : ByteArray := prog_14_method_3_code
def yX12_isEnd : MethodName := ⟨RX12, "isEnd", "(LPhiHall;IIIII)Z"⟩
abbrev cX12_operand : ByteArray := prog_14_method_4_code
def yX12_operand : MethodName := ⟨RX12, "operand", "(I)I"⟩
abbrev cX12_isDrawn : ByteArray := prog_14_method_5_code
def yX12_isDrawn : MethodName := ⟨RX12, "isDrawn", "(LPhiHall;II)Z"⟩
abbrev cX12_isTold : ByteArray := prog_14_method_6_code
def yX12_isTold : MethodName := ⟨RX12, "isTold", "(LPhiHall;[II)Z"⟩
def RX13 : String := "PhiHallLaw$Run"
def TX13 : u_T := fun k => match k with
  | _ => ("", "", "", false)
def tyX13 : Nat → FieldType := fun k => match k with
  | _ => .int
theorem nmX13 : ∀ a, a < 0 → ∀ b, b < 0 → a ≠ b → (TX13 a).2.1 ≠ (TX13 b).2.1 := by decide +kernel
theorem tyX13_ok : ∀ k, k < 0 → parseFieldDescriptor (TX13 k).2.2.1 = some (tyX13 k) := by decide +kernel
def RX14 : String := "PhiHallModel$Argument"
def TX14 : u_T := fun k => match k with
  | _ => ("", "", "", false)
def tyX14 : Nat → FieldType := fun k => match k with
  | _ => .int
theorem nmX14 : ∀ a, a < 0 → ∀ b, b < 0 → a ≠ b → (TX14 a).2.1 ≠ (TX14 b).2.1 := by decide +kernel
theorem tyX14_ok : ∀ k, k < 0 → parseFieldDescriptor (TX14 k).2.2.1 = some (tyX14 k) := by decide +kernel
def RX15 : String := "PhiHallModel$Block"
def TX15 : u_T := fun k => match k with
  | _ => ("", "", "", false)
def tyX15 : Nat → FieldType := fun k => match k with
  | _ => .int
theorem nmX15 : ∀ a, a < 0 → ∀ b, b < 0 → a ≠ b → (TX15 a).2.1 ≠ (TX15 b).2.1 := by decide +kernel
theorem tyX15_ok : ∀ k, k < 0 → parseFieldDescriptor (TX15 k).2.2.1 = some (tyX15 k) := by decide +kernel
def RX16 : String := "PhiHallModel$Form"
def TX16 : u_T := fun k => match k with
  | _ => ("", "", "", false)
def tyX16 : Nat → FieldType := fun k => match k with
  | _ => .int
theorem nmX16 : ∀ a, a < 0 → ∀ b, b < 0 → a ≠ b → (TX16 a).2.1 ≠ (TX16 b).2.1 := by decide +kernel
theorem tyX16_ok : ∀ k, k < 0 → parseFieldDescriptor (TX16 k).2.2.1 = some (tyX16 k) := by decide +kernel
def RX17 : String := "PhiHallModel$Place"
def TX17 : u_T := fun k => match k with
  | _ => ("", "", "", false)
def tyX17 : Nat → FieldType := fun k => match k with
  | _ => .int
theorem nmX17 : ∀ a, a < 0 → ∀ b, b < 0 → a ≠ b → (TX17 a).2.1 ≠ (TX17 b).2.1 := by decide +kernel
theorem tyX17_ok : ∀ k, k < 0 → parseFieldDescriptor (TX17 k).2.2.1 = some (tyX17 k) := by decide +kernel
def RX18 : String := "PhiHallModel$Run"
def TX18 : u_T := fun k => match k with
  | _ => ("", "", "", false)
def tyX18 : Nat → FieldType := fun k => match k with
  | _ => .int
theorem nmX18 : ∀ a, a < 0 → ∀ b, b < 0 → a ≠ b → (TX18 a).2.1 ≠ (TX18 b).2.1 := by decide +kernel
theorem tyX18_ok : ∀ k, k < 0 → parseFieldDescriptor (TX18 k).2.2.1 = some (tyX18 k) := by decide +kernel
def RX19 : String := "PhiHallModel$Value"
def TX19 : u_T := fun k => match k with
  | _ => ("", "", "", false)
def tyX19 : Nat → FieldType := fun k => match k with
  | _ => .int
theorem nmX19 : ∀ a, a < 0 → ∀ b, b < 0 → a ≠ b → (TX19 a).2.1 ≠ (TX19 b).2.1 := by decide +kernel
theorem tyX19_ok : ∀ k, k < 0 → parseFieldDescriptor (TX19 k).2.2.1 = some (tyX19 k) := by decide +kernel
def RX20 : String := "PhiHallModel"
def TX20 : u_T := fun k => match k with
  | _ => ("", "", "", false)
def tyX20 : Nat → FieldType := fun k => match k with
  | _ => .int
theorem nmX20 : ∀ a, a < 0 → ∀ b, b < 0 → a ≠ b → (TX20 a).2.1 ≠ (TX20 b).2.1 := by decide +kernel
theorem tyX20_ok : ∀ k, k < 0 → parseFieldDescriptor (TX20 k).2.2.1 = some (tyX20 k) := by decide +kernel
def RJx145de : String := "java/io/Serializable"
def RJ6 : String := "java/lang/Integer"
abbrev cJ6_bitCount_0f7a4 : ByteArray := prog_27_method_49_code
def yJ6_bitCount_0f7a4 : MethodName := ⟨RJ6, "bitCount", "(I)I"⟩
def RJ9 : String := "java/lang/Math"
abbrev cJ9_floorMod_7cf53 : ByteArray := prog_28_method_50_code
def yJ9_floorMod_7cf53 : MethodName := ⟨RJ9, "floorMod", "(II)I"⟩
abbrev cJ9_min_7cf53 : ByteArray := prog_28_method_69_code
def yJ9_min_7cf53 : MethodName := ⟨RJ9, "min", "(II)I"⟩
def RJ0 : String := "java/lang/String"
def RJ10 : String := "java/lang/System"
def RJ7 : String := "java/util/Arrays"
abbrev cJ7_fill_53178 : ByteArray := prog_33_method_103_code
def yJ7_fill_53178 : MethodName := ⟨RJ7, "fill", "([II)V"⟩
def RL : String := "PhiHallLaw"
abbrev cL_below : ByteArray := method_2_code
def yL_below : MethodName := ⟨RL, "below", "(II)I"⟩
abbrev cL_cell : ByteArray := method_3_code
def yL_cell : MethodName := ⟨RL, "cell", "([II)I"⟩
abbrev cL_law : ByteArray := code
def yL_law : MethodName := ⟨RL, "law", "([I)Z"⟩
abbrev cL_isCut : ByteArray := method_5_code
def yL_isCut : MethodName := ⟨RL, "isCut", "(LPhiHall;I)Z"⟩
abbrev cL_isRunRight : ByteArray := method_6_code
def yL_isRunRight : MethodName := ⟨RL, "isRunRight", "(LPhiHall;I)Z"⟩
abbrev cL_areBlocksRight : ByteArray := method_7_code
def yL_areBlocksRight : MethodName := ⟨RL, "areBlocksRight", "(LPhiHall;I)Z"⟩
abbrev cL_reachedSet : ByteArray := method_8_code
def yL_reachedSet : MethodName := ⟨RL, "reachedSet", "(LPhiHall;I)I"⟩
abbrev cL_isFormRight : ByteArray := method_9_code
def yL_isFormRight : MethodName := ⟨RL, "isFormRight", "(LPhiHall;I)Z"⟩
abbrev vwCl : List vw_C := [(RX0, TX0, 5), (RX1, TX1, 2), (RX2, TX2, 5), (RX3, TX3, 19), (RX4, TX4, 0), (RX5, TX5, 3), (RX6, TX6, 1), (RX7, TX7, 1), (RX8, TX8, 3), (RX9, TX9, 8), (RX10, TX10, 13), (RX11, TX11, 15), (RX12, TX12, 4)]
end
section
/-! THE MINI MACHINE, part 1: its words. A cell is a tag and its contents: below 1000 an object of that class of vwCl, by its fields; 1000 an int array; 1999 the law's own script. A reference is the number of a cell; ρ gives its address. -/
abbrev mmC : Type := Nat × List Value
abbrev mmI : Type := Nat × Instr × Nat × List Nat
abbrev mmM : Type := MethodName × ByteArray × Nat × Option FieldType × Nat × Nat × List mmI
def mmv (r : Nat → Nat) : Value → Value
  | .ref i => .ref (r i)
  | v => v
def mmGet (lv : List (Option Value)) (i : Nat) : Option Value := (lv[i]?).getD none
def mmWide : Option Value → Bool
  | some (.long _) => true
  | some (.double _) => true
  | _ => false
def mmOk (lv : List (Option Value)) : Nat → Bool
  | 0 => true
  | j + 1 => !mmWide (mmGet lv j)
def mmSet1 (lv : List (Option Value)) (i : Nat) (v : Value) : Option (List (Option Value)) :=
  if decide (i < lv.length) && mmOk lv i then some (lv.set i (some v)) else none
def mmSet2 (lv : List (Option Value)) (i : Nat) (v : Value) : Option (List (Option Value)) :=
  if decide (i + 1 < lv.length) && mmOk lv i then some ((lv.set i (some v)).set (i + 1) none) else none
def mmSlots : List Value → List (Option Value)
  | [] => []
  | v :: vs => if v.category = 2 then some v :: none :: mmSlots vs else some v :: mmSlots vs
def mmEntry (n : Nat) (vs : List Value) : List (Option Value) := mmSlots vs ++ List.replicate (n - (mmSlots vs).length) none
def mmWords (st : List Value) : Nat := (st.map fun v => v.category).sum
def mmFetch : List mmI → Nat → Option (Instr × Nat × List Nat)
  | [], _ => none
  | q :: t, pc => bif Nat.beq q.1 pc then some q.2 else mmFetch t pc
/-- what a field of a kind takes: 0 int, 1 boolean, 2 long, 3 a reference -/
def mmFit : Nat → Value → Bool
  | 0, .int _ => true
  | 1, .int x => decide (x = 0) || decide (x = 1)
  | 2, .long _ => true
  | 3, .ref _ => true
  | 3, .null => true
  | _, _ => false
def mmDefs : List (List Value) := vwCl.map fun q => (List.range q.2.2).map fun k => match parseFieldDescriptor (q.2.1 k).2.2.1 with
  | some ty => defaultValue ty
  | none => .null
/-- how many cells are read only: the script -/
def mmRo : Nat := 1
/-- an array of arrays as it is made, at b: 1001 of rows of ints, 1002 of arrays of such rows -/
def mmMulti (tg b n k : Nat) : List mmC := (tg, (List.range n).map fun i => .ref (b + 1 + i)) :: List.replicate n (if tg = 1001 then (1000, List.replicate k (.int 0)) else (1001, List.replicate k .null))
abbrev mmSt : Type := Nat × List (Option Value) × List Value × List mmC
/-- an instruction that neither branches nor calls nor returns -/
def mmS (ins : Instr) (ax : List Nat) (pc : Nat) (lv : List (Option Value)) (st : List Value) (h : List mmC) : Option mmSt :=
  match ins with
  | .iconst k => some (pc + 1, lv, .int (Int32.ofInt k) :: st, h)
  | .bipush k => some (pc + 2, lv, .int (Int8.ofInt k).toInt32 :: st, h)
  | .sipush k => some (pc + 3, lv, .int (Int16.ofInt k).toInt32 :: st, h)
  | .ldc _ => match ax with
    | b :: _ => some (pc + 2, lv, .int (Int32.ofNat b) :: st, h)
    | _ => none
  | .ldc_w _ => match ax with
    | b :: _ => some (pc + 3, lv, .int (Int32.ofNat b) :: st, h)
    | _ => none
  | .ldc2_w _ => match ax with
    | b :: _ => some (pc + 3, lv, .long (Int64.ofNat b) :: st, h)
    | _ => none
  | .iload_n k => match mmGet lv k with
    | some (.int x) => some (pc + 1, lv, .int x :: st, h)
    | _ => none
  | .iload k => match mmGet lv k with
    | some (.int x) => some (pc + 2, lv, .int x :: st, h)
    | _ => none
  | .lload_n k => match mmGet lv k with
    | some (.long x) => some (pc + 1, lv, .long x :: st, h)
    | _ => none
  | .lload k => match mmGet lv k with
    | some (.long x) => some (pc + 2, lv, .long x :: st, h)
    | _ => none
  | .aload_n k => match mmGet lv k with
    | some (.ref x) => some (pc + 1, lv, .ref x :: st, h)
    | _ => none
  | .aload k => match mmGet lv k with
    | some (.ref x) => some (pc + 2, lv, .ref x :: st, h)
    | _ => none
  | .istore_n k => match st with
    | .int x :: r => (mmSet1 lv k (.int x)).map fun lv' => (pc + 1, lv', r, h)
    | _ => none
  | .istore k => match st with
    | .int x :: r => (mmSet1 lv k (.int x)).map fun lv' => (pc + 2, lv', r, h)
    | _ => none
  | .lstore_n k => match st with
    | .long x :: r => (mmSet2 lv k (.long x)).map fun lv' => (pc + 1, lv', r, h)
    | _ => none
  | .lstore k => match st with
    | .long x :: r => (mmSet2 lv k (.long x)).map fun lv' => (pc + 2, lv', r, h)
    | _ => none
  | .astore_n k => match st with
    | .ref x :: r => (mmSet1 lv k (.ref x)).map fun lv' => (pc + 1, lv', r, h)
    | _ => none
  | .astore k => match st with
    | .ref x :: r => (mmSet1 lv k (.ref x)).map fun lv' => (pc + 2, lv', r, h)
    | _ => none
  | .iinc k n => match mmGet lv k with
    | some (.int x) => (mmSet1 lv k (.int (x + Int32.ofInt n))).map fun lv' => (pc + 3, lv', st, h)
    | _ => none
  | .iadd => match st with
    | .int y :: .int x :: r => some (pc + 1, lv, .int (x + y) :: r, h)
    | _ => none
  | .isub => match st with
    | .int y :: .int x :: r => some (pc + 1, lv, .int (x - y) :: r, h)
    | _ => none
  | .imul => match st with
    | .int y :: .int x :: r => some (pc + 1, lv, .int (x * y) :: r, h)
    | _ => none
  | .iand => match st with
    | .int y :: .int x :: r => some (pc + 1, lv, .int (x &&& y) :: r, h)
    | _ => none
  | .ior => match st with
    | .int y :: .int x :: r => some (pc + 1, lv, .int (x ||| y) :: r, h)
    | _ => none
  | .ixor => match st with
    | .int y :: .int x :: r => some (pc + 1, lv, .int (x ^^^ y) :: r, h)
    | _ => none
  | .ishl => match st with
    | .int y :: .int x :: r => some (pc + 1, lv, .int (x <<< (y &&& 31)) :: r, h)
    | _ => none
  | .ishr => match st with
    | .int y :: .int x :: r => some (pc + 1, lv, .int (x >>> (y &&& 31)) :: r, h)
    | _ => none
  | .iushr => match st with
    | .int y :: .int x :: r => some (pc + 1, lv, .int (x.toUInt32 >>> (y.toUInt32 &&& Int32.toUInt32 31)).toInt32 :: r, h)
    | _ => none
  | .idiv => match st with
    | .int y :: .int x :: r => if y = 0 then none else some (pc + 1, lv, .int (x / y) :: r, h)
    | _ => none
  | .irem => match st with
    | .int y :: .int x :: r => if y = 0 then none else some (pc + 1, lv, .int (x - x / y * y) :: r, h)
    | _ => none
  | .i2l => match st with
    | .int x :: r => some (pc + 1, lv, .long x.toInt64 :: r, h)
    | _ => none
  | .ladd => match st with
    | .long y :: .long x :: r => some (pc + 1, lv, .long (x + y) :: r, h)
    | _ => none
  | .lmul => match st with
    | .long y :: .long x :: r => some (pc + 1, lv, .long (x * y) :: r, h)
    | _ => none
  | .lcmp => match st with
    | .long y :: .long x :: r => some (pc + 1, lv, .int (lg_cmp x y) :: r, h)
    | _ => none
  | .dup => match st with
    | .int x :: r => some (pc + 1, lv, .int x :: .int x :: r, h)
    | .ref x :: r => some (pc + 1, lv, .ref x :: .ref x :: r, h)
    | _ => none
  | .dup2 => match st with
    | .int y :: .ref x :: r => some (pc + 1, lv, .int y :: .ref x :: .int y :: .ref x :: r, h)
    | _ => none
  | .pop => match st with
    | .int _ :: r => some (pc + 1, lv, r, h)
    | .ref _ :: r => some (pc + 1, lv, r, h)
    | _ => none
  | .getfield _ => match st, ax with
    | .ref a :: r, ci :: k :: _ => match h[a]? with
      | some c => if c.1 = ci ∧ ci < 1000 then (c.2[k]?).map fun v => (pc + 3, lv, v :: r, h) else none
      | none => none
    | _, _ => none
  | .putfield _ => match st, ax with
    | v :: .ref a :: r, ci :: k :: tc :: _ => match h[a]? with
      | some c => if c.1 = ci ∧ ci < 1000 ∧ k < c.2.length ∧ mmFit tc v = true ∧ mmRo ≤ a then some (pc + 3, lv, r, h.set a (ci, c.2.set k v)) else none
      | none => none
    | _, _ => none
  | .iaload => match st with
    | .int j :: .ref a :: r => match h[a]? with
      | some c => if (c.1 = 1000 ∨ c.1 = 1999) ∧ ¬ j < 0 then match c.2[j.toNatClampNeg]? with
          | some (.int x) => some (pc + 1, lv, .int x :: r, h)
          | _ => none
        else none
      | none => none
    | _ => none
  | .iastore => match st with
    | .int x :: .int j :: .ref a :: r => match h[a]? with
      | some c => if c.1 = 1000 ∧ ¬ j < 0 ∧ j.toNatClampNeg < c.2.length ∧ mmRo ≤ a then some (pc + 1, lv, r, h.set a (1000, c.2.set j.toNatClampNeg (.int x))) else none
      | none => none
    | _ => none
  | .arraylength => match st with
    | .ref a :: r => match h[a]? with
      | some c => if c.1 = 1000 ∨ c.1 = 1999 then some (pc + 1, lv, .int (nI c.2.length) :: r, h) else none
      | none => none
    | _ => none
  | .newarray .int => match st with
    | .int n :: r => if ¬ n < 0 ∧ n.toNatClampNeg ≤ 100000 then some (pc + 2, lv, .ref h.length :: r, h ++ [(1000, List.replicate n.toNatClampNeg (.int 0))]) else none
    | _ => none
  | .new _ => match ax with
    | ci :: _ => match mmDefs[ci]? with
      | some fs => if ci < 1000 then some (pc + 3, lv, .ref h.length :: st, h ++ [(ci, fs)]) else none
      | none => none
    | _ => none
  | .aaload => match st with
    | .int j :: .ref a :: r => match h[a]? with
      | some c => if (c.1 = 1001 ∨ c.1 = 1002) ∧ ¬ j < 0 then match c.2[j.toNatClampNeg]? with
          | some (.ref x) => some (pc + 1, lv, .ref x :: r, h)
          | _ => none
        else none
      | none => none
    | _ => none
  | .aastore => match st with
    | .ref b :: .int j :: .ref a :: r => match h[a]?, h[b]? with
      | some c, some d => if (c.1 = 1001 ∧ d.1 = 1000 ∨ c.1 = 1002 ∧ d.1 = 1001) ∧ ¬ j < 0 ∧ j.toNatClampNeg < c.2.length ∧ mmRo ≤ a then some (pc + 1, lv, r, h.set a (c.1, c.2.set j.toNatClampNeg (.ref b))) else none
      | _, _ => none
    | _ => none
  | .multianewarray _ 2 => match st, ax with
    | .int k :: .int n :: r, tg :: _ => if (tg = 1001 ∨ tg = 1002) ∧ ¬ n < 0 ∧ ¬ k < 0 ∧ n.toNatClampNeg ≤ 100 ∧ k.toNatClampNeg ≤ 100 then some (pc + 4, lv, .ref h.length :: r, h ++ mmMulti tg h.length n.toNatClampNeg k.toNatClampNeg) else none
    | _, _ => none
  | _ => none
/-- System.arraycopy over int arrays -/
def mmCpy (xs ys : List Value) (sp dp n : Nat) : List Value := ys.take dp ++ ((xs.drop sp).take n ++ ys.drop (dp + n))
def mmIsI : Value → Bool
  | .int _ => true
  | _ => false
def mmCopy (st : List Value) (h : List mmC) : Option (List Value × List mmC) :=
  match st with
  | .int n :: .int dp :: .ref b :: .int sp :: .ref a :: r => match h[a]?, h[b]? with
    | some ca, some cb => if ca.1 = 1000 ∧ cb.1 = 1000 ∧ ¬ sp < 0 ∧ ¬ dp < 0 ∧ ¬ n < 0 ∧ sp.toNatClampNeg + n.toNatClampNeg ≤ ca.2.length ∧ dp.toNatClampNeg + n.toNatClampNeg ≤ cb.2.length ∧ ca.2.all mmIsI = true ∧ mmWords r ≤ 8 ∧ mmRo ≤ b then
        some (r, h.set b (1000, mmCpy ca.2 cb.2 sp.toNatClampNeg dp.toNatClampNeg n.toNatClampNeg)) else none
    | _, _ => none
  | _ => none
/-- the arguments of a call, and what stays on the stack: 'kd y k ci ..': 0 a method of the object's class, 1 the same of a nest mate, 2 a static one, 3 a nest mate's, 4 a constructor, 5 a nest mate's; the method's number; how many arguments, the object with them; the object's class -/
def mmCall (PT : List mmM) (ax : List Nat) (st : List Value) (h : List mmC) : Option (mmM × List Value × List Value) :=
  match ax with
  | kd :: y :: k :: ci :: _ => match PT[y]? with
    | none => none
    | some M =>
      if (st.take k).length = k ∧ mmWords (st.drop k) ≤ 8 ∧ (mmSlots (st.take k).reverse).length ≤ M.2.2.1 then
        if kd = 2 ∨ kd = 3 then some (M, (st.take k).reverse, st.drop k)
        else match (st.take k).reverse with
          | .ref a :: _ => match h[a]? with
            | some c => if c.1 = ci ∧ ci < 1000 then some (M, (st.take k).reverse, st.drop k) else none
            | none => none
          | _ => none
      else none
  | _ => none
def mmIf : ClassFile.Cond → Int32 → Bool
  | .eq, x => decide (x = 0)
  | .ne, x => decide (¬ x = 0)
  | .lt, x => decide (x < 0)
  | .ge, x => decide (0 ≤ x)
  | .gt, x => decide (0 < x)
  | .le, x => decide (x ≤ 0)
def mmIc : ClassFile.Cond → Int32 → Int32 → Bool
  | .eq, x, y => decide (x = y)
  | .ne, x, y => decide (¬ x = y)
  | .lt, x, y => decide (x < y)
  | .ge, x, y => decide (y ≤ x)
  | .gt, x, y => decide (y < x)
  | .le, x, y => decide (x ≤ y)
/-- the machine: at most n steps of the method with the table t from pc on; what it answers, and the cells behind it -/
def mx (PT : List mmM) : Nat → List mmI → Nat → List (Option Value) → List Value → List mmC → Option (Option Value × List mmC)
  | 0, _, _, _, _, _ => none
  | n + 1, t, pc, lv, st, h =>
    match mmFetch t pc with
    | none => none
    | some (ins, _, ax) =>
      match ins with
      | .ifCond cd _ => match st, ax with
        | .int x :: r, tg :: _ => if mmIf cd x = true then mx PT n t tg lv r h else mx PT n t (pc + 3) lv r h
        | _, _ => none
      | .if_icmp cd _ => match st, ax with
        | .int y :: .int x :: r, tg :: _ => if mmIc cd x y = true then mx PT n t tg lv r h else mx PT n t (pc + 3) lv r h
        | _, _ => none
      | .goto _ => match ax with
        | tg :: _ => mx PT n t tg lv st h
        | _ => none
      | .tableswitch _ lo hi _ => match st, ax with
        | .int x :: r, df :: tgs => if x.toInt < lo ∨ hi < x.toInt then mx PT n t df lv r h else match tgs[(x.toInt - lo).toNat]? with
          | some tg => mx PT n t tg lv r h
          | none => none
        | _, _ => none
      | .ireturn => match st, ax with
        | [.int x], [] => some (some (.int x), h)
        | [.int x], [_] => if x = 0 ∨ x = 1 then some (some (.int x), h) else none
        | _, _ => none
      | .lreturn => match st with
        | [.long x] => some (some (.long x), h)
        | _ => none
      | .return_ => match st with
        | [] => some (none, h)
        | _ => none
      | .invokevirtual _ => match mmCall PT ax st h with
        | none => none
        | some (M, as, r) => match mx PT n M.2.2.2.2.2.2 0 (mmEntry M.2.2.1 as) [] h with
          | none => none
          | some (v, h') => mx PT n t (pc + 3) lv (v.toList ++ r) h'
      | .invokestatic _ => match ax with
        | [8, _, _] => match mmCopy st h with
          | some (r, h') => mx PT n t (pc + 3) lv r h'
          | none => none
        | _ => match mmCall PT ax st h with
          | none => none
          | some (M, as, r) => match mx PT n M.2.2.2.2.2.2 0 (mmEntry M.2.2.1 as) [] h with
            | none => none
            | some (v, h') => mx PT n t (pc + 3) lv (v.toList ++ r) h'
      | .invokespecial _ => match ax with
        | [9, _, _] => match st with
          | .ref _ :: r => if mmWords r ≤ 8 then mx PT n t (pc + 3) lv r h else none
          | _ => none
        | _ => match mmCall PT ax st h with
          | none => none
          | some (M, as, r) => match mx PT n M.2.2.2.2.2.2 0 (mmEntry M.2.2.1 as) [] h with
            | none => none
            | some (v, h') => mx PT n t (pc + 3) lv (v.toList ++ r) h'
      | _ => match mmS ins ax pc lv st h with
        | some (pc', lv', st', h') => mx PT n t pc' lv' st' h'
        | none => none
end
section
/-! THE MINI MACHINE, part 2: what its cells and locals are on the machine -/
def mmV (r : Nat → Nat) (xs : List Value) (k : Nat) : Value := mmv r (xs.getD k .null)
def mmAt (D : va_G) (cA : (Nat → ClassId) × Cell) (r : Nat → Nat) (H : Heap) (a : Nat) (c : mmC) : Prop :=
  (c.1 < 1000 → ∃ q : vw_C, vwCl[c.1]? = some q ∧ q.2.2 = c.2.length ∧ t_OB a (D.1 c.1) q.2.2 (D.2 c.1) H (mmV r c.2)) ∧
  (¬ c.1 < 1000 → c.1 ≠ 1999 → H[a]? = some (arrV (cA.1 c.1) c.2.length (mmV r c.2))) ∧
  (c.1 = 1999 → H[a]? = some cA.2 ∧ c.2.length = cA.2.slots.size ∧ ∀ j, j < c.2.length → cA.2.slots[j]? = some (mmV r c.2 j))
def mmW (D : va_G) (cA : (Nat → ClassId) × Cell) (r : Nat → Nat) (h : List mmC) (H : Heap) : Prop :=
  (∀ (i : Nat) (c : mmC), h[i]? = some c → mmAt D cA r H (r i) c) ∧ (∀ i j : Nat, i < h.length → j < h.length → r i = r j → i = j) ∧ ∀ j : Nat, h.length ≤ j → r j + h.length = H.size + j
/-- which cells a method may change: those that were there for it, and new ones -/
def mmA (r : Nat → Nat) (h : List mmC) : Nat → Prop := fun q => (∃ i : Nat, mmRo ≤ i ∧ i < h.length ∧ q = r i) ∨ r h.length ≤ q
def mmSl (h : List mmC) : Nat := (h.map fun c => c.2.length).sum
def mmLs (r : Nat → Nat) (ls : Array Slot) (lv : List (Option Value)) : Prop :=
  lv_wf ls ∧ ls.size = lv.length ∧ ∀ (i : Nat) (v : Value), mmGet lv i = some v → ls[i]? = some (.val (mmv r v))
theorem mmv_cat (r : Nat → Nat) (v : Value) : (mmv r v).category = v.category := by cases v <;> rfl
theorem mmAt.lt {D : va_G} {cA : (Nat → ClassId) × Cell} {r : Nat → Nat} {H : Heap} {a : Nat} {c : mmC} (h : mmAt D cA r H a c) : a < H.size := by
  by_cases hc : c.1 < 1000
  · obtain ⟨q, -, -, cell, h1, -⟩ := h.1 hc
    exact (Array.getElem?_eq_some_iff.mp h1).1
  · by_cases h9 : c.1 = 1999
    · exact (Array.getElem?_eq_some_iff.mp (h.2.2 h9).1).1
    · exact (Array.getElem?_eq_some_iff.mp (h.2.1 hc h9)).1
theorem mmAt.kept {D : va_G} {cA : (Nat → ClassId) × Cell} {r : Nat → Nat} {H H1 : Heap} {a : Nat} {c : mmC} (h : mmAt D cA r H a c) (hq : H1[a]? = H[a]?) : mmAt D cA r H1 a c :=
  ⟨fun hc => by obtain ⟨q, h1, h2, h3⟩ := h.1 hc; exact ⟨q, h1, h2, h3.kept hq⟩, fun hc h9 => by rw [hq]; exact h.2.1 hc h9, fun h9 => by rw [hq]; exact h.2.2 h9⟩
theorem mmW.base {D : va_G} {cA : (Nat → ClassId) × Cell} {r : Nat → Nat} {h : List mmC} {H : Heap} (w : mmW D cA r h H) : r h.length = H.size := by
  have := w.2.2 h.length (Nat.le_refl _)
  omega
theorem mmW.set {D : va_G} {cA : (Nat → ClassId) × Cell} {r : Nat → Nat} {h : List mmC} {H H1 : Heap} {i : Nat} {c' : mmC} (w : mmW D cA r h H) (hi : i < h.length) (z : H1.size = H.size) (oq : ∀ q : Nat, q ≠ r i → H1[q]? = H[q]?) (hc : mmAt D cA r H1 (r i) c') : mmW D cA r (h.set i c') H1 := by
  refine ⟨fun j c hj => ?_, fun a b ha hb => ?_, fun j hj => ?_⟩
  · by_cases hij : i = j
    · subst hij
      rw [List.getElem?_set_self hi] at hj
      cases hj
      exact hc
    · rw [List.getElem?_set_ne hij] at hj
      refine (w.1 j c hj).kept (oq _ fun e => ?_)
      exact hij (w.2.1 j i (List.getElem?_eq_some_iff.mp hj).1 hi e).symm
  · rw [List.length_set] at ha hb
    exact w.2.1 a b ha hb
  · rw [List.length_set] at hj ⊢
    rw [z]
    exact w.2.2 j hj
theorem mmW.push {D : va_G} {cA : (Nat → ClassId) × Cell} {r : Nat → Nat} {h : List mmC} {H H1 : Heap} {c : mmC} (w : mmW D cA r h H) (z : H1.size = H.size + 1) (oq : ∀ q : Nat, q < H.size → H1[q]? = H[q]?) (hc : mmAt D cA r H1 H.size c) : mmW D cA r (h ++ [c]) H1 := by
  have hb := w.base
  have hlt : ∀ i, i < h.length → r i < H.size := fun i hi => by
    obtain ⟨c0, h0⟩ : ∃ c0, h[i]? = some c0 := ⟨_, List.getElem?_eq_getElem hi⟩
    exact (w.1 i c0 h0).lt
  refine ⟨fun j c0 hj => ?_, fun a b ha hb2 e => ?_, fun j hj => ?_⟩
  · by_cases hjl : j < h.length
    · rw [List.getElem?_append_left hjl] at hj
      exact (w.1 j c0 hj).kept (oq _ (hlt j hjl))
    · have hlen := (List.getElem?_eq_some_iff.mp hj).1
      simp only [List.length_append, List.length_cons, List.length_nil] at hlen
      have hje : j = h.length := by omega
      subst hje
      rw [List.getElem?_append_right (Nat.le_refl _), Nat.sub_self] at hj
      cases hj
      rw [hb]
      exact hc
  · simp only [List.length_append, List.length_cons, List.length_nil] at ha hb2
    by_cases h1 : a < h.length <;> by_cases h2 : b < h.length
    · exact w.2.1 a b h1 h2 e
    · have : b = h.length := by omega
      subst this
      have := hlt a h1
      omega
    · have : a = h.length := by omega
      subst this
      have := hlt b h2
      omega
    · omega
  · simp only [List.length_append, List.length_cons, List.length_nil] at hj ⊢
    have := w.2.2 j (by omega)
    omega
theorem mmW.app {D : va_G} {cA : (Nat → ClassId) × Cell} {r : Nat → Nat} {h cs : List mmC} {H H1 : Heap} (w : mmW D cA r h H) (z : H1.size = H.size + cs.length) (oq : ∀ q : Nat, q < H.size → H1[q]? = H[q]?) (hc : ∀ (i : Nat) (c : mmC), cs[i]? = some c → mmAt D cA r H1 (H.size + i) c) : mmW D cA r (h ++ cs) H1 := by
  have hlt : ∀ i, i < h.length → r i < H.size := fun i hi => by
    obtain ⟨c0, h0⟩ : ∃ c0, h[i]? = some c0 := ⟨_, List.getElem?_eq_getElem hi⟩
    exact (w.1 i c0 h0).lt
  refine ⟨fun j c0 hj => ?_, fun a b ha hb2 e => ?_, fun j hj => ?_⟩
  · by_cases hjl : j < h.length
    · rw [List.getElem?_append_left hjl] at hj
      exact (w.1 j c0 hj).kept (oq _ (hlt j hjl))
    · rw [List.getElem?_append_right (by omega)] at hj
      have h1 := w.2.2 j (by omega)
      have h2 := hc (j - h.length) c0 hj
      rw [show H.size + (j - h.length) = r j by omega] at h2
      exact h2
  · by_cases h1 : a < h.length <;> by_cases h2 : b < h.length
    · exact w.2.1 a b h1 h2 e
    · have g1 := hlt a h1
      have g2 := w.2.2 b (by omega)
      omega
    · have g1 := hlt b h2
      have g2 := w.2.2 a (by omega)
      omega
    · have g1 := w.2.2 a (by omega)
      have g2 := w.2.2 b (by omega)
      omega
  · rw [List.length_append] at hj ⊢
    have := w.2.2 j (by omega)
    omega
theorem mmA.of {r : Nat → Nat} {h0 : List mmC} {n : Nat} (hb : ∀ j : Nat, h0.length ≤ j → r j + h0.length = n + j) {i : Nat} (ho : mmRo ≤ i) : mmA r h0 (r i) := by
  by_cases hi : i < h0.length
  · exact Or.inl ⟨i, ho, hi, rfl⟩
  · have h1 := hb i (by omega)
    have h2 := hb h0.length (Nat.le_refl _)
    exact Or.inr (by omega)
theorem mmSl_set {h : List mmC} {i : Nat} {c c' : mmC} (hi : h[i]? = some c) (hl : c'.2.length = c.2.length) : mmSl (h.set i c') = mmSl h := by
  induction h generalizing i with
  | nil => simp at hi
  | cons a t ih =>
    cases i with
    | zero =>
      simp at hi
      subst hi
      simp [mmSl, hl]
    | succ i =>
      simp at hi
      have := ih hi
      simp only [mmSl, List.set_cons_succ, List.map_cons, List.sum_cons] at this ⊢
      omega
theorem mmSl_push (h : List mmC) (c : mmC) : mmSl (h ++ [c]) = mmSl h + c.2.length := by simp [mmSl]
theorem mmGet_lt {lv : List (Option Value)} {i : Nat} {v : Value} (h : mmGet lv i = some v) : i < lv.length := by
  unfold mmGet at h
  by_cases hi : i < lv.length
  · exact hi
  · rw [List.getElem?_eq_none (by omega)] at h
    cases h
theorem mmGet_set {lv : List (Option Value)} {i j : Nat} {o : Option Value} : mmGet (lv.set i o) j = if i = j ∧ i < lv.length then o else mmGet lv j := by
  unfold mmGet
  rw [List.getElem?_set]
  by_cases hij : i = j
  · subst hij
    by_cases hl : i < lv.length
    · simp [hl]
    · simp [hl, List.getElem?_eq_none (Nat.not_lt.mp hl)]
  · simp [hij]
/-- the locals as the kit has them -/
def mmKit (r : Nat → Nat) (lv : List (Option Value)) : List (Nat × Value) := (List.range lv.length).filterMap fun i => (mmGet lv i).map fun v => (i, mmv r v)
theorem mmKit_mem {r : Nat → Nat} {lv : List (Option Value)} {q : Nat × Value} : q ∈ mmKit r lv ↔ ∃ v, mmGet lv q.1 = some v ∧ q.2 = mmv r v := by
  unfold mmKit
  rw [List.mem_filterMap]
  constructor
  · rintro ⟨i, -, hi⟩
    cases hv : mmGet lv i with
    | none => rw [hv] at hi; cases hi
    | some v =>
      rw [hv] at hi
      cases hi
      exact ⟨v, hv, rfl⟩
  · rintro ⟨v, h1, h2⟩
    refine ⟨q.1, List.mem_range.mpr (mmGet_lt h1), ?_⟩
    rw [h1]
    exact congrArg some (Prod.ext rfl h2.symm)
theorem mmLs.kit {r : Nat → Nat} {ls : Array Slot} {lv : List (Option Value)} (h : mmLs r ls lv) : lv_has ls lv.length (mmKit r lv) := by
  refine ⟨h.2.1, h.1, fun q hq => ?_⟩
  obtain ⟨v, h1, h2⟩ := mmKit_mem.mp hq
  rw [h2]
  exact h.2.2 _ _ h1
theorem mmLs.at {r : Nat → Nat} {ls : Array Slot} {lv : List (Option Value)} (h : mmLs r ls lv) {i : Nat} {v : Value} (hv : mmGet lv i = some v) : ls[i]? = some (.val (mmv r v)) := h.2.2 i v hv
theorem mmLs.set1 {r : Nat → Nat} {ls : Array Slot} {lv lv' : List (Option Value)} {i : Nat} {v : Value} (hs : mmSet1 lv i v = some lv')
    (h : lv_has ls lv.length ((i, mmv r v) :: (mmKit r lv).filter (fun q => !(q.1 == i) && !(q.1 + 1 == i && q.2.category == 2)))) : mmLs r ls lv' := by
  unfold mmSet1 at hs
  split at hs
  · rename_i hc
    cases hs
    rw [Bool.and_eq_true, decide_eq_true_eq] at hc
    refine ⟨h.2.1, by rw [List.length_set]; exact h.1, fun j w hw => ?_⟩
    rw [mmGet_set] at hw
    split at hw
    · rename_i hij
      cases hw
      rw [← hij.1]
      exact h.2.2 (i, mmv r v) List.mem_cons_self
    · rename_i hij
      have hne : j ≠ i := fun e => hij ⟨e.symm, hc.1⟩
      refine h.2.2 (j, mmv r w) (List.mem_cons_of_mem _ (List.mem_filter.mpr ⟨mmKit_mem.mpr ⟨w, hw, rfl⟩, ?_⟩))
      have h1 : (j == i) = false := by simp [hne]
      have h2 : (j + 1 == i && (mmv r w).category == 2) = false := by
        by_cases hj : j + 1 = i
        · subst hj
          have h3 := hc.2
          simp only [mmOk, hw] at h3
          rw [mmv_cat]
          cases w <;> simp_all [mmWide, Value.category]
        · simp [hj]
      simp [h1, h2]
  · cases hs
theorem mmLs.set2 {r : Nat → Nat} {ls : Array Slot} {lv lv' : List (Option Value)} {i : Nat} {v : Value} (hs : mmSet2 lv i v = some lv')
    (h : lv_has ls lv.length ((i, mmv r v) :: (mmKit r lv).filter (fun q => !(q.1 == i) && (!(q.1 == i + 1) && !(q.1 + 1 == i && q.2.category == 2))))) : mmLs r ls lv' := by
  unfold mmSet2 at hs
  split at hs
  · rename_i hc
    cases hs
    rw [Bool.and_eq_true, decide_eq_true_eq] at hc
    refine ⟨h.2.1, by rw [List.length_set, List.length_set]; exact h.1, fun j w hw => ?_⟩
    rw [mmGet_set] at hw
    split at hw
    · cases hw
    rename_i hij1
    have hne1 : j ≠ i + 1 := fun e => hij1 ⟨e.symm, by rw [List.length_set]; exact hc.1⟩
    rw [mmGet_set] at hw
    split at hw
    · rename_i hij
      cases hw
      rw [← hij.1]
      exact h.2.2 (i, mmv r v) List.mem_cons_self
    · rename_i hij
      have hne : j ≠ i := fun e => hij ⟨e.symm, by omega⟩
      refine h.2.2 (j, mmv r w) (List.mem_cons_of_mem _ (List.mem_filter.mpr ⟨mmKit_mem.mpr ⟨w, hw, rfl⟩, ?_⟩))
      have h1 : (j == i) = false := by simp [hne]
      have h2 : (j == i + 1) = false := by simp [hne1]
      have h3 : (j + 1 == i && (mmv r w).category == 2) = false := by
        by_cases hj : j + 1 = i
        · subst hj
          have h3 := hc.2
          simp only [mmOk, hw] at h3
          rw [mmv_cat]
          cases w <;> simp_all [mmWide, Value.category]
        · simp [hj]
      simp [h1, h2, h3]
  · cases hs
theorem mmSet1_lt {lv lv' : List (Option Value)} {i : Nat} {v : Value} (hs : mmSet1 lv i v = some lv') : i < lv.length := by
  unfold mmSet1 at hs
  split at hs
  · rename_i hc
    rw [Bool.and_eq_true, decide_eq_true_eq] at hc
    exact hc.1
  · cases hs
theorem mmSet2_lt {lv lv' : List (Option Value)} {i : Nat} {v : Value} (hs : mmSet2 lv i v = some lv') : i + 1 < lv.length := by
  unfold mmSet2 at hs
  split at hs
  · rename_i hc
    rw [Bool.and_eq_true, decide_eq_true_eq] at hc
    exact hc.1
  · cases hs
/-- the locals at a method's entry -/
theorem mmSlots_mem (vs : List Value) : ∀ (b i : Nat) (v : Value), mmGet (mmSlots vs) i = some v → (b + i, v) ∈ lv_args b vs := by
  induction vs with
  | nil => intro b i v h; simp [mmSlots, mmGet] at h
  | cons a t ih =>
    intro b i v h
    unfold mmSlots at h
    unfold lv_args
    split at h
    · rename_i hc
      rw [if_pos hc]
      match i, h with
      | 0, h => simp [mmGet] at h; rw [h]; exact List.mem_cons_self
      | 1, h => simp [mmGet] at h
      | i + 2, h =>
        have := ih (b + 2) i v (by simpa [mmGet] using h)
        refine List.mem_cons_of_mem _ ?_
        rwa [show b + (i + 2) = b + 2 + i by omega]
    · rename_i hc
      rw [if_neg hc]
      match i, h with
      | 0, h => simp [mmGet] at h; rw [h]; exact List.mem_cons_self
      | i + 1, h =>
        have := ih (b + 1) i v (by simpa [mmGet] using h)
        refine List.mem_cons_of_mem _ ?_
        rwa [show b + (i + 1) = b + 1 + i by omega]
theorem mmSlots_map (r : Nat → Nat) (vs : List Value) : mmSlots (vs.map (mmv r)) = (mmSlots vs).map (Option.map (mmv r)) := by
  induction vs with
  | nil => rfl
  | cons a t ih =>
    rw [List.map_cons]
    unfold mmSlots
    rw [mmv_cat]
    split
    · simp [ih]
    · simp [ih]
theorem mmSlots_len (vs : List Value) : (mmSlots vs).length = (lg_sl vs).length := by
  induction vs with
  | nil => rfl
  | cons a t ih =>
    unfold mmSlots lg_sl
    rw [List.flatMap_cons]
    split
    · simp [ih, lg_sl]
    · simp [ih, lg_sl]
theorem mmEntry_ls (r : Nat → Nat) {n : Nat} {vs : List Value} (hn : (mmSlots vs).length ≤ n) :
    mmLs r ((lg_sl (vs.map (mmv r)) ++ List.replicate (n - (lg_sl (vs.map (mmv r))).length) Slot.unset).toArray) (mmEntry n vs) := by
  have hl : (lg_sl (vs.map (mmv r))).length = (mmSlots vs).length := by rw [← mmSlots_len, mmSlots_map, List.length_map]
  have he := lv_entry (vs.map (mmv r)) (n := n) (by rw [hl]; exact hn)
  refine ⟨he.2.1, by rw [he.1]; simp [mmEntry]; omega, fun i v hv => ?_⟩
  have h1 : mmGet (mmSlots vs) i = some v := by
    unfold mmEntry mmGet at hv
    unfold mmGet
    by_cases hi : i < (mmSlots vs).length
    · rwa [List.getElem?_append_left hi] at hv
    · rw [List.getElem?_append_right (by omega), List.getElem?_replicate] at hv
      split at hv <;> cases hv
  have h2 : mmGet (mmSlots (vs.map (mmv r))) i = some (mmv r v) := by
    rw [mmSlots_map]
    unfold mmGet at h1 ⊢
    rw [List.getElem?_map]
    cases hg : (mmSlots vs)[i]? with
    | none => rw [hg] at h1; cases h1
    | some o => rw [hg] at h1; simp at h1; rw [h1]; rfl
  have h3 := mmSlots_mem (vs.map (mmv r)) 0 i _ h2
  rw [Nat.zero_add] at h3
  exact he.2.2 _ h3
end
section
/-! AN ARRAY OF ARRAYS, as the machine makes it: the outer one, then row by row -/
def mq_out (ca : ClassId) (n b j : Nat) : Cell := arrV ca n fun i => if i < j then .ref (b + 1 + i) else .null
def mq_st (T : State) (ca cb : ClassId) (n k : Nat) (dv : Value) : Nat → State
  | 0 => T.pushCell (mq_out ca n T.heap.size 0)
  | j + 1 => ((mq_st T ca cb n k dv j).pushCell (arrV cb k fun _ => dv)).setCell T.heap.size (mq_out ca n T.heap.size (j + 1))
theorem mq_out_set (ca : ClassId) (n b j : Nat) : (mq_out ca n b j).setSlot j (.ref (b + 1 + j)) = mq_out ca n b (j + 1) := by
  unfold mq_out
  rw [arrV_store]
  refine congrArg (arrV ca n) (funext fun i => ?_)
  unfold updV
  by_cases h : i = j
  · subst h
    rw [if_pos rfl, if_pos (Nat.lt_succ_self _)]
  · rw [if_neg h]
    show (if i < j then Value.ref (b + 1 + i) else Value.null) = _
    by_cases h2 : i < j
    · rw [if_pos h2, if_pos (by omega)]
    · rw [if_neg h2, if_neg (by omega)]
theorem mq_out_0 (ca : ClassId) (n b : Nat) : mq_out ca n b 0 = arrV ca n fun _ => .null := by
  unfold mq_out
  refine congrArg (arrV ca n) (funext fun i => ?_)
  rw [if_neg (Nat.not_lt_zero _)]
section MULTI
variable {T : State} {ca cb : ClassId} {n k : Nat} {dv : Value}
theorem mq_facts : ∀ j, (mq_st T ca cb n k dv j).heap.size = T.heap.size + 1 + j ∧ (mq_st T ca cb n k dv j).heap[T.heap.size]? = some (mq_out ca n T.heap.size j) ∧ (mq_st T ca cb n k dv j).vm = T.vm ∧ (mq_st T ca cb n k dv j).slotsUsed = T.slotsUsed + n + j * k ∧ (∀ q : Nat, q < T.heap.size → (mq_st T ca cb n k dv j).heap[q]? = T.heap[q]?) ∧ ∀ i, i < j → (mq_st T ca cb n k dv j).heap[T.heap.size + 1 + i]? = some (arrV cb k fun _ => dv)
  | 0 => by
    have e : (mq_st T ca cb n k dv 0).heap = T.heap.push (mq_out ca n T.heap.size 0) := rfl
    refine ⟨by rw [e]; simp, by rw [e]; simp, rfl, ?_, fun q hq => by rw [e, Array.getElem?_push, if_neg (Nat.ne_of_lt hq)], fun i hi => by omega⟩
    show T.slotsUsed + (mq_out ca n T.heap.size 0).slots.size = _
    unfold mq_out
    rw [arrV_size]
    simp
  | j + 1 => by
    obtain ⟨a1, a2, a3, a4, a5, a6⟩ := mq_facts j
    have e : (mq_st T ca cb n k dv (j + 1)).heap = ((mq_st T ca cb n k dv j).heap.push (arrV cb k fun _ => dv)).setIfInBounds T.heap.size (mq_out ca n T.heap.size (j + 1)) := rfl
    refine ⟨by rw [e]; simp [a1]; omega, ?_, a3, ?_, fun q hq => ?_, fun i hi => ?_⟩
    · rw [e, Array.getElem?_setIfInBounds, if_pos rfl, if_pos (by simp [a1]; omega)]
    · show (mq_st T ca cb n k dv j).slotsUsed + (arrV cb k fun _ => dv).slots.size = _
      rw [a4, arrV_size, Nat.succ_mul]
      omega
    · rw [e, Array.getElem?_setIfInBounds, if_neg (by omega), Array.getElem?_push, if_neg (by omega)]
      exact a5 q hq
    · rw [e, Array.getElem?_setIfInBounds, if_neg (by omega), Array.getElem?_push, a1]
      by_cases h : i = j
      · subst h
        rw [if_pos rfl]
      · rw [if_neg (by omega)]
        exact a6 i (by omega)
theorem mq_top (f : JFrame) : ∀ j, mq_st (T.setTop f) ca cb n k dv j = (mq_st T ca cb n k dv j).setTop f
  | 0 => rfl
  | j + 1 => by
    show ((mq_st (T.setTop f) ca cb n k dv j).pushCell _).setCell _ _ = _
    rw [mq_top f j]
    rfl
end MULTI
section MULTIWP
variable {E : CtlPost} {e : Env} {d : Bool} {acts : List Action} {s : State}
theorem mq_new {ca comp : ClassId} {ka : Class} {ty : FieldType} {len : Nat} {iv : Value} (h1 : s.vm.classes[ca]? = some ka) (h2 : ka.kind = .array comp ty) (hl : ¬ len > e.platform.arrayLengthLimit) (hh : ¬ len * componentBytes ty > e.platform.maxHeapBytes) (hf : fits ty iv = true) (hd : iv.isDefault = true) (c1 : s.heap.size < e.platform.maxCells) (c2 : s.slotsUsed + len ≤ e.platform.maxSlots) {Q : Addr → Pre}
    (hq : Q s.heap.size d acts (s.pushCell (arrV ca len fun _ => iv))) : wp (Jvm.newArray ca len iv) Q E e d acts s := by
  have g1 : ∀ i v, (Array.replicate len iv)[i]? = some v → s.fitsSlot ca .none i v = true := fun i v hv => by
    rw [Array.getElem?_replicate] at hv
    split at hv
    · cases hv
      simp [State.fitsSlot, State.slotType?, h1, h2, hf]
    · cases hv
  have g2 : allocActs (Array.replicate len iv) s.heap.size acts = acts := by
    unfold allocActs
    rw [if_pos (by rw [Array.all_replicate]; split <;> simp [hd])]
  rw [← arrV_new] at hq
  simp only [Jvm.newArray, Jvm.arrayFits, wp_bind', W.ask, W.ite, hl, if_false, wp_pure', W.theClass, h1, h2, hh, W.alloc, W.stop, Option.some.injEq, exists_eq_left', Array.size_replicate, g2]
  rw [if_neg (by omega)]
  exact ⟨c1, c2, g1, hq⟩
theorem mq_null {t : FieldType} (h : t.isReference = true) : fits t .null = true := by
  cases t <;> first | rfl | cases h
theorem mq_ref {t : FieldType} (h : t.isReference = true) (a : Addr) : fits t (.ref a) = true := by
  cases t <;> first | rfl | cases h
theorem mq_make {ca cb cd : ClassId} {ka kb : Class} {t0 t1 : FieldType} {n k : Int32} (hka : s.vm.classes[ca]? = some ka) (hia : ka.kind = .array cb t0) (href : t0.isReference = true) (hkb : s.vm.classes[cb]? = some kb) (hib : kb.kind = .array cd t1) (hn : ¬ n < 0) (hk : ¬ k < 0)
    (l1 : ¬ n.toNatClampNeg > e.platform.arrayLengthLimit) (b1 : ¬ n.toNatClampNeg * componentBytes t0 > e.platform.maxHeapBytes) (l2 : ¬ k.toNatClampNeg > e.platform.arrayLengthLimit) (b2 : ¬ k.toNatClampNeg * componentBytes t1 > e.platform.maxHeapBytes) (hdf : fits t1 (defaultValue t1) = true) (hdd : (defaultValue t1).isDefault = true)
    (c1 : s.heap.size + 1 + n.toNatClampNeg ≤ e.platform.maxCells) (c2 : s.slotsUsed + n.toNatClampNeg + n.toNatClampNeg * k.toNatClampNeg ≤ e.platform.maxSlots) {Q : Addr → Pre} (hq : ∀ d' acts', Q s.heap.size d' acts' (mq_st s ca cb n.toNatClampNeg k.toNatClampNeg (defaultValue t1) n.toNatClampNeg)) :
    wp (Op.multianewarray.make ca [n, k]) Q E e d acts s := by
  have hno : ([k].find? (· < 0)) = none := by simp [hk]
  rw [Op.multianewarray.make]
  simp only [wp_bind', W.ite, hn, if_false, wp_pure', W.theClass, hka, hia, Option.some.injEq, exists_eq_left']
  refine mq_new hka hia l1 b1 (mq_null href) rfl (by omega) (Nat.le_trans (Nat.le_add_right _ _) c2) ?_
  rw [← mq_out_0 ca n.toNatClampNeg s.heap.size]
  simp only [hno]
  rw [ite_self, wp_bind', Std.Legacy.Range.forIn_eq_forIn_range', show ([:n.toNatClampNeg] : Std.Legacy.Range).size = n.toNatClampNeg by simp [Std.Legacy.Range.size]]
  generalize hN : n.toNatClampNeg = N at *
  generalize hK : k.toNatClampNeg = K at *
  show wp (forIn (List.range' 0 N 1) PUnit.unit _) _ E e d acts _
  refine wp_forIn_inv (fun rest s' => ∃ j, rest.length + j = N ∧ rest = List.range' j (N - j) ∧ s' = mq_st s ca cb N K (defaultValue t1) j) _ _ ⟨0, by simp, rfl, rfl⟩ ?_ ?_
  · rintro x rest s' d' acts' Q' ⟨j, hj, hr, rfl⟩ hnext
    have hlt : j < N := by
      rw [List.length_cons] at hj
      omega
    rw [show N - j = (N - (j + 1)) + 1 by omega, List.range'_succ] at hr
    injection hr with hx hr
    subst hx
    obtain ⟨f1, f2, f3, f4, -, -⟩ := mq_facts (T := s) (ca := ca) (cb := cb) (n := N) (k := K) (dv := defaultValue t1) x
    have hm : x * K + K ≤ N * K := by
      have := Nat.mul_le_mul_right K (show x + 1 ≤ N from hlt)
      rwa [Nat.succ_mul] at this
    simp only [wp_bind']
    rw [Op.multianewarray.make]
    simp only [wp_bind', W.ite, hk, if_false, wp_pure', W.theClass, f3, hkb, hib, Option.some.injEq, exists_eq_left']
    refine mq_new (by rw [f3]; exact hkb) hib (by rw [hK]; exact l2) (by rw [hK]; exact b2) hdf hdd (by rw [f1]; omega) (by rw [f4, hK]; omega) ?_
    rw [hK]
    simp only [wp_bind', W.writeLoc, wp_pure']
    refine ⟨mq_out ca N s.heap.size x, ?_, (fun z => by cases z), by unfold mq_out; rw [arrV_size]; exact hlt, ?_, hnext _ _ _ ⟨x + 1, by rw [List.length_cons] at hj; omega, hr, ?_⟩⟩
    · show ((mq_st s ca cb N K (defaultValue t1) x).heap.push _)[s.heap.size]? = _
      rw [Array.getElem?_push, if_neg (by omega)]
      exact f2
    · show State.fitsSlot _ ca .none x _ = true
      simp [State.fitsSlot, State.slotType?, f3, hka, hia, mq_ref href]
    · rw [f1, mq_out_set]
      rfl
  · rintro s' d' acts' ⟨j, hj, hr, rfl⟩
    have : j = N := by simpa using hj
    subst this
    simp only [wp_pure']
    exact hq _ _
end MULTIWP
section MULTIW
variable {p : Program} {l : Launch} {e : Env} {R : Room} {s : State} {m : MethodId} {args : Array Value} {below : List Frame} {meth : Method} {c : Code} {T : State} {H : Heap} {locs : List Loc} {cells slots : Nat} {Q : State → Prop}
theorem mq_stand (X : Stand p l e R s m args below meth c T locs cells slots) (ca cb : ClassId) (n k : Nat) (dv : Value) : ∀ j, Stand p l e R s m args below meth c (mq_st T ca cb n k dv j) (locs ++ (List.range j).map fun i => ⟨T.heap.size, i⟩) (cells + (j + 1)) (slots + (n + j * k))
  | 0 => by
    have h := X.pushed (mq_out ca n T.heap.size 0)
    have e1 : (mq_out ca n T.heap.size 0).slots.size = n := arrV_size _ _ _
    rw [e1] at h
    simpa [mq_st] using h
  | j + 1 => by
    have h0 := mq_stand X ca cb n k dv j
    obtain ⟨f1, f2, -⟩ := mq_facts (T := T) (ca := ca) (cb := cb) (n := n) (k := k) (dv := dv) j
    have hc : ((mq_st T ca cb n k dv j).pushCell (arrV cb k fun _ => dv)).heap[T.heap.size]? = some (mq_out ca n T.heap.size j) := by
      show ((mq_st T ca cb n k dv j).heap.push _)[T.heap.size]? = _
      rw [Array.getElem?_push, if_neg (by omega)]
      exact f2
    have h := (h0.pushed (arrV cb k fun _ => dv)).stored hc j (.ref (T.heap.size + 1 + j))
    rw [mq_out_set, arrV_size] at h
    rw [List.range_succ, List.map_append, ← List.append_assoc, show slots + (n + (j + 1) * k) = slots + (n + j * k) + k by rw [Nat.succ_mul]; omega]
    exact h
theorem W.mq {cc : ByteArray} (hexec : p.tables.exec = Jvm.exec) (hb : c.code = cc) {own C : String} {index : Nat} (hown : s.vm.findClass own = some m.cls) (hclink : (Cond.classLink own index C).before args s = true)
    {ca cb cd : ClassId} {ka kb : Class} {t0 t1 : FieldType} (hfc : s.vm.findClass C = some ca) (hka : s.vm.classes[ca]? = some ka) (hia : ka.kind = .array cb t0) (href : t0.isReference = true) (hkb : s.vm.classes[cb]? = some kb) (hib : kb.kind = .array cd t1) (hdf : fits t1 (defaultValue t1) = true) (hdd : (defaultValue t1).isDefault = true)
    {g : JFrame} (hg : g.method = m) (hdg : decode cc g.pc = .ok (.multianewarray index 2, 4)) {n k : Int32} {rest : List Value} (hstack : g.stack = .int k :: .int n :: rest) (hn : ¬ n < 0) (hk : ¬ k < 0) (hn1 : n.toNatClampNeg ≤ 100) (hk1 : k.toNatClampNeg ≤ 100) (hbt : componentBytes t0 ≤ 8 ∧ componentBytes t1 ≤ 8)
    (hcells : cells + (n.toNatClampNeg + 1) ≤ R.cells) (hslots : slots + (n.toNatClampNeg + n.toNatClampNeg * k.toNatClampNeg) ≤ R.slots)
    (kk : ∀ H' : Heap, H'.size = H.size + (n.toNatClampNeg + 1) → (∀ q : Nat, q < H.size → H'[q]? = H[q]?) → H'[H.size]? = some (arrV ca n.toNatClampNeg fun i => .ref (H.size + 1 + i)) → (∀ i, i < n.toNatClampNeg → H'[H.size + 1 + i]? = some (arrV cb k.toNatClampNeg fun _ => defaultValue t1)) →
      W p l e R s m args below meth c H' (locs ++ (List.range n.toNatClampNeg).map fun i => ⟨H.size, i⟩) (cells + (n.toNatClampNeg + 1)) (slots + (n.toNatClampNeg + n.toNatClampNeg * k.toNatClampNeg)) Q { g with pc := g.pc + 4, stack := .ref H.size :: rest }) : W p l e R s m args below meth c H locs cells slots Q g := by
  intro T hT X
  subst hT
  subst hb
  subst hg
  have hpl : e.platform.magicAccessors = ({} : Platform).magicAccessors := by rw [X.admits.platform]
  obtain ⟨c0, hfc0, hcl⟩ := Cond.classLink_spec hown hclink e.platform hpl
  cases hfc.symm.trans hfc0
  obtain ⟨hg₁, hwarm₁, -⟩ := State.classEntry (e := e) X.warmed hcl
  generalize T.vm.noted g.method.cls index (.cls ca) = vm₁ at hg₁ hwarm₁
  obtain ⟨ka₁, hka₁, hea⟩ := hwarm₁.alike.2.2 _ _ hka
  obtain ⟨kb₁, hkb₁, heb⟩ := hwarm₁.alike.2.2 _ _ hkb
  have hia₁ : ka₁.kind = .array cb t0 := by rw [hea]; exact hia
  have hib₁ : kb₁.kind = .array cd t1 := by rw [heb]; exact hib
  obtain ⟨hr1, hr2⟩ := X.roomAbove hcells hslots
  have XF := mq_stand (X.noted hwarm₁) ca cb n.toNatClampNeg k.toNatClampNeg (defaultValue t1) n.toNatClampNeg
  obtain ⟨f1, f2, f3, f4, f5, f6⟩ := mq_facts (T := T.setVm vm₁) (ca := ca) (cb := cb) (n := n.toNatClampNeg) (k := k.toNatClampNeg) (dv := defaultValue t1) n.toNatClampNeg
  have f2' : mq_out ca n.toNatClampNeg (T.setVm vm₁).heap.size n.toNatClampNeg = arrV ca n.toNatClampNeg fun i => .ref (T.heap.size + 1 + i) := by
    unfold mq_out
    unfold arrV
    refine congrArg (fun z => ({ cls := ca, slots := z, vm := .none } : Cell)) ?_
    refine congrArg Array.ofFn (funext fun j => ?_)
    show (if (j : Nat) < n.toNatClampNeg then Value.ref ((T.setVm vm₁).heap.size + 1 + j) else Value.null) = _
    rw [if_pos j.isLt]
    rfl
  rw [f2'] at f2
  obtain ⟨t, a1, b1⟩ := kk _ (by rw [f1]; show T.heap.size + 1 + _ = _; omega) f5 f2 f6 _ rfl XF
  refine ⟨t, ?_, b1⟩
  have l1 : ¬ n.toNatClampNeg > e.platform.arrayLengthLimit := by rw [Launch.admits_arrayLengthLimit X.admits]; omega
  have l2 : ¬ k.toNatClampNeg > e.platform.arrayLengthLimit := by rw [Launch.admits_arrayLengthLimit X.admits]; omega
  have m1 : n.toNatClampNeg * componentBytes t0 ≤ 100 * 8 := Nat.mul_le_mul hn1 hbt.1
  have m2 : k.toNatClampNeg * componentBytes t1 ≤ 100 * 8 := Nat.mul_le_mul hk1 hbt.2
  have b1 : ¬ n.toNatClampNeg * componentBytes t0 > e.platform.maxHeapBytes := by rw [Launch.admits_maxHeapBytes X.admits]; omega
  have b2 : ¬ k.toNatClampNeg * componentBytes t1 > e.platform.maxHeapBytes := by rw [Launch.admits_maxHeapBytes X.admits]; omega
  jvm_step X.here [hexec, hdg]
  simp only [Op.multianewarray.sem, wp_bind', W.resolveClassAt_links (State.method?_setTop g X.here.top) hg₁]
  rw [W.popN, if_neg (by decide)]
  refine ⟨g, State.topJava?_setTop' (s := T.setVm vm₁) g X.here.top, [.int n, .int k], rest, rfl, hstack, ?_⟩
  simp only [List.mapM_cons, List.mapM_nil, wp_bind', wp_pure']
  refine mq_make (ka := ka₁) (kb := kb₁) (cb := cb) (cd := cd) (t0 := t0) (t1 := t1) hka₁ hia₁ href hkb₁ hib₁ hn hk l1 b1 l2 b2 hdf hdd (by show T.heap.size + 1 + _ ≤ _; omega) (by show T.slotsUsed + _ + _ ≤ _; omega) (fun d' acts' => ?_)
  have eS : ((T.setTop g).setVm vm₁).setTop { g with stack := rest } = (T.setVm vm₁).setTop { g with stack := rest } := by
    show ((T.setVm vm₁).setTop g).setTop _ = _
    rw [State.setTop_setTop]
  rw [eS, mq_top]
  simp only [wp_bind', W.mark, W.pushRef, State.topJava?_setTop' _ XF.here.top, Option.some.injEq, exists_eq_left', State.setTop_setTop, State.heap_setTop]
  intro acts
  simp [jvm, XF.here.top]
  exact a1
end MULTIW
end
section
/-! THE MINI MACHINE, part 3: a simple instruction of it is one of the machine -/
def mmGood : List Jvm.Cond := lw_tbl.filter goodWord
def mmIsNest : Jvm.Cond → Bool
  | .fieldLinkNest _ _ _ _ _ _ => true
  | .methodLinkNest _ _ _ _ => true
  | _ => false
def mmNest : List Jvm.Cond := lw_tbl.filter mmIsNest
def mmTys : List (Nat × FieldType) := [(1000, .int), (1001, .array .int), (1002, .array (.array .int))]
/-- the classes of rows, of arrays of rows, and of arrays of those -/
def mmAr (cA : (Nat → ClassId) × Cell) (U : State) : Prop := (∃ k comp, U.vm.classes[cA.1 1000]? = some k ∧ k.kind = .array comp .int) ∧ (∃ k, U.vm.classes[cA.1 1001]? = some k ∧ k.kind = .array (cA.1 1000) (.array .int)) ∧ ∃ k, U.vm.classes[cA.1 1002]? = some k ∧ k.kind = .array (cA.1 1001) (.array (.array .int))
theorem mmAr.moved {cA : (Nat → ClassId) × Cell} {u U : State} (hvm : u.vm.Alike U.vm) (h : mmAr cA u) : mmAr cA U := by
  obtain ⟨⟨k, comp, a1, a2⟩, ⟨k1, b1, b2⟩, k2, c1, c2⟩ := h
  obtain ⟨k', hk', he⟩ := hvm.2.2 _ _ a1
  obtain ⟨k1', hk1', he1⟩ := hvm.2.2 _ _ b1
  obtain ⟨k2', hk2', he2⟩ := hvm.2.2 _ _ c1
  exact ⟨⟨k', comp, hk', by rw [he]; exact a2⟩, ⟨k1', hk1', by rw [he1]; exact b2⟩, k2', hk2', by rw [he2]; exact c2⟩
def mmK (D : va_G) (cA : (Nat → ClassId) × Cell) (U : State) : Prop := (∀ (c : Nat) (q : vw_C), vwCl[c]? = some q → u_Kn U q.1 q.2.1 q.2.2 (D.1 c) (D.2 c)) ∧ (∀ (t : Nat) (ty : FieldType), (t, ty) ∈ mmTys → ArrOfT U (cA.1 t) ty ∧ va_RA U (cA.1 t) ty) ∧ (∀ w ∈ mmNest, va_Nw w U) ∧ U.isArrayOf cA.2 .int ∧ cA.2.vm ≠ .unknown ∧ mmAr cA U
theorem mmNest_tab {w : Jvm.Cond} (h : w ∈ mmNest) : mmIsNest w = true := (List.mem_filter.mp h).2
theorem mmK.warm {D : va_G} {cA : (Nat → ClassId) × Cell} {s U : State} (hW : s.WarmedH U.vm) (h : mmK D cA s) : mmK D cA U := by
  refine ⟨fun c q hq => u_Kn_moved hW.alike (h.1 c q hq), fun t ty ht => ⟨arrOfT_moved hW.alike (h.2.1 t ty ht).1, (h.2.1 t ty ht).2.moved hW.alike⟩, fun w hw => ?_, State.isArrayOf_alike hW.alike h.2.2.2.1, h.2.2.2.2.1, h.2.2.2.2.2.moved hW.alike⟩
  have h1 := h.2.2.1 w hw
  have h2 := mmNest_tab hw
  cases w <;> first | exact va_Nw.warmF hW h1 | exact va_Nw.warmM hW h1 | cases h2
theorem mmK.same {D : va_G} {cA : (Nat → ClassId) × Cell} {u U : State} (e : u.vm = U.vm) (h : mmK D cA u) : mmK D cA U := by
  have ha : u.vm.Alike U.vm := by rw [e]; exact Vm.Alike.refl _
  refine ⟨fun c q hq => u_Kn_moved ha (h.1 c q hq), fun t ty ht => ⟨arrOfT_moved ha (h.2.1 t ty ht).1, (h.2.1 t ty ht).2.moved ha⟩, fun w hw => ?_, State.isArrayOf_alike ha h.2.2.2.1, h.2.2.2.2.1, h.2.2.2.2.2.moved ha⟩
  have h2 := mmNest_tab hw
  refine va_Nw.same ?_ e (h.2.2.1 w hw)
  cases w <;> first | rfl | cases h2
def mmLayB (q : vw_C) : Bool := (u_ws q.1 q.2.1 q.2.2).all (fun w => decide (w ∈ mmGood)) && (List.range q.2.2).all (fun k => (parseFieldDescriptor (q.2.1 k).2.2.1).isSome && (List.range q.2.2).all (fun j => j == k || (q.2.1 k).2.1 != (q.2.1 j).2.1))
set_option maxRecDepth 100000 in
theorem mmLay_ok : vwCl.all mmLayB = true := by decide +kernel
theorem mmLay {ci : Nat} {q : vw_C} (h : vwCl[ci]? = some q) : (∀ w ∈ u_ws q.1 q.2.1 q.2.2, w ∈ mmGood) ∧ (∀ k, k < q.2.2 → ∃ ty, parseFieldDescriptor (q.2.1 k).2.2.1 = some ty) ∧ ∀ a, a < q.2.2 → ∀ b, b < q.2.2 → a ≠ b → (q.2.1 a).2.1 ≠ (q.2.1 b).2.1 := by
  have h1 := List.all_eq_true.mp mmLay_ok q (List.mem_of_getElem? h)
  unfold mmLayB at h1
  rw [Bool.and_eq_true, List.all_eq_true, List.all_eq_true] at h1
  refine ⟨fun w hw => of_decide_eq_true (h1.1 w hw), fun k hk => ?_, fun a ha b hb hab => ?_⟩
  · have h2 := h1.2 k (List.mem_range.mpr hk)
    rw [Bool.and_eq_true] at h2
    exact Option.isSome_iff_exists.mp h2.1
  · have h2 := h1.2 a (List.mem_range.mpr ha)
    rw [Bool.and_eq_true, List.all_eq_true] at h2
    have h3 := h2.2 b (List.mem_range.mpr hb)
    simp only [Bool.or_eq_true, beq_iff_eq, bne_iff_ne] at h3
    rcases h3 with h3 | h3
    · exact absurd h3.symm hab
    · exact h3
def mmLen : Instr → Nat
  | .bipush _ | .newarray _ | .iload _ | .istore _ | .lload _ | .lstore _ | .aload _ | .astore _ | .ldc _ => 2
  | .sipush _ | .ldc_w _ | .ldc2_w _ | .iinc _ _ | .getfield _ | .putfield _ | .new _ | .ifCond _ _ | .if_icmp _ _ | .goto _ | .invokevirtual _ | .invokestatic _ | .invokespecial _ => 3
  | .multianewarray _ _ => 4
  | _ => 1
/-- the method's own field, or a nest mate's -/
def mmOkF (M : mmM) (i ci k : Nat) (nest : Bool) : Prop := ∃ q, vwCl[ci]? = some q ∧ k < q.2.2 ∧
  (Cond.fieldLink M.1.cls i (q.2.1 k).1 (q.2.1 k).2.1 (q.2.1 k).2.2.1 ∈ mmGood ∨ nest = true ∧ ∃ host, Cond.fieldLinkNest M.1.cls i (q.2.1 k).1 (q.2.1 k).2.1 (q.2.1 k).2.2.1 host ∈ mmNest)
def mmTc : Nat → FieldType → Bool
  | 0, .int => true
  | 1, .boolean => true
  | 2, .long => true
  | 3, .object _ => true
  | 3, .array _ => true
  | _, _ => false
def mmOkP (M : mmM) (i ci k tc : Nat) : Prop := ∃ q ty, vwCl[ci]? = some q ∧ k < q.2.2 ∧ parseFieldDescriptor (q.2.1 k).2.2.1 = some ty ∧ mmTc tc ty = true ∧
  ((q.2.1 k).2.2.2 = true ∧ M.1.name = "<init>" ∧ (q.2.1 k).1 = M.1.cls ∧ Cond.fieldLink M.1.cls i (q.2.1 k).1 (q.2.1 k).2.1 (q.2.1 k).2.2.1 ∈ mmGood ∨
   (q.2.1 k).2.2.2 = false ∧ (Cond.fieldLink M.1.cls i (q.2.1 k).1 (q.2.1 k).2.1 (q.2.1 k).2.2.1 ∈ mmGood ∨ ∃ host, Cond.fieldLinkNest M.1.cls i (q.2.1 k).1 (q.2.1 k).2.1 (q.2.1 k).2.2.1 host ∈ mmNest))
def mmOkS (M : mmM) (ins : Instr) (ax : List Nat) : Prop := match ins with
  | .ldc i => ∀ b t, ax = b :: t → Cond.constant M.1.cls i (Int32.ofNat b) ∈ mmGood
  | .ldc_w i => ∀ b t, ax = b :: t → Cond.constant M.1.cls i (Int32.ofNat b) ∈ mmGood
  | .ldc2_w i => ∀ b t, ax = b :: t → Cond.constantLong M.1.cls i (Int64.ofNat b) ∈ mmGood
  | .getfield i => ∀ ci k t, ax = ci :: k :: t → mmOkF M i ci k true
  | .putfield i => ∀ ci k tc t, ax = ci :: k :: tc :: t → mmOkP M i ci k tc
  | .new i => ∀ ci t, ax = ci :: t → ∃ q, vwCl[ci]? = some q ∧ Cond.classLink M.1.cls i q.1 ∈ mmGood ∧ Cond.instantiable q.1 q.2.2 ∈ mmGood ∧ Cond.initialized q.1 ∈ mmGood
  | .newarray .int => Cond.arrayClass .int ∈ mmGood
  | .multianewarray i 2 => ∀ tg t, ax = tg :: t → (tg = 1001 → Cond.classLink M.1.cls i "[[I" ∈ mmGood) ∧ (tg = 1002 → Cond.classLink M.1.cls i "[[[I" ∈ mmGood)
  | _ => True
theorem mmTc_narrow {tc : Nat} {ty : FieldType} {v : Value} {r : Nat → Nat} (h1 : mmTc tc ty = true) (h2 : mmFit tc v = true) : narrow ty (mmv r v) = mmv r v ∧ fits ty (mmv r v) = true := by
  rcases tc with _ | _ | _ | _ | tc <;> cases ty <;> first
    | (simp [mmTc] at h1; done)
    | (cases v <;> first
        | (simp [mmFit] at h2; done)
        | exact ⟨rfl, rfl⟩
        | (simp only [mmFit, Bool.or_eq_true, decide_eq_true_eq] at h2; rcases h2 with rfl | rfl <;> (simp only [mmv]; decide)))
theorem mm_arrV {cI : ClassId} {N : Nat} {f g : Nat → Value} (h : ∀ k, k < N → f k = g k) : arrV cI N f = arrV cI N g := by
  unfold arrV
  have e : (fun j : Fin N => f j.val) = fun j => g j.val := funext fun j => h j.val j.isLt
  rw [e]
theorem mmKit_of {r : Nat → Nat} {lv : List (Option Value)} {i : Nat} {v : Value} (h : mmGet lv i = some v) : ∃ k : Nat, (mmKit r lv)[k]? = some (i, mmv r v) := List.getElem?_of_mem (mmKit_mem.mpr ⟨v, h, rfl⟩)
theorem mm_pushlen {h h0 : List mmC} (c : mmC) (hle : h0.length ≤ h.length) : (h ++ [c]).length - h0.length = (h.length - h0.length) + 1 := by simp; omega
theorem mm_pushsl {h h0 : List mmC} (c : mmC) (hsl : mmSl h0 ≤ mmSl h) : mmSl (h ++ [c]) - mmSl h0 = (mmSl h - mmSl h0) + c.2.length := by rw [mmSl_push]; omega
section MMS
variable {p : Program} {l : Launch} {e : Env} {R : Room} {s : State} {m : MethodId} {args : Array Value} {below : List Frame} {meth : Method} {c : Code} {Q : State → Prop}
variable {D : va_G} {cA : (Nat → ClassId) × Cell} {r : Nat → Nat} {M : mmM} {h0 : List mmC}
/-- what holds inside a method -/
def mmCtx (D : va_G) (cA : (Nat → ClassId) × Cell) (p : Program) (s : State) (m : MethodId) (args : Array Value) (meth : Method) (c : Code) (M : mmM) : Prop :=
  p.tables.exec = Jvm.exec ∧ c.code = M.2.1 ∧ c.maxLocals = M.2.2.1 ∧ meth.sig.returnType = M.2.2.2.1 ∧ meth.locks = false ∧ s.vm.findClass M.1.cls = some m.cls ∧ (∀ w ∈ mmGood, w.before args s = true) ∧ mmK D cA s ∧ (M.1.name = "<init>" → meth.name = "<init>")
theorem mm_getf {i ci k pc a : Nat} {v : Value} {st : List Value} {ls : Array Slot} {h : List mmC} {H : Heap} {locs : List Loc} {cells slots : Nat} {cl : mmC} (C : mmCtx D cA p s m args meth c M) (hok : mmOkF M i ci k true) (hdg : decode M.2.1 pc = .ok (.getfield i, 3)) (hW : mmW D cA r h H) (ha : h[a]? = some cl) (hci : cl.1 = ci ∧ ci < 1000) (hv : cl.2[k]? = some v)
    (kk : W p l e R s m args below meth c H locs cells slots Q (F0 m (pc + 3) ls (mmv r v :: st))) : W p l e R s m args below meth c H locs cells slots Q (F0 m pc ls (.ref (r a) :: st)) := by
  obtain ⟨hx, hb, -, -, -, hown, hts, hK, -⟩ := C
  obtain ⟨q, g1, g2, g3⟩ := hok
  obtain ⟨rfl, hlt⟩ := hci
  obtain ⟨q', f1, f2, cell, q1, q2, q3, q4⟩ := (hW.1 a cl ha).1 hlt
  cases g1.symm.trans f1
  obtain ⟨hS, hfc, kC, hkC, hkind⟩ := hK.1 _ _ g1
  obtain ⟨cf, kf, fi, f, hi, hsl⟩ := hS k g2
  have hst := (u_facts hfc hkC (u_lays hts (mmLay g1).1 g2) hi).1
  have hval : cell.slots[f.slot]? = some (mmv r v) := by
    rw [hsl, q4 k g2]
    simp [mmV, List.getD, hv]
  rcases g3 with g3 | ⟨-, host, g3⟩
  · exact W.getf hx hb hown (hts _ g3) hi hst q1 (by rw [q3]; exact fun z => by cases z) hval rfl rfl hdg kk
  · exact va_Wgetf hx hb hown (va_Nw.use rfl (hK.2.2.1 _ g3)) hi hst q1 (by rw [q3]; exact fun z => by cases z) hval rfl rfl hdg kk
theorem mmV_set {r : Nat → Nat} {fs : List Value} {k : Nat} (hk : k < fs.length) (v : Value) (j : Nat) : updV (mmV r fs) k (mmv r v) j = mmV r (fs.set k v) j := by
  unfold updV mmV
  by_cases hj : j = k
  · subst hj
    simp [List.getD, List.getElem?_set_self hk]
  · rw [if_neg hj]
    simp [List.getD, List.getElem?_set_ne (Ne.symm hj)]
theorem mm_putf {i ci k tc pc a : Nat} {v : Value} {st : List Value} {ls : Array Slot} {h : List mmC} {H : Heap} {locs : List Loc} {cells slots : Nat} {cl : mmC} (C : mmCtx D cA p s m args meth c M) (hok : mmOkP M i ci k tc) (hdg : decode M.2.1 pc = .ok (.putfield i, 3)) (hW : mmW D cA r h H) (hS0 : va_S (mmA r h0) s.heap H locs) (hb0 : ∀ j : Nat, h0.length ≤ j → r j + h0.length = s.heap.size + j) (ha : h[a]? = some cl) (hci : cl.1 = ci ∧ ci < 1000 ∧ k < cl.2.length ∧ mmFit tc v = true ∧ mmRo ≤ a)
    (kk : ∀ (H' : Heap) (locs' : List Loc), mmW D cA r (h.set a (ci, cl.2.set k v)) H' → va_S (mmA r h0) s.heap H' locs' → W p l e R s m args below meth c H' locs' cells slots Q (F0 m (pc + 3) ls st)) : W p l e R s m args below meth c H locs cells slots Q (F0 m pc ls (mmv r v :: .ref (r a) :: st)) := by
  obtain ⟨hx, hb, -, -, -, hown, hts, hK, hnm⟩ := C
  obtain ⟨q, ty, g1, g2, g3, g4, g5⟩ := hok
  obtain ⟨rfl, hlt, hkl, hft, hro⟩ := hci
  obtain ⟨q', f1, f2, cell, q1, q2, q3, q4⟩ := (hW.1 a cl ha).1 hlt
  cases g1.symm.trans f1
  obtain ⟨hS, hfc, kC, hkC, hkind⟩ := hK.1 _ _ g1
  obtain ⟨cf, kf, fi, f, hi, hsl⟩ := hS k g2
  obtain ⟨hn, hf⟩ := mmTc_narrow (r := r) g4 hft
  have hst := (u_facts hfc hkC (u_lays hts (mmLay g1).1 g2) hi).1
  have hap : ∀ x y, x < q.2.2 → y < q.2.2 → x ≠ y → (D.2 cl.1) x ≠ (D.2 cl.1) y := by
    intro x y hx hy hne
    obtain ⟨_, _, _, fa, hia, ea⟩ := hS x hx
    obtain ⟨_, _, _, fb, hib, eb⟩ := hS y hy
    rw [← ea, ← eb]
    refine u_apart (u_lays hts (mmLay g1).1 hx) (u_lays hts (mmLay g1).1 hy) hia hib ?_
    obtain ⟨tx, htx⟩ := (mmLay g1).2.1 x hx
    obtain ⟨ty', hty'⟩ := (mmLay g1).2.1 y hy
    rw [(State.fieldFound?_type hia htx).1, (State.fieldFound?_type hib hty').1]
    exact (mmLay g1).2.2 x hx y hy hne
  have hai : a < h.length := (List.getElem?_eq_some_iff.mp ha).1
  have fin : ∀ H' : Heap, H'[r a]? = some (cell.setSlot f.slot (mmv r v)) → H'.size = H.size → (∀ x : Nat, x ≠ r a → H'[x]? = H[x]?) → W p l e R s m args below meth c H' (locs ++ [⟨r a, f.slot⟩]) cells slots Q (F0 m (pc + 3) ls st) := by
    intro H' e1 e2 e3
    refine kk H' _ (hW.set hai e2 e3 ⟨fun _ => ⟨q, g1, by rw [f2]; simp, ?_⟩, fun hh => absurd hlt hh, fun hh => absurd hlt (by show ¬ cl.1 < 1000; have h9 : cl.1 = 1999 := hh; omega)⟩) (hS0.put e2 e3 (mmA.of hb0 hro))
    rw [hsl] at e1
    exact t_OB.to (V := updV (mmV r cl.2) k (mmv r v)) ⟨_, e1, q2, q3, t_set q4 hap g2 (mmv r v)⟩ (fun j _ => mmV_set hkl v j)
  have hslot : f.slot < cell.slots.size := by rw [hsl]; exact k2_hasslot (q4 k g2)
  have hlay := hts _ ((mmLay g1).1 _ (u_in_lay g2))
  unfold u_lay at hlay
  rcases g5 with ⟨k1, k2, k3, k4⟩ | ⟨k1, k2⟩
  · rw [if_pos k1] at hlay
    have hcf : m.cls = cf := by
      obtain ⟨_, _, c', _, _, _, -, -, hf', -, -, -, hown2, -⟩ := Cond.laysFinal_spec hlay
      have e1 : c' = cf := by have := hi.symm.trans hf'; simp at this; exact this.1.symm
      rw [k3] at hown2
      rw [← e1]; exact Option.some.inj (hown.symm.trans hown2)
    have h6 := u_fits hfc hkC hkind (Or.inr hlay) hi g3 hn hf
    exact W.putFinK hx hb hown (hts _ k4) hi hst hcf (hnm k2) (by rw [q2]; exact h6) q1 q3 hslot rfl rfl hdg fin
  · rw [if_neg (by rw [k1]; decide)] at hlay
    have h6 := u_store hfc hkC hkind hlay hi g3 hn hf
    rcases k2 with k2 | ⟨host, k2⟩
    · exact W.putK hx hb (f := f) ⟨hown, hts _ k2, ⟨_, _, _, hi⟩, hst⟩ (by rw [q2]; exact h6) q1 q3 hslot rfl rfl hdg fin
    · exact va_WputK hx hb (f := f) hown (va_Nw.use rfl (hK.2.2.1 _ k2)) hi hst (by rw [q2]; exact h6) q1 q3 hslot rfl rfl hdg fin
theorem mm_int {D : va_G} {cA : (Nat → ClassId) × Cell} {s : State} (hK : mmK D cA s) : ArrOfT s (cA.1 1000) .int ∧ va_RA s (cA.1 1000) .int := hK.2.1 1000 .int List.mem_cons_self
theorem mm_iald {pc a : Nat} {j x : Int32} {st : List Value} {ls : Array Slot} {h : List mmC} {H : Heap} {locs : List Loc} {cells slots : Nat} {cl : mmC} (C : mmCtx D cA p s m args meth c M) (hdg : decode M.2.1 pc = .ok (.iaload, 1)) (hW : mmW D cA r h H) (ha : h[a]? = some cl) (hci : (cl.1 = 1000 ∨ cl.1 = 1999) ∧ ¬ j < 0) (hv : cl.2[j.toNatClampNeg]? = some (.int x))
    (kk : W p l e R s m args below meth c H locs cells slots Q (F0 m (pc + 1) ls (.int x :: st))) : W p l e R s m args below meth c H locs cells slots Q (F0 m pc ls (.int j :: .ref (r a) :: st)) := by
  obtain ⟨hx, hb, -, -, -, hown, hts, hK, hnm⟩ := C
  have hlt : j.toNatClampNeg < cl.2.length := (List.getElem?_eq_some_iff.mp hv).1
  have hmv : mmV r cl.2 j.toNatClampNeg = .int x := by simp [mmV, List.getD, hv, mmv]
  rcases hci with ⟨h1 | h1, h2⟩
  · have hc := (hW.1 a cl ha).2.1 (by rw [h1]; decide) (by rw [h1]; decide)
    rw [h1] at hc
    refine W.iald hx hb hc ((mm_int hK).1 _ _) (fun z => by cases z) (fun z => ?_) (v := .int x) ?_ rfl rfl hdg kk
    · rw [arrV_size] at z
      rcases z with z | z
      · exact h2 z
      · omega
    · rw [arrV_read _ _ hlt, hmv]
  · obtain ⟨hc, hz, hs⟩ := (hW.1 a cl ha).2.2 h1
    refine W.iald hx hb hc hK.2.2.2.1 hK.2.2.2.2.1 (fun z => ?_) (v := .int x) ?_ rfl rfl hdg kk
    · rw [← hz] at z
      rcases z with z | z
      · exact h2 z
      · omega
    · rw [hs _ hlt, hmv]
theorem mm_iast {pc a : Nat} {j x : Int32} {st : List Value} {ls : Array Slot} {h : List mmC} {H : Heap} {locs : List Loc} {cells slots : Nat} {cl : mmC} (C : mmCtx D cA p s m args meth c M) (hdg : decode M.2.1 pc = .ok (.iastore, 1)) (hW : mmW D cA r h H) (hS0 : va_S (mmA r h0) s.heap H locs) (hb0 : ∀ j : Nat, h0.length ≤ j → r j + h0.length = s.heap.size + j) (ha : h[a]? = some cl) (hci : cl.1 = 1000 ∧ ¬ j < 0 ∧ j.toNatClampNeg < cl.2.length ∧ mmRo ≤ a)
    (kk : ∀ (H' : Heap) (locs' : List Loc), mmW D cA r (h.set a (1000, cl.2.set j.toNatClampNeg (.int x))) H' → va_S (mmA r h0) s.heap H' locs' → W p l e R s m args below meth c H' locs' cells slots Q (F0 m (pc + 1) ls st)) : W p l e R s m args below meth c H locs cells slots Q (F0 m pc ls (.int x :: .int j :: .ref (r a) :: st)) := by
  obtain ⟨hx, hb, -, -, -, hown, hts, hK, hnm⟩ := C
  have hc := (hW.1 a cl ha).2.1 (by rw [hci.1]; decide) (by rw [hci.1]; decide)
  rw [hci.1] at hc
  have hai : a < h.length := (List.getElem?_eq_some_iff.mp ha).1
  refine W.iast hx hb hc ((mm_int hK).1 _ _) (fun z => by cases z) (fun z => ?_) rfl rfl hdg (fun H' e1 e2 e3 => ?_)
  · rw [arrV_size] at z
    rcases z with z | z
    · exact hci.2.1 z
    · omega
  · refine kk H' _ (hW.set hai e2 e3 ⟨fun hh => absurd hh (Nat.lt_irrefl 1000), fun _ _ => ?_, fun hh => absurd hh (by show ¬ (1000 : Nat) = 1999; decide)⟩) (hS0.put e2 e3 (mmA.of hb0 hci.2.2.2))
    rw [e1, arrV_store]
    refine congrArg some ?_
    rw [List.length_set]
    exact congrArg (arrV (cA.1 1000) cl.2.length) (funext fun k => mmV_set hci.2.2.1 (.int x) k)
theorem mm_alen {pc a : Nat} {st : List Value} {ls : Array Slot} {h : List mmC} {H : Heap} {locs : List Loc} {cells slots : Nat} {cl : mmC} (C : mmCtx D cA p s m args meth c M) (hdg : decode M.2.1 pc = .ok (.arraylength, 1)) (hW : mmW D cA r h H) (ha : h[a]? = some cl) (hci : cl.1 = 1000 ∨ cl.1 = 1999)
    (kk : W p l e R s m args below meth c H locs cells slots Q (F0 m (pc + 1) ls (.int (nI cl.2.length) :: st))) : W p l e R s m args below meth c H locs cells slots Q (F0 m pc ls (.ref (r a) :: st)) := by
  obtain ⟨hx, hb, -, -, -, hown, hts, hK, hnm⟩ := C
  rcases hci with h1 | h1
  · have hc := (hW.1 a cl ha).2.1 (by rw [h1]; decide) (by rw [h1]; decide)
    rw [h1] at hc
    exact W.alen hx hb hc ((mm_int hK).1 _ _) (n := nI cl.2.length) (by rw [arrV_size]; rfl) rfl rfl hdg kk
  · obtain ⟨hc, hz, hs⟩ := (hW.1 a cl ha).2.2 h1
    exact W.alen hx hb hc hK.2.2.2.1 (n := nI cl.2.length) (by rw [hz]; rfl) rfl rfl hdg kk
theorem mm_newa {pc : Nat} {n : Int32} {st : List Value} {ls : Array Slot} {h : List mmC} {H : Heap} {locs : List Loc} {cells slots : Nat} (C : mmCtx D cA p s m args meth c M) (hok : Cond.arrayClass .int ∈ mmGood) (hdg : decode M.2.1 pc = .ok (.newarray .int, 2)) (hW : mmW D cA r h H) (hS0 : va_S (mmA r h0) s.heap H locs) (hn : ¬ n < 0 ∧ n.toNatClampNeg ≤ 100000) (hcells : cells + 1 ≤ R.cells) (hslots : slots + n.toNatClampNeg ≤ R.slots)
    (kk : ∀ (H' : Heap), mmW D cA r (h ++ [(1000, List.replicate n.toNatClampNeg (.int 0))]) H' → va_S (mmA r h0) s.heap H' locs → W p l e R s m args below meth c H' locs (cells + 1) (slots + n.toNatClampNeg) Q (F0 m (pc + 2) ls (.ref (r h.length) :: st))) : W p l e R s m args below meth c H locs cells slots Q (F0 m pc ls (.int n :: st)) := by
  obtain ⟨hx, hb, -, -, -, hown, hts, hK, hnm⟩ := C
  refine W.newa (atype := .int) hx hb (hts _ hok) rfl hdg rfl hn.1 (Nat.le_trans (Nat.mul_le_mul_right _ hn.2) (by decide)) hcells hslots (fun cI kI comp h1 h2 h3 => ?_)
  have hcc : cI = cA.1 1000 := Option.some.inj (h1.symm.trans (mm_int hK).2)
  have z : (H.push ({ cls := cI, slots := Array.replicate n.toNatClampNeg (defaultValue (newarray.typeOf .int)), vm := .none } : Cell)).size = H.size + 1 := by simp
  have oq : ∀ q : Nat, q < H.size → (H.push ({ cls := cI, slots := Array.replicate n.toNatClampNeg (defaultValue (newarray.typeOf .int)), vm := .none } : Cell))[q]? = H[q]? := fun q hq => by
    rw [Array.getElem?_push, if_neg (Nat.ne_of_lt hq)]
  have hk := kk _ (hW.push (c := (1000, List.replicate n.toNatClampNeg (.int 0))) z oq ⟨fun hh => absurd hh (Nat.lt_irrefl 1000), fun _ _ => ?_, fun hh => absurd hh (by show ¬ (1000 : Nat) = 1999; decide)⟩) ⟨by rw [z]; exact Nat.le_succ_of_le hS0.1, fun q h1 h2 => by rw [oq q (Nat.lt_of_lt_of_le h1 hS0.1)]; exact hS0.2.1 q h1 h2, hS0.2.2⟩
  · rw [hW.base] at hk
    exact hk
  · rw [hcc, arrV_new, Array.getElem?_push, if_pos rfl]
    refine congrArg some ?_
    show arrV (cA.1 1000) _ _ = arrV (cA.1 1000) (List.replicate n.toNatClampNeg (Value.int 0)).length _
    rw [List.length_replicate]
    refine mm_arrV fun k hk2 => ?_
    unfold mmV
    simp [List.getD, List.getElem?_replicate, hk2, mmv, defaultValue, newarray.typeOf]
theorem mm_aald {pc a x : Nat} {j : Int32} {st : List Value} {ls : Array Slot} {h : List mmC} {H : Heap} {locs : List Loc} {cells slots : Nat} {cl : mmC} (C : mmCtx D cA p s m args meth c M) (hdg : decode M.2.1 pc = .ok (.aaload, 1)) (hW : mmW D cA r h H) (ha : h[a]? = some cl) (hci : (cl.1 = 1001 ∨ cl.1 = 1002) ∧ ¬ j < 0) (hv : cl.2[j.toNatClampNeg]? = some (.ref x))
    (kk : W p l e R s m args below meth c H locs cells slots Q (F0 m (pc + 1) ls (.ref (r x) :: st))) : W p l e R s m args below meth c H locs cells slots Q (F0 m pc ls (.int j :: .ref (r a) :: st)) := by
  obtain ⟨hx, hb, -, -, -, hown, hts, hK, hnm⟩ := C
  have hlt : j.toNatClampNeg < cl.2.length := (List.getElem?_eq_some_iff.mp hv).1
  have hmv : mmV r cl.2 j.toNatClampNeg = .ref (r x) := by simp [mmV, List.getD, hv, mmv]
  have hin : ∀ cI : ClassId, ¬ (j < 0 ∨ (arrV cI cl.2.length (mmV r cl.2)).slots.size ≤ j.toNatClampNeg) := fun cI z => by
    rw [arrV_size] at z
    rcases z with z | z
    · exact hci.2 z
    · omega
  rcases hci with ⟨h1 | h1, h2⟩
  · have hc := (hW.1 a cl ha).2.1 (by rw [h1]; decide) (by rw [h1]; decide)
    rw [h1] at hc
    exact W.aald (v := .ref (r x)) (ty := .array .int) hx hb hc ((hK.2.1 1001 (.array .int) (by simp [mmTys])).1 _ _) rfl (fun z => by cases z) (hin _) (by rw [arrV_read _ _ hlt, hmv]) rfl rfl hdg kk
  · have hc := (hW.1 a cl ha).2.1 (by rw [h1]; decide) (by rw [h1]; decide)
    rw [h1] at hc
    exact W.aald (v := .ref (r x)) (ty := .array (.array .int)) hx hb hc ((hK.2.1 1002 (.array (.array .int)) (by simp [mmTys])).1 _ _) rfl (fun z => by cases z) (hin _) (by rw [arrV_read _ _ hlt, hmv]) rfl rfl hdg kk
theorem mm_asgn (vm : Vm) (k : ClassId) : vm.assignable k k = true := by
  unfold Vm.assignable
  rw [Vm.assignableAux]
  simp
theorem mm_aast {pc a b : Nat} {j : Int32} {st : List Value} {ls : Array Slot} {h : List mmC} {H : Heap} {locs : List Loc} {cells slots : Nat} {cl cd : mmC} (C : mmCtx D cA p s m args meth c M) (hdg : decode M.2.1 pc = .ok (.aastore, 1)) (hW : mmW D cA r h H) (hS0 : va_S (mmA r h0) s.heap H locs) (hb0 : ∀ j : Nat, h0.length ≤ j → r j + h0.length = s.heap.size + j) (ha : h[a]? = some cl) (hd : h[b]? = some cd) (hci : (cl.1 = 1001 ∧ cd.1 = 1000 ∨ cl.1 = 1002 ∧ cd.1 = 1001) ∧ ¬ j < 0 ∧ j.toNatClampNeg < cl.2.length ∧ mmRo ≤ a)
    (kk : ∀ (H' : Heap) (locs' : List Loc), mmW D cA r (h.set a (cl.1, cl.2.set j.toNatClampNeg (.ref b))) H' → va_S (mmA r h0) s.heap H' locs' → W p l e R s m args below meth c H' locs' cells slots Q (F0 m (pc + 1) ls st)) : W p l e R s m args below meth c H locs cells slots Q (F0 m pc ls (.ref (r b) :: .int j :: .ref (r a) :: st)) := by
  obtain ⟨hx, hb, -, -, -, hown, hts, hK, hnm⟩ := C
  obtain ⟨htag, hj0, hjl, hro⟩ := hci
  obtain ⟨⟨k0, comp0, k01, k02⟩, ⟨k1, k11, k12⟩, k2, k21, k22⟩ := hK.2.2.2.2.2
  have hai : a < h.length := (List.getElem?_eq_some_iff.mp ha).1
  have hc1 : ¬ cl.1 < 1000 ∧ cl.1 ≠ 1999 := by omega
  have hd1 : ¬ cd.1 < 1000 ∧ cd.1 ≠ 1999 := by omega
  have hc := (hW.1 a cl ha).2.1 hc1.1 hc1.2
  have hv := (hW.1 b cd hd).2.1 hd1.1 hd1.2
  have fin : ∀ H' : Heap, H'[r a]? = some ((arrV (cA.1 cl.1) cl.2.length (mmV r cl.2)).setSlot j.toNatClampNeg (.ref (r b))) → H'.size = H.size → (∀ q, q ≠ r a → H'[q]? = H[q]?) → W p l e R s m args below meth c H' (locs ++ [⟨r a, j.toNatClampNeg⟩]) cells slots Q (F0 m (pc + 1) ls st) := fun H' e1 e2 e3 => by
    refine kk H' _ (hW.set hai e2 e3 ⟨fun hh => absurd hh hc1.1, fun _ _ => ?_, fun hh => absurd hh hc1.2⟩) (hS0.put e2 e3 (mmA.of hb0 hro))
    rw [e1, arrV_store]
    refine congrArg some ?_
    show arrV (cA.1 cl.1) cl.2.length _ = arrV (cA.1 cl.1) (cl.2.set j.toNatClampNeg (.ref b)).length _
    rw [List.length_set]
    exact congrArg (arrV (cA.1 cl.1) cl.2.length) (funext fun k => mmV_set hjl (.ref b) k)
  rcases htag with ⟨t1, t2⟩ | ⟨t1, t2⟩
  · rw [t1] at hc fin
    rw [t2] at hv
    exact W.aast hx hb hc (fun q h => by cases h) (fun h => by cases h) k11 k12 rfl k01 ⟨hj0, by rw [arrV_size]; exact hjl⟩ hv (fun q h => by cases h) k01 (mm_asgn _ _) rfl rfl hdg fin
  · rw [t1] at hc fin
    rw [t2] at hv
    exact W.aast hx hb hc (fun q h => by cases h) (fun h => by cases h) k21 k22 rfl k11 ⟨hj0, by rw [arrV_size]; exact hjl⟩ hv (fun q h => by cases h) k11 (mm_asgn _ _) rfl rfl hdg fin
theorem mmMulti_len (tg b n k : Nat) : (mmMulti tg b n k).length = n + 1 := by simp [mmMulti]
theorem mmMulti_sl (tg b n k : Nat) : mmSl (mmMulti tg b n k) = n + n * k := by
  unfold mmMulti mmSl
  by_cases h : tg = 1001
  · simp [h]
  · simp [h]
theorem mmSl_app (h t : List mmC) : mmSl (h ++ t) = mmSl h + mmSl t := by simp [mmSl]
theorem mm_mullen {h h0 : List mmC} (tg b n k : Nat) (hle : h0.length ≤ h.length) : (h ++ mmMulti tg b n k).length - h0.length = (h.length - h0.length) + (n + 1) := by
  rw [List.length_append, mmMulti_len]
  omega
theorem mm_mulsl {h h0 : List mmC} (tg b n k : Nat) (hsl : mmSl h0 ≤ mmSl h) : mmSl (h ++ mmMulti tg b n k) - mmSl h0 = (mmSl h - mmSl h0) + (n + n * k) := by
  rw [mmSl_app, mmMulti_sl]
  omega
theorem mm_multi_at {H H' : Heap} {h : List mmC} {tg n k : Nat} (hW : mmW D cA r h H) (htg : tg = 1001 ∨ tg = 1002) (e0 : H'[H.size]? = some (arrV (cA.1 tg) n fun i => .ref (H.size + 1 + i))) (ei : ∀ i, i < n → H'[H.size + 1 + i]? = some (arrV (cA.1 (if tg = 1001 then 1000 else 1001)) k fun _ => if tg = 1001 then .int 0 else .null)) (i : Nat) (c : mmC) (hi : (mmMulti tg h.length n k)[i]? = some c) : mmAt D cA r H' (H.size + i) c := by
  have t1 : ¬ tg < 1000 := by rcases htg with h1 | h1 <;> rw [h1] <;> decide
  have t2 : tg ≠ 1999 := by rcases htg with h1 | h1 <;> rw [h1] <;> decide
  unfold mmMulti at hi
  cases i with
  | zero =>
    rw [List.getElem?_cons_zero] at hi
    cases hi
    refine ⟨fun hh => absurd hh t1, fun _ _ => ?_, fun hh => absurd hh t2⟩
    show H'[H.size]? = _
    rw [e0]
    refine congrArg some ?_
    show arrV (cA.1 tg) n _ = arrV (cA.1 tg) (List.map (fun i => Value.ref (h.length + 1 + i)) (List.range n)).length _
    rw [List.length_map, List.length_range]
    refine mm_arrV fun j hj => ?_
    have hr := hW.2.2 (h.length + 1 + j) (by omega)
    have e1 : (List.map (fun i => Value.ref (h.length + 1 + i)) (List.range n)).getD j .null = .ref (h.length + 1 + j) := by
      rw [List.getD_eq_getElem?_getD, List.getElem?_map, List.getElem?_range hj]
      rfl
    unfold mmV
    rw [e1]
    show Value.ref (H.size + 1 + j) = Value.ref (r (h.length + 1 + j))
    rw [show r (h.length + 1 + j) = H.size + 1 + j by omega]
  | succ i =>
    rw [List.getElem?_cons_succ, List.getElem?_replicate] at hi
    split at hi
    · rename_i hn
      cases hi
      rw [show H.size + (i + 1) = H.size + 1 + i by omega]
      have e := ei i hn
      rcases htg with h1 | h1
      · subst h1
        rw [if_pos rfl] at e ⊢
        refine ⟨fun hh => absurd hh (Nat.lt_irrefl 1000), fun _ _ => ?_, fun hh => absurd hh (by show ¬ (1000 : Nat) = 1999; decide)⟩
        rw [e]
        refine congrArg some ?_
        show arrV (cA.1 1000) k _ = arrV (cA.1 1000) (List.replicate k (Value.int 0)).length _
        rw [List.length_replicate]
        refine mm_arrV fun j hj => ?_
        unfold mmV
        simp [List.getD, List.getElem?_replicate, hj, mmv]
      · subst h1
        rw [if_neg (by decide)] at e ⊢
        refine ⟨fun hh => absurd hh (by show ¬ (1001 : Nat) < 1000; decide), fun _ _ => ?_, fun hh => absurd hh (by show ¬ (1001 : Nat) = 1999; decide)⟩
        rw [e]
        refine congrArg some ?_
        show arrV (cA.1 1001) k _ = arrV (cA.1 1001) (List.replicate k Value.null).length _
        rw [List.length_replicate]
        refine mm_arrV fun j hj => ?_
        unfold mmV
        simp [List.getD, List.getElem?_replicate, hj, mmv]
    · cases hi
theorem mm_multi {i pc tg : Nat} {n k : Int32} {st : List Value} {ls : Array Slot} {h : List mmC} {H : Heap} {locs : List Loc} {cells slots : Nat} (C : mmCtx D cA p s m args meth c M) (hok : (tg = 1001 → Cond.classLink M.1.cls i "[[I" ∈ mmGood) ∧ (tg = 1002 → Cond.classLink M.1.cls i "[[[I" ∈ mmGood)) (hdg : decode M.2.1 pc = .ok (.multianewarray i 2, 4)) (hW : mmW D cA r h H) (hS0 : va_S (mmA r h0) s.heap H locs) (hle : r h0.length ≤ r h.length) (hn : (tg = 1001 ∨ tg = 1002) ∧ ¬ n < 0 ∧ ¬ k < 0 ∧ n.toNatClampNeg ≤ 100 ∧ k.toNatClampNeg ≤ 100) (hcells : cells + (n.toNatClampNeg + 1) ≤ R.cells) (hslots : slots + (n.toNatClampNeg + n.toNatClampNeg * k.toNatClampNeg) ≤ R.slots)
    (kk : ∀ (H' : Heap) (locs' : List Loc), mmW D cA r (h ++ mmMulti tg h.length n.toNatClampNeg k.toNatClampNeg) H' → va_S (mmA r h0) s.heap H' locs' → W p l e R s m args below meth c H' locs' (cells + (n.toNatClampNeg + 1)) (slots + (n.toNatClampNeg + n.toNatClampNeg * k.toNatClampNeg)) Q (F0 m (pc + 4) ls (.ref (r h.length) :: st))) : W p l e R s m args below meth c H locs cells slots Q (F0 m pc ls (.int k :: .int n :: st)) := by
  obtain ⟨hx, hb, -, -, -, hown, hts, hK, hnm⟩ := C
  obtain ⟨htg, hn0, hk0, hn1, hk1⟩ := hn
  obtain ⟨⟨k0, comp0, k01, k02⟩, ⟨k1, k11, k12⟩, k2, k21, k22⟩ := hK.2.2.2.2.2
  have hbase := hW.base
  have fin : ∀ (H' : Heap), H'.size = H.size + (n.toNatClampNeg + 1) → (∀ q : Nat, q < H.size → H'[q]? = H[q]?) → H'[H.size]? = some (arrV (cA.1 tg) n.toNatClampNeg fun i => .ref (H.size + 1 + i)) → (∀ i, i < n.toNatClampNeg → H'[H.size + 1 + i]? = some (arrV (cA.1 (if tg = 1001 then 1000 else 1001)) k.toNatClampNeg fun _ => if tg = 1001 then .int 0 else .null)) →
      W p l e R s m args below meth c H' (locs ++ (List.range n.toNatClampNeg).map fun i => ⟨H.size, i⟩) (cells + (n.toNatClampNeg + 1)) (slots + (n.toNatClampNeg + n.toNatClampNeg * k.toNatClampNeg)) Q (F0 m (pc + 4) ls (.ref H.size :: st)) := fun H' z oq e0 ei => by
    rw [← hbase]
    rw [hbase]
    have hk := kk H' (locs ++ (List.range n.toNatClampNeg).map fun i => ⟨H.size, i⟩) (hW.app (by rw [mmMulti_len]; exact z) oq (fun i c hi => mm_multi_at hW htg e0 ei i c hi)) ⟨by rw [z]; exact Nat.le_trans hS0.1 (Nat.le_add_right _ _), fun q h1 h2 => by rw [oq q (Nat.lt_of_lt_of_le h1 hS0.1)]; exact hS0.2.1 q h1 h2, fun q hq => ?_⟩
    · rw [hbase] at hk
      exact hk
    · rcases List.mem_append.mp hq with h1 | h1
      · exact hS0.2.2 q h1
      · obtain ⟨i, -, rfl⟩ := List.mem_map.mp h1
        refine Or.inr ?_
        show r h0.length ≤ H.size
        rw [← hbase]
        exact hle
  rcases htg with h1 | h1
  · subst h1
    refine W.mq hx hb hown (hts _ (hok.1 rfl)) (ca := cA.1 1001) (cb := cA.1 1000) ?_ k11 k12 rfl k01 k02 rfl rfl rfl hdg rfl hn0 hk0 hn1 hk1 (by decide) hcells hslots (fun H' z oq e0 ei => fin H' z oq e0 ?_)
    · exact (hK.2.1 1001 (.array .int) (by simp [mmTys])).2
    · intro i hi
      exact ei i hi
  · subst h1
    refine W.mq hx hb hown (hts _ (hok.2 rfl)) (ca := cA.1 1002) (cb := cA.1 1001) ?_ k21 k22 rfl k11 k12 rfl rfl rfl hdg rfl hn0 hk0 hn1 hk1 (by decide) hcells hslots (fun H' z oq e0 ei => fin H' z oq e0 ?_)
    · exact (hK.2.1 1002 (.array (.array .int)) (by simp [mmTys])).2
    · intro i hi
      exact ei i hi
theorem mmv_def (r : Nat → Nat) (ty : FieldType) : mmv r (defaultValue ty) = defaultValue ty := by cases ty <;> rfl
theorem mm_new {i ci pc : Nat} {fs : List Value} {st : List Value} {ls : Array Slot} {h : List mmC} {H : Heap} {locs : List Loc} {cells slots : Nat} (C : mmCtx D cA p s m args meth c M) (hok : ∃ q, vwCl[ci]? = some q ∧ Cond.classLink M.1.cls i q.1 ∈ mmGood ∧ Cond.instantiable q.1 q.2.2 ∈ mmGood ∧ Cond.initialized q.1 ∈ mmGood) (hdg : decode M.2.1 pc = .ok (.new i, 3)) (hW : mmW D cA r h H) (hS0 : va_S (mmA r h0) s.heap H locs) (hfs : mmDefs[ci]? = some fs) (hci : ci < 1000) (hcells : cells + 1 ≤ R.cells) (hslots : slots + fs.length ≤ R.slots)
    (kk : ∀ (H' : Heap), mmW D cA r (h ++ [(ci, fs)]) H' → va_S (mmA r h0) s.heap H' locs → W p l e R s m args below meth c H' locs (cells + 1) (slots + fs.length) Q (F0 m (pc + 3) ls (.ref (r h.length) :: st))) : W p l e R s m args below meth c H locs cells slots Q (F0 m pc ls st) := by
  obtain ⟨hx, hb, -, -, -, hown, hts, hK, hnm⟩ := C
  obtain ⟨q, g1, g2, g3, g4⟩ := hok
  have hfe : fs = (List.range q.2.2).map fun k => match parseFieldDescriptor (q.2.1 k).2.2.1 with
      | some ty => defaultValue ty
      | none => .null := by
    unfold mmDefs at hfs
    rw [List.getElem?_map, g1] at hfs
    exact (Option.some.inj hfs).symm
  have hlen : fs.length = q.2.2 := by rw [hfe]; simp
  have hKn := hK.1 _ _ g1
  rw [hlen] at kk hslots
  refine W.newcK hx hb hown (hts _ g2) (hts _ g3) (hts _ g4) rfl hdg hcells hslots hKn.2.1 rfl (fun H' kC hkC e1 z oq => ?_)
  have ho := u_born (o := H.size) (H := H') (fun k => (parseFieldDescriptor (q.2.1 k).2.2.1).getD .int) hts (mmLay g1).1 hKn hkC e1 (fun k hk => by
    obtain ⟨ty, hty⟩ := (mmLay g1).2.1 k hk
    rw [hty]; rfl)
  have hk := kk H' (hW.push (c := (ci, fs)) z oq ⟨fun _ => ⟨q, g1, hlen.symm, ?_⟩, fun hh => absurd hci hh, fun hh => absurd hci (by have h9 : ci = 1999 := hh; omega)⟩) ⟨by rw [z]; exact Nat.le_succ_of_le hS0.1, fun x h1 h2 => by rw [oq x (Nat.lt_of_lt_of_le h1 hS0.1)]; exact hS0.2.1 x h1 h2, hS0.2.2⟩
  · rw [hW.base] at hk
    exact hk
  · refine ho.to fun k hk => ?_
    obtain ⟨ty, hty⟩ := (mmLay g1).2.1 k hk
    have hfk : fs.getD k .null = defaultValue ty := by
      rw [hfe]
      simp [List.getD, hk, hty]
    unfold mmV
    rw [hfk, mmv_def]
    simp [hty]
/-- a simple instruction -/
theorem mmS_sound {ins : Instr} {ax : List Nat} {pc pc' : Nat} {lv lv' : List (Option Value)} {st st' : List Value} {h h' : List mmC} {ls : Array Slot} {H : Heap} {locs : List Loc} (C : mmCtx D cA p s m args meth c M) (hok : mmOkS M ins ax) (hdg : decode M.2.1 pc = .ok (ins, mmLen ins)) (hs : mmS ins ax pc lv st h = some (pc', lv', st', h')) (hL : mmLs r ls lv) (hW : mmW D cA r h H) (hS : va_S (mmA r h0) s.heap H locs) (hb0 : ∀ j : Nat, h0.length ≤ j → r j + h0.length = s.heap.size + j) (hle : h0.length ≤ h.length) (hsl : mmSl h0 ≤ mmSl h) (hcells : h'.length - h0.length ≤ R.cells) (hslots : mmSl h' - mmSl h0 ≤ R.slots)
    (kk : ∀ (ls' : Array Slot) (H' : Heap) (locs' : List Loc), mmLs r ls' lv' → mmW D cA r h' H' → va_S (mmA r h0) s.heap H' locs' → h.length ≤ h'.length → mmSl h ≤ mmSl h' → W p l e R s m args below meth c H' locs' (h'.length - h0.length) (mmSl h' - mmSl h0) Q (F0 m pc' ls' (st'.map (mmv r)))) :
    W p l e R s m args below meth c H locs (h.length - h0.length) (mmSl h - mmSl h0) Q (F0 m pc ls (st.map (mmv r))) := by
  have hx := C.1
  have hb := C.2.1
  have hown := C.2.2.2.2.2.1
  have hts := C.2.2.2.2.2.2.1
  unfold mmS at hs
  split at hs
  · cases hs
    exact lv_iconst hx hb hdg rfl (kk ls H locs hL hW hS (Nat.le_refl _) (Nat.le_refl _))
  · cases hs
    exact lv_bipush hx hb hdg rfl (kk ls H locs hL hW hS (Nat.le_refl _) (Nat.le_refl _))
  · cases hs
    exact lv_sipush hx hb hdg rfl (kk ls H locs hL hW hS (Nat.le_refl _) (Nat.le_refl _))
  · split at hs
    · cases hs
      exact lv_ldc hx hb hown (hts _ (hok _ _ rfl)) hdg (kk ls H locs hL hW hS (Nat.le_refl _) (Nat.le_refl _))
    · cases hs
  · split at hs
    · cases hs
      exact lv_ldcw hx hb hown (hts _ (hok _ _ rfl)) hdg (kk ls H locs hL hW hS (Nat.le_refl _) (Nat.le_refl _))
    · cases hs
  · split at hs
    · cases hs
      exact lv_ldc2 hx hb hown (hts _ (hok _ _ rfl)) hdg (kk ls H locs hL hW hS (Nat.le_refl _) (Nat.le_refl _))
    · cases hs
  · split at hs
    · rename_i hv
      cases hs
      exact lv_iload_n hx hb hdg rfl (hL.at hv) (kk ls H locs hL hW hS (Nat.le_refl _) (Nat.le_refl _))
    · cases hs
  · split at hs
    · rename_i hv
      cases hs
      exact lv_iload hx hb hdg (hL.at hv) (kk ls H locs hL hW hS (Nat.le_refl _) (Nat.le_refl _))
    · cases hs
  · split at hs
    · rename_i hv
      cases hs
      exact lv_lload_n hx hb hdg rfl (hL.at hv) (kk ls H locs hL hW hS (Nat.le_refl _) (Nat.le_refl _))
    · cases hs
  · split at hs
    · rename_i hv
      cases hs
      exact lv_lload hx hb hdg (hL.at hv) (kk ls H locs hL hW hS (Nat.le_refl _) (Nat.le_refl _))
    · cases hs
  · split at hs
    · rename_i hv
      cases hs
      exact lv_aload_n hx hb hdg rfl (hL.at hv) (kk ls H locs hL hW hS (Nat.le_refl _) (Nat.le_refl _))
    · cases hs
  · split at hs
    · rename_i hv
      cases hs
      exact lv_aload hx hb hdg (hL.at hv) (kk ls H locs hL hW hS (Nat.le_refl _) (Nat.le_refl _))
    · cases hs
  · split at hs
    · obtain ⟨lv2, hv, he⟩ := Option.map_eq_some_iff.mp hs
      cases he
      exact lv_istore_n hx hb hdg rfl hL.kit (mmSet1_lt hv) rfl (fun ls' hl => kk ls' H locs (mmLs.set1 hv hl) hW hS (Nat.le_refl _) (Nat.le_refl _))
    · cases hs
  · split at hs
    · obtain ⟨lv2, hv, he⟩ := Option.map_eq_some_iff.mp hs
      cases he
      exact lv_istore hx hb hdg hL.kit (mmSet1_lt hv) rfl (fun ls' hl => kk ls' H locs (mmLs.set1 hv hl) hW hS (Nat.le_refl _) (Nat.le_refl _))
    · cases hs
  · split at hs
    · obtain ⟨lv2, hv, he⟩ := Option.map_eq_some_iff.mp hs
      cases he
      exact lv_lstore_n hx hb hdg rfl hL.kit (mmSet2_lt hv) rfl (fun ls' hl => kk ls' H locs (mmLs.set2 hv hl) hW hS (Nat.le_refl _) (Nat.le_refl _))
    · cases hs
  · split at hs
    · obtain ⟨lv2, hv, he⟩ := Option.map_eq_some_iff.mp hs
      cases he
      exact lv_lstore hx hb hdg hL.kit (mmSet2_lt hv) rfl (fun ls' hl => kk ls' H locs (mmLs.set2 hv hl) hW hS (Nat.le_refl _) (Nat.le_refl _))
    · cases hs
  · split at hs
    · obtain ⟨lv2, hv, he⟩ := Option.map_eq_some_iff.mp hs
      cases he
      exact lv_astore_n hx hb hdg rfl hL.kit (mmSet1_lt hv) rfl (fun ls' hl => kk ls' H locs (mmLs.set1 hv hl) hW hS (Nat.le_refl _) (Nat.le_refl _))
    · cases hs
  · split at hs
    · obtain ⟨lv2, hv, he⟩ := Option.map_eq_some_iff.mp hs
      cases he
      exact lv_astore hx hb hdg hL.kit (mmSet1_lt hv) rfl (fun ls' hl => kk ls' H locs (mmLs.set1 hv hl) hW hS (Nat.le_refl _) (Nat.le_refl _))
    · cases hs
  · split at hs
    · rename_i hg
      obtain ⟨lv2, hv, he⟩ := Option.map_eq_some_iff.mp hs
      cases he
      obtain ⟨k0, hk0⟩ := mmKit_of (r := r) hg
      exact lv_iinc hx hb hdg hL.kit hk0 rfl (mmSet1_lt hv) rfl (fun ls' hl => kk ls' H locs (mmLs.set1 hv hl) hW hS (Nat.le_refl _) (Nat.le_refl _))
    · cases hs
  · split at hs
    · cases hs
      exact lv_iadd hx hb hdg (kk ls H locs hL hW hS (Nat.le_refl _) (Nat.le_refl _))
    · cases hs
  · split at hs
    · cases hs
      exact lv_isub hx hb hdg (kk ls H locs hL hW hS (Nat.le_refl _) (Nat.le_refl _))
    · cases hs
  · split at hs
    · cases hs
      exact lv_imul hx hb hdg (kk ls H locs hL hW hS (Nat.le_refl _) (Nat.le_refl _))
    · cases hs
  · split at hs
    · cases hs
      exact lv_iand hx hb hdg (kk ls H locs hL hW hS (Nat.le_refl _) (Nat.le_refl _))
    · cases hs
  · split at hs
    · cases hs
      exact lv_ior hx hb hdg (kk ls H locs hL hW hS (Nat.le_refl _) (Nat.le_refl _))
    · cases hs
  · split at hs
    · cases hs
      exact lv_ixor hx hb hdg (kk ls H locs hL hW hS (Nat.le_refl _) (Nat.le_refl _))
    · cases hs
  · split at hs
    · cases hs
      exact lv_ishl hx hb hdg (kk ls H locs hL hW hS (Nat.le_refl _) (Nat.le_refl _))
    · cases hs
  · split at hs
    · cases hs
      exact lv_ishr hx hb hdg (kk ls H locs hL hW hS (Nat.le_refl _) (Nat.le_refl _))
    · cases hs
  · split at hs
    · cases hs
      exact lv_iushr hx hb hdg rfl (kk ls H locs hL hW hS (Nat.le_refl _) (Nat.le_refl _))
    · cases hs
  · split at hs
    · split at hs
      · cases hs
      · rename_i hne
        cases hs
        exact lv_idiv hx hb hdg hne (kk ls H locs hL hW hS (Nat.le_refl _) (Nat.le_refl _))
    · cases hs
  · split at hs
    · split at hs
      · cases hs
      · rename_i hne
        cases hs
        exact lv_irem hx hb hdg hne (kk ls H locs hL hW hS (Nat.le_refl _) (Nat.le_refl _))
    · cases hs
  · split at hs
    · cases hs
      exact lv_i2l hx hb hdg rfl (kk ls H locs hL hW hS (Nat.le_refl _) (Nat.le_refl _))
    · cases hs
  · split at hs
    · cases hs
      exact lv_ladd hx hb hdg (kk ls H locs hL hW hS (Nat.le_refl _) (Nat.le_refl _))
    · cases hs
  · split at hs
    · cases hs
      exact lv_lmul hx hb hdg (kk ls H locs hL hW hS (Nat.le_refl _) (Nat.le_refl _))
    · cases hs
  · split at hs
    · cases hs
      exact W.lcmp hx hb hdg (kk ls H locs hL hW hS (Nat.le_refl _) (Nat.le_refl _))
    · cases hs
  · split at hs
    · cases hs
      exact lv_dup hx hb hdg rfl (kk ls H locs hL hW hS (Nat.le_refl _) (Nat.le_refl _))
    · cases hs
      exact lv_dup hx hb hdg rfl (kk ls H locs hL hW hS (Nat.le_refl _) (Nat.le_refl _))
    · cases hs
  · split at hs
    · cases hs
      exact lv_dup2_11 hx hb hdg rfl rfl (kk ls H locs hL hW hS (Nat.le_refl _) (Nat.le_refl _))
    · cases hs
  · split at hs
    · cases hs
      exact lv_pop hx hb hdg rfl (kk ls H locs hL hW hS (Nat.le_refl _) (Nat.le_refl _))
    · cases hs
      exact lv_pop hx hb hdg rfl (kk ls H locs hL hW hS (Nat.le_refl _) (Nat.le_refl _))
    · cases hs
  · split at hs
    · split at hs
      · rename_i ha
        split at hs
        · rename_i hci
          obtain ⟨v, hv, he⟩ := Option.map_eq_some_iff.mp hs
          cases he
          exact mm_getf C (hok _ _ _ rfl) hdg hW ha hci hv (kk ls H locs hL hW hS (Nat.le_refl _) (Nat.le_refl _))
        · cases hs
      · cases hs
    · cases hs
  · split at hs
    · split at hs
      · rename_i ha
        split at hs
        · rename_i hci
          cases hs
          refine mm_putf C (hok _ _ _ _ rfl) hdg hW hS hb0 ha hci (fun H' locs' w1 w2 => ?_)
          have := kk ls H' locs' hL w1 w2 (by rw [List.length_set]; exact Nat.le_refl _) (by rw [mmSl_set ha (by rw [List.length_set])]; exact Nat.le_refl _)
          rw [List.length_set, mmSl_set ha (by rw [List.length_set])] at this
          exact this
        · cases hs
      · cases hs
    · cases hs
  · split at hs
    · split at hs
      · rename_i ha
        split at hs
        · rename_i hci
          split at hs
          · rename_i hv
            cases hs
            exact mm_iald C hdg hW ha hci hv (kk ls H locs hL hW hS (Nat.le_refl _) (Nat.le_refl _))
          · cases hs
        · cases hs
      · cases hs
    · cases hs
  · split at hs
    · split at hs
      · rename_i ha
        split at hs
        · rename_i hci
          cases hs
          refine mm_iast C hdg hW hS hb0 ha hci (fun H' locs' w1 w2 => ?_)
          have := kk ls H' locs' hL w1 w2 (by rw [List.length_set]; exact Nat.le_refl _) (by rw [mmSl_set ha (by rw [List.length_set])]; exact Nat.le_refl _)
          rw [List.length_set, mmSl_set ha (by rw [List.length_set])] at this
          exact this
        · cases hs
      · cases hs
    · cases hs
  · split at hs
    · split at hs
      · rename_i ha
        split at hs
        · rename_i hci
          cases hs
          exact mm_alen C hdg hW ha hci (kk ls H locs hL hW hS (Nat.le_refl _) (Nat.le_refl _))
        · cases hs
      · cases hs
    · cases hs
  · split at hs
    · split at hs
      · rename_i hn
        cases hs
        rw [mm_pushlen _ hle] at hcells
        rw [mm_pushsl _ hsl, List.length_replicate] at hslots
        refine mm_newa C hok hdg hW hS hn hcells hslots (fun H' w1 w2 => ?_)
        have := kk ls H' locs hL w1 w2 (by simp) (by rw [mmSl_push]; exact Nat.le_add_right _ _)
        rw [mm_pushlen _ hle, mm_pushsl _ hsl, List.length_replicate] at this
        exact this
      · cases hs
    · cases hs
  · split at hs
    · split at hs
      · rename_i hfs
        split at hs
        · rename_i hci
          cases hs
          rw [mm_pushlen _ hle] at hcells
          rw [mm_pushsl _ hsl] at hslots
          refine mm_new C (hok _ _ rfl) hdg hW hS hfs hci hcells hslots (fun H' w1 w2 => ?_)
          have := kk ls H' locs hL w1 w2 (by simp) (by rw [mmSl_push]; exact Nat.le_add_right _ _)
          rw [mm_pushlen _ hle, mm_pushsl _ hsl] at this
          exact this
        · cases hs
      · cases hs
    · cases hs
  · split at hs
    · split at hs
      · rename_i ha
        split at hs
        · rename_i hci
          split at hs
          · rename_i hv
            cases hs
            exact mm_aald C hdg hW ha hci hv (kk ls H locs hL hW hS (Nat.le_refl _) (Nat.le_refl _))
          · cases hs
        · cases hs
      · cases hs
    · cases hs
  · split at hs
    · split at hs
      · rename_i ha hd
        split at hs
        · rename_i hci
          cases hs
          refine mm_aast C hdg hW hS hb0 ha hd hci (fun H' locs' w1 w2 => ?_)
          have := kk ls H' locs' hL w1 w2 (by rw [List.length_set]; exact Nat.le_refl _) (by rw [mmSl_set ha (by rw [List.length_set])]; exact Nat.le_refl _)
          rw [List.length_set, mmSl_set ha (by rw [List.length_set])] at this
          exact this
        · cases hs
      · cases hs
    · cases hs
  · split at hs
    · split at hs
      · rename_i hn
        cases hs
        rw [mm_mullen _ _ _ _ hle] at hcells
        rw [mm_mulsl _ _ _ _ hsl] at hslots
        refine mm_multi C (hok _ _ rfl) hdg hW hS (by have q1 := hb0 h0.length (Nat.le_refl _); have q2 := hb0 h.length hle; omega) hn hcells hslots (fun H' locs' w1 w2 => ?_)
        have := kk ls H' locs' hL w1 w2 (by simp) (by rw [mmSl_app]; exact Nat.le_add_right _ _)
        rw [mm_mullen _ _ _ _ hle, mm_mulsl _ _ _ _ hsl] at this
        exact this
      · cases hs
    · cases hs
  · cases hs
end MMS
end
section
/-! THE MINI MACHINE, part 4: branches, calls, returns: a run of it is a contract of the machine -/
theorem mmS_mono {ins : Instr} {ax : List Nat} {pc pc' : Nat} {lv lv' : List (Option Value)} {st st' : List Value} {h h' : List mmC} (hs : mmS ins ax pc lv st h = some (pc', lv', st', h')) : h.length ≤ h'.length ∧ mmSl h ≤ mmSl h' ∧ lv'.length = lv.length := by
  have a1 : ∀ {i : Nat} {v : Value} {w : List (Option Value)}, mmSet1 lv i v = some w → w.length = lv.length := fun {i v w} hh => by
    unfold mmSet1 at hh
    split at hh
    · cases hh; rw [List.length_set]
    · cases hh
  have a2 : ∀ {i : Nat} {v : Value} {w : List (Option Value)}, mmSet2 lv i v = some w → w.length = lv.length := fun {i v w} hh => by
    unfold mmSet2 at hh
    split at hh
    · cases hh; rw [List.length_set, List.length_set]
    · cases hh
  unfold mmS at hs
  split at hs <;> (try split at hs) <;> (try split at hs) <;> (try split at hs) <;> (try split at hs) <;> first
    | (cases hs; done)
    | (cases hs; exact ⟨Nat.le_refl _, Nat.le_refl _, rfl⟩)
    | (obtain ⟨w, hv, he⟩ := Option.map_eq_some_iff.mp hs; cases he; exact ⟨Nat.le_refl _, Nat.le_refl _, a1 hv⟩)
    | (obtain ⟨w, hv, he⟩ := Option.map_eq_some_iff.mp hs; cases he; exact ⟨Nat.le_refl _, Nat.le_refl _, a2 hv⟩)
    | (obtain ⟨w, hv, he⟩ := Option.map_eq_some_iff.mp hs; cases he; exact ⟨Nat.le_refl _, Nat.le_refl _, rfl⟩)
    | (rename_i ha _; cases hs; exact ⟨by rw [List.length_set]; exact Nat.le_refl _, by rw [mmSl_set ha (by rw [List.length_set])]; exact Nat.le_refl _, rfl⟩)
    | (rename_i ha _ _; cases hs; exact ⟨by rw [List.length_set]; exact Nat.le_refl _, by rw [mmSl_set ha (by rw [List.length_set])]; exact Nat.le_refl _, rfl⟩)
    | (cases hs; exact ⟨by simp, by rw [mmSl_push]; exact Nat.le_add_right _ _, rfl⟩)
    | (cases hs; exact ⟨by simp, by rw [mmSl_app]; exact Nat.le_add_right _ _, rfl⟩)
theorem mmCpy_len {xs ys : List Value} {sp dp n : Nat} (h1 : sp + n ≤ xs.length) (h2 : dp + n ≤ ys.length) : (mmCpy xs ys sp dp n).length = ys.length := by
  unfold mmCpy
  simp only [List.length_append, List.length_take, List.length_drop]
  omega
theorem mmCopy_spec {st rr : List Value} {h h' : List mmC} (hc : mmCopy st h = some (rr, h')) : ∃ (n dp sp : Int32) (a b : Nat) (ca cb : mmC), st = .int n :: .int dp :: .ref b :: .int sp :: .ref a :: rr ∧ h[a]? = some ca ∧ h[b]? = some cb ∧ ca.1 = 1000 ∧ cb.1 = 1000 ∧ ¬ sp < 0 ∧ ¬ dp < 0 ∧ ¬ n < 0 ∧ sp.toNatClampNeg + n.toNatClampNeg ≤ ca.2.length ∧ dp.toNatClampNeg + n.toNatClampNeg ≤ cb.2.length ∧ ca.2.all mmIsI = true ∧ mmWords rr ≤ 8 ∧ mmRo ≤ b ∧ h' = h.set b (1000, mmCpy ca.2 cb.2 sp.toNatClampNeg dp.toNatClampNeg n.toNatClampNeg) := by
  unfold mmCopy at hc
  split at hc
  · split at hc
    · rename_i ca cb h1 h2
      split at hc
      · rename_i hcc
        cases hc
        exact ⟨_, _, _, _, _, ca, cb, rfl, h1, h2, hcc.1, hcc.2.1, hcc.2.2.1, hcc.2.2.2.1, hcc.2.2.2.2.1, hcc.2.2.2.2.2.1, hcc.2.2.2.2.2.2.1, hcc.2.2.2.2.2.2.2.1, hcc.2.2.2.2.2.2.2.2.1, hcc.2.2.2.2.2.2.2.2.2, rfl⟩
      · cases hc
    · cases hc
  · cases hc
theorem mmCopy_mono {st rr : List Value} {h h' : List mmC} (hc : mmCopy st h = some (rr, h')) : h'.length = h.length ∧ mmSl h' = mmSl h := by
  obtain ⟨n, dp, sp, a, b, ca, cb, -, h1, h2, -, -, -, -, -, h3, h4, -, -, -, rfl⟩ := mmCopy_spec hc
  exact ⟨List.length_set, mmSl_set h2 (mmCpy_len h3 h4)⟩
theorem mx_mono (PT : List mmM) : ∀ (n : Nat) {t : List mmI} {pc : Nat} {lv : List (Option Value)} {st : List Value} {h hE : List mmC} {v : Option Value}, mx PT n t pc lv st h = some (v, hE) → h.length ≤ hE.length ∧ mmSl h ≤ mmSl hE := by
  intro n
  induction n with
  | zero => intro t pc lv st h hE v hm; unfold mx at hm; cases hm
  | succ n ih =>
    intro t pc lv st h hE v hm
    have call : ∀ {M : mmM} {as rr : List Value} {pc' : Nat}, (match mx PT n M.2.2.2.2.2.2 0 (mmEntry M.2.2.1 as) [] h with
          | none => none
          | some (v, h') => mx PT n t pc' lv (v.toList ++ rr) h') = some (v, hE) → h.length ≤ hE.length ∧ mmSl h ≤ mmSl hE := by
      intro M as rr pc' hh
      split at hh
      · cases hh
      · rename_i h1
        have e1 := ih h1
        have e2 := ih hh
        exact ⟨Nat.le_trans e1.1 e2.1, Nat.le_trans e1.2 e2.2⟩
    unfold mx at hm
    split at hm
    · cases hm
    split at hm
    · split at hm
      · split at hm <;> exact ih hm
      · cases hm
    · split at hm
      · split at hm <;> exact ih hm
      · cases hm
    · split at hm
      · exact ih hm
      · cases hm
    · split at hm
      · split at hm
        · exact ih hm
        · split at hm
          · exact ih hm
          · cases hm
      · cases hm
    · split at hm
      · cases hm; exact ⟨Nat.le_refl _, Nat.le_refl _⟩
      · split at hm <;> cases hm
        exact ⟨Nat.le_refl _, Nat.le_refl _⟩
      · cases hm
    · split at hm <;> cases hm
      exact ⟨Nat.le_refl _, Nat.le_refl _⟩
    · split at hm <;> cases hm
      exact ⟨Nat.le_refl _, Nat.le_refl _⟩
    · split at hm
      · cases hm
      · exact call hm
    · split at hm
      · split at hm
        · rename_i hcp
          have e1 := mmCopy_mono hcp
          have e2 := ih hm
          exact ⟨by rw [← e1.1]; exact e2.1, by rw [← e1.2]; exact e2.2⟩
        · cases hm
      · split at hm
        · cases hm
        · exact call hm
    · split at hm
      · split at hm
        · split at hm
          · exact ih hm
          · cases hm
        · cases hm
      · split at hm
        · cases hm
        · exact call hm
    · split at hm
      · rename_i hs
        have e1 := mmS_mono hs
        have e2 := ih hm
        exact ⟨Nat.le_trans e1.1 e2.1, Nat.le_trans e1.2.1 e2.2⟩
      · cases hm
/-- what a call's words are -/
def mmOkC (M : mmM) (i kd k ci : Nat) (M' : mmM) : Prop :=
  (M'.1.cls ≠ "java/lang/invoke/MethodHandle" ∧ M'.1.cls ≠ "java/lang/invoke/VarHandle") ∧
  M'.2.2.2.2.1 + 1 ≤ M.2.2.2.2.1 ∧ 8 + (M'.2.2.1 + 11) + M'.2.2.2.2.2.1 ≤ M.2.2.2.2.2.1 ∧
  Cond.code M'.1 M'.2.1 M'.2.2.1 M'.2.2.2.1 ∈ mmGood ∧ Cond.initialized M'.1.cls ∈ mmGood ∧
  ((kd = 0 ∨ kd = 1) ∧ (parseMethodDescriptor M'.1.desc).map (fun d => d.parameters.length + 1) = some k ∧ Cond.instanceMethod M'.1 ∈ mmGood ∧ Cond.selects M'.1.cls M'.1 M'.1 ∈ mmGood ∧ (∃ q, vwCl[ci]? = some q ∧ q.1 = M'.1.cls) ∨
   (kd = 2 ∨ kd = 3) ∧ (parseMethodDescriptor M'.1.desc).map (fun d => d.parameters.length) = some k ∧ Cond.static M'.1 ∈ mmGood ∨
   (kd = 4 ∨ kd = 5) ∧ (parseMethodDescriptor M'.1.desc).map (fun d => d.parameters.length + 1) = some k ∧ Cond.instanceMethod M'.1 ∈ mmGood ∧ M'.1.name = "<init>" ∧ M'.2.2.2.1 = none) ∧
  ((kd = 0 ∨ kd = 2 ∨ kd = 4) ∧ Cond.methodLink M.1.cls i M'.1 ∈ mmGood ∨ (kd = 1 ∨ kd = 3 ∨ kd = 5) ∧ ∃ host, Cond.methodLinkNest M.1.cls i M'.1 host ∈ mmNest)
def mmOkI (PT : List mmM) (M : mmM) (pc : Nat) (ins : Instr) (ax : List Nat) : Prop := match ins with
  | .ifCond _ off => ∀ tg t, ax = tg :: t → (pc : Int) + off = (tg : Int)
  | .if_icmp _ off => ∀ tg t, ax = tg :: t → (pc : Int) + off = (tg : Int)
  | .goto off => ∀ tg t, ax = tg :: t → (pc : Int) + off = (tg : Int)
  | .tableswitch dflt _ _ offs => ∀ df tgs, ax = df :: tgs → (pc : Int) + dflt = (df : Int) ∧ ∀ (j tg : Nat), tgs[j]? = some tg → ∃ off, offs[j]? = some off ∧ (pc : Int) + off = (tg : Int)
  | .ireturn => (ax = [] → M.2.2.2.1 = some .int) ∧ (ax ≠ [] → M.2.2.2.1 = some .boolean)
  | .lreturn => M.2.2.2.1 = some .long
  | .return_ => M.2.2.2.1 = none
  | .invokevirtual i => ∀ kd y k ci t, ax = kd :: y :: k :: ci :: t → (kd = 0 ∨ kd = 1) ∧ ∀ M', PT[y]? = some M' → mmOkC M i kd k ci M'
  | .invokestatic i => (∀ a b, ax = [8, a, b] → 1 ≤ M.2.2.2.2.1 ∧ 8 + (nativeFrameWords "java/lang/System" "arraycopy" 5 + 11) ≤ M.2.2.2.2.2.1 ∧ Cond.methodLink M.1.cls i arraycopyName ∈ mmGood ∧ Cond.native arraycopyName ∈ mmGood ∧ Cond.static arraycopyName ∈ mmGood ∧ Cond.initialized "java/lang/System" ∈ mmGood) ∧
      ∀ kd y k ci t, ax = kd :: y :: k :: ci :: t → (kd = 2 ∨ kd = 3) ∧ ∀ M', PT[y]? = some M' → mmOkC M i kd k ci M'
  | .invokespecial i => (∀ a b, ax = [9, a, b] → 1 ≤ M.2.2.2.2.1 ∧ 20 ≤ M.2.2.2.2.2.1 ∧ Cond.methodLink M.1.cls i objectInit ∈ mmGood ∧ Cond.instanceMethod objectInit ∈ mmGood ∧ Cond.code objectInit ⟨#[0xb1]⟩ 1 none ∈ mmGood) ∧
      ∀ kd y k ci t, ax = kd :: y :: k :: ci :: t → (kd = 4 ∨ kd = 5) ∧ ∀ M', PT[y]? = some M' → mmOkC M i kd k ci M'
  | _ => mmOkS M ins ax
def mmIsSw : Instr → Bool
  | .tableswitch _ _ _ _ => true
  | _ => false
def mmOkM (PT : List mmM) (M : mmM) : Prop := plainFor M.1 = true ∧ ∀ (pc : Nat) (ins : Instr) (len : Nat) (ax : List Nat), mmFetch M.2.2.2.2.2.2 pc = some (ins, len, ax) → decode M.2.1 pc = .ok (ins, len) ∧ (mmIsSw ins = true ∨ len = mmLen ins) ∧ mmOkI PT M pc ins ax
def mmOkT (PT : List mmM) : Prop := ∀ (y : Nat) (M : mmM), PT[y]? = some M → mmOkM PT M
def mmPc (D : va_G) (cA : (Nat → ClassId) × Cell) (r : Nat → Nat) (h : List mmC) (as : List Value) : Array Value → State → Prop := fun v U => v = (as.map (mmv r)).toArray ∧ mmW D cA r h U.heap ∧ mmK D cA U
def mmQc (D : va_G) (cA : (Nat → ClassId) × Cell) (r : Nat → Nat) (h : List mmC) (v : Option Value) (h' : List mmC) : Array Value → State → Outcome → State → Prop := fun _ st o t => o = .returned (v.map (mmv r)) ∧ mmW D cA r h' t.heap ∧ va_F (mmA r h) st t
def mmRm (M : mmM) (h h' : List mmC) : Room := { frames := M.2.2.2.2.1, cells := h'.length - h.length, slots := mmSl h' - mmSl h, locals := M.2.2.2.2.2.1 }
def mmWs (M : mmM) : List Jvm.Cond := Cond.code M.1 M.2.1 M.2.2.1 M.2.2.2.1 :: mmGood
theorem mmPc_blind (D : va_G) (cA : (Nat → ClassId) × Cell) (r : Nat → Nat) (h : List mmC) (as : List Value) : FrameBlind (mmPc D cA r h as) := fun a U g mk q => ⟨q.1, q.2.1, mmK.same (u := U) (U := U.calling g mk a) rfl q.2.2⟩
def mmRetOk (ret : Option FieldType) (v : Option Value) : Prop :=
  (∃ x : Int32, v = some (.int x) ∧ (ret = some .int ∨ ret = some .boolean ∧ (x = 0 ∨ x = 1))) ∨ (∃ x : Int64, v = some (.long x) ∧ ret = some .long) ∨ v = none ∧ ret = none
def mmRet : Option Value → Instr
  | none => .return_
  | some (.long _) => .lreturn
  | _ => .ireturn
/-- a contract out of a walk, of a method that no native row replaces -/
theorem mmOfW {l : Launch} {y : MethodName} {ws ws' : List Cond} {rm : Room} {Pc : Array Value → State → Prop} {Qc : Array Value → State → Outcome → State → Prop} {mc ms : Nat} {free : Addr → Prop} {cc : ByteArray} {maxL : Nat} {ret : Option FieldType}
    (hy : plainFor y = true) (hw : ws = Cond.code y cc maxL ret :: ws')
    (body : ∀ p e s m args below meth c s₁, BodyLoose p l y (headSpec ws rm) cc maxL ret e s m args below meth c s₁ → c.maxLocals = maxL → Pc args s →
      W p l e (headSpec ws rm).room s m args below meth c s.heap [] 0 0 (MQ below Qc args s mc ms free) (entryFrame m args maxL)) : Met l y ws rm Pc Qc mc ms free := by
  refine MetFree.of_bodySF (code := cc) (maxLocals := maxL) (ret := ret) hy ?_ ?_
  · intro args s m h hn
    obtain ⟨meth, c, h1, h2, h3, h4, h5, h6, -, -⟩ := Cond.code_spec hn (atoms_spec (ws := ws) h _ (by rw [hw]; exact List.mem_cons_self))
    exact ⟨meth, c, h1, h2, h3, h4, h5, h6⟩
  · intro p e s m args below meth c s₁ B hml hP _
    have hh0 : s₁.heap = s.heap := by rw [B.state]; rfl
    obtain ⟨t, a1, o, b1, b2, b3⟩ := body p e s m args below meth c s₁ B hml hP s₁ hh0 (Stand.of_body B)
    exact ⟨t, o, a1, b1, b2, ⟨b3.1, b3.2⟩⟩
section MMX
variable {l : Launch} {D : va_G} {cA : (Nat → ClassId) × Cell} {r : Nat → Nat} {PT : List mmM}
/-- a run of the mini machine gives the machine's, from any point of a method on -/
def mmRun (l : Launch) (D : va_G) (cA : (Nat → ClassId) × Cell) (r : Nat → Nat) (PT : List mmM) (n : Nat) : Prop :=
  ∀ {p : Program} {e : Env} {R : Room} {s : State} {m : MethodId} {args : Array Value} {below : List Frame} {meth : Method} {c : Code} {Q : State → Prop} {M : mmM} {h0 hE : List mmC} {v : Option Value},
    mmOkM PT M → mmCtx D cA p s m args meth c M → M.2.2.2.2.1 ≤ R.frames → M.2.2.2.2.2.1 ≤ R.locals → hE.length - h0.length ≤ R.cells → mmSl hE - mmSl h0 ≤ R.slots → (∀ j : Nat, h0.length ≤ j → r j + h0.length = s.heap.size + j) →
    (∀ (pc : Nat) (ls : Array Slot) (H : Heap) (locs : List Loc), decode M.2.1 pc = .ok (mmRet v, 1) → mmRetOk M.2.2.2.1 v → mmW D cA r hE H → va_S (mmA r h0) s.heap H locs → W p l e R s m args below meth c H locs (hE.length - h0.length) (mmSl hE - mmSl h0) Q (F0 m pc ls (v.toList.map (mmv r)))) →
    ∀ {pc : Nat} {lv : List (Option Value)} {st : List Value} {h : List mmC} {ls : Array Slot} {H : Heap} {locs : List Loc}, mx PT n M.2.2.2.2.2.2 pc lv st h = some (v, hE) → lv.length = M.2.2.1 → mmLs r ls lv → mmW D cA r h H → va_S (mmA r h0) s.heap H locs → h0.length ≤ h.length → mmSl h0 ≤ mmSl h →
      W p l e R s m args below meth c H locs (h.length - h0.length) (mmSl h - mmSl h0) Q (F0 m pc ls (st.map (mmv r)))
/-- a method's contract out of a run -/
theorem mmMet {n : Nat} (ih : mmRun l D cA r PT n) {M : mmM} (hM : mmOkM PT M) {as : List Value} {h hE : List mmC} {v : Option Value} (hr : mx PT n M.2.2.2.2.2.2 0 (mmEntry M.2.2.1 as) [] h = some (v, hE)) (hl : (mmSlots as).length ≤ M.2.2.1) :
    Met l M.1 (mmWs M) (mmRm M h hE) (mmPc D cA r h as) (mmQc D cA r h v hE) (hE.length - h.length) (mmSl hE - mmSl h) (mmA r h) := by
  refine mmOfW (cc := M.2.1) (maxL := M.2.2.1) (ret := M.2.2.2.1) hM.1 rfl ?_
  intro p e s m args below meth c s₁ B hml hv
  obtain ⟨rfl, hW, hK⟩ := hv
  have hts : ∀ w ∈ mmWs M, w.before (as.map (mmv r)).toArray s = true := atoms_spec (ws := mmWs M) B.pre
  have hlocks : meth.locks = false := B.notSynchronized
  have C : mmCtx D cA p s m (as.map (mmv r)).toArray meth c M := ⟨B.exec, B.bytes, hml, B.returns, hlocks, findClass_of_methodNamed B.named, fun w hw => hts w (List.mem_cons_of_mem _ hw), hK, fun hh => (name_of_methodNamed B.named B.method).1.trans hh⟩
  rw [lg_entry_eq]
  have hK0 := ih (R := (headSpec (mmWs M) (mmRm M h hE)).room) (e := e) (below := below) (Q := MQ below (mmQc D cA r h v hE) (as.map (mmv r)).toArray s (hE.length - h.length) (mmSl hE - mmSl h) (mmA r h)) (h0 := h) hM C (Nat.le_refl _) (Nat.le_refl _) (Nat.le_refl _) (Nat.le_refl _) hW.2.2 (fun pc ls H locs hdg hok hWE hS => ?_) hr (by simp [mmEntry]; omega) (mmEntry_ls r hl) hW va_S.rf (Nat.le_refl _) (Nat.le_refl _)
  · rw [Nat.sub_self, Nat.sub_self] at hK0
    exact hK0
  · have hq : ∀ t : State, t.heap = H → s.WarmedH t.vm → mmQc D cA r h v hE (as.map (mmv r)).toArray s (.returned (v.map (mmv r))) t := fun t ht _ => ⟨rfl, by rw [ht]; exact hWE, hS.F ht⟩
    rcases hok with ⟨x, rfl, h1 | ⟨h1, h2⟩⟩ | ⟨x, rfl, h1⟩ | ⟨rfl, h1⟩
    · exact W.iret (v := x) B.exec B.bytes (B.returns.trans h1) hq hS.2.2 hdg hlocks
    · refine W.zret (v := x) B.exec B.bytes (B.returns.trans h1) ?_ hq hS.2.2 hdg hlocks
      rcases h2 with rfl | rfl <;> decide
    · exact W.lret (v := x) B.exec B.bytes (B.returns.trans h1) hq hS.2.2 hdg hlocks
    · exact W.vret B.exec B.bytes (B.returns.trans h1) hq hS.2.2 hdg hlocks
end MMX
end
section
/-! THE MINI MACHINE, part 5: every run of it is the machine's -/
section MMY
variable {l : Launch} {D : va_G} {cA : (Nat → ClassId) × Cell} {r : Nat → Nat} {PT : List mmM}
variable {p : Program} {e : Env} {R : Room} {s : State} {m : MethodId} {args : Array Value} {below : List Frame} {meth : Method} {c : Code} {Q : State → Prop} {M : mmM} {h0 : List mmC}
theorem mm_after {h h1 : List mmC} {v : Option Value} {pc mc ms cells slots : Nat} {ls : Array Slot} {st0 rest : List Value} {H : Heap} {locs : List Loc} {a : Array Value} (hW : mmW D cA r h H) (hS : va_S (mmA r h0) s.heap H locs) (hb0 : ∀ j : Nat, h0.length ≤ j → r j + h0.length = s.heap.size + j)
    (hr : va_Run p l e R s m args below meth c H locs cells slots mc ms (F0 m pc ls st0) rest (mmQc D cA r h v h1 a) (mmA r h))
    (kk : ∀ (H' : Heap) (locs' : List Loc), mmW D cA r h1 H' → va_S (mmA r h0) s.heap H' locs' → W p l e R s m args below meth c H' locs' (cells + mc) (slots + ms) Q (F0 m (pc + 3) ls ((v.map (mmv r)).toList ++ rest))) : W p l e R s m args below meth c H locs cells slots Q (F0 m pc ls st0) := by
  intro T hT X
  obtain ⟨v', st₀, t, T', L, e0, X', hL, e1, e2, ⟨hv, hw, hz, hk⟩, st⟩ := hr T hT X
  cases hv
  rw [e0] at hz hk
  have hA : ∀ q, mmA r h q → mmA r h0 q := by
    intro q hq
    rcases hq with ⟨i, ho, hi, rfl⟩ | hq
    · exact mmA.of hb0 ho
    · have h2 := hb0 h0.length (Nat.le_refl _)
      rw [hW.base] at hq
      exact Or.inr (Nat.le_trans (by have := hS.1; omega) hq)
  have hS' : va_S (mmA r h0) s.heap T'.heap (locs ++ L) := ⟨Nat.le_trans hS.1 (by rw [e1]; exact hz), fun q h1 h2 => by rw [e1, hk q (Nat.lt_of_lt_of_le h1 hS.1) (fun z => h2 (hA q z))]; exact hS.2.1 q h1 h2, fun q hq => by
    rcases List.mem_append.mp hq with h | h
    · exact hS.2.2 q h
    · exact hA _ (hL q h)⟩
  obtain ⟨t2, a1, b1⟩ := kk T'.heap (locs ++ L) (by rw [e1]; exact hw) hS' T' rfl X'
  exact ⟨t2, st t2 a1, b1⟩
theorem mm_stk (r : Nat → Nat) (st : List Value) (k : Nat) : st.map (mmv r) = ((st.take k).reverse.map (mmv r)).reverse ++ (st.drop k).map (mmv r) := by
  rw [← List.map_reverse, List.reverse_reverse, ← List.map_append, List.take_append_drop]
theorem mm_wds (r : Nat → Nat) (st : List Value) : (List.map (fun v => v.category) (st.map (mmv r))).sum = mmWords st := by
  unfold mmWords
  rw [List.map_map]
  refine congrArg List.sum (List.map_congr_left fun v _ => ?_)
  exact mmv_cat r v
theorem mm_pay (C : mmCtx D cA p s m args meth c M) {M' : mmM} (hc : Cond.code M'.1 M'.2.1 M'.2.2.1 M'.2.2.2.1 ∈ mmGood) : ∀ w ∈ mmWs M', ∀ (a' : Array Value) (U : State), s.WarmedH U.vm → w.before a' U = true := by
  refine pay_in (big := mmGood) C.2.2.2.2.2.2.1 fun w hw => ?_
  have hg : w ∈ mmGood := by
    rcases List.mem_cons.mp hw with h | h
    · rw [h]; exact hc
    · exact h
  exact ⟨hg, good_of_word (List.mem_filter.mp hg).2⟩
theorem mmCall_spec {kd y k ci : Nat} {t : List Nat} {st as rr : List Value} {h : List mmC} {M' : mmM} (hc : mmCall PT (kd :: y :: k :: ci :: t) st h = some (M', as, rr)) : PT[y]? = some M' ∧ as = (st.take k).reverse ∧ rr = st.drop k ∧ (st.take k).length = k ∧ mmWords rr ≤ 8 ∧ (mmSlots as).length ≤ M'.2.2.1 ∧ (¬ (kd = 2 ∨ kd = 3) → ∃ (a : Nat) (as0 : List Value) (co : mmC), as = .ref a :: as0 ∧ h[a]? = some co ∧ co.1 = ci ∧ ci < 1000) := by
  unfold mmCall at hc
  dsimp only at hc
  split at hc
  · cases hc
  · rename_i Mx hy
    split at hc
    · rename_i hcc
      split at hc
      · rename_i hkd
        cases hc
        exact ⟨hy, rfl, rfl, hcc.1, hcc.2.1, hcc.2.2, fun z => absurd hkd z⟩
      · split at hc
        · rename_i a0 as0 has
          split at hc
          · rename_i co hco
            split at hc
            · rename_i hci
              cases hc
              exact ⟨hy, rfl, rfl, hcc.1, hcc.2.1, hcc.2.2, fun _ => ⟨a0, as0, co, has, hco, hci.1, hci.2⟩⟩
            · cases hc
          · cases hc
        · cases hc
    · cases hc
theorem mm_addsub {a b c : Nat} (h1 : a ≤ b) (h2 : b ≤ c) : b - a + (c - b) = c - a := by omega
/-- a call -/
theorem mm_call {n : Nat} (ih : mmRun l D cA r PT n) {i kd y k ci pc : Nat} {t : List Nat} {ins : Instr} {M' : mmM} {as rr st : List Value} {h h1 : List mmC} {v : Option Value} {lv : List (Option Value)} {ls : Array Slot} {H : Heap} {locs : List Loc} (hPT : mmOkT PT) (C : mmCtx D cA p s m args meth c M) (hRf : M.2.2.2.2.1 ≤ R.frames) (hRl : M.2.2.2.2.2.1 ≤ R.locals)
    (hk : ins = .invokevirtual i ∧ (kd = 0 ∨ kd = 1) ∨ ins = .invokestatic i ∧ (kd = 2 ∨ kd = 3) ∨ ins = .invokespecial i ∧ (kd = 4 ∨ kd = 5)) (hok : ∀ M', PT[y]? = some M' → mmOkC M i kd k ci M') (hdg : decode M.2.1 pc = .ok (ins, 3))
    (hc : mmCall PT (kd :: y :: k :: ci :: t) st h = some (M', as, rr)) (hr : mx PT n M'.2.2.2.2.2.2 0 (mmEntry M'.2.2.1 as) [] h = some (v, h1)) (hlen : lv.length = M.2.2.1) (hL : mmLs r ls lv) (hW : mmW D cA r h H) (hS : va_S (mmA r h0) s.heap H locs) (hb0 : ∀ j : Nat, h0.length ≤ j → r j + h0.length = s.heap.size + j) (hle : h0.length ≤ h.length) (hsl : mmSl h0 ≤ mmSl h)
    (hcells : h1.length - h0.length ≤ R.cells) (hslots : mmSl h1 - mmSl h0 ≤ R.slots)
    (kk : ∀ (H' : Heap) (locs' : List Loc), mmW D cA r h1 H' → va_S (mmA r h0) s.heap H' locs' → W p l e R s m args below meth c H' locs' (h1.length - h0.length) (mmSl h1 - mmSl h0) Q (F0 m (pc + 3) ls ((v.toList ++ rr).map (mmv r)))) :
    W p l e R s m args below meth c H locs (h.length - h0.length) (mmSl h - mmSl h0) Q (F0 m pc ls (st.map (mmv r))) := by
  have hmono := mx_mono PT n hr
  obtain ⟨hy, has, hrr, hck, hcw, hcl, hrecv⟩ := mmCall_spec hc
  have hret : ∀ (H' : Heap) (locs' : List Loc), mmW D cA r h1 H' → va_S (mmA r h0) s.heap H' locs' → W p l e R s m args below meth c H' locs' (h.length - h0.length + (h1.length - h.length)) (mmSl h - mmSl h0 + (mmSl h1 - mmSl h)) Q (F0 m (pc + 3) ls ((v.map (mmv r)).toList ++ rr.map (mmv r))) := by
    intro H' locs' w1 w2
    have e1 : h.length - h0.length + (h1.length - h.length) = h1.length - h0.length := mm_addsub hle hmono.1
    have e2 : mmSl h - mmSl h0 + (mmSl h1 - mmSl h) = mmSl h1 - mmSl h0 := mm_addsub hsl hmono.2
    have e3 : (v.map (mmv r)).toList ++ rr.map (mmv r) = (v.toList ++ rr).map (mmv r) := by cases v <;> simp
    rw [e1, e2, e3]
    exact kk H' locs' w1 w2
  have hf : (h.length - h0.length) + (h1.length - h.length) ≤ R.cells ∧ (mmSl h - mmSl h0) + (mmSl h1 - mmSl h) ≤ R.slots := ⟨by rw [mm_addsub hle hmono.1]; exact hcells, by rw [mm_addsub hsl hmono.2]; exact hslots⟩
  have hsz : ls.size = M.2.2.1 := hL.2.1.trans hlen
  have hM' := hPT y M' hy
  obtain ⟨g1, g2, g3, g4, g5, g6, g7⟩ := hok M' hy
  have hts := C.2.2.2.2.2.2.1
  have hK := C.2.2.2.2.2.2.2.1
  have S : CallFix p m c M.2.1 M.2.2.1 s args mmGood M.1.cls := ⟨C.1, C.2.1, C.2.2.1, C.2.2.2.2.2.1, hts⟩
  have hlw : ∀ g : JFrame, g.monitorRoom = 0 → 2 * g.monitorRoom + ((rr.map (mmv r)).map fun v => v.category).sum ≤ 8 := by
    intro g hg
    rw [mm_wds, hg]
    omega
  have hMet := mmMet ih hM' hr hcl
  have hst : st.map (mmv r) = (as.map (mmv r)).reverse ++ rr.map (mmv r) := by rw [has, hrr]; exact mm_stk r st k
  have hal : as.length = k := by rw [has]; simpa using hck
  have hfr : (mmRm M' h h1).frames + 1 ≤ R.frames := Nat.le_trans g2 hRf
  have hlo : 8 + (M'.2.2.1 + 11) + (mmRm M' h h1).locals ≤ R.locals := Nat.le_trans g3 hRl
  have hpay := mm_pay C g4
  have hb2 : va_S (mmA r h0) s.heap H locs := hS
  rcases hk with ⟨rfl, hkd⟩ | ⟨rfl, hkd⟩ | ⟨rfl, hkd⟩
  · -- a method of the object's class
    rcases g6 with ⟨-, gd, gi, gs, q, gq, gc⟩ | ⟨gk, -⟩ | ⟨gk, -⟩
    · obtain ⟨a, as0, co, rfl, hco, rfl, hci⟩ := hrecv (by omega)
      have hn : ∀ sig, parseMethodDescriptor M'.1.desc = some sig → as0.length = sig.parameters.length := by
        intro sig hs
        rw [hs] at gd
        simp at gd hal
        omega
      obtain ⟨q', f1, f2, cell, q1, q2, q3, q4⟩ := (hW.1 a co hco).1 hci
      have hp : PreV s H M'.1.cls (r a) (mmPc D cA r h (.ref a :: as0)) (as0.map (mmv r)) := ⟨mmPc_blind _ _ _ _ _, ⟨cell, q1, by rw [q3]; rfl, by rw [← gc, q2]; exact (hK.1 _ _ gq).2.1⟩, fun U hU hWm => ⟨rfl, by rw [hU]; exact hW, hK.warm hWm⟩⟩
      have hstk : (F0 m pc ls (st.map (mmv r))).stack = (as0.map (mmv r)).reverse ++ .ref (r a) :: rr.map (mmv r) := by
        show st.map (mmv r) = _
        rw [hst]
        simp [mmv]
      rcases g7 with ⟨-, gl⟩ | ⟨-, host, gl⟩
      · exact mm_after hW hS hb0 (va_runV (n := as0.length) S hMet ⟨⟨rfl, rfl, hfr, hlo, hpay, List.mem_cons_self, hts _ g4, hts _ g5, g1, hn, hts _ gl⟩, hts _ gi, hts _ gs⟩ hp rfl (by simp) hsz hstk (hlw _ rfl) hdg hf) hret
      · exact mm_after hW hS hb0 (va_runVN (n := as0.length) S hMet ⟨⟨⟨rfl, rfl, hfr, hlo, hpay, List.mem_cons_self⟩, hts _ g4, hts _ g5, g1, hn, va_Nw.use rfl (hK.2.2.1 _ gl)⟩, hts _ gi, hts _ gs⟩ hp rfl (by simp) hsz hstk (hlw _ rfl) hdg hf) hret
    · omega
    · omega
  · -- a static one
    rcases g6 with ⟨gk, -⟩ | ⟨-, gd, gs⟩ | ⟨gk, -⟩
    · omega
    · have hn : ∀ sig, parseMethodDescriptor M'.1.desc = some sig → as.length = sig.parameters.length := by
        intro sig hs
        rw [hs] at gd
        simp at gd
        omega
      have hp : PreS s H (mmPc D cA r h as) (as.map (mmv r)) := ⟨mmPc_blind _ _ _ _ _, fun U hU hWm => ⟨rfl, by rw [hU]; exact hW, hK.warm hWm⟩⟩
      rcases g7 with ⟨-, gl⟩ | ⟨-, host, gl⟩
      · exact mm_after hW hS hb0 (va_runS (n := as.length) S hMet ⟨⟨rfl, rfl, hfr, hlo, hpay, List.mem_cons_self, hts _ g4, hts _ g5, g1, hn, hts _ gl⟩, hts _ gs⟩ hp rfl (by simp) hsz hst (hlw _ rfl) hdg hf) hret
      · exact mm_after hW hS hb0 (va_runSN (n := as.length) S hMet ⟨⟨⟨rfl, rfl, hfr, hlo, hpay, List.mem_cons_self⟩, hts _ g4, hts _ g5, g1, hn, va_Nw.use rfl (hK.2.2.1 _ gl)⟩, hts _ gs, trivial⟩ hp rfl (by simp) hsz hst (hlw _ rfl) hdg hf) hret
    · omega
  · -- a constructor
    rcases g6 with ⟨gk, -⟩ | ⟨gk, -⟩ | ⟨-, gd, gi, gm, gr⟩
    · omega
    · omega
    · obtain ⟨a, as0, co, rfl, hco, rfl, hci⟩ := hrecv (by omega)
      have hn : ∀ sig, parseMethodDescriptor M'.1.desc = some sig → as0.length = sig.parameters.length := by
        intro sig hs
        rw [hs] at gd
        simp at gd hal
        omega
      have hp : PreS s H (mmPc D cA r h (.ref a :: as0)) (.ref (r a) :: as0.map (mmv r)) := ⟨mmPc_blind _ _ _ _ _, fun U hU hWm => ⟨rfl, by rw [hU]; exact hW, hK.warm hWm⟩⟩
      have hstk : (F0 m pc ls (st.map (mmv r))).stack = (as0.map (mmv r)).reverse ++ .ref (r a) :: rr.map (mmv r) := by
        show st.map (mmv r) = _
        rw [hst]
        simp [mmv]
      have hcd : Cond.code M'.1 M'.2.1 M'.2.2.1 none ∈ mmWs M' := by rw [← gr]; exact List.mem_cons_self
      have hcd2 : (Cond.code M'.1 M'.2.1 M'.2.2.1 none).before args s = true := by rw [← gr]; exact hts _ g4
      rcases g7 with ⟨-, gl⟩ | ⟨-, host, gl⟩
      · exact mm_after hW hS hb0 (va_runI (n := as0.length) S hMet ⟨⟨rfl, rfl, hfr, hlo, hpay, hcd, hcd2, hts _ g5, g1, hn, hts _ gl⟩, gm, hts _ gi⟩ hp rfl (by simp) hsz hstk (hlw _ rfl) hdg hf) hret
      · exact mm_after hW hS hb0 (va_runIN (n := as0.length) S hMet ⟨⟨⟨rfl, rfl, hfr, hlo, hpay, hcd⟩, hcd2, hts _ g5, g1, hn, va_Nw.use rfl (hK.2.2.1 _ gl)⟩, gm, hts _ gi⟩ hp rfl (by simp) hsz hstk (hlw _ rfl) hdg hf) hret
/-- what a copy leaves -/
theorem mmV_cpy {xs ys : List Value} {sp dp n : Nat} (h1 : sp + n ≤ xs.length) (h2 : dp + n ≤ ys.length) (k : Nat) (hk : k < ys.length) : va_cpy (mmV r xs) (mmV r ys) sp dp n k = mmV r (mmCpy xs ys sp dp n) k := by
  unfold va_cpy mmCpy mmV
  have ht : (ys.take dp).length = dp := by rw [List.length_take]; omega
  by_cases hd : k < dp
  · rw [if_neg (by omega)]
    rw [List.getD_eq_getElem?_getD, List.getD_eq_getElem?_getD, List.getElem?_append_left (by omega), List.getElem?_take, if_pos hd]
  · have hm : ((xs.drop sp).take n).length = n := by rw [List.length_take, List.length_drop]; omega
    by_cases hn : k < dp + n
    · rw [if_pos ⟨by omega, hn⟩]
      rw [List.getD_eq_getElem?_getD, List.getD_eq_getElem?_getD, List.getElem?_append_right (by omega), ht, List.getElem?_append_left (by omega), List.getElem?_take, if_pos (by omega), List.getElem?_drop]
    · rw [if_neg (by omega)]
      rw [List.getD_eq_getElem?_getD, List.getD_eq_getElem?_getD, List.getElem?_append_right (by omega), ht, List.getElem?_append_right (by omega), hm, List.getElem?_drop, show dp + n + (k - dp - n) = k by omega]
theorem mm_nn (z : Int32) (hz : ¬ z < 0) : z.toInt = (z.toNatClampNeg : Int) := by
  have hz0 : (0 : Int) ≤ z.toInt := by
    have := Int32.not_lt.mp hz
    simpa using Int32.le_iff_toInt_le.mp this
  show z.toInt = ((z.toInt.toNat : Nat) : Int)
  omega
theorem mm_copy {i pc : Nat} {st rr : List Value} {h h' : List mmC} {ls : Array Slot} {H : Heap} {locs : List Loc} {cells slots : Nat} (C : mmCtx D cA p s m args meth c M) (hml : ls.size = M.2.2.1) (z1 : 1 ≤ R.frames) (z2 : 8 + (nativeFrameWords "java/lang/System" "arraycopy" 5 + 11) ≤ R.locals) (z3 : Cond.methodLink M.1.cls i arraycopyName ∈ mmGood) (z4 : Cond.native arraycopyName ∈ mmGood) (z5 : Cond.static arraycopyName ∈ mmGood) (z6 : Cond.initialized "java/lang/System" ∈ mmGood) (hdg : decode M.2.1 pc = .ok (.invokestatic i, 3)) (hW : mmW D cA r h H) (hS : va_S (mmA r h0) s.heap H locs) (hb0 : ∀ j : Nat, h0.length ≤ j → r j + h0.length = s.heap.size + j)
    (hc : mmCopy st h = some (rr, h')) (kk : ∀ (H' : Heap) (locs' : List Loc), mmW D cA r h' H' → va_S (mmA r h0) s.heap H' locs' → W p l e R s m args below meth c H' locs' cells slots Q (F0 m (pc + 3) ls (rr.map (mmv r)))) : W p l e R s m args below meth c H locs cells slots Q (F0 m pc ls (st.map (mmv r))) := by
  obtain ⟨n, dp, sp, a, b, ca, cb, rfl, ha, hb', t1, t2, g1, g2, g3, g4, g5, g6, g7, g8, rfl⟩ := mmCopy_spec hc
  have hts := C.2.2.2.2.2.2.1
  have hK := C.2.2.2.2.2.2.2.1
  have hca := (hW.1 a ca ha).2.1 (by rw [t1]; decide) (by rw [t1]; decide)
  have hcb := (hW.1 b cb hb').2.1 (by rw [t2]; decide) (by rw [t2]; decide)
  rw [t1] at hca
  rw [t2] at hcb
  have hai := mm_int hK
  intro T hT X
  obtain ⟨-, k0, hk0, cm0, hkk0⟩ := hai.1 ca.2.length (mmV r ca.2)
  obtain ⟨-, k1, hk1, cm1, hkk1⟩ := hai.1 cb.2.length (mmV r cb.2)
  obtain ⟨vm', X', step⟩ := X.arraycopy C.1 C.2.2.2.2.2.1 (hts _ z3) (hts _ z4) (hts _ z5) (hts _ z6) (src := r a) (dst := r b) (cs := arrV (cA.1 1000) ca.2.length (mmV r ca.2)) (cd := arrV (cA.1 1000) cb.2.length (mmV r cb.2)) (srcPos := sp) (destPos := dp) (n := n) (by rw [hT]; exact hca) (by rw [hT]; exact hcb)
    (fun _ h => by cases h) (fun _ h => by cases h) (fun h => by cases h) (fun h => by cases h) hk0 hk1 hkk0 hkk1 (by simp [refKind]) g1 g2 g3
    (by rw [mm_nn sp g1, mm_nn n g3, arrV_size]; omega)
    (by rw [mm_nn dp g2, mm_nn n g3, arrV_size]; omega)
    (fun vm₁ _ i hi => by
      have e : (arrV (cA.1 1000) ca.2.length (mmV r ca.2)).slots.getD (sp.toNatClampNeg + i) .null = mmV r ca.2 (sp.toNatClampNeg + i) := by
        rw [Array.getD_eq_getD_getElem?, arrV_read _ _ (by omega)]
        rfl
      obtain ⟨x, hx⟩ : ∃ x, mmV r ca.2 (sp.toNatClampNeg + i) = .int x := by
        have hlt : sp.toNatClampNeg + i < ca.2.length := by omega
        have hm := List.all_eq_true.mp g6 _ (List.getElem_mem hlt)
        unfold mmV
        rw [List.getD_eq_getElem?_getD, List.getElem?_eq_getElem hlt]
        generalize ca.2[sp.toNatClampNeg + i] = w at hm ⊢
        cases w <;> first | exact ⟨_, rfl⟩ | cases hm
      refine ⟨?_, ?_⟩
      · rw [e, hx]
        rfl
      · rw [e, hx]
        exact trivial)
    (g := F0 m pc ls (.int n :: .int dp :: .ref (r b) :: .int sp :: .ref (r a) :: rr.map (mmv r))) rfl (by rw [C.2.2.1]; exact hml) (rest := rr.map (mmv r)) rfl (by rw [C.2.1]; exact hdg) z1 (by rw [mm_wds]; show 2 * 0 + _ + _ ≤ _; omega)
  have e1 : copied (arrV (cA.1 1000) ca.2.length (mmV r ca.2)) (arrV (cA.1 1000) cb.2.length (mmV r cb.2)) sp dp n = arrV (cA.1 1000) cb.2.length (va_cpy (mmV r ca.2) (mmV r cb.2) sp.toNatClampNeg dp.toNatClampNeg n.toNatClampNeg) := va_copied (fun z => z) (cA.1 1000) (cA.1 1000) (mmV r ca.2) (mmV r cb.2) g4
  rw [e1] at X' step
  have hl : r b < H.size := (Array.getElem?_eq_some_iff.mp hcb).1
  have hbl : b < h.length := (List.getElem?_eq_some_iff.mp hb').1
  generalize hcell : arrV (cA.1 1000) cb.2.length (va_cpy (mmV r ca.2) (mmV r cb.2) sp.toNatClampNeg dp.toNatClampNeg n.toNatClampNeg) = cell at X' step
  have hheap : ((T.setVm vm').setCell (r b) cell).heap = H.setIfInBounds (r b) cell := by rw [← hT]; rfl
  have oq : ∀ q : Nat, q ≠ r b → (H.setIfInBounds (r b) cell)[q]? = H[q]? := fun q hq => by simp [Array.getElem?_setIfInBounds, Ne.symm hq]
  have hz : (H.setIfInBounds (r b) cell).size = H.size := by simp
  have hself : (H.setIfInBounds (r b) cell)[r b]? = some cell := by simp [Array.getElem?_setIfInBounds, hl]
  have hW' : mmW D cA r (h.set b (1000, mmCpy ca.2 cb.2 sp.toNatClampNeg dp.toNatClampNeg n.toNatClampNeg)) (H.setIfInBounds (r b) cell) := by
    refine hW.set hbl hz oq ⟨fun hh => absurd hh (Nat.lt_irrefl 1000), fun _ _ => ?_, fun hh => absurd hh (by show ¬ (1000 : Nat) = 1999; decide)⟩
    rw [hself, ← hcell]
    refine congrArg some ?_
    show arrV _ _ _ = arrV (cA.1 1000) (mmCpy ca.2 cb.2 sp.toNatClampNeg dp.toNatClampNeg n.toNatClampNeg).length _
    rw [mmCpy_len g4 g5]
    exact mm_arrV fun k hk => mmV_cpy g4 g5 k hk
  obtain ⟨t, a1, b1⟩ := kk _ _ hW' ⟨by rw [hz]; exact hS.1, fun q g1 g2 => by rw [oq q (fun e => g2 (by rw [e]; exact mmA.of hb0 g8))]; exact hS.2.1 q g1 g2, fun q hq => by
      rcases List.mem_append.mp hq with h | h
      · exact hS.2.2 q h
      · obtain ⟨z, -, hz⟩ := List.mem_map.mp h
        rw [← hz]
        exact mmA.of hb0 g8⟩ _ hheap X'
  exact ⟨t, step t a1, b1⟩
end MMY
end
section
/-! THE MINI MACHINE, part 6: the theorem: any number of steps -/
section MMZ
variable {l : Launch} {D : va_G} {cA : (Nat → ClassId) × Cell} {r : Nat → Nat} {PT : List mmM}
set_option maxHeartbeats 4000000 in
theorem mx_sound (hPT : mmOkT PT) : ∀ n, mmRun l D cA r PT n := by
  intro n
  induction n with
  | zero =>
    intro p e R s m args below meth c Q M h0 hE v hM C hRf hRl hcE hsE hb0 hEnd pc lv st h ls H locs hm
    unfold mx at hm
    cases hm
  | succ n ih =>
    intro p e R s m args below meth c Q M h0 hE v hM C hRf hRl hcE hsE hb0 hEnd pc lv st h ls H locs hm hlen hL hW hS hle hsl
    have hx := C.1
    have hb := C.2.1
    have hown := C.2.2.2.2.2.1
    have hts := C.2.2.2.2.2.2.1
    unfold mx at hm
    split at hm
    · cases hm
    rename_i ins len ax hf
    obtain ⟨hdg, hsw, hok⟩ := hM.2 pc ins len ax hf
    have go : ∀ {pc' : Nat} {st' : List Value}, mx PT n M.2.2.2.2.2.2 pc' lv st' h = some (v, hE) → W p l e R s m args below meth c H locs (h.length - h0.length) (mmSl h - mmSl h0) Q (F0 m pc' ls (st'.map (mmv r))) := fun hh => ih hM C hRf hRl hcE hsE hb0 hEnd hh hlen hL hW hS hle hsl
    have call : ∀ {i kd y k ci : Nat} {t : List Nat} {ins : Instr} {M' : mmM} {as rr : List Value}, (ins = .invokevirtual i ∧ (kd = 0 ∨ kd = 1) ∨ ins = .invokestatic i ∧ (kd = 2 ∨ kd = 3) ∨ ins = .invokespecial i ∧ (kd = 4 ∨ kd = 5)) → (∀ M', PT[y]? = some M' → mmOkC M i kd k ci M') → decode M.2.1 pc = .ok (ins, 3) → mmCall PT (kd :: y :: k :: ci :: t) st h = some (M', as, rr) →
        (match mx PT n M'.2.2.2.2.2.2 0 (mmEntry M'.2.2.1 as) [] h with
          | none => none
          | some (v, h') => mx PT n M.2.2.2.2.2.2 (pc + 3) lv (v.toList ++ rr) h') = some (v, hE) → W p l e R s m args below meth c H locs (h.length - h0.length) (mmSl h - mmSl h0) Q (F0 m pc ls (st.map (mmv r))) := by
      intro i kd y k ci t ins M' as rr hk hokc hd hc hh
      split at hh
      · cases hh
      · rename_i v1 h1 hr
        have m1 := mx_mono PT n hr
        have m2 := mx_mono PT n hh
        exact mm_call ih hPT C hRf hRl hk hokc hd hc hr hlen hL hW hS hb0 hle hsl (Nat.le_trans (Nat.sub_le_sub_right m2.1 _) hcE) (Nat.le_trans (Nat.sub_le_sub_right m2.2 _) hsE) (fun H' locs' w1 w2 => ih hM C hRf hRl hcE hsE hb0 hEnd hh hlen hL w1 w2 (Nat.le_trans hle m1.1) (Nat.le_trans hsl m1.2))
    split at hm
    · -- if
      rename_i cd off
      have hd : decode M.2.1 pc = .ok (.ifCond cd off, 3) := hsw.elim (fun z => by cases z) (fun z => by rw [z] at hdg; exact hdg)
      split at hm
      · rename_i x rr tg t
        have ht := hok _ _ rfl
        cases cd with
        | eq => exact lv_if_eq hx hb hd ht (fun z => go (by rw [if_pos (by simpa [mmIf] using z)] at hm; exact hm)) (fun z => go (by rw [if_neg (by simpa [mmIf] using z)] at hm; exact hm))
        | ne => exact lv_if_ne hx hb hd ht (fun z => go (by rw [if_pos (by simpa [mmIf] using z)] at hm; exact hm)) (fun z => go (by rw [if_neg (by simpa [mmIf] using z)] at hm; exact hm))
        | lt => exact lv_if_lt hx hb hd ht (fun z => go (by rw [if_pos (by simpa [mmIf] using z)] at hm; exact hm)) (fun z => go (by rw [if_neg (by simpa [mmIf] using z)] at hm; exact hm))
        | ge => exact lv_if_ge hx hb hd ht (fun z => go (by rw [if_pos (by simpa [mmIf] using z)] at hm; exact hm)) (fun z => go (by rw [if_neg (by simpa [mmIf] using z)] at hm; exact hm))
        | gt => exact lv_if_gt hx hb hd ht (fun z => go (by rw [if_pos (by simpa [mmIf] using z)] at hm; exact hm)) (fun z => go (by rw [if_neg (by simpa [mmIf] using z)] at hm; exact hm))
        | le => exact lv_if_le hx hb hd ht (fun z => go (by rw [if_pos (by simpa [mmIf] using z)] at hm; exact hm)) (fun z => go (by rw [if_neg (by simpa [mmIf] using z)] at hm; exact hm))
      · cases hm
    · -- if_icmp
      rename_i cd off
      have hd : decode M.2.1 pc = .ok (.if_icmp cd off, 3) := hsw.elim (fun z => by cases z) (fun z => by rw [z] at hdg; exact hdg)
      split at hm
      · rename_i y x rr tg t
        have ht := hok _ _ rfl
        cases cd with
        | eq => exact lv_icmp_eq hx hb hd ht (fun z => go (by rw [if_pos (by simpa [mmIc] using z)] at hm; exact hm)) (fun z => go (by rw [if_neg (by simpa [mmIc] using z)] at hm; exact hm))
        | ne => exact lv_icmp_ne hx hb hd ht (fun z => go (by rw [if_pos (by simpa [mmIc] using z)] at hm; exact hm)) (fun z => go (by rw [if_neg (by simpa [mmIc] using z)] at hm; exact hm))
        | lt => exact lv_icmp_lt hx hb hd ht (fun z => go (by rw [if_pos (by simpa [mmIc] using z)] at hm; exact hm)) (fun z => go (by rw [if_neg (by simpa [mmIc] using z)] at hm; exact hm))
        | ge => exact lv_icmp_ge hx hb hd ht (fun z => go (by rw [if_pos (by simpa [mmIc] using z)] at hm; exact hm)) (fun z => go (by rw [if_neg (by simpa [mmIc] using z)] at hm; exact hm))
        | gt => exact lv_icmp_gt hx hb hd ht (fun z => go (by rw [if_pos (by simpa [mmIc] using z)] at hm; exact hm)) (fun z => go (by rw [if_neg (by simpa [mmIc] using z)] at hm; exact hm))
        | le => exact lv_icmp_le hx hb hd ht (fun z => go (by rw [if_pos (by simpa [mmIc] using z)] at hm; exact hm)) (fun z => go (by rw [if_neg (by simpa [mmIc] using z)] at hm; exact hm))
      · cases hm
    · -- goto
      rename_i off
      have hd : decode M.2.1 pc = .ok (.goto off, 3) := hsw.elim (fun z => by cases z) (fun z => by rw [z] at hdg; exact hdg)
      split at hm
      · exact lv_goto hx hb hd (hok _ _ rfl) (go hm)
      · cases hm
    · -- tableswitch
      rename_i dflt lo hi offs
      split at hm
      · rename_i x rr df tgs
        obtain ⟨hdf, htg⟩ := hok _ _ rfl
        split at hm
        · rename_i hout
          exact lv_tableOut hx hb hdg hout hdf (go hm)
        · rename_i hin
          split at hm
          · rename_i tg htgs
            obtain ⟨off, ho1, ho2⟩ := htg _ _ htgs
            exact lv_tableIn hx hb hdg (fun z => hin (Or.inl z)) (fun z => hin (Or.inr z)) ho1 ho2 (go hm)
          · cases hm
      · cases hm
    · -- ireturn
      have hd : decode M.2.1 pc = .ok (.ireturn, 1) := hsw.elim (fun z => by cases z) (fun z => by rw [z] at hdg; exact hdg)
      split at hm
      · rename_i x
        cases hm
        exact hEnd pc ls H locs hd (Or.inl ⟨x, rfl, Or.inl (hok.1 rfl)⟩) hW hS
      · rename_i x a
        split at hm
        · rename_i hx01
          cases hm
          exact hEnd pc ls H locs hd (Or.inl ⟨x, rfl, Or.inr ⟨hok.2 (by simp), hx01⟩⟩) hW hS
        · cases hm
      · cases hm
    · -- lreturn
      have hd : decode M.2.1 pc = .ok (.lreturn, 1) := hsw.elim (fun z => by cases z) (fun z => by rw [z] at hdg; exact hdg)
      split at hm
      · rename_i x
        cases hm
        exact hEnd pc ls H locs hd (Or.inr (Or.inl ⟨x, rfl, hok⟩)) hW hS
      · cases hm
    · -- return
      have hd : decode M.2.1 pc = .ok (.return_, 1) := hsw.elim (fun z => by cases z) (fun z => by rw [z] at hdg; exact hdg)
      split at hm
      · cases hm
        exact hEnd pc ls H locs hd (Or.inr (Or.inr ⟨rfl, hok⟩)) hW hS
      · cases hm
    · -- invokevirtual
      rename_i i
      have hd : decode M.2.1 pc = .ok (.invokevirtual i, 3) := hsw.elim (fun z => by cases z) (fun z => by rw [z] at hdg; exact hdg)
      split at hm
      · cases hm
      · rename_i M' as rr hc
        match ax, hok, hc with
        | kd :: y :: k :: ci :: t, hok, hc =>
          obtain ⟨hkd, hokc⟩ := hok _ _ _ _ _ rfl
          exact call (Or.inl ⟨rfl, hkd⟩) hokc hd hc hm
        | [], hok, hc => cases hc
        | [_], hok, hc => cases hc
        | [_, _], hok, hc => cases hc
        | [_, _, _], hok, hc => cases hc
    · -- invokestatic
      rename_i i
      have hd : decode M.2.1 pc = .ok (.invokestatic i, 3) := hsw.elim (fun z => by cases z) (fun z => by rw [z] at hdg; exact hdg)
      split at hm
      · rename_i a b
        split at hm
        · rename_i rr h' hcp
          obtain ⟨z1, z2, z3, z4, z5, z6⟩ := hok.1 _ _ rfl
          have e1 := mmCopy_mono hcp
          refine mm_copy C (hL.2.1.trans hlen) (Nat.le_trans z1 hRf) (Nat.le_trans z2 hRl) z3 z4 z5 z6 hd hW hS hb0 hcp (fun H' locs' w1 w2 => ?_)
          have := ih hM C hRf hRl hcE hsE hb0 hEnd hm hlen hL w1 w2 (by rw [e1.1]; exact hle) (by rw [e1.2]; exact hsl)
          rw [e1.1, e1.2] at this
          exact this
        · cases hm
      · split at hm
        · cases hm
        · rename_i M' as rr hc
          match ax, hok, hc with
          | kd :: y :: k :: ci :: t, hok, hc =>
            obtain ⟨hkd, hokc⟩ := hok.2 _ _ _ _ _ rfl
            exact call (Or.inr (Or.inl ⟨rfl, hkd⟩)) hokc hd hc hm
          | [], hok, hc => cases hc
          | [_], hok, hc => cases hc
          | [_, _], hok, hc => cases hc
          | [_, _, _], hok, hc => cases hc
    · -- invokespecial
      rename_i i
      have hd : decode M.2.1 pc = .ok (.invokespecial i, 3) := hsw.elim (fun z => by cases z) (fun z => by rw [z] at hdg; exact hdg)
      split at hm
      · rename_i a b
        split at hm
        · rename_i q rr
          split at hm
          · rename_i hwd
            obtain ⟨z1, z2, z3, z4, z5⟩ := hok.1 _ _ rfl
            refine W.objInit hx hb hown (hts _ z3) (hts _ z4) (hts _ z5) rfl (by rw [C.2.2.1]; exact hL.2.1.trans hlen) rfl hd (Nat.le_trans z1 hRf) ?_ (go hm)
            rw [mm_wds]
            show 2 * 0 + _ + 12 ≤ _
            omega
          · cases hm
        · cases hm
      · split at hm
        · cases hm
        · rename_i M' as rr hc
          match ax, hok, hc with
          | kd :: y :: k :: ci :: t, hok, hc =>
            obtain ⟨hkd, hokc⟩ := hok.2 _ _ _ _ _ rfl
            exact call (Or.inr (Or.inr ⟨rfl, hkd⟩)) hokc hd hc hm
          | [], hok, hc => cases hc
          | [_], hok, hc => cases hc
          | [_, _], hok, hc => cases hc
          | [_, _, _], hok, hc => cases hc
    · -- a simple one
      split at hm
      · rename_i pc' lv' st' h' hs
        have m1 := mmS_mono hs
        have m2 := mx_mono PT n hm
        have hd : decode M.2.1 pc = .ok (ins, mmLen ins) := by
          rcases hsw with h | h
          · cases ins <;> first | (cases h; done) | (unfold mmS at hs; cases hs)
          · rw [h] at hdg; exact hdg
        have hoks : mmOkS M ins ax := by
          cases ins <;> first | exact hok | trivial
        exact mmS_sound C hoks hd hs hL hW hS hb0 hle hsl (Nat.le_trans (Nat.sub_le_sub_right m2.1 _) hcE) (Nat.le_trans (Nat.sub_le_sub_right m2.2 _) hsE) (fun ls' H' locs' w1 w2 w3 w4 w5 => ih hM C hRf hRl hcE hsE hb0 hEnd hm (m1.2.2.trans hlen) w1 w2 w3 (Nat.le_trans hle w4) (Nat.le_trans hsl w5))
      · cases hm
end MMZ
end
section
/-! THE MINI MACHINE, part 7: its tables are checked by computing -/
def mmIn (p : Nat) (w : Jvm.Cond) : Bool := decide (lw_tbl[p]? = some w) && goodWord w
theorem mmIn_ok {p : Nat} {w : Jvm.Cond} (h : mmIn p w = true) : w ∈ mmGood := by
  unfold mmIn at h
  rw [Bool.and_eq_true, decide_eq_true_eq] at h
  exact List.mem_filter.mpr ⟨List.mem_of_getElem? h.1, h.2⟩
def mmInF (p : Nat) (own : String) (i : Nat) (O f d : String) : Bool := match lw_tbl[p]? with
  | some (.fieldLink a b c e g) => decide (a = own ∧ b = i ∧ c = O ∧ e = f ∧ g = d) && goodWord (.fieldLink own i O f d)
  | some (.fieldLinkNest a b c e g _) => decide (a = own ∧ b = i ∧ c = O ∧ e = f ∧ g = d)
  | _ => false
theorem mmInF_ok {p : Nat} {own : String} {i : Nat} {O f d : String} (h : mmInF p own i O f d = true) : Cond.fieldLink own i O f d ∈ mmGood ∨ ∃ host, Cond.fieldLinkNest own i O f d host ∈ mmNest := by
  unfold mmInF at h
  split at h
  · rename_i hp
    rw [Bool.and_eq_true, decide_eq_true_eq] at h
    obtain ⟨⟨rfl, rfl, rfl, rfl, rfl⟩, h2⟩ := h
    exact Or.inl (List.mem_filter.mpr ⟨List.mem_of_getElem? hp, h2⟩)
  · rename_i hp
    rw [decide_eq_true_eq] at h
    obtain ⟨rfl, rfl, rfl, rfl, rfl⟩ := h
    exact Or.inr ⟨_, List.mem_filter.mpr ⟨List.mem_of_getElem? hp, rfl⟩⟩
  · cases h
def mmInM (p : Nat) (own : String) (i : Nat) (y : MethodName) (nest : Bool) : Bool := match lw_tbl[p]? with
  | some (.methodLink a b c) => !nest && decide (a = own ∧ b = i ∧ c = y) && goodWord (.methodLink own i y)
  | some (.methodLinkNest a b c _) => nest && decide (a = own ∧ b = i ∧ c = y)
  | _ => false
theorem mmInM_ok {p : Nat} {own : String} {i : Nat} {y : MethodName} {nest : Bool} (h : mmInM p own i y nest = true) : nest = false ∧ Cond.methodLink own i y ∈ mmGood ∨ nest = true ∧ ∃ host, Cond.methodLinkNest own i y host ∈ mmNest := by
  unfold mmInM at h
  split at h
  · rename_i hp
    rw [Bool.and_eq_true, Bool.and_eq_true, decide_eq_true_eq] at h
    obtain ⟨⟨h0, rfl, rfl, rfl⟩, h2⟩ := h
    exact Or.inl ⟨by simpa using h0, List.mem_filter.mpr ⟨List.mem_of_getElem? hp, h2⟩⟩
  · rename_i hp
    rw [Bool.and_eq_true, decide_eq_true_eq] at h
    obtain ⟨h0, rfl, rfl, rfl⟩ := h
    exact Or.inr ⟨h0, _, List.mem_filter.mpr ⟨List.mem_of_getElem? hp, rfl⟩⟩
  · cases h
/-- a call's words, by their places: of the link, the code, the class, the kind of method, the selection -/
def mmChkC (PT : List mmM) (M : mmM) (i : Nat) (vi : Nat) (ax : List Nat) : Bool := match ax with
  | kd :: y :: k :: ci :: pl :: pc :: pi :: pm :: ps :: _ => match PT[y]? with
    | none => false
    | some M' =>
      (kd == vi || kd == vi + 1) &&
      decide (M'.1.cls ≠ "java/lang/invoke/MethodHandle" ∧ M'.1.cls ≠ "java/lang/invoke/VarHandle") && decide (M'.2.2.2.2.1 + 1 ≤ M.2.2.2.2.1) && decide (8 + (M'.2.2.1 + 11) + M'.2.2.2.2.2.1 ≤ M.2.2.2.2.2.1) &&
      mmIn pc (.code M'.1 M'.2.1 M'.2.2.1 M'.2.2.2.1) && mmIn pi (.initialized M'.1.cls) &&
      mmInM pl M.1.cls i M'.1 (kd == vi + 1) &&
      (match vi with
        | 0 => decide ((parseMethodDescriptor M'.1.desc).map (fun d => d.parameters.length + 1) = some k) && mmIn pm (.instanceMethod M'.1) && mmIn ps (.selects M'.1.cls M'.1 M'.1) && decide ((vwCl[ci]?).map (·.1) = some M'.1.cls)
        | 2 => decide ((parseMethodDescriptor M'.1.desc).map (fun d => d.parameters.length) = some k) && mmIn pm (.static M'.1)
        | 4 => decide ((parseMethodDescriptor M'.1.desc).map (fun d => d.parameters.length + 1) = some k) && mmIn pm (.instanceMethod M'.1) && decide (M'.1.name = "<init>") && decide (M'.2.2.2.1 = none)
        | _ => false)
  | _ => match ax with
    | [] => true
    | [_] => true
    | [_, _] => true
    | [_, _, _] => true
    | _ => false
theorem mmChkC_ok {PT : List mmM} {M : mmM} {i vi : Nat} {ax : List Nat} (h : mmChkC PT M i vi ax = true) : ∀ kd y k ci t, ax = kd :: y :: k :: ci :: t → (kd = vi ∨ kd = vi + 1) ∧ ∀ M', PT[y]? = some M' → mmOkC M i kd k ci M' := by
  rintro kd y k ci t rfl
  unfold mmChkC at h
  split at h
  · rename_i kd y k ci pl pc pi pm ps t' he
    cases he
    split at h
    · cases h
    · rename_i M' hy
      simp only [Bool.and_eq_true, Bool.or_eq_true, beq_iff_eq, decide_eq_true_eq] at h
      obtain ⟨⟨⟨⟨⟨⟨⟨h1, h2⟩, h3⟩, h4⟩, h5⟩, h6⟩, h7⟩, h8⟩ := h
      refine ⟨h1, fun M2 hy2 => ?_⟩
      cases hy.symm.trans hy2
      have e7 := mmInM_ok h7
      have hl : (kd = vi ∧ Cond.methodLink M.1.cls i M'.1 ∈ mmGood) ∨ (kd = vi + 1 ∧ ∃ host, Cond.methodLinkNest M.1.cls i M'.1 host ∈ mmNest) := by
        rcases e7 with ⟨e, q⟩ | ⟨e, q⟩
        · rw [beq_eq_false_iff_ne] at e
          exact Or.inl ⟨h1.resolve_right e, q⟩
        · rw [beq_iff_eq] at e
          exact Or.inr ⟨e, q⟩
      split at h8
      · simp only [Bool.and_eq_true, decide_eq_true_eq] at h8
        obtain ⟨⟨⟨g1, g2⟩, g3⟩, g4⟩ := h8
        obtain ⟨q, q1, q2⟩ := Option.map_eq_some_iff.mp g4
        refine ⟨h2, h3, h4, mmIn_ok h5, mmIn_ok h6, Or.inl ⟨h1, g1, mmIn_ok g2, mmIn_ok g3, q, q1, q2⟩, ?_⟩
        rcases hl with ⟨e, q⟩ | ⟨e, q⟩
        · exact Or.inl ⟨Or.inl e, q⟩
        · exact Or.inr ⟨Or.inl e, q⟩
      · simp only [Bool.and_eq_true, decide_eq_true_eq] at h8
        obtain ⟨g1, g2⟩ := h8
        refine ⟨h2, h3, h4, mmIn_ok h5, mmIn_ok h6, Or.inr (Or.inl ⟨h1, g1, mmIn_ok g2⟩), ?_⟩
        rcases hl with ⟨e, q⟩ | ⟨e, q⟩
        · exact Or.inl ⟨Or.inr (Or.inl e), q⟩
        · exact Or.inr ⟨Or.inr (Or.inl e), q⟩
      · simp only [Bool.and_eq_true, decide_eq_true_eq] at h8
        obtain ⟨⟨⟨g1, g2⟩, g3⟩, g4⟩ := h8
        refine ⟨h2, h3, h4, mmIn_ok h5, mmIn_ok h6, Or.inr (Or.inr ⟨h1, g1, mmIn_ok g2, g3, g4⟩), ?_⟩
        rcases hl with ⟨e, q⟩ | ⟨e, q⟩
        · exact Or.inl ⟨Or.inr (Or.inr e), q⟩
        · exact Or.inr ⟨Or.inr (Or.inr e), q⟩
      · cases h8
  · split at h
    · rename_i he; cases he
    · rename_i he; cases he
    · rename_i he; cases he
    · rename_i he; cases he
    · cases h
def mmChkI (PT : List mmM) (M : mmM) (pc : Nat) (ins : Instr) (ax : List Nat) : Bool := match ins with
  | .ifCond _ off => match ax with
    | tg :: _ => decide ((pc : Int) + off = (tg : Int))
    | _ => true
  | .if_icmp _ off => match ax with
    | tg :: _ => decide ((pc : Int) + off = (tg : Int))
    | _ => true
  | .goto off => match ax with
    | tg :: _ => decide ((pc : Int) + off = (tg : Int))
    | _ => true
  | .tableswitch dflt _ _ offs => match ax with
    | df :: tgs => decide ((pc : Int) + dflt = (df : Int)) && decide (tgs.map (fun (tg : Nat) => (tg : Int)) = offs.toList.map fun o => (pc : Int) + o)
    | _ => true
  | .ireturn => match ax with
    | [] => decide (M.2.2.2.1 = some .int)
    | _ => decide (M.2.2.2.1 = some .boolean)
  | .lreturn => decide (M.2.2.2.1 = some .long)
  | .return_ => decide (M.2.2.2.1 = none)
  | .invokevirtual i => mmChkC PT M i 0 ax
  | .invokestatic i => mmChkC PT M i 2 ax && (match ax with
    | [8, p, _] => decide (1 ≤ M.2.2.2.2.1) && decide (8 + (nativeFrameWords "java/lang/System" "arraycopy" 5 + 11) ≤ M.2.2.2.2.2.1) && mmIn p (.methodLink M.1.cls i arraycopyName) && decide (Cond.native arraycopyName ∈ mmGood) && decide (Cond.static arraycopyName ∈ mmGood) && decide (Cond.initialized "java/lang/System" ∈ mmGood)
    | _ => true)
  | .invokespecial i => mmChkC PT M i 4 ax && (match ax with
    | [9, p, _] => decide (1 ≤ M.2.2.2.2.1) && decide (20 ≤ M.2.2.2.2.2.1) && mmIn p (.methodLink M.1.cls i objectInit) && decide (Cond.instanceMethod objectInit ∈ mmGood) && decide (Cond.code objectInit ⟨#[0xb1]⟩ 1 none ∈ mmGood)
    | _ => true)
  | .ldc i => match ax with
    | b :: p :: _ => mmIn p (.constant M.1.cls i (Int32.ofNat b))
    | [] => true
    | _ => false
  | .ldc_w i => match ax with
    | b :: p :: _ => mmIn p (.constant M.1.cls i (Int32.ofNat b))
    | [] => true
    | _ => false
  | .ldc2_w i => match ax with
    | b :: p :: _ => mmIn p (.constantLong M.1.cls i (Int64.ofNat b))
    | [] => true
    | _ => false
  | .getfield i => match ax with
    | ci :: k :: p :: _ => match vwCl[ci]? with
      | some q => decide (k < q.2.2) && mmInF p M.1.cls i (q.2.1 k).1 (q.2.1 k).2.1 (q.2.1 k).2.2.1
      | none => false
    | [] => true
    | _ => false
  | .putfield i => match ax with
    | ci :: k :: tc :: p :: _ => match vwCl[ci]? with
      | some q => decide (k < q.2.2) && (match parseFieldDescriptor (q.2.1 k).2.2.1 with
          | some ty => mmTc tc ty
          | none => false) && (if (q.2.1 k).2.2.2 = true then decide (M.1.name = "<init>") && decide ((q.2.1 k).1 = M.1.cls) && mmIn p (.fieldLink M.1.cls i (q.2.1 k).1 (q.2.1 k).2.1 (q.2.1 k).2.2.1) else mmInF p M.1.cls i (q.2.1 k).1 (q.2.1 k).2.1 (q.2.1 k).2.2.1)
      | none => false
    | [] => true
    | _ => false
  | .new i => match ax with
    | ci :: p1 :: p2 :: p3 :: _ => match vwCl[ci]? with
      | some q => mmIn p1 (.classLink M.1.cls i q.1) && mmIn p2 (.instantiable q.1 q.2.2) && mmIn p3 (.initialized q.1)
      | none => false
    | [] => true
    | _ => false
  | .newarray .int => match ax with
    | p :: _ => mmIn p (.arrayClass .int)
    | _ => false
  | .multianewarray i 2 => match ax with
    | [tg, p] => mmIn p (.classLink M.1.cls i (if tg = 1001 then "[[I" else "[[[I"))
    | [] => true
    | _ => false
  | _ => true
theorem mmChkI_ok {PT : List mmM} {M : mmM} {pc : Nat} {ins : Instr} {ax : List Nat} (h : mmChkI PT M pc ins ax = true) : mmOkI PT M pc ins ax := by
  cases ins
  case ifCond => rintro tg t rfl; exact of_decide_eq_true h
  case if_icmp => rintro tg t rfl; exact of_decide_eq_true h
  case goto => rintro tg t rfl; exact of_decide_eq_true h
  case tableswitch =>
    rintro df tgs rfl
    simp only [mmChkI, Bool.and_eq_true, decide_eq_true_eq] at h
    refine ⟨h.1, fun j tg hj => ?_⟩
    have h2 := congrArg (fun l => l[j]?) h.2
    simp only [List.getElem?_map, hj, Option.map_some] at h2
    obtain ⟨o, h3, h4⟩ := Option.map_eq_some_iff.mp h2.symm
    exact ⟨o, by rw [← Array.getElem?_toList]; exact h3, h4⟩
  case ireturn =>
    refine ⟨fun e => ?_, fun e => ?_⟩
    · subst e; exact of_decide_eq_true h
    · cases ax with
      | nil => exact absurd rfl e
      | cons a t => exact of_decide_eq_true h
  case lreturn => exact of_decide_eq_true (p := M.2.2.2.1 = some .long) h
  case return_ => exact of_decide_eq_true (p := M.2.2.2.1 = none) h
  case invokevirtual => exact mmChkC_ok h
  case invokestatic =>
    simp only [mmChkI, Bool.and_eq_true] at h
    refine ⟨?_, mmChkC_ok h.1⟩
    rintro a b rfl
    have h2 := h.2
    simp only [Bool.and_eq_true, decide_eq_true_eq] at h2
    obtain ⟨⟨⟨⟨⟨g1, g2⟩, g3⟩, g4⟩, g5⟩, g6⟩ := h2
    exact ⟨g1, g2, mmIn_ok g3, g4, g5, g6⟩
  case invokespecial =>
    simp only [mmChkI, Bool.and_eq_true] at h
    refine ⟨?_, mmChkC_ok h.1⟩
    rintro a b rfl
    have h2 := h.2
    simp only [Bool.and_eq_true, decide_eq_true_eq] at h2
    obtain ⟨⟨⟨⟨g1, g2⟩, g3⟩, g4⟩, g5⟩ := h2
    exact ⟨g1, g2, mmIn_ok g3, g4, g5⟩
  case ldc =>
    rintro b t rfl
    cases t with
    | nil => cases h
    | cons p t => exact mmIn_ok h
  case ldc_w =>
    rintro b t rfl
    cases t with
    | nil => cases h
    | cons p t => exact mmIn_ok h
  case ldc2_w =>
    rintro b t rfl
    cases t with
    | nil => cases h
    | cons p t => exact mmIn_ok h
  case getfield =>
    rintro ci k t rfl
    cases t with
    | nil => cases h
    | cons p t =>
      simp only [mmChkI] at h
      split at h
      · rename_i q hq
        rw [Bool.and_eq_true, decide_eq_true_eq] at h
        refine ⟨q, hq, h.1, ?_⟩
        rcases mmInF_ok h.2 with g | g
        · exact Or.inl g
        · exact Or.inr ⟨rfl, g⟩
      · cases h
  case putfield =>
    rintro ci k tc t rfl
    cases t with
    | nil => cases h
    | cons p t =>
      simp only [mmChkI] at h
      split at h
      · rename_i q hq
        rw [Bool.and_eq_true, Bool.and_eq_true, decide_eq_true_eq] at h
        obtain ⟨⟨h1, h2⟩, h3⟩ := h
        split at h2
        · rename_i ty hty
          refine ⟨q, ty, hq, h1, hty, h2, ?_⟩
          split at h3
          · rename_i hf
            rw [Bool.and_eq_true, Bool.and_eq_true, decide_eq_true_eq, decide_eq_true_eq] at h3
            exact Or.inl ⟨hf, h3.1.1, h3.1.2, mmIn_ok h3.2⟩
          · rename_i hf
            exact Or.inr ⟨by simpa using hf, mmInF_ok h3⟩
        · cases h2
      · cases h
  case new =>
    rintro ci t rfl
    cases t with
    | nil => cases h
    | cons p1 t => cases t with
      | nil => cases h
      | cons p2 t => cases t with
        | nil => cases h
        | cons p3 t =>
          simp only [mmChkI] at h
          split at h
          · rename_i q hq
            rw [Bool.and_eq_true, Bool.and_eq_true] at h
            exact ⟨q, hq, mmIn_ok h.1.1, mmIn_ok h.1.2, mmIn_ok h.2⟩
          · cases h
  case multianewarray i d =>
    rcases d with _ | _ | _ | d
    · trivial
    · trivial
    · rintro tg t rfl
      match t, h with
      | [p], h =>
        have h1 := mmIn_ok h
        refine ⟨fun e => ?_, fun e => ?_⟩
        · subst e
          exact h1
        · subst e
          exact h1
      | [], h => cases h
      | _ :: _ :: _, h => cases h
    · trivial
  case newarray ty =>
    cases ty <;> first | trivial | skip
    cases ax with
    | nil => cases h
    | cons p t => exact mmIn_ok h
  all_goals trivial
def mmChk (PT : List mmM) (M : mmM) : Bool := plainFor M.1 && M.2.2.2.2.2.2.all fun q => decide (decode M.2.1 q.1 = .ok (q.2.1, q.2.2.1)) && (mmIsSw q.2.1 || q.2.2.1 == mmLen q.2.1) && mmChkI PT M q.1 q.2.1 q.2.2.2
theorem mmFetch_mem {t : List mmI} {pc : Nat} {x : Instr × Nat × List Nat} (h : mmFetch t pc = some x) : (pc, x) ∈ t := by
  induction t with
  | nil => cases h
  | cons q t ih =>
    unfold mmFetch at h
    cases hb : Nat.beq q.1 pc with
    | true =>
      rw [hb] at h
      have he := Nat.eq_of_beq_eq_true hb
      have : q = (pc, x) := Prod.ext he (Option.some.inj h)
      rw [this]
      exact List.mem_cons_self
    | false =>
      rw [hb] at h
      exact List.mem_cons_of_mem _ (ih h)
theorem mmChk_ok {PT : List mmM} {M : mmM} (h : mmChk PT M = true) : mmOkM PT M := by
  unfold mmChk at h
  rw [Bool.and_eq_true, List.all_eq_true] at h
  refine ⟨h.1, fun pc ins len ax hf => ?_⟩
  have h2 := h.2 _ (mmFetch_mem hf)
  simp only [Bool.and_eq_true, decide_eq_true_eq, Bool.or_eq_true, beq_iff_eq] at h2
  exact ⟨h2.1.1, h2.1.2, mmChkI_ok h2.2⟩
end
section
/-! THE TABLES of the methods, by program -/
def tbX0_init : List mmI := [(0, .aload_n 0, 1, []), (1, .invokespecial 3, 3, [9, 420, 0]), (4, .aload_n 0, 1, []), (5, .new 9, 3, [7, 421, 94, 58]), (8, .dup, 1, []), (9, .sipush 140, 3, []), (12, .invokespecial 11, 3, [4, 81, 2, 7, 422, 97, 58, 96, 0]), (15, .putfield 14, 3, [0, 0, 3, 423]), (18, .aload_n 0, 1, []), (19, .new 9, 3, [7, 421, 94, 58]), (22, .dup, 1, []), (23, .sipush 140, 3, []), (26, .invokespecial 11, 3, [4, 81, 2, 7, 422, 97, 58, 96, 0]), (29, .putfield 20, 3, [0, 1, 3, 424]), (32, .return_, 1, [])]
def mX0_init : mmM := (yX0_init, cX0_init, 1, none, 2, 41, tbX0_init)
def tbX0_goOver : List mmI := [(0, .aload_n 0, 1, []), (1, .invokevirtual 23, 3, [0, 2, 1, 0, 847, 850, 65, 849, 21]), (4, .iconst 0, 1, []), (5, .istore_n 2, 1, []), (6, .aload_n 0, 1, []), (7, .getfield 26, 3, [0, 4, 427]), (10, .ifCond .eq 60, 3, [70]), (13, .iload_n 2, 1, []), (14, .sipush 301, 3, []), (17, .if_icmp .ge 53, 3, [70]), (20, .aload_n 0, 1, []), (21, .iconst 0, 1, []), (22, .putfield 26, 3, [0, 4, 1, 427]), (25, .iconst 0, 1, []), (26, .istore_n 3, 1, []), (27, .iload_n 3, 1, []), (28, .aload_n 1, 1, []), (29, .getfield 30, 3, [3, 13, 338]), (32, .if_icmp .ge 32, 3, [64]), (35, .aload_n 0, 1, []), (36, .getfield 36, 3, [0, 2, 425]), (39, .iload_n 3, 1, []), (40, .invokestatic 39, 3, [3, 152, 2, 11, 854, 187, 56, 186, 0]), (43, .ifCond .eq 15, 3, [58]), (46, .aload_n 0, 1, []), (47, .aload_n 1, 1, []), (48, .iload_n 3, 1, []), (49, .invokevirtual 43, 3, [0, 3, 3, 0, 855, 858, 65, 857, 22]), (52, .aload_n 0, 1, []), (53, .aload_n 1, 1, []), (54, .iload_n 3, 1, []), (55, .invokevirtual 47, 3, [0, 9, 3, 0, 886, 889, 65, 888, 28]), (58, .iinc 3 1, 3, []), (61, .goto (-34), 3, [27]), (64, .iinc 2 1, 3, []), (67, .goto (-61), 3, [6]), (70, .aload_n 0, 1, []), (71, .aload_n 1, 1, []), (72, .invokevirtual 50, 3, [0, 11, 2, 0, 894, 897, 65, 896, 30]), (75, .aload_n 0, 1, []), (76, .aload_n 1, 1, []), (77, .invokevirtual 54, 3, [0, 12, 2, 0, 915, 918, 65, 917, 32]), (80, .aload_n 0, 1, []), (81, .aload_n 1, 1, []), (82, .invokevirtual 57, 3, [0, 13, 2, 0, 928, 931, 65, 930, 33]), (85, .return_, 1, [])]
def mX0_goOver : mmM := (yX0_goOver, cX0_goOver, 4, none, 4, 99, tbX0_goOver)
def tbX0_begin : List mmI := [(0, .aload_n 0, 1, []), (1, .getfield 14, 3, [0, 0, 423]), (4, .iconst 0, 1, []), (5, .invokevirtual 60, 3, [0, 84, 2, 7, 851, 145, 58, 143, 144]), (8, .aload_n 0, 1, []), (9, .getfield 20, 3, [0, 1, 424]), (12, .iconst 0, 1, []), (13, .invokevirtual 60, 3, [0, 84, 2, 7, 851, 145, 58, 143, 144]), (16, .iconst 0, 1, []), (17, .istore_n 1, 1, []), (18, .iload_n 1, 1, []), (19, .bipush 6, 2, []), (21, .if_icmp .ge 27, 3, [48]), (24, .aload_n 0, 1, []), (25, .getfield 14, 3, [0, 0, 423]), (28, .iload_n 1, 1, []), (29, .iload_n 1, 1, []), (30, .iconst 2, 1, []), (31, .if_icmp .ge 7, 3, [38]), (34, .iconst 2, 1, []), (35, .goto 4, 3, [39]), (38, .iconst 1, 1, []), (39, .invokevirtual 63, 3, [0, 83, 3, 7, 852, 164, 58, 162, 163]), (42, .iinc 1 1, 3, []), (45, .goto (-27), 3, [18]), (48, .aload_n 0, 1, []), (49, .iconst 0, 1, []), (50, .invokestatic 67, 3, [3, 151, 1, 11, 853, 160, 56, 159, 0]), (53, .putfield 36, 3, [0, 2, 0, 425]), (56, .aload_n 0, 1, []), (57, .iconst 0, 1, []), (58, .putfield 71, 3, [0, 3, 0, 426]), (61, .aload_n 0, 1, []), (62, .iconst 1, 1, []), (63, .putfield 26, 3, [0, 4, 1, 427]), (66, .return_, 1, [])]
def mX0_begin : mmM := (yX0_begin, cX0_begin, 2, none, 2, 44, tbX0_begin)
def tbX0_visit : List mmI := [(0, .iconst 0, 1, []), (1, .istore_n 3, 1, []), (2, .iload_n 3, 1, []), (3, .aload_n 1, 1, []), (4, .getfield 74, 3, [3, 7, 312]), (7, .iload_n 2, 1, []), (8, .invokevirtual 77, 3, [0, 82, 2, 7, 859, 152, 58, 150, 151]), (11, .if_icmp .ge 81, 3, [92]), (14, .aload_n 1, 1, []), (15, .iload_n 2, 1, []), (16, .iload_n 3, 1, []), (17, .invokevirtual 80, 3, [0, 35, 3, 3, 860, 785, 63, 783, 784]), (20, .istore 4, 2, []), (22, .aload_n 1, 1, []), (23, .getfield 84, 3, [3, 0, 285]), (26, .iload 4, 2, []), (28, .invokevirtual 77, 3, [0, 82, 2, 7, 859, 152, 58, 150, 151]), (31, .istore 5, 2, []), (33, .iload 5, 2, []), (35, .bipush 9, 2, []), (37, .if_icmp .ne 14, 3, [51]), (40, .aload_n 0, 1, []), (41, .aload_n 1, 1, []), (42, .iload_n 2, 1, []), (43, .iload 4, 2, []), (45, .invokevirtual 87, 3, [0, 4, 4, 0, 861, 864, 65, 863, 23]), (48, .goto 38, 3, [86]), (51, .iload 5, 2, []), (53, .bipush 6, 2, []), (55, .if_icmp .ne 14, 3, [69]), (58, .aload_n 0, 1, []), (59, .iload 4, 2, []), (61, .iconst 2, 1, []), (62, .iconst 0, 1, []), (63, .invokevirtual 91, 3, [0, 8, 4, 0, 874, 877, 65, 876, 26]), (66, .goto 20, 3, [86]), (69, .iload 5, 2, []), (71, .invokestatic 95, 3, [3, 154, 1, 11, 878, 662, 56, 661, 0]), (74, .ifCond .eq 12, 3, [86]), (77, .aload_n 0, 1, []), (78, .aload_n 1, 1, []), (79, .iload 4, 2, []), (81, .iload 5, 2, []), (83, .invokevirtual 99, 3, [0, 5, 4, 0, 879, 882, 65, 881, 27]), (86, .iinc 3 1, 3, []), (89, .goto (-87), 3, [2]), (92, .return_, 1, [])]
def mX0_visit : mmM := (yX0_visit, cX0_visit, 6, none, 3, 74, tbX0_visit)
def tbX0_meet : List mmI := [(0, .iconst 0, 1, []), (1, .istore 4, 2, []), (3, .iconst 0, 1, []), (4, .istore 5, 2, []), (6, .iconst 0, 1, []), (7, .istore 6, 2, []), (9, .iload 6, 2, []), (11, .aload_n 1, 1, []), (12, .getfield 102, 3, [3, 9, 322]), (15, .iload_n 2, 1, []), (16, .invokevirtual 77, 3, [0, 82, 2, 7, 859, 152, 58, 150, 151]), (19, .if_icmp .ge 123, 3, [142]), (22, .aload_n 1, 1, []), (23, .getfield 105, 3, [3, 4, 306]), (26, .iload_n 3, 1, []), (27, .invokevirtual 77, 3, [0, 82, 2, 7, 859, 152, 58, 150, 151]), (30, .iload 6, 2, []), (32, .iadd, 1, []), (33, .istore 7, 2, []), (35, .aload_n 0, 1, []), (36, .getfield 71, 3, [0, 3, 426]), (39, .aload_n 1, 1, []), (40, .iload_n 2, 1, []), (41, .iload 6, 2, []), (43, .invokevirtual 108, 3, [0, 36, 3, 3, 865, 826, 63, 824, 825]), (46, .invokestatic 39, 3, [3, 152, 2, 11, 854, 187, 56, 186, 0]), (49, .ifCond .eq 13, 3, [62]), (52, .aload_n 0, 1, []), (53, .aload_n 1, 1, []), (54, .iload 7, 2, []), (56, .invokevirtual 111, 3, [0, 6, 3, 0, 866, 869, 65, 868, 24]), (59, .goto 4, 3, [63]), (62, .iconst 0, 1, []), (63, .istore 8, 2, []), (65, .iload 8, 2, []), (67, .iconst 1, 1, []), (68, .if_icmp .ne 25, 3, [93]), (71, .iload 4, 2, []), (73, .iconst 1, 1, []), (74, .if_icmp .ne 19, 3, [93]), (77, .aload_n 0, 1, []), (78, .aload_n 1, 1, []), (79, .iload 7, 2, []), (81, .invokevirtual 115, 3, [0, 7, 3, 0, 870, 873, 65, 872, 25]), (84, .iload 5, 2, []), (86, .if_icmp .eq 7, 3, [93]), (89, .iconst 1, 1, []), (90, .goto 4, 3, [94]), (93, .iconst 0, 1, []), (94, .istore 9, 2, []), (96, .iload 8, 2, []), (98, .iconst 1, 1, []), (99, .if_icmp .ne 23, 3, [122]), (102, .iload 4, 2, []), (104, .ifCond .ne 18, 3, [122]), (107, .iconst 1, 1, []), (108, .istore 4, 2, []), (110, .aload_n 0, 1, []), (111, .aload_n 1, 1, []), (112, .iload 7, 2, []), (114, .invokevirtual 115, 3, [0, 7, 3, 0, 870, 873, 65, 872, 25]), (117, .istore 5, 2, []), (119, .goto 17, 3, [136]), (122, .iload 8, 2, []), (124, .iconst 2, 1, []), (125, .if_icmp .eq 8, 3, [133]), (128, .iload 9, 2, []), (130, .ifCond .eq 6, 3, [136]), (133, .iconst 2, 1, []), (134, .istore 4, 2, []), (136, .iinc 6 1, 3, []), (139, .goto (-130), 3, [9]), (142, .aload_n 0, 1, []), (143, .iload_n 3, 1, []), (144, .iload 4, 2, []), (146, .iload 5, 2, []), (148, .invokevirtual 91, 3, [0, 8, 4, 0, 874, 877, 65, 876, 26]), (151, .return_, 1, [])]
def mX0_meet : mmM := (yX0_meet, cX0_meet, 10, none, 2, 45, tbX0_meet)
def tbX0_reckon : List mmI := [(0, .aload_n 1, 1, []), (1, .getfield 105, 3, [3, 4, 306]), (4, .iload_n 2, 1, []), (5, .invokevirtual 77, 3, [0, 82, 2, 7, 859, 152, 58, 150, 151]), (8, .istore 4, 2, []), (10, .aload_n 0, 1, []), (11, .aload_n 1, 1, []), (12, .iload 4, 2, []), (14, .invokevirtual 111, 3, [0, 6, 3, 0, 866, 869, 65, 868, 24]), (17, .istore 5, 2, []), (19, .aload_n 0, 1, []), (20, .aload_n 1, 1, []), (21, .iload 4, 2, []), (23, .iconst 1, 1, []), (24, .iadd, 1, []), (25, .invokevirtual 111, 3, [0, 6, 3, 0, 866, 869, 65, 868, 24]), (28, .istore 6, 2, []), (30, .iload 5, 2, []), (32, .ifCond .eq 8, 3, [40]), (35, .iload 6, 2, []), (37, .ifCond .ne 4, 3, [41]), (40, .return_, 1, []), (41, .aload_n 0, 1, []), (42, .aload_n 1, 1, []), (43, .iload 4, 2, []), (45, .iconst 1, 1, []), (46, .iadd, 1, []), (47, .invokevirtual 115, 3, [0, 7, 3, 0, 870, 873, 65, 872, 25]), (50, .istore 7, 2, []), (52, .iload 5, 2, []), (54, .iconst 2, 1, []), (55, .if_icmp .eq 19, 3, [74]), (58, .iload 6, 2, []), (60, .iconst 2, 1, []), (61, .if_icmp .eq 13, 3, [74]), (64, .iload_n 3, 1, []), (65, .iconst 4, 1, []), (66, .if_icmp .ne 18, 3, [84]), (69, .iload 7, 2, []), (71, .ifCond .ne 13, 3, [84]), (74, .aload_n 0, 1, []), (75, .iload_n 2, 1, []), (76, .iconst 2, 1, []), (77, .iconst 0, 1, []), (78, .invokevirtual 91, 3, [0, 8, 4, 0, 874, 877, 65, 876, 26]), (81, .goto 22, 3, [103]), (84, .aload_n 0, 1, []), (85, .iload_n 2, 1, []), (86, .iconst 1, 1, []), (87, .iload_n 3, 1, []), (88, .aload_n 0, 1, []), (89, .aload_n 1, 1, []), (90, .iload 4, 2, []), (92, .invokevirtual 115, 3, [0, 7, 3, 0, 870, 873, 65, 872, 25]), (95, .iload 7, 2, []), (97, .invokestatic 118, 3, [3, 157, 3, 11, 883, 885, 56, 884, 0]), (100, .invokevirtual 91, 3, [0, 8, 4, 0, 874, 877, 65, 876, 26]), (103, .return_, 1, [])]
def mX0_reckon : mmM := (yX0_reckon, cX0_reckon, 8, none, 2, 45, tbX0_reckon)
def tbX0_knownAt : List mmI := [(0, .aload_n 1, 1, []), (1, .getfield 122, 3, [3, 5, 308]), (4, .iload_n 2, 1, []), (5, .invokevirtual 77, 3, [0, 82, 2, 7, 859, 152, 58, 150, 151]), (8, .istore_n 3, 1, []), (9, .iload_n 3, 1, []), (10, .iconst (-1), 1, []), (11, .if_icmp .ne 7, 3, [18]), (14, .iconst 1, 1, []), (15, .goto 11, 3, [26]), (18, .aload_n 0, 1, []), (19, .getfield 14, 3, [0, 0, 423]), (22, .iload_n 3, 1, []), (23, .invokevirtual 77, 3, [0, 82, 2, 7, 859, 152, 58, 150, 151]), (26, .ireturn, 1, [])]
def mX0_knownAt : mmM := (yX0_knownAt, cX0_knownAt, 4, some .int, 1, 21, tbX0_knownAt)
def tbX0_numberAt : List mmI := [(0, .aload_n 1, 1, []), (1, .getfield 122, 3, [3, 5, 308]), (4, .iload_n 2, 1, []), (5, .invokevirtual 77, 3, [0, 82, 2, 7, 859, 152, 58, 150, 151]), (8, .istore_n 3, 1, []), (9, .iload_n 3, 1, []), (10, .iconst (-1), 1, []), (11, .if_icmp .ne 14, 3, [25]), (14, .aload_n 1, 1, []), (15, .getfield 125, 3, [3, 6, 310]), (18, .iload_n 2, 1, []), (19, .invokevirtual 77, 3, [0, 82, 2, 7, 859, 152, 58, 150, 151]), (22, .goto 11, 3, [33]), (25, .aload_n 0, 1, []), (26, .getfield 20, 3, [0, 1, 424]), (29, .iload_n 3, 1, []), (30, .invokevirtual 77, 3, [0, 82, 2, 7, 859, 152, 58, 150, 151]), (33, .ireturn, 1, [])]
def mX0_numberAt : mmM := (yX0_numberAt, cX0_numberAt, 4, some .int, 1, 21, tbX0_numberAt)
def tbX0_rise : List mmI := [(0, .iload_n 2, 1, []), (1, .aload_n 0, 1, []), (2, .getfield 14, 3, [0, 0, 423]), (5, .iload_n 1, 1, []), (6, .invokevirtual 77, 3, [0, 82, 2, 7, 859, 152, 58, 150, 151]), (9, .if_icmp .le 26, 3, [35]), (12, .aload_n 0, 1, []), (13, .getfield 14, 3, [0, 0, 423]), (16, .iload_n 1, 1, []), (17, .iload_n 2, 1, []), (18, .invokevirtual 63, 3, [0, 83, 3, 7, 852, 164, 58, 162, 163]), (21, .aload_n 0, 1, []), (22, .getfield 20, 3, [0, 1, 424]), (25, .iload_n 1, 1, []), (26, .iload_n 3, 1, []), (27, .invokevirtual 63, 3, [0, 83, 3, 7, 852, 164, 58, 162, 163]), (30, .aload_n 0, 1, []), (31, .iconst 1, 1, []), (32, .putfield 26, 3, [0, 4, 1, 427]), (35, .return_, 1, [])]
def mX0_rise : mmM := (yX0_rise, cX0_rise, 4, none, 1, 22, tbX0_rise)
def tbX0_goOn : List mmI := [(0, .iload_n 2, 1, []), (1, .iconst 2, 1, []), (2, .imul, 1, []), (3, .istore_n 3, 1, []), (4, .aload_n 1, 1, []), (5, .getfield 128, 3, [3, 11, 331]), (8, .iload_n 2, 1, []), (9, .invokevirtual 77, 3, [0, 82, 2, 7, 859, 152, 58, 150, 151]), (12, .istore 4, 2, []), (14, .iload 4, 2, []), (16, .iconst 1, 1, []), (17, .if_icmp .ne 9, 3, [26]), (20, .aload_n 0, 1, []), (21, .aload_n 1, 1, []), (22, .iload_n 3, 1, []), (23, .invokevirtual 131, 3, [0, 10, 3, 0, 890, 893, 65, 892, 29]), (26, .iload 4, 2, []), (28, .iconst 2, 1, []), (29, .if_icmp .eq 4, 3, [33]), (32, .return_, 1, []), (33, .aload_n 1, 1, []), (34, .getfield 105, 3, [3, 4, 306]), (37, .sipush 140, 3, []), (40, .iload_n 2, 1, []), (41, .iadd, 1, []), (42, .invokevirtual 77, 3, [0, 82, 2, 7, 859, 152, 58, 150, 151]), (45, .istore 5, 2, []), (47, .aload_n 0, 1, []), (48, .aload_n 1, 1, []), (49, .iload 5, 2, []), (51, .invokevirtual 111, 3, [0, 6, 3, 0, 866, 869, 65, 868, 24]), (54, .istore 6, 2, []), (56, .iload 6, 2, []), (58, .iconst 1, 1, []), (59, .if_icmp .ne 17, 3, [76]), (62, .aload_n 0, 1, []), (63, .aload_n 1, 1, []), (64, .iload 5, 2, []), (66, .invokevirtual 115, 3, [0, 7, 3, 0, 870, 873, 65, 872, 25]), (69, .ifCond .le 7, 3, [76]), (72, .iconst 1, 1, []), (73, .goto 4, 3, [77]), (76, .iconst 0, 1, []), (77, .istore 7, 2, []), (79, .iload 6, 2, []), (81, .iconst 2, 1, []), (82, .if_icmp .eq 8, 3, [90]), (85, .iload 7, 2, []), (87, .ifCond .eq 9, 3, [96]), (90, .aload_n 0, 1, []), (91, .aload_n 1, 1, []), (92, .iload_n 3, 1, []), (93, .invokevirtual 131, 3, [0, 10, 3, 0, 890, 893, 65, 892, 29]), (96, .iload 6, 2, []), (98, .iconst 2, 1, []), (99, .if_icmp .eq 14, 3, [113]), (102, .iload 6, 2, []), (104, .iconst 1, 1, []), (105, .if_icmp .ne 16, 3, [121]), (108, .iload 7, 2, []), (110, .ifCond .ne 11, 3, [121]), (113, .aload_n 0, 1, []), (114, .aload_n 1, 1, []), (115, .iload_n 3, 1, []), (116, .iconst 1, 1, []), (117, .iadd, 1, []), (118, .invokevirtual 131, 3, [0, 10, 3, 0, 890, 893, 65, 892, 29]), (121, .return_, 1, [])]
def mX0_goOn : mmM := (yX0_goOn, cX0_goOn, 8, none, 2, 44, tbX0_goOn)
def tbX0_goAlong : List mmI := [(0, .aload_n 1, 1, []), (1, .getfield 134, 3, [3, 12, 336]), (4, .iload_n 2, 1, []), (5, .invokevirtual 77, 3, [0, 82, 2, 7, 859, 152, 58, 150, 151]), (8, .istore_n 3, 1, []), (9, .aload_n 0, 1, []), (10, .getfield 71, 3, [0, 3, 426]), (13, .iload_n 2, 1, []), (14, .invokestatic 39, 3, [3, 152, 2, 11, 854, 187, 56, 186, 0]), (17, .ifCond .ne 39, 3, [56]), (20, .iload_n 3, 1, []), (21, .iconst (-1), 1, []), (22, .if_icmp .eq 34, 3, [56]), (25, .aload_n 0, 1, []), (26, .dup, 1, []), (27, .getfield 71, 3, [0, 3, 426]), (30, .iload_n 2, 1, []), (31, .invokestatic 67, 3, [3, 151, 1, 11, 853, 160, 56, 159, 0]), (34, .ior, 1, []), (35, .putfield 71, 3, [0, 3, 0, 426]), (38, .aload_n 0, 1, []), (39, .dup, 1, []), (40, .getfield 36, 3, [0, 2, 425]), (43, .iload_n 3, 1, []), (44, .invokestatic 67, 3, [3, 151, 1, 11, 853, 160, 56, 159, 0]), (47, .ior, 1, []), (48, .putfield 36, 3, [0, 2, 0, 425]), (51, .aload_n 0, 1, []), (52, .iconst 1, 1, []), (53, .putfield 26, 3, [0, 4, 1, 427]), (56, .return_, 1, [])]
def mX0_goAlong : mmM := (yX0_goAlong, cX0_goAlong, 4, none, 1, 21, tbX0_goAlong)
def tbX0_cutWays : List mmI := [(0, .iconst 0, 1, []), (1, .istore_n 2, 1, []), (2, .iload_n 2, 1, []), (3, .aload_n 1, 1, []), (4, .getfield 30, 3, [3, 13, 338]), (7, .if_icmp .ge 134, 3, [141]), (10, .sipush 140, 3, []), (13, .iload_n 2, 1, []), (14, .iadd, 1, []), (15, .istore_n 3, 1, []), (16, .aload_n 1, 1, []), (17, .getfield 105, 3, [3, 4, 306]), (20, .iload_n 3, 1, []), (21, .invokevirtual 77, 3, [0, 82, 2, 7, 859, 152, 58, 150, 151]), (24, .istore 4, 2, []), (26, .aload_n 0, 1, []), (27, .getfield 36, 3, [0, 2, 425]), (30, .iload_n 2, 1, []), (31, .invokestatic 39, 3, [3, 152, 2, 11, 854, 187, 56, 186, 0]), (34, .ifCond .eq 101, 3, [135]), (37, .aload_n 1, 1, []), (38, .getfield 128, 3, [3, 11, 331]), (41, .iload_n 2, 1, []), (42, .invokevirtual 77, 3, [0, 82, 2, 7, 859, 152, 58, 150, 151]), (45, .iconst 2, 1, []), (46, .if_icmp .ne 89, 3, [135]), (49, .aload_n 0, 1, []), (50, .aload_n 1, 1, []), (51, .iload 4, 2, []), (53, .invokevirtual 111, 3, [0, 6, 3, 0, 866, 869, 65, 868, 24]), (56, .iconst 1, 1, []), (57, .if_icmp .ne 78, 3, [135]), (60, .iload_n 2, 1, []), (61, .iconst 2, 1, []), (62, .imul, 1, []), (63, .aload_n 0, 1, []), (64, .aload_n 1, 1, []), (65, .iload 4, 2, []), (67, .invokevirtual 115, 3, [0, 7, 3, 0, 870, 873, 65, 872, 25]), (70, .ifCond .le 7, 3, [77]), (73, .iconst 0, 1, []), (74, .goto 4, 3, [78]), (77, .iconst 1, 1, []), (78, .iadd, 1, []), (79, .istore 5, 2, []), (81, .iload_n 2, 1, []), (82, .iconst 2, 1, []), (83, .imul, 1, []), (84, .aload_n 0, 1, []), (85, .aload_n 1, 1, []), (86, .iload 4, 2, []), (88, .invokevirtual 115, 3, [0, 7, 3, 0, 870, 873, 65, 872, 25]), (91, .ifCond .le 7, 3, [98]), (94, .iconst 1, 1, []), (95, .goto 4, 3, [99]), (98, .iconst 0, 1, []), (99, .iadd, 1, []), (100, .istore 6, 2, []), (102, .aload_n 1, 1, []), (103, .iload 6, 2, []), (105, .invokevirtual 137, 3, [0, 48, 2, 3, 898, 901, 63, 899, 900]), (108, .aload_n 1, 1, []), (109, .iload 5, 2, []), (111, .iload_n 2, 1, []), (112, .iconst 2, 1, []), (113, .imul, 1, []), (114, .invokevirtual 140, 3, [0, 50, 3, 3, 911, 914, 63, 912, 913]), (117, .aload_n 1, 1, []), (118, .getfield 128, 3, [3, 11, 331]), (121, .iload_n 2, 1, []), (122, .iconst 1, 1, []), (123, .invokevirtual 63, 3, [0, 83, 3, 7, 852, 164, 58, 162, 163]), (126, .aload_n 1, 1, []), (127, .getfield 143, 3, [3, 3, 304]), (130, .iload_n 3, 1, []), (131, .iconst 0, 1, []), (132, .invokevirtual 63, 3, [0, 83, 3, 7, 852, 164, 58, 162, 163]), (135, .iinc 2 1, 3, []), (138, .goto (-136), 3, [2]), (141, .return_, 1, [])]
def mX0_cutWays : mmM := (yX0_cutWays, cX0_cutWays, 7, none, 3, 73, tbX0_cutWays)
def tbX0_loseBlocks : List mmI := [(0, .iconst 0, 1, []), (1, .istore_n 2, 1, []), (2, .iload_n 2, 1, []), (3, .aload_n 1, 1, []), (4, .getfield 30, 3, [3, 13, 338]), (7, .if_icmp .ge 48, 3, [55]), (10, .aload_n 1, 1, []), (11, .getfield 146, 3, [3, 14, 347]), (14, .aload_n 0, 1, []), (15, .getfield 36, 3, [0, 2, 425]), (18, .iconst (-1), 1, []), (19, .ixor, 1, []), (20, .iand, 1, []), (21, .iload_n 2, 1, []), (22, .invokestatic 39, 3, [3, 152, 2, 11, 854, 187, 56, 186, 0]), (25, .ifCond .eq 24, 3, [49]), (28, .aload_n 1, 1, []), (29, .iload_n 2, 1, []), (30, .iconst 2, 1, []), (31, .imul, 1, []), (32, .invokevirtual 137, 3, [0, 48, 2, 3, 898, 901, 63, 899, 900]), (35, .aload_n 1, 1, []), (36, .iload_n 2, 1, []), (37, .iconst 2, 1, []), (38, .imul, 1, []), (39, .iconst 1, 1, []), (40, .iadd, 1, []), (41, .invokevirtual 137, 3, [0, 48, 2, 3, 898, 901, 63, 899, 900]), (44, .aload_n 1, 1, []), (45, .iload_n 2, 1, []), (46, .invokevirtual 149, 3, [0, 46, 2, 3, 919, 922, 63, 920, 921]), (49, .iinc 2 1, 3, []), (52, .goto (-50), 3, [2]), (55, .return_, 1, [])]
def mX0_loseBlocks : mmM := (yX0_loseBlocks, cX0_loseBlocks, 3, none, 3, 73, tbX0_loseBlocks)
def tbX0_replaceNumbers : List mmI := [(0, .iconst 0, 1, []), (1, .istore_n 2, 1, []), (2, .iload_n 2, 1, []), (3, .aload_n 1, 1, []), (4, .getfield 152, 3, [3, 15, 352]), (7, .if_icmp .ge 75, 3, [82]), (10, .aload_n 0, 1, []), (11, .getfield 14, 3, [0, 0, 423]), (14, .iload_n 2, 1, []), (15, .invokevirtual 77, 3, [0, 82, 2, 7, 859, 152, 58, 150, 151]), (18, .iconst 1, 1, []), (19, .if_icmp .ne 32, 3, [51]), (22, .aload_n 1, 1, []), (23, .getfield 155, 3, [3, 1, 297]), (26, .iload_n 2, 1, []), (27, .invokevirtual 77, 3, [0, 82, 2, 7, 859, 152, 58, 150, 151]), (30, .iconst (-1), 1, []), (31, .if_icmp .eq 20, 3, [51]), (34, .aload_n 1, 1, []), (35, .iload_n 2, 1, []), (36, .iconst (-1), 1, []), (37, .aload_n 0, 1, []), (38, .getfield 20, 3, [0, 1, 424]), (41, .iload_n 2, 1, []), (42, .invokevirtual 77, 3, [0, 82, 2, 7, 859, 152, 58, 150, 151]), (45, .invokevirtual 158, 3, [0, 43, 4, 3, 932, 935, 63, 933, 934]), (48, .goto 28, 3, [76]), (51, .aload_n 0, 1, []), (52, .getfield 14, 3, [0, 0, 423]), (55, .iload_n 2, 1, []), (56, .invokevirtual 77, 3, [0, 82, 2, 7, 859, 152, 58, 150, 151]), (59, .iconst 1, 1, []), (60, .if_icmp .ne 16, 3, [76]), (63, .iload_n 2, 1, []), (64, .bipush 6, 2, []), (66, .if_icmp .ge 10, 3, [76]), (69, .aload_n 1, 1, []), (70, .iload_n 2, 1, []), (71, .iconst (-1), 1, []), (72, .iconst 0, 1, []), (73, .invokevirtual 161, 3, [0, 44, 4, 3, 940, 939, 63, 937, 938]), (76, .iinc 2 1, 3, []), (79, .goto (-77), 3, [2]), (82, .return_, 1, [])]
def mX0_replaceNumbers : mmM := (yX0_replaceNumbers, cX0_replaceNumbers, 3, none, 3, 71, tbX0_replaceNumbers)
def tbX1_init : List mmI := [(0, .aload_n 0, 1, []), (1, .invokespecial 3, 3, [9, 456, 0]), (4, .aload_n 0, 1, []), (5, .new 9, 3, [7, 457, 94, 58]), (8, .dup, 1, []), (9, .sipush 140, 3, []), (12, .invokespecial 11, 3, [4, 81, 2, 7, 458, 97, 58, 96, 0]), (15, .putfield 14, 3, [1, 0, 3, 459]), (18, .return_, 1, [])]
def mX1_init : mmM := (yX1_init, cX1_init, 1, none, 2, 41, tbX1_init)
def tbX1_goOver : List mmI := [(0, .aload_n 0, 1, []), (1, .getfield 14, 3, [1, 0, 459]), (4, .iconst 0, 1, []), (5, .invokevirtual 20, 3, [0, 84, 2, 7, 997, 145, 58, 143, 144]), (8, .bipush 6, 2, []), (10, .istore_n 2, 1, []), (11, .iload_n 2, 1, []), (12, .aload_n 1, 1, []), (13, .getfield 23, 3, [3, 15, 349]), (16, .if_icmp .ge 38, 3, [54]), (19, .aload_n 1, 1, []), (20, .getfield 29, 3, [3, 1, 292]), (23, .iload_n 2, 1, []), (24, .invokevirtual 32, 3, [0, 82, 2, 7, 998, 152, 58, 150, 151]), (27, .iconst (-1), 1, []), (28, .if_icmp .eq 20, 3, [48]), (31, .aload_n 1, 1, []), (32, .iload_n 2, 1, []), (33, .invokestatic 36, 3, [2, 16, 2, 1, 999, 1001, 67, 1000, 0]), (36, .ifCond .eq 12, 3, [48]), (39, .aload_n 0, 1, []), (40, .getfield 14, 3, [1, 0, 459]), (43, .iload_n 2, 1, []), (44, .iconst 1, 1, []), (45, .invokevirtual 40, 3, [0, 83, 3, 7, 1004, 164, 58, 162, 163]), (48, .iinc 2 1, 3, []), (51, .goto (-40), 3, [11]), (54, .iconst 0, 1, []), (55, .istore_n 2, 1, []), (56, .iload_n 2, 1, []), (57, .aload_n 1, 1, []), (58, .getfield 44, 3, [3, 13, 339]), (61, .if_icmp .ge 19, 3, [80]), (64, .aload_n 0, 1, []), (65, .aload_n 1, 1, []), (66, .sipush 140, 3, []), (69, .iload_n 2, 1, []), (70, .iadd, 1, []), (71, .invokevirtual 47, 3, [0, 17, 3, 1, 1005, 1008, 67, 1007, 37]), (74, .iinc 2 1, 3, []), (77, .goto (-21), 3, [56]), (80, .aload_n 0, 1, []), (81, .iconst 1, 1, []), (82, .putfield 51, 3, [1, 1, 1, 460]), (85, .iconst 0, 1, []), (86, .istore_n 2, 1, []), (87, .aload_n 0, 1, []), (88, .getfield 51, 3, [1, 1, 460]), (91, .ifCond .eq 56, 3, [147]), (94, .iload_n 2, 1, []), (95, .sipush 140, 3, []), (98, .if_icmp .gt 49, 3, [147]), (101, .aload_n 0, 1, []), (102, .iconst 0, 1, []), (103, .putfield 51, 3, [1, 1, 1, 460]), (106, .bipush 6, 2, []), (108, .istore_n 3, 1, []), (109, .iload_n 3, 1, []), (110, .aload_n 1, 1, []), (111, .getfield 23, 3, [3, 15, 349]), (114, .if_icmp .ge 27, 3, [141]), (117, .aload_n 0, 1, []), (118, .getfield 14, 3, [1, 0, 459]), (121, .iload_n 3, 1, []), (122, .invokevirtual 32, 3, [0, 82, 2, 7, 998, 152, 58, 150, 151]), (125, .iconst 1, 1, []), (126, .if_icmp .ne 9, 3, [135]), (129, .aload_n 0, 1, []), (130, .aload_n 1, 1, []), (131, .iload_n 3, 1, []), (132, .invokevirtual 47, 3, [0, 17, 3, 1, 1005, 1008, 67, 1007, 37]), (135, .iinc 3 1, 3, []), (138, .goto (-29), 3, [109]), (141, .iinc 2 1, 3, []), (144, .goto (-57), 3, [87]), (147, .aload_n 0, 1, []), (148, .aload_n 1, 1, []), (149, .invokevirtual 55, 3, [0, 18, 2, 1, 1009, 1012, 67, 1011, 38]), (152, .return_, 1, [])]
def mX1_goOver : mmM := (yX1_goOver, cX1_goOver, 4, none, 3, 67, tbX1_goOver)
def tbX1_isNeededBySelf : List mmI := [(0, .aload_n 0, 1, []), (1, .getfield 59, 3, [3, 0, 284]), (4, .iload_n 1, 1, []), (5, .invokevirtual 32, 3, [0, 82, 2, 7, 998, 152, 58, 150, 151]), (8, .istore_n 2, 1, []), (9, .iload_n 2, 1, []), (10, .iconst 4, 1, []), (11, .if_icmp .ne 26, 3, [37]), (14, .aload_n 0, 1, []), (15, .iload_n 1, 1, []), (16, .iconst 1, 1, []), (17, .invokevirtual 62, 3, [0, 37, 3, 3, 1002, 987, 63, 985, 986]), (20, .iconst (-1), 1, []), (21, .if_icmp .ne 12, 3, [33]), (24, .aload_n 0, 1, []), (25, .iload_n 1, 1, []), (26, .iconst 1, 1, []), (27, .invokevirtual 66, 3, [0, 38, 3, 3, 1003, 991, 63, 989, 990]), (30, .ifCond .ne 7, 3, [37]), (33, .iconst 1, 1, []), (34, .goto 4, 3, [38]), (37, .iconst 0, 1, []), (38, .istore_n 3, 1, []), (39, .iload_n 2, 1, []), (40, .bipush 7, 2, []), (42, .if_icmp .eq 13, 3, [55]), (45, .iload_n 2, 1, []), (46, .bipush 8, 2, []), (48, .if_icmp .eq 7, 3, [55]), (51, .iload_n 3, 1, []), (52, .ifCond .eq 7, 3, [59]), (55, .iconst 1, 1, []), (56, .goto 4, 3, [60]), (59, .iconst 0, 1, []), (60, .ireturn, 1, [1])]
def mX1_isNeededBySelf : mmM := (yX1_isNeededBySelf, cX1_isNeededBySelf, 4, some .boolean, 2, 43, tbX1_isNeededBySelf)
def tbX1_needArguments : List mmI := [(0, .iconst 0, 1, []), (1, .istore_n 3, 1, []), (2, .iload_n 3, 1, []), (3, .aload_n 1, 1, []), (4, .getfield 69, 3, [3, 3, 302]), (7, .iload_n 2, 1, []), (8, .invokevirtual 32, 3, [0, 82, 2, 7, 998, 152, 58, 150, 151]), (11, .if_icmp .ge 50, 3, [61]), (14, .aload_n 1, 1, []), (15, .iload_n 2, 1, []), (16, .iload_n 3, 1, []), (17, .invokevirtual 62, 3, [0, 37, 3, 3, 1002, 987, 63, 985, 986]), (20, .istore 4, 2, []), (22, .iload 4, 2, []), (24, .iconst (-1), 1, []), (25, .if_icmp .eq 30, 3, [55]), (28, .aload_n 0, 1, []), (29, .getfield 14, 3, [1, 0, 459]), (32, .iload 4, 2, []), (34, .invokevirtual 32, 3, [0, 82, 2, 7, 998, 152, 58, 150, 151]), (37, .ifCond .ne 18, 3, [55]), (40, .aload_n 0, 1, []), (41, .getfield 14, 3, [1, 0, 459]), (44, .iload 4, 2, []), (46, .iconst 1, 1, []), (47, .invokevirtual 40, 3, [0, 83, 3, 7, 1004, 164, 58, 162, 163]), (50, .aload_n 0, 1, []), (51, .iconst 1, 1, []), (52, .putfield 51, 3, [1, 1, 1, 460]), (55, .iinc 3 1, 3, []), (58, .goto (-56), 3, [2]), (61, .return_, 1, [])]
def mX1_needArguments : mmM := (yX1_needArguments, cX1_needArguments, 5, none, 2, 43, tbX1_needArguments)
def tbX1_loseOthers : List mmI := [(0, .bipush 6, 2, []), (2, .istore_n 2, 1, []), (3, .iload_n 2, 1, []), (4, .aload_n 1, 1, []), (5, .getfield 23, 3, [3, 15, 349]), (8, .if_icmp .ge 25, 3, [33]), (11, .aload_n 0, 1, []), (12, .getfield 14, 3, [1, 0, 459]), (15, .iload_n 2, 1, []), (16, .invokevirtual 32, 3, [0, 82, 2, 7, 998, 152, 58, 150, 151]), (19, .ifCond .ne 8, 3, [27]), (22, .aload_n 1, 1, []), (23, .iload_n 2, 1, []), (24, .invokevirtual 72, 3, [0, 45, 2, 3, 1013, 926, 63, 924, 925]), (27, .iinc 2 1, 3, []), (30, .goto (-27), 3, [3]), (33, .return_, 1, [])]
def mX1_loseOthers : mmM := (yX1_loseOthers, cX1_loseOthers, 3, none, 2, 43, tbX1_loseOthers)
def tbX2_init : List mmI := [(0, .aload_n 0, 1, []), (1, .invokespecial 3, 3, [9, 109, 0]), (4, .aload_n 0, 1, []), (5, .new 9, 3, [7, 110, 94, 58]), (8, .dup, 1, []), (9, .bipush 10, 2, []), (11, .invokespecial 11, 3, [4, 81, 2, 7, 111, 97, 58, 96, 0]), (14, .putfield 14, 3, [2, 0, 3, 112]), (17, .aload_n 0, 1, []), (18, .new 9, 3, [7, 110, 94, 58]), (21, .dup, 1, []), (22, .bipush 10, 2, []), (24, .invokespecial 11, 3, [4, 81, 2, 7, 111, 97, 58, 96, 0]), (27, .putfield 20, 3, [2, 1, 3, 113]), (30, .aload_n 0, 1, []), (31, .new 9, 3, [7, 110, 94, 58]), (34, .dup, 1, []), (35, .bipush 10, 2, []), (37, .invokespecial 11, 3, [4, 81, 2, 7, 111, 97, 58, 96, 0]), (40, .putfield 23, 3, [2, 2, 3, 115]), (43, .aload_n 0, 1, []), (44, .new 9, 3, [7, 110, 94, 58]), (47, .dup, 1, []), (48, .bipush 10, 2, []), (50, .invokespecial 11, 3, [4, 81, 2, 7, 111, 97, 58, 96, 0]), (53, .putfield 26, 3, [2, 3, 3, 117]), (56, .return_, 1, [])]
def mX2_init : mmM := (yX2_init, cX2_init, 1, none, 2, 41, tbX2_init)
def tbX2_forget : List mmI := [(0, .aload_n 0, 1, []), (1, .getfield 14, 3, [2, 0, 112]), (4, .iconst 0, 1, []), (5, .invokevirtual 29, 3, [0, 84, 2, 7, 142, 145, 58, 143, 144]), (8, .return_, 1, [])]
def mX2_forget : mmM := (yX2_forget, cX2_forget, 1, none, 2, 44, tbX2_forget)
def tbX2_lead : List mmI := [(0, .aload_n 0, 1, []), (1, .getfield 14, 3, [2, 0, 112]), (4, .iload_n 1, 1, []), (5, .aload_n 0, 1, []), (6, .getfield 14, 3, [2, 0, 112]), (9, .iload_n 1, 1, []), (10, .invokevirtual 32, 3, [0, 82, 2, 7, 157, 152, 58, 150, 151]), (13, .iload_n 2, 1, []), (14, .invokestatic 36, 3, [3, 151, 1, 11, 158, 160, 56, 159, 0]), (17, .ior, 1, []), (18, .invokevirtual 39, 3, [0, 83, 3, 7, 161, 164, 58, 162, 163]), (21, .return_, 1, [])]
def mX2_lead : mmM := (yX2_lead, cX2_lead, 3, none, 1, 22, tbX2_lead)
def tbX2_reckon : List mmI := [(0, .aload_n 0, 1, []), (1, .aload_n 0, 1, []), (2, .iconst (-1), 1, []), (3, .invokevirtual 43, 3, [0, 23, 2, 2, 181, 184, 59, 183, 2]), (6, .putfield 46, 3, [2, 4, 0, 121]), (9, .aload_n 0, 1, []), (10, .getfield 23, 3, [2, 2, 115]), (13, .iconst 0, 1, []), (14, .invokevirtual 29, 3, [0, 84, 2, 7, 142, 145, 58, 143, 144]), (17, .iconst 0, 1, []), (18, .istore_n 1, 1, []), (19, .iload_n 1, 1, []), (20, .bipush 10, 2, []), (22, .if_icmp .ge 52, 3, [74]), (25, .aload_n 0, 1, []), (26, .getfield 46, 3, [2, 4, 121]), (29, .iload_n 1, 1, []), (30, .invokestatic 50, 3, [3, 152, 2, 11, 185, 187, 56, 186, 0]), (33, .ifCond .eq 18, 3, [51]), (36, .aload_n 0, 1, []), (37, .getfield 46, 3, [2, 4, 121]), (40, .aload_n 0, 1, []), (41, .iload_n 1, 1, []), (42, .invokevirtual 43, 3, [0, 23, 2, 2, 181, 184, 59, 183, 2]), (45, .iconst (-1), 1, []), (46, .ixor, 1, []), (47, .iand, 1, []), (48, .goto 4, 3, [52]), (51, .iconst 0, 1, []), (52, .istore_n 2, 1, []), (53, .aload_n 0, 1, []), (54, .getfield 20, 3, [2, 1, 113]), (57, .iload_n 1, 1, []), (58, .iload_n 2, 1, []), (59, .invokevirtual 39, 3, [0, 83, 3, 7, 161, 164, 58, 162, 163]), (62, .aload_n 0, 1, []), (63, .iload_n 2, 1, []), (64, .iload_n 1, 1, []), (65, .invokevirtual 54, 3, [0, 24, 3, 2, 188, 191, 59, 190, 3]), (68, .iinc 1 1, 3, []), (71, .goto (-52), 3, [19]), (74, .iconst 0, 1, []), (75, .istore_n 1, 1, []), (76, .iconst 0, 1, []), (77, .istore_n 2, 1, []), (78, .iload_n 2, 1, []), (79, .bipush 10, 2, []), (81, .if_icmp .ge 31, 3, [112]), (84, .aload_n 0, 1, []), (85, .iload_n 1, 1, []), (86, .invokevirtual 57, 3, [0, 25, 2, 2, 192, 195, 59, 194, 4]), (89, .istore_n 3, 1, []), (90, .aload_n 0, 1, []), (91, .getfield 26, 3, [2, 3, 117]), (94, .iload_n 2, 1, []), (95, .iload_n 3, 1, []), (96, .invokevirtual 39, 3, [0, 83, 3, 7, 161, 164, 58, 162, 163]), (99, .iload_n 1, 1, []), (100, .iload_n 3, 1, []), (101, .invokestatic 36, 3, [3, 151, 1, 11, 158, 160, 56, 159, 0]), (104, .ior, 1, []), (105, .istore_n 1, 1, []), (106, .iinc 2 1, 3, []), (109, .goto (-31), 3, [78]), (112, .return_, 1, [])]
def mX2_reckon : mmM := (yX2_reckon, cX2_reckon, 4, none, 2, 46, tbX2_reckon)
def tbX2_reachedWithout : List mmI := [(0, .iconst 0, 1, []), (1, .invokestatic 36, 3, [3, 151, 1, 11, 158, 160, 56, 159, 0]), (4, .iload_n 1, 1, []), (5, .invokestatic 36, 3, [3, 151, 1, 11, 158, 160, 56, 159, 0]), (8, .iconst (-1), 1, []), (9, .ixor, 1, []), (10, .iand, 1, []), (11, .istore_n 2, 1, []), (12, .iconst 0, 1, []), (13, .istore_n 3, 1, []), (14, .iload_n 3, 1, []), (15, .bipush 10, 2, []), (17, .if_icmp .ge 61, 3, [78]), (20, .iload_n 2, 1, []), (21, .istore 4, 2, []), (23, .iconst 0, 1, []), (24, .istore 5, 2, []), (26, .iload 5, 2, []), (28, .bipush 10, 2, []), (30, .if_icmp .ge 32, 3, [62]), (33, .iload_n 2, 1, []), (34, .iload 5, 2, []), (36, .invokestatic 50, 3, [3, 152, 2, 11, 185, 187, 56, 186, 0]), (39, .ifCond .eq 17, 3, [56]), (42, .iload 4, 2, []), (44, .aload_n 0, 1, []), (45, .getfield 14, 3, [2, 0, 112]), (48, .iload 5, 2, []), (50, .invokevirtual 32, 3, [0, 82, 2, 7, 157, 152, 58, 150, 151]), (53, .ior, 1, []), (54, .istore 4, 2, []), (56, .iinc 5 1, 3, []), (59, .goto (-33), 3, [26]), (62, .iload 4, 2, []), (64, .iload_n 1, 1, []), (65, .invokestatic 36, 3, [3, 151, 1, 11, 158, 160, 56, 159, 0]), (68, .iconst (-1), 1, []), (69, .ixor, 1, []), (70, .iand, 1, []), (71, .istore_n 2, 1, []), (72, .iinc 3 1, 3, []), (75, .goto (-61), 3, [14]), (78, .iload_n 2, 1, []), (79, .ireturn, 1, [])]
def mX2_reachedWithout : mmM := (yX2_reachedWithout, cX2_reachedWithout, 6, some .int, 1, 21, tbX2_reachedWithout)
def tbX2_addDominator : List mmI := [(0, .iconst 0, 1, []), (1, .istore_n 3, 1, []), (2, .iload_n 3, 1, []), (3, .bipush 10, 2, []), (5, .if_icmp .ge 38, 3, [43]), (8, .iload_n 1, 1, []), (9, .iload_n 3, 1, []), (10, .invokestatic 50, 3, [3, 152, 2, 11, 185, 187, 56, 186, 0]), (13, .ifCond .eq 24, 3, [37]), (16, .aload_n 0, 1, []), (17, .getfield 23, 3, [2, 2, 115]), (20, .iload_n 3, 1, []), (21, .aload_n 0, 1, []), (22, .getfield 23, 3, [2, 2, 115]), (25, .iload_n 3, 1, []), (26, .invokevirtual 32, 3, [0, 82, 2, 7, 157, 152, 58, 150, 151]), (29, .iload_n 2, 1, []), (30, .invokestatic 36, 3, [3, 151, 1, 11, 158, 160, 56, 159, 0]), (33, .ior, 1, []), (34, .invokevirtual 39, 3, [0, 83, 3, 7, 161, 164, 58, 162, 163]), (37, .iinc 3 1, 3, []), (40, .goto (-38), 3, [2]), (43, .return_, 1, [])]
def mX2_addDominator : mmM := (yX2_addDominator, cX2_addDominator, 4, none, 1, 22, tbX2_addDominator)
def tbX2_firstReady : List mmI := [(0, .iconst 0, 1, []), (1, .istore_n 2, 1, []), (2, .iload_n 2, 1, []), (3, .bipush 10, 2, []), (5, .if_icmp .ge 45, 3, [50]), (8, .aload_n 0, 1, []), (9, .getfield 46, 3, [2, 4, 121]), (12, .iload_n 1, 1, []), (13, .iconst (-1), 1, []), (14, .ixor, 1, []), (15, .iand, 1, []), (16, .iload_n 2, 1, []), (17, .invokestatic 50, 3, [3, 152, 2, 11, 185, 187, 56, 186, 0]), (20, .ifCond .eq 24, 3, [44]), (23, .aload_n 0, 1, []), (24, .getfield 23, 3, [2, 2, 115]), (27, .iload_n 2, 1, []), (28, .invokevirtual 32, 3, [0, 82, 2, 7, 157, 152, 58, 150, 151]), (31, .iload_n 1, 1, []), (32, .iconst (-1), 1, []), (33, .ixor, 1, []), (34, .iand, 1, []), (35, .iload_n 2, 1, []), (36, .invokestatic 36, 3, [3, 151, 1, 11, 158, 160, 56, 159, 0]), (39, .if_icmp .ne 5, 3, [44]), (42, .iload_n 2, 1, []), (43, .ireturn, 1, []), (44, .iinc 2 1, 3, []), (47, .goto (-45), 3, [2]), (50, .iconst (-1), 1, []), (51, .ireturn, 1, [])]
def mX2_firstReady : mmM := (yX2_firstReady, cX2_firstReady, 3, some .int, 1, 21, tbX2_firstReady)
def tbX2_frontier : List mmI := [(0, .aload_n 0, 1, []), (1, .getfield 20, 3, [2, 1, 113]), (4, .iload_n 1, 1, []), (5, .invokevirtual 32, 3, [0, 82, 2, 7, 157, 152, 58, 150, 151]), (8, .istore_n 2, 1, []), (9, .iconst 0, 1, []), (10, .istore_n 3, 1, []), (11, .iconst 0, 1, []), (12, .istore 4, 2, []), (14, .iload 4, 2, []), (16, .bipush 10, 2, []), (18, .if_icmp .ge 30, 3, [48]), (21, .iload_n 2, 1, []), (22, .iload 4, 2, []), (24, .invokestatic 50, 3, [3, 152, 2, 11, 185, 187, 56, 186, 0]), (27, .ifCond .eq 15, 3, [42]), (30, .iload_n 3, 1, []), (31, .aload_n 0, 1, []), (32, .getfield 14, 3, [2, 0, 112]), (35, .iload 4, 2, []), (37, .invokevirtual 32, 3, [0, 82, 2, 7, 157, 152, 58, 150, 151]), (40, .ior, 1, []), (41, .istore_n 3, 1, []), (42, .iinc 4 1, 3, []), (45, .goto (-31), 3, [14]), (48, .iload_n 3, 1, []), (49, .iload_n 2, 1, []), (50, .iload_n 1, 1, []), (51, .invokestatic 36, 3, [3, 151, 1, 11, 158, 160, 56, 159, 0]), (54, .iconst (-1), 1, []), (55, .ixor, 1, []), (56, .iand, 1, []), (57, .iconst (-1), 1, []), (58, .ixor, 1, []), (59, .iand, 1, []), (60, .ireturn, 1, [])]
def mX2_frontier : mmM := (yX2_frontier, cX2_frontier, 5, some .int, 1, 21, tbX2_frontier)
def tbX2_nearestDominator : List mmI := [(0, .iconst (-1), 1, []), (1, .istore_n 2, 1, []), (2, .iconst 0, 1, []), (3, .istore_n 3, 1, []), (4, .iload_n 3, 1, []), (5, .bipush 10, 2, []), (7, .if_icmp .ge 44, 3, [51]), (10, .aload_n 0, 1, []), (11, .getfield 26, 3, [2, 3, 117]), (14, .iload_n 3, 1, []), (15, .invokevirtual 32, 3, [0, 82, 2, 7, 157, 152, 58, 150, 151]), (18, .istore 4, 2, []), (20, .iload 4, 2, []), (22, .iload_n 1, 1, []), (23, .if_icmp .eq 22, 3, [45]), (26, .aload_n 0, 1, []), (27, .getfield 23, 3, [2, 2, 115]), (30, .iload_n 1, 1, []), (31, .invokevirtual 32, 3, [0, 82, 2, 7, 157, 152, 58, 150, 151]), (34, .iload 4, 2, []), (36, .invokestatic 50, 3, [3, 152, 2, 11, 185, 187, 56, 186, 0]), (39, .ifCond .eq 6, 3, [45]), (42, .iload 4, 2, []), (44, .istore_n 2, 1, []), (45, .iinc 3 1, 3, []), (48, .goto (-44), 3, [4]), (51, .iload_n 2, 1, []), (52, .ireturn, 1, [])]
def mX2_nearestDominator : mmM := (yX2_nearestDominator, cX2_nearestDominator, 5, some .int, 1, 21, tbX2_nearestDominator)
def tbX3_init : List mmI := [(0, .aload_n 0, 1, []), (1, .invokespecial 3, 3, [9, 280, 0]), (4, .aload_n 0, 1, []), (5, .new 9, 3, [7, 281, 94, 58]), (8, .dup, 1, []), (9, .sipush 140, 3, []), (12, .invokespecial 11, 3, [4, 81, 2, 7, 282, 97, 58, 96, 0]), (15, .putfield 14, 3, [3, 0, 3, 283]), (18, .aload_n 0, 1, []), (19, .new 9, 3, [7, 281, 94, 58]), (22, .dup, 1, []), (23, .sipush 140, 3, []), (26, .invokespecial 11, 3, [4, 81, 2, 7, 282, 97, 58, 96, 0]), (29, .putfield 20, 3, [3, 1, 3, 291]), (32, .aload_n 0, 1, []), (33, .new 9, 3, [7, 281, 94, 58]), (36, .dup, 1, []), (37, .sipush 140, 3, []), (40, .invokespecial 11, 3, [4, 81, 2, 7, 282, 97, 58, 96, 0]), (43, .putfield 23, 3, [3, 2, 3, 298]), (46, .aload_n 0, 1, []), (47, .new 9, 3, [7, 281, 94, 58]), (50, .dup, 1, []), (51, .sipush 150, 3, []), (54, .invokespecial 11, 3, [4, 81, 2, 7, 282, 97, 58, 96, 0]), (57, .putfield 26, 3, [3, 3, 3, 301]), (60, .aload_n 0, 1, []), (61, .new 9, 3, [7, 281, 94, 58]), (64, .dup, 1, []), (65, .sipush 150, 3, []), (68, .invokespecial 11, 3, [4, 81, 2, 7, 282, 97, 58, 96, 0]), (71, .putfield 29, 3, [3, 4, 3, 305]), (74, .aload_n 0, 1, []), (75, .new 9, 3, [7, 281, 94, 58]), (78, .dup, 1, []), (79, .sipush 290, 3, []), (82, .invokespecial 11, 3, [4, 81, 2, 7, 282, 97, 58, 96, 0]), (85, .putfield 32, 3, [3, 5, 3, 307]), (88, .aload_n 0, 1, []), (89, .new 9, 3, [7, 281, 94, 58]), (92, .dup, 1, []), (93, .sipush 290, 3, []), (96, .invokespecial 11, 3, [4, 81, 2, 7, 282, 97, 58, 96, 0]), (99, .putfield 35, 3, [3, 6, 3, 309]), (102, .aload_n 0, 1, []), (103, .new 9, 3, [7, 281, 94, 58]), (106, .dup, 1, []), (107, .bipush 10, 2, []), (109, .invokespecial 11, 3, [4, 81, 2, 7, 282, 97, 58, 96, 0]), (112, .putfield 38, 3, [3, 7, 3, 311]), (115, .aload_n 0, 1, []), (116, .new 9, 3, [7, 281, 94, 58]), (119, .dup, 1, []), (120, .sipush 1400, 3, []), (123, .invokespecial 11, 3, [4, 81, 2, 7, 282, 97, 58, 96, 0]), (126, .putfield 41, 3, [3, 8, 3, 318]), (129, .aload_n 0, 1, []), (130, .new 9, 3, [7, 281, 94, 58]), (133, .dup, 1, []), (134, .bipush 10, 2, []), (136, .invokespecial 11, 3, [4, 81, 2, 7, 282, 97, 58, 96, 0]), (139, .putfield 44, 3, [3, 9, 3, 319]), (142, .aload_n 0, 1, []), (143, .new 9, 3, [7, 281, 94, 58]), (146, .dup, 1, []), (147, .sipush 200, 3, []), (150, .invokespecial 11, 3, [4, 81, 2, 7, 282, 97, 58, 96, 0]), (153, .putfield 47, 3, [3, 10, 3, 325]), (156, .aload_n 0, 1, []), (157, .new 9, 3, [7, 281, 94, 58]), (160, .dup, 1, []), (161, .bipush 10, 2, []), (163, .invokespecial 11, 3, [4, 81, 2, 7, 282, 97, 58, 96, 0]), (166, .putfield 50, 3, [3, 11, 3, 326]), (169, .aload_n 0, 1, []), (170, .new 9, 3, [7, 281, 94, 58]), (173, .dup, 1, []), (174, .bipush 20, 2, []), (176, .invokespecial 11, 3, [4, 81, 2, 7, 282, 97, 58, 96, 0]), (179, .putfield 53, 3, [3, 12, 3, 332]), (182, .return_, 1, [])]
def mX3_init : mmM := (yX3_init, cX3_init, 1, none, 2, 41, tbX3_init)
def tbX3_begin : List mmI := [(0, .aload_n 0, 1, []), (1, .iload_n 1, 1, []), (2, .putfield 56, 3, [3, 13, 0, 337]), (5, .aload_n 0, 1, []), (6, .iload_n 2, 1, []), (7, .putfield 60, 3, [3, 14, 0, 343]), (10, .aload_n 0, 1, []), (11, .iconst 0, 1, []), (12, .putfield 63, 3, [3, 15, 0, 348]), (15, .aload_n 0, 1, []), (16, .iconst 0, 1, []), (17, .putfield 66, 3, [3, 16, 0, 353]), (20, .aload_n 0, 1, []), (21, .iconst 0, 1, []), (22, .putfield 69, 3, [3, 17, 0, 354]), (25, .aload_n 0, 1, []), (26, .iconst 0, 1, []), (27, .putfield 72, 3, [3, 18, 0, 356]), (30, .aload_n 0, 1, []), (31, .getfield 26, 3, [3, 3, 301]), (34, .iconst 0, 1, []), (35, .invokevirtual 75, 3, [0, 84, 2, 7, 732, 145, 58, 143, 144]), (38, .aload_n 0, 1, []), (39, .getfield 38, 3, [3, 7, 311]), (42, .iconst 0, 1, []), (43, .invokevirtual 75, 3, [0, 84, 2, 7, 732, 145, 58, 143, 144]), (46, .aload_n 0, 1, []), (47, .getfield 44, 3, [3, 9, 319]), (50, .iconst 0, 1, []), (51, .invokevirtual 75, 3, [0, 84, 2, 7, 732, 145, 58, 143, 144]), (54, .aload_n 0, 1, []), (55, .getfield 50, 3, [3, 11, 326]), (58, .iconst 0, 1, []), (59, .invokevirtual 75, 3, [0, 84, 2, 7, 732, 145, 58, 143, 144]), (62, .aload_n 0, 1, []), (63, .getfield 53, 3, [3, 12, 332]), (66, .iconst (-1), 1, []), (67, .invokevirtual 75, 3, [0, 84, 2, 7, 732, 145, 58, 143, 144]), (70, .iconst 0, 1, []), (71, .istore_n 3, 1, []), (72, .iload_n 3, 1, []), (73, .bipush 6, 2, []), (75, .if_icmp .ge 17, 3, [92]), (78, .aload_n 0, 1, []), (79, .iconst (-1), 1, []), (80, .bipush 10, 2, []), (82, .iconst (-1), 1, []), (83, .invokevirtual 78, 3, [0, 31, 4, 3, 733, 736, 63, 734, 735]), (86, .iinc 3 1, 3, []), (89, .goto (-17), 3, [72]), (92, .return_, 1, [])]
def mX3_begin : mmM := (yX3_begin, cX3_begin, 4, none, 3, 68, tbX3_begin)
def tbX3_take : List mmI := [(0, .aload_n 0, 1, []), (1, .getfield 14, 3, [3, 0, 283]), (4, .aload_n 1, 1, []), (5, .getfield 14, 3, [3, 0, 283]), (8, .invokevirtual 82, 3, [0, 85, 2, 7, 1075, 203, 58, 201, 202]), (11, .aload_n 0, 1, []), (12, .getfield 20, 3, [3, 1, 291]), (15, .aload_n 1, 1, []), (16, .getfield 20, 3, [3, 1, 291]), (19, .invokevirtual 82, 3, [0, 85, 2, 7, 1075, 203, 58, 201, 202]), (22, .aload_n 0, 1, []), (23, .getfield 23, 3, [3, 2, 298]), (26, .aload_n 1, 1, []), (27, .getfield 23, 3, [3, 2, 298]), (30, .invokevirtual 82, 3, [0, 85, 2, 7, 1075, 203, 58, 201, 202]), (33, .aload_n 0, 1, []), (34, .getfield 26, 3, [3, 3, 301]), (37, .aload_n 1, 1, []), (38, .getfield 26, 3, [3, 3, 301]), (41, .invokevirtual 82, 3, [0, 85, 2, 7, 1075, 203, 58, 201, 202]), (44, .aload_n 0, 1, []), (45, .getfield 29, 3, [3, 4, 305]), (48, .aload_n 1, 1, []), (49, .getfield 29, 3, [3, 4, 305]), (52, .invokevirtual 82, 3, [0, 85, 2, 7, 1075, 203, 58, 201, 202]), (55, .aload_n 0, 1, []), (56, .getfield 32, 3, [3, 5, 307]), (59, .aload_n 1, 1, []), (60, .getfield 32, 3, [3, 5, 307]), (63, .invokevirtual 82, 3, [0, 85, 2, 7, 1075, 203, 58, 201, 202]), (66, .aload_n 0, 1, []), (67, .getfield 35, 3, [3, 6, 309]), (70, .aload_n 1, 1, []), (71, .getfield 35, 3, [3, 6, 309]), (74, .invokevirtual 82, 3, [0, 85, 2, 7, 1075, 203, 58, 201, 202]), (77, .aload_n 0, 1, []), (78, .getfield 38, 3, [3, 7, 311]), (81, .aload_n 1, 1, []), (82, .getfield 38, 3, [3, 7, 311]), (85, .invokevirtual 82, 3, [0, 85, 2, 7, 1075, 203, 58, 201, 202]), (88, .aload_n 0, 1, []), (89, .getfield 41, 3, [3, 8, 318]), (92, .aload_n 1, 1, []), (93, .getfield 41, 3, [3, 8, 318]), (96, .invokevirtual 82, 3, [0, 85, 2, 7, 1075, 203, 58, 201, 202]), (99, .aload_n 0, 1, []), (100, .getfield 44, 3, [3, 9, 319]), (103, .aload_n 1, 1, []), (104, .getfield 44, 3, [3, 9, 319]), (107, .invokevirtual 82, 3, [0, 85, 2, 7, 1075, 203, 58, 201, 202]), (110, .aload_n 0, 1, []), (111, .getfield 47, 3, [3, 10, 325]), (114, .aload_n 1, 1, []), (115, .getfield 47, 3, [3, 10, 325]), (118, .invokevirtual 82, 3, [0, 85, 2, 7, 1075, 203, 58, 201, 202]), (121, .aload_n 0, 1, []), (122, .getfield 50, 3, [3, 11, 326]), (125, .aload_n 1, 1, []), (126, .getfield 50, 3, [3, 11, 326]), (129, .invokevirtual 82, 3, [0, 85, 2, 7, 1075, 203, 58, 201, 202]), (132, .aload_n 0, 1, []), (133, .getfield 53, 3, [3, 12, 332]), (136, .aload_n 1, 1, []), (137, .getfield 53, 3, [3, 12, 332]), (140, .invokevirtual 82, 3, [0, 85, 2, 7, 1075, 203, 58, 201, 202]), (143, .aload_n 0, 1, []), (144, .aload_n 1, 1, []), (145, .getfield 56, 3, [3, 13, 337]), (148, .putfield 56, 3, [3, 13, 0, 337]), (151, .aload_n 0, 1, []), (152, .aload_n 1, 1, []), (153, .getfield 60, 3, [3, 14, 343]), (156, .putfield 60, 3, [3, 14, 0, 343]), (159, .aload_n 0, 1, []), (160, .aload_n 1, 1, []), (161, .getfield 63, 3, [3, 15, 348]), (164, .putfield 63, 3, [3, 15, 0, 348]), (167, .aload_n 0, 1, []), (168, .aload_n 1, 1, []), (169, .getfield 66, 3, [3, 16, 353]), (172, .putfield 66, 3, [3, 16, 0, 353]), (175, .aload_n 0, 1, []), (176, .aload_n 1, 1, []), (177, .getfield 69, 3, [3, 17, 354]), (180, .putfield 69, 3, [3, 17, 0, 354]), (183, .aload_n 0, 1, []), (184, .aload_n 1, 1, []), (185, .getfield 72, 3, [3, 18, 356]), (188, .putfield 72, 3, [3, 18, 0, 356]), (191, .return_, 1, [])]
def mX3_take : mmM := (yX3_take, cX3_take, 2, none, 2, 47, tbX3_take)
def tbX3_addValue : List mmI := [(0, .aload_n 0, 1, []), (1, .getfield 14, 3, [3, 0, 283]), (4, .aload_n 0, 1, []), (5, .getfield 63, 3, [3, 15, 348]), (8, .iload_n 2, 1, []), (9, .invokevirtual 86, 3, [0, 83, 3, 7, 737, 164, 58, 162, 163]), (12, .aload_n 0, 1, []), (13, .getfield 23, 3, [3, 2, 298]), (16, .aload_n 0, 1, []), (17, .getfield 63, 3, [3, 15, 348]), (20, .iload_n 3, 1, []), (21, .invokevirtual 86, 3, [0, 83, 3, 7, 737, 164, 58, 162, 163]), (24, .aload_n 0, 1, []), (25, .getfield 20, 3, [3, 1, 291]), (28, .aload_n 0, 1, []), (29, .getfield 63, 3, [3, 15, 348]), (32, .iconst (-1), 1, []), (33, .invokevirtual 86, 3, [0, 83, 3, 7, 737, 164, 58, 162, 163]), (36, .iload_n 1, 1, []), (37, .iconst (-1), 1, []), (38, .if_icmp .eq 12, 3, [50]), (41, .aload_n 0, 1, []), (42, .aload_n 0, 1, []), (43, .getfield 63, 3, [3, 15, 348]), (46, .iload_n 1, 1, []), (47, .invokevirtual 90, 3, [0, 32, 3, 3, 738, 741, 63, 739, 740]), (50, .aload_n 0, 1, []), (51, .dup, 1, []), (52, .getfield 63, 3, [3, 15, 348]), (55, .iconst 1, 1, []), (56, .iadd, 1, []), (57, .putfield 63, 3, [3, 15, 0, 348]), (60, .return_, 1, [])]
def mX3_addValue : mmM := (yX3_addValue, cX3_addValue, 4, none, 2, 45, tbX3_addValue)
def tbX3_putInto : List mmI := [(0, .aload_n 0, 1, []), (1, .getfield 38, 3, [3, 7, 311]), (4, .iload_n 2, 1, []), (5, .invokevirtual 93, 3, [0, 82, 2, 7, 742, 152, 58, 150, 151]), (8, .istore_n 3, 1, []), (9, .aload_n 0, 1, []), (10, .getfield 20, 3, [3, 1, 291]), (13, .iload_n 1, 1, []), (14, .iload_n 2, 1, []), (15, .invokevirtual 86, 3, [0, 83, 3, 7, 737, 164, 58, 162, 163]), (18, .aload_n 0, 1, []), (19, .getfield 41, 3, [3, 8, 318]), (22, .iload_n 2, 1, []), (23, .sipush 140, 3, []), (26, .imul, 1, []), (27, .iload_n 3, 1, []), (28, .iadd, 1, []), (29, .iload_n 1, 1, []), (30, .invokevirtual 86, 3, [0, 83, 3, 7, 737, 164, 58, 162, 163]), (33, .aload_n 0, 1, []), (34, .getfield 38, 3, [3, 7, 311]), (37, .iload_n 2, 1, []), (38, .iload_n 3, 1, []), (39, .iconst 1, 1, []), (40, .iadd, 1, []), (41, .invokevirtual 86, 3, [0, 83, 3, 7, 737, 164, 58, 162, 163]), (44, .return_, 1, [])]
def mX3_putInto : mmM := (yX3_putInto, cX3_putInto, 4, none, 1, 22, tbX3_putInto)
def tbX3_addArgument : List mmI := [(0, .aload_n 0, 1, []), (1, .getfield 26, 3, [3, 3, 301]), (4, .iload_n 1, 1, []), (5, .invokevirtual 93, 3, [0, 82, 2, 7, 742, 152, 58, 150, 151]), (8, .istore 4, 2, []), (10, .iload 4, 2, []), (12, .ifCond .ne 15, 3, [27]), (15, .aload_n 0, 1, []), (16, .getfield 29, 3, [3, 4, 305]), (19, .iload_n 1, 1, []), (20, .aload_n 0, 1, []), (21, .getfield 66, 3, [3, 16, 353]), (24, .invokevirtual 86, 3, [0, 83, 3, 7, 737, 164, 58, 162, 163]), (27, .aload_n 0, 1, []), (28, .getfield 32, 3, [3, 5, 307]), (31, .aload_n 0, 1, []), (32, .getfield 66, 3, [3, 16, 353]), (35, .iload_n 2, 1, []), (36, .invokevirtual 86, 3, [0, 83, 3, 7, 737, 164, 58, 162, 163]), (39, .aload_n 0, 1, []), (40, .getfield 35, 3, [3, 6, 309]), (43, .aload_n 0, 1, []), (44, .getfield 66, 3, [3, 16, 353]), (47, .iload_n 3, 1, []), (48, .invokevirtual 86, 3, [0, 83, 3, 7, 737, 164, 58, 162, 163]), (51, .aload_n 0, 1, []), (52, .getfield 26, 3, [3, 3, 301]), (55, .iload_n 1, 1, []), (56, .iload 4, 2, []), (58, .iconst 1, 1, []), (59, .iadd, 1, []), (60, .invokevirtual 86, 3, [0, 83, 3, 7, 737, 164, 58, 162, 163]), (63, .aload_n 0, 1, []), (64, .dup, 1, []), (65, .getfield 66, 3, [3, 16, 353]), (68, .iconst 1, 1, []), (69, .iadd, 1, []), (70, .putfield 66, 3, [3, 16, 0, 353]), (73, .return_, 1, [])]
def mX3_addArgument : mmM := (yX3_addArgument, cX3_addArgument, 5, none, 1, 22, tbX3_addArgument)
def tbX3_addEdge : List mmI := [(0, .aload_n 0, 1, []), (1, .getfield 44, 3, [3, 9, 319]), (4, .iload_n 2, 1, []), (5, .invokevirtual 93, 3, [0, 82, 2, 7, 742, 152, 58, 150, 151]), (8, .istore_n 3, 1, []), (9, .aload_n 0, 1, []), (10, .getfield 53, 3, [3, 12, 332]), (13, .iload_n 1, 1, []), (14, .iload_n 2, 1, []), (15, .invokevirtual 86, 3, [0, 83, 3, 7, 737, 164, 58, 162, 163]), (18, .aload_n 0, 1, []), (19, .getfield 47, 3, [3, 10, 325]), (22, .iload_n 2, 1, []), (23, .bipush 20, 2, []), (25, .imul, 1, []), (26, .iload_n 3, 1, []), (27, .iadd, 1, []), (28, .iload_n 1, 1, []), (29, .invokevirtual 86, 3, [0, 83, 3, 7, 737, 164, 58, 162, 163]), (32, .aload_n 0, 1, []), (33, .getfield 44, 3, [3, 9, 319]), (36, .iload_n 2, 1, []), (37, .iload_n 3, 1, []), (38, .iconst 1, 1, []), (39, .iadd, 1, []), (40, .invokevirtual 86, 3, [0, 83, 3, 7, 737, 164, 58, 162, 163]), (43, .return_, 1, [])]
def mX3_addEdge : mmM := (yX3_addEdge, cX3_addEdge, 4, none, 1, 22, tbX3_addEdge)
def tbX3_valueIn : List mmI := [(0, .aload_n 0, 1, []), (1, .getfield 41, 3, [3, 8, 318]), (4, .iload_n 1, 1, []), (5, .sipush 140, 3, []), (8, .imul, 1, []), (9, .iload_n 2, 1, []), (10, .iadd, 1, []), (11, .invokevirtual 93, 3, [0, 82, 2, 7, 742, 152, 58, 150, 151]), (14, .ireturn, 1, [])]
def mX3_valueIn : mmM := (yX3_valueIn, cX3_valueIn, 3, some .int, 1, 21, tbX3_valueIn)
def tbX3_wayTo : List mmI := [(0, .aload_n 0, 1, []), (1, .getfield 47, 3, [3, 10, 325]), (4, .iload_n 1, 1, []), (5, .bipush 20, 2, []), (7, .imul, 1, []), (8, .iload_n 2, 1, []), (9, .iadd, 1, []), (10, .invokevirtual 93, 3, [0, 82, 2, 7, 742, 152, 58, 150, 151]), (13, .ireturn, 1, [])]
def mX3_wayTo : mmM := (yX3_wayTo, cX3_wayTo, 3, some .int, 1, 21, tbX3_wayTo)
def tbX3_valueOf : List mmI := [(0, .iload_n 2, 1, []), (1, .ifCond .lt 35, 3, [36]), (4, .iload_n 2, 1, []), (5, .aload_n 0, 1, []), (6, .getfield 26, 3, [3, 3, 301]), (9, .iload_n 1, 1, []), (10, .invokevirtual 93, 3, [0, 82, 2, 7, 742, 152, 58, 150, 151]), (13, .if_icmp .ge 23, 3, [36]), (16, .aload_n 0, 1, []), (17, .getfield 32, 3, [3, 5, 307]), (20, .aload_n 0, 1, []), (21, .getfield 29, 3, [3, 4, 305]), (24, .iload_n 1, 1, []), (25, .invokevirtual 93, 3, [0, 82, 2, 7, 742, 152, 58, 150, 151]), (28, .iload_n 2, 1, []), (29, .iadd, 1, []), (30, .invokevirtual 93, 3, [0, 82, 2, 7, 742, 152, 58, 150, 151]), (33, .goto 4, 3, [37]), (36, .iconst (-1), 1, []), (37, .ireturn, 1, [])]
def mX3_valueOf : mmM := (yX3_valueOf, cX3_valueOf, 3, some .int, 1, 21, tbX3_valueOf)
def tbX3_numberOf : List mmI := [(0, .iload_n 2, 1, []), (1, .ifCond .lt 35, 3, [36]), (4, .iload_n 2, 1, []), (5, .aload_n 0, 1, []), (6, .getfield 26, 3, [3, 3, 301]), (9, .iload_n 1, 1, []), (10, .invokevirtual 93, 3, [0, 82, 2, 7, 742, 152, 58, 150, 151]), (13, .if_icmp .ge 23, 3, [36]), (16, .aload_n 0, 1, []), (17, .getfield 35, 3, [3, 6, 309]), (20, .aload_n 0, 1, []), (21, .getfield 29, 3, [3, 4, 305]), (24, .iload_n 1, 1, []), (25, .invokevirtual 93, 3, [0, 82, 2, 7, 742, 152, 58, 150, 151]), (28, .iload_n 2, 1, []), (29, .iadd, 1, []), (30, .invokevirtual 93, 3, [0, 82, 2, 7, 742, 152, 58, 150, 151]), (33, .goto 4, 3, [37]), (36, .iconst 0, 1, []), (37, .ireturn, 1, [])]
def mX3_numberOf : mmM := (yX3_numberOf, cX3_numberOf, 3, some .int, 1, 21, tbX3_numberOf)
def tbX3_allIn : List mmI := [(0, .iconst 0, 1, []), (1, .istore_n 2, 1, []), (2, .iconst 0, 1, []), (3, .istore_n 3, 1, []), (4, .iload_n 3, 1, []), (5, .aload_n 0, 1, []), (6, .getfield 56, 3, [3, 13, 337]), (9, .if_icmp .ge 17, 3, [26]), (12, .iload_n 2, 1, []), (13, .aload_n 1, 1, []), (14, .iload_n 3, 1, []), (15, .invokevirtual 93, 3, [0, 82, 2, 7, 742, 152, 58, 150, 151]), (18, .iadd, 1, []), (19, .istore_n 2, 1, []), (20, .iinc 3 1, 3, []), (23, .goto (-19), 3, [4]), (26, .iload_n 2, 1, []), (27, .ireturn, 1, [])]
def mX3_allIn : mmM := (yX3_allIn, cX3_allIn, 4, some .int, 1, 21, tbX3_allIn)
def tbX3_allPhis : List mmI := [(0, .iconst 0, 1, []), (1, .istore_n 1, 1, []), (2, .iconst 0, 1, []), (3, .istore_n 2, 1, []), (4, .iload_n 2, 1, []), (5, .aload_n 0, 1, []), (6, .getfield 63, 3, [3, 15, 348]), (9, .if_icmp .ge 42, 3, [51]), (12, .iload_n 1, 1, []), (13, .aload_n 0, 1, []), (14, .getfield 14, 3, [3, 0, 283]), (17, .iload_n 2, 1, []), (18, .invokevirtual 93, 3, [0, 82, 2, 7, 742, 152, 58, 150, 151]), (21, .bipush 9, 2, []), (23, .if_icmp .ne 19, 3, [42]), (26, .aload_n 0, 1, []), (27, .getfield 20, 3, [3, 1, 291]), (30, .iload_n 2, 1, []), (31, .invokevirtual 93, 3, [0, 82, 2, 7, 742, 152, 58, 150, 151]), (34, .iconst (-1), 1, []), (35, .if_icmp .eq 7, 3, [42]), (38, .iconst 1, 1, []), (39, .goto 4, 3, [43]), (42, .iconst 0, 1, []), (43, .iadd, 1, []), (44, .istore_n 1, 1, []), (45, .iinc 2 1, 3, []), (48, .goto (-44), 3, [4]), (51, .iload_n 1, 1, []), (52, .ireturn, 1, [])]
def mX3_allPhis : mmM := (yX3_allPhis, cX3_allPhis, 3, some .int, 1, 21, tbX3_allPhis)
def tbX3_usesOf : List mmI := [(0, .iconst 0, 1, []), (1, .istore_n 2, 1, []), (2, .iconst 0, 1, []), (3, .istore_n 3, 1, []), (4, .iload_n 3, 1, []), (5, .sipush 150, 3, []), (8, .if_icmp .ge 61, 3, [69]), (11, .iconst 0, 1, []), (12, .istore 4, 2, []), (14, .iload 4, 2, []), (16, .aload_n 0, 1, []), (17, .getfield 26, 3, [3, 3, 301]), (20, .iload_n 3, 1, []), (21, .invokevirtual 93, 3, [0, 82, 2, 7, 742, 152, 58, 150, 151]), (24, .if_icmp .ge 39, 3, [63]), (27, .iload_n 2, 1, []), (28, .aload_n 0, 1, []), (29, .getfield 32, 3, [3, 5, 307]), (32, .aload_n 0, 1, []), (33, .getfield 29, 3, [3, 4, 305]), (36, .iload_n 3, 1, []), (37, .invokevirtual 93, 3, [0, 82, 2, 7, 742, 152, 58, 150, 151]), (40, .iload 4, 2, []), (42, .iadd, 1, []), (43, .invokevirtual 93, 3, [0, 82, 2, 7, 742, 152, 58, 150, 151]), (46, .iload_n 1, 1, []), (47, .if_icmp .ne 7, 3, [54]), (50, .iconst 1, 1, []), (51, .goto 4, 3, [55]), (54, .iconst 0, 1, []), (55, .iadd, 1, []), (56, .istore_n 2, 1, []), (57, .iinc 4 1, 3, []), (60, .goto (-46), 3, [14]), (63, .iinc 3 1, 3, []), (66, .goto (-62), 3, [4]), (69, .iload_n 2, 1, []), (70, .ireturn, 1, [])]
def mX3_usesOf : mmM := (yX3_usesOf, cX3_usesOf, 5, some .int, 1, 21, tbX3_usesOf)
def tbX3_edgeOf : List mmI := [(0, .iconst 0, 1, []), (1, .istore_n 3, 1, []), (2, .iload_n 3, 1, []), (3, .aload_n 0, 1, []), (4, .getfield 44, 3, [3, 9, 319]), (7, .iload_n 1, 1, []), (8, .invokevirtual 93, 3, [0, 82, 2, 7, 742, 152, 58, 150, 151]), (11, .if_icmp .ge 28, 3, [39]), (14, .aload_n 0, 1, []), (15, .getfield 47, 3, [3, 10, 325]), (18, .iload_n 1, 1, []), (19, .bipush 20, 2, []), (21, .imul, 1, []), (22, .iload_n 3, 1, []), (23, .iadd, 1, []), (24, .invokevirtual 93, 3, [0, 82, 2, 7, 742, 152, 58, 150, 151]), (27, .iload_n 2, 1, []), (28, .if_icmp .ne 5, 3, [33]), (31, .iload_n 3, 1, []), (32, .ireturn, 1, []), (33, .iinc 3 1, 3, []), (36, .goto (-34), 3, [2]), (39, .iconst (-1), 1, []), (40, .ireturn, 1, [])]
def mX3_edgeOf : mmM := (yX3_edgeOf, cX3_edgeOf, 4, some .int, 1, 21, tbX3_edgeOf)
def tbX3_replace : List mmI := [(0, .aload_n 0, 1, []), (1, .iload_n 1, 1, []), (2, .iload_n 2, 1, []), (3, .iload_n 3, 1, []), (4, .invokevirtual 97, 3, [0, 44, 4, 3, 936, 939, 63, 937, 938]), (7, .aload_n 0, 1, []), (8, .iload_n 1, 1, []), (9, .invokevirtual 100, 3, [0, 45, 2, 3, 923, 926, 63, 924, 925]), (12, .return_, 1, [])]
def mX3_replace : mmM := (yX3_replace, cX3_replace, 4, none, 2, 48, tbX3_replace)
def tbX3_redirect : List mmI := [(0, .iconst 0, 1, []), (1, .istore 4, 2, []), (3, .iload 4, 2, []), (5, .sipush 150, 3, []), (8, .if_icmp .ge 80, 3, [88]), (11, .aload_n 0, 1, []), (12, .getfield 29, 3, [3, 4, 305]), (15, .iload 4, 2, []), (17, .invokevirtual 93, 3, [0, 82, 2, 7, 742, 152, 58, 150, 151]), (20, .istore 5, 2, []), (22, .iload 5, 2, []), (24, .istore 6, 2, []), (26, .iload 6, 2, []), (28, .iload 5, 2, []), (30, .aload_n 0, 1, []), (31, .getfield 26, 3, [3, 3, 301]), (34, .iload 4, 2, []), (36, .invokevirtual 93, 3, [0, 82, 2, 7, 742, 152, 58, 150, 151]), (39, .iadd, 1, []), (40, .if_icmp .ge 42, 3, [82]), (43, .aload_n 0, 1, []), (44, .getfield 32, 3, [3, 5, 307]), (47, .iload 6, 2, []), (49, .invokevirtual 93, 3, [0, 82, 2, 7, 742, 152, 58, 150, 151]), (52, .iload_n 1, 1, []), (53, .if_icmp .ne 23, 3, [76]), (56, .aload_n 0, 1, []), (57, .getfield 32, 3, [3, 5, 307]), (60, .iload 6, 2, []), (62, .iload_n 2, 1, []), (63, .invokevirtual 86, 3, [0, 83, 3, 7, 737, 164, 58, 162, 163]), (66, .aload_n 0, 1, []), (67, .getfield 35, 3, [3, 6, 309]), (70, .iload 6, 2, []), (72, .iload_n 3, 1, []), (73, .invokevirtual 86, 3, [0, 83, 3, 7, 737, 164, 58, 162, 163]), (76, .iinc 6 1, 3, []), (79, .goto (-53), 3, [26]), (82, .iinc 4 1, 3, []), (85, .goto (-82), 3, [3]), (88, .return_, 1, [])]
def mX3_redirect : mmM := (yX3_redirect, cX3_redirect, 7, none, 1, 22, tbX3_redirect)
def tbX3_lose : List mmI := [(0, .aload_n 0, 1, []), (1, .getfield 20, 3, [3, 1, 291]), (4, .iload_n 1, 1, []), (5, .invokevirtual 93, 3, [0, 82, 2, 7, 742, 152, 58, 150, 151]), (8, .iconst (-1), 1, []), (9, .if_icmp .ne 4, 3, [13]), (12, .return_, 1, []), (13, .aload_n 0, 1, []), (14, .getfield 20, 3, [3, 1, 291]), (17, .iload_n 1, 1, []), (18, .iconst (-1), 1, []), (19, .invokevirtual 86, 3, [0, 83, 3, 7, 737, 164, 58, 162, 163]), (22, .aload_n 0, 1, []), (23, .getfield 26, 3, [3, 3, 301]), (26, .iload_n 1, 1, []), (27, .iconst 0, 1, []), (28, .invokevirtual 86, 3, [0, 83, 3, 7, 737, 164, 58, 162, 163]), (31, .aload_n 0, 1, []), (32, .dup, 1, []), (33, .getfield 72, 3, [3, 18, 356]), (36, .iconst 1, 1, []), (37, .iadd, 1, []), (38, .putfield 72, 3, [3, 18, 0, 356]), (41, .return_, 1, [])]
def mX3_lose : mmM := (yX3_lose, cX3_lose, 2, none, 1, 22, tbX3_lose)
def tbX3_loseBlock : List mmI := [(0, .iconst 0, 1, []), (1, .istore_n 2, 1, []), (2, .iload_n 2, 1, []), (3, .aload_n 0, 1, []), (4, .getfield 38, 3, [3, 7, 311]), (7, .iload_n 1, 1, []), (8, .invokevirtual 93, 3, [0, 82, 2, 7, 742, 152, 58, 150, 151]), (11, .if_icmp .ge 33, 3, [44]), (14, .aload_n 0, 1, []), (15, .iload_n 1, 1, []), (16, .iload_n 2, 1, []), (17, .invokevirtual 103, 3, [0, 35, 3, 3, 906, 785, 63, 783, 784]), (20, .istore_n 3, 1, []), (21, .aload_n 0, 1, []), (22, .getfield 20, 3, [3, 1, 291]), (25, .iload_n 3, 1, []), (26, .invokevirtual 93, 3, [0, 82, 2, 7, 742, 152, 58, 150, 151]), (29, .iload_n 1, 1, []), (30, .if_icmp .ne 8, 3, [38]), (33, .aload_n 0, 1, []), (34, .iload_n 3, 1, []), (35, .invokevirtual 100, 3, [0, 45, 2, 3, 923, 926, 63, 924, 925]), (38, .iinc 2 1, 3, []), (41, .goto (-39), 3, [2]), (44, .aload_n 0, 1, []), (45, .getfield 38, 3, [3, 7, 311]), (48, .iload_n 1, 1, []), (49, .iconst 0, 1, []), (50, .invokevirtual 86, 3, [0, 83, 3, 7, 737, 164, 58, 162, 163]), (53, .aload_n 0, 1, []), (54, .getfield 44, 3, [3, 9, 319]), (57, .iload_n 1, 1, []), (58, .iconst 0, 1, []), (59, .invokevirtual 86, 3, [0, 83, 3, 7, 737, 164, 58, 162, 163]), (62, .aload_n 0, 1, []), (63, .getfield 26, 3, [3, 3, 301]), (66, .sipush 140, 3, []), (69, .iload_n 1, 1, []), (70, .iadd, 1, []), (71, .iconst 0, 1, []), (72, .invokevirtual 86, 3, [0, 83, 3, 7, 737, 164, 58, 162, 163]), (75, .aload_n 0, 1, []), (76, .dup, 1, []), (77, .getfield 60, 3, [3, 14, 343]), (80, .iload_n 1, 1, []), (81, .invokestatic 107, 3, [3, 151, 1, 11, 927, 160, 56, 159, 0]), (84, .iconst (-1), 1, []), (85, .ixor, 1, []), (86, .iand, 1, []), (87, .putfield 60, 3, [3, 14, 0, 343]), (90, .aload_n 0, 1, []), (91, .dup, 1, []), (92, .getfield 72, 3, [3, 18, 356]), (95, .iconst 1, 1, []), (96, .iadd, 1, []), (97, .putfield 72, 3, [3, 18, 0, 356]), (100, .return_, 1, [])]
def mX3_loseBlock : mmM := (yX3_loseBlock, cX3_loseBlock, 4, none, 2, 43, tbX3_loseBlock)
def tbX3_sweep : List mmI := [(0, .iconst 0, 1, []), (1, .istore_n 1, 1, []), (2, .iload_n 1, 1, []), (3, .aload_n 0, 1, []), (4, .getfield 56, 3, [3, 13, 337]), (7, .if_icmp .ge 89, 3, [96]), (10, .iload_n 1, 1, []), (11, .sipush 140, 3, []), (14, .imul, 1, []), (15, .istore_n 2, 1, []), (16, .iconst 0, 1, []), (17, .istore_n 3, 1, []), (18, .iconst 0, 1, []), (19, .istore 4, 2, []), (21, .iload 4, 2, []), (23, .aload_n 0, 1, []), (24, .getfield 38, 3, [3, 7, 311]), (27, .iload_n 1, 1, []), (28, .invokevirtual 93, 3, [0, 82, 2, 7, 742, 152, 58, 150, 151]), (31, .if_icmp .ge 50, 3, [81]), (34, .aload_n 0, 1, []), (35, .getfield 41, 3, [3, 8, 318]), (38, .iload_n 2, 1, []), (39, .iload 4, 2, []), (41, .iadd, 1, []), (42, .invokevirtual 93, 3, [0, 82, 2, 7, 742, 152, 58, 150, 151]), (45, .istore 5, 2, []), (47, .aload_n 0, 1, []), (48, .getfield 20, 3, [3, 1, 291]), (51, .iload 5, 2, []), (53, .invokevirtual 93, 3, [0, 82, 2, 7, 742, 152, 58, 150, 151]), (56, .iload_n 1, 1, []), (57, .if_icmp .ne 18, 3, [75]), (60, .aload_n 0, 1, []), (61, .getfield 41, 3, [3, 8, 318]), (64, .iload_n 2, 1, []), (65, .iload_n 3, 1, []), (66, .iadd, 1, []), (67, .iload 5, 2, []), (69, .invokevirtual 86, 3, [0, 83, 3, 7, 737, 164, 58, 162, 163]), (72, .iinc 3 1, 3, []), (75, .iinc 4 1, 3, []), (78, .goto (-57), 3, [21]), (81, .aload_n 0, 1, []), (82, .getfield 38, 3, [3, 7, 311]), (85, .iload_n 1, 1, []), (86, .iload_n 3, 1, []), (87, .invokevirtual 86, 3, [0, 83, 3, 7, 737, 164, 58, 162, 163]), (90, .iinc 1 1, 3, []), (93, .goto (-91), 3, [2]), (96, .return_, 1, [])]
def mX3_sweep : mmM := (yX3_sweep, cX3_sweep, 6, none, 1, 22, tbX3_sweep)
def tbX3_dropEdge : List mmI := [(0, .aload_n 0, 1, []), (1, .getfield 53, 3, [3, 12, 332]), (4, .iload_n 1, 1, []), (5, .invokevirtual 93, 3, [0, 82, 2, 7, 742, 152, 58, 150, 151]), (8, .istore_n 2, 1, []), (9, .iload_n 2, 1, []), (10, .iconst (-1), 1, []), (11, .if_icmp .ne 7, 3, [18]), (14, .iconst (-1), 1, []), (15, .goto 9, 3, [24]), (18, .aload_n 0, 1, []), (19, .iload_n 2, 1, []), (20, .iload_n 1, 1, []), (21, .invokevirtual 110, 3, [0, 42, 3, 3, 902, 905, 63, 903, 904]), (24, .istore_n 3, 1, []), (25, .iload_n 3, 1, []), (26, .iconst (-1), 1, []), (27, .if_icmp .ne 4, 3, [31]), (30, .return_, 1, []), (31, .iconst 0, 1, []), (32, .istore 4, 2, []), (34, .iload 4, 2, []), (36, .aload_n 0, 1, []), (37, .getfield 38, 3, [3, 7, 311]), (40, .iload_n 2, 1, []), (41, .invokevirtual 93, 3, [0, 82, 2, 7, 742, 152, 58, 150, 151]), (44, .if_icmp .ge 39, 3, [83]), (47, .aload_n 0, 1, []), (48, .iload_n 2, 1, []), (49, .iload 4, 2, []), (51, .invokevirtual 103, 3, [0, 35, 3, 3, 906, 785, 63, 783, 784]), (54, .istore 5, 2, []), (56, .aload_n 0, 1, []), (57, .getfield 14, 3, [3, 0, 283]), (60, .iload 5, 2, []), (62, .invokevirtual 93, 3, [0, 82, 2, 7, 742, 152, 58, 150, 151]), (65, .bipush 9, 2, []), (67, .if_icmp .ne 10, 3, [77]), (70, .aload_n 0, 1, []), (71, .iload 5, 2, []), (73, .iload_n 3, 1, []), (74, .invokevirtual 113, 3, [0, 49, 3, 3, 907, 910, 63, 909, 31]), (77, .iinc 4 1, 3, []), (80, .goto (-46), 3, [34]), (83, .iload_n 2, 1, []), (84, .bipush 20, 2, []), (86, .imul, 1, []), (87, .istore 4, 2, []), (89, .aload_n 0, 1, []), (90, .getfield 44, 3, [3, 9, 319]), (93, .iload_n 2, 1, []), (94, .invokevirtual 93, 3, [0, 82, 2, 7, 742, 152, 58, 150, 151]), (97, .iconst 1, 1, []), (98, .isub, 1, []), (99, .istore 5, 2, []), (101, .iload_n 3, 1, []), (102, .istore 6, 2, []), (104, .iload 6, 2, []), (106, .iload 5, 2, []), (108, .if_icmp .ge 35, 3, [143]), (111, .aload_n 0, 1, []), (112, .getfield 47, 3, [3, 10, 325]), (115, .iload 4, 2, []), (117, .iload 6, 2, []), (119, .iadd, 1, []), (120, .aload_n 0, 1, []), (121, .getfield 47, 3, [3, 10, 325]), (124, .iload 4, 2, []), (126, .iload 6, 2, []), (128, .iadd, 1, []), (129, .iconst 1, 1, []), (130, .iadd, 1, []), (131, .invokevirtual 93, 3, [0, 82, 2, 7, 742, 152, 58, 150, 151]), (134, .invokevirtual 86, 3, [0, 83, 3, 7, 737, 164, 58, 162, 163]), (137, .iinc 6 1, 3, []), (140, .goto (-36), 3, [104]), (143, .aload_n 0, 1, []), (144, .getfield 44, 3, [3, 9, 319]), (147, .iload_n 2, 1, []), (148, .iload 5, 2, []), (150, .invokevirtual 86, 3, [0, 83, 3, 7, 737, 164, 58, 162, 163]), (153, .aload_n 0, 1, []), (154, .getfield 53, 3, [3, 12, 332]), (157, .iload_n 1, 1, []), (158, .iconst (-1), 1, []), (159, .invokevirtual 86, 3, [0, 83, 3, 7, 737, 164, 58, 162, 163]), (162, .return_, 1, [])]
def mX3_dropEdge : mmM := (yX3_dropEdge, cX3_dropEdge, 7, none, 2, 47, tbX3_dropEdge)
def tbX3_dropArgument : List mmI := [(0, .aload_n 0, 1, []), (1, .getfield 29, 3, [3, 4, 305]), (4, .iload_n 1, 1, []), (5, .invokevirtual 93, 3, [0, 82, 2, 7, 742, 152, 58, 150, 151]), (8, .istore_n 3, 1, []), (9, .aload_n 0, 1, []), (10, .getfield 26, 3, [3, 3, 301]), (13, .iload_n 1, 1, []), (14, .invokevirtual 93, 3, [0, 82, 2, 7, 742, 152, 58, 150, 151]), (17, .iconst 1, 1, []), (18, .isub, 1, []), (19, .istore 4, 2, []), (21, .iload_n 2, 1, []), (22, .iload 4, 2, []), (24, .if_icmp .le 4, 3, [28]), (27, .return_, 1, []), (28, .iload_n 3, 1, []), (29, .iload_n 2, 1, []), (30, .iadd, 1, []), (31, .istore 5, 2, []), (33, .iload 5, 2, []), (35, .iload_n 3, 1, []), (36, .iload 4, 2, []), (38, .iadd, 1, []), (39, .if_icmp .ge 49, 3, [88]), (42, .aload_n 0, 1, []), (43, .getfield 32, 3, [3, 5, 307]), (46, .iload 5, 2, []), (48, .aload_n 0, 1, []), (49, .getfield 32, 3, [3, 5, 307]), (52, .iload 5, 2, []), (54, .iconst 1, 1, []), (55, .iadd, 1, []), (56, .invokevirtual 93, 3, [0, 82, 2, 7, 742, 152, 58, 150, 151]), (59, .invokevirtual 86, 3, [0, 83, 3, 7, 737, 164, 58, 162, 163]), (62, .aload_n 0, 1, []), (63, .getfield 35, 3, [3, 6, 309]), (66, .iload 5, 2, []), (68, .aload_n 0, 1, []), (69, .getfield 35, 3, [3, 6, 309]), (72, .iload 5, 2, []), (74, .iconst 1, 1, []), (75, .iadd, 1, []), (76, .invokevirtual 93, 3, [0, 82, 2, 7, 742, 152, 58, 150, 151]), (79, .invokevirtual 86, 3, [0, 83, 3, 7, 737, 164, 58, 162, 163]), (82, .iinc 5 1, 3, []), (85, .goto (-52), 3, [33]), (88, .aload_n 0, 1, []), (89, .getfield 26, 3, [3, 3, 301]), (92, .iload_n 1, 1, []), (93, .iload 4, 2, []), (95, .invokevirtual 86, 3, [0, 83, 3, 7, 737, 164, 58, 162, 163]), (98, .return_, 1, [])]
def mX3_dropArgument : mmM := (yX3_dropArgument, cX3_dropArgument, 6, none, 1, 22, tbX3_dropArgument)
def tbX3_changeWay : List mmI := [(0, .aload_n 0, 1, []), (1, .getfield 53, 3, [3, 12, 332]), (4, .iload_n 1, 1, []), (5, .invokevirtual 93, 3, [0, 82, 2, 7, 742, 152, 58, 150, 151]), (8, .istore_n 3, 1, []), (9, .iload_n 3, 1, []), (10, .iconst (-1), 1, []), (11, .if_icmp .ne 7, 3, [18]), (14, .iconst (-1), 1, []), (15, .goto 9, 3, [24]), (18, .aload_n 0, 1, []), (19, .iload_n 3, 1, []), (20, .iload_n 1, 1, []), (21, .invokevirtual 110, 3, [0, 42, 3, 3, 902, 905, 63, 903, 904]), (24, .istore 4, 2, []), (26, .iload 4, 2, []), (28, .iconst (-1), 1, []), (29, .if_icmp .eq 8, 3, [37]), (32, .iload_n 1, 1, []), (33, .iload_n 2, 1, []), (34, .if_icmp .ne 4, 3, [38]), (37, .return_, 1, []), (38, .aload_n 0, 1, []), (39, .getfield 47, 3, [3, 10, 325]), (42, .iload_n 3, 1, []), (43, .bipush 20, 2, []), (45, .imul, 1, []), (46, .iload 4, 2, []), (48, .iadd, 1, []), (49, .iload_n 2, 1, []), (50, .invokevirtual 86, 3, [0, 83, 3, 7, 737, 164, 58, 162, 163]), (53, .aload_n 0, 1, []), (54, .getfield 53, 3, [3, 12, 332]), (57, .iload_n 2, 1, []), (58, .iload_n 3, 1, []), (59, .invokevirtual 86, 3, [0, 83, 3, 7, 737, 164, 58, 162, 163]), (62, .aload_n 0, 1, []), (63, .getfield 53, 3, [3, 12, 332]), (66, .iload_n 1, 1, []), (67, .iconst (-1), 1, []), (68, .invokevirtual 86, 3, [0, 83, 3, 7, 737, 164, 58, 162, 163]), (71, .return_, 1, [])]
def mX3_changeWay : mmM := (yX3_changeWay, cX3_changeWay, 5, none, 2, 44, tbX3_changeWay)
def tbX3_takeEnd : List mmI := [(0, .aload_n 0, 1, []), (1, .getfield 50, 3, [3, 11, 326]), (4, .iload_n 1, 1, []), (5, .aload_n 0, 1, []), (6, .getfield 50, 3, [3, 11, 326]), (9, .iload_n 2, 1, []), (10, .invokevirtual 93, 3, [0, 82, 2, 7, 742, 152, 58, 150, 151]), (13, .invokevirtual 86, 3, [0, 83, 3, 7, 737, 164, 58, 162, 163]), (16, .aload_n 0, 1, []), (17, .getfield 29, 3, [3, 4, 305]), (20, .sipush 140, 3, []), (23, .iload_n 1, 1, []), (24, .iadd, 1, []), (25, .aload_n 0, 1, []), (26, .getfield 29, 3, [3, 4, 305]), (29, .sipush 140, 3, []), (32, .iload_n 2, 1, []), (33, .iadd, 1, []), (34, .invokevirtual 93, 3, [0, 82, 2, 7, 742, 152, 58, 150, 151]), (37, .invokevirtual 86, 3, [0, 83, 3, 7, 737, 164, 58, 162, 163]), (40, .aload_n 0, 1, []), (41, .getfield 26, 3, [3, 3, 301]), (44, .sipush 140, 3, []), (47, .iload_n 1, 1, []), (48, .iadd, 1, []), (49, .aload_n 0, 1, []), (50, .getfield 26, 3, [3, 3, 301]), (53, .sipush 140, 3, []), (56, .iload_n 2, 1, []), (57, .iadd, 1, []), (58, .invokevirtual 93, 3, [0, 82, 2, 7, 742, 152, 58, 150, 151]), (61, .invokevirtual 86, 3, [0, 83, 3, 7, 737, 164, 58, 162, 163]), (64, .aload_n 0, 1, []), (65, .getfield 26, 3, [3, 3, 301]), (68, .sipush 140, 3, []), (71, .iload_n 2, 1, []), (72, .iadd, 1, []), (73, .iconst 0, 1, []), (74, .invokevirtual 86, 3, [0, 83, 3, 7, 737, 164, 58, 162, 163]), (77, .return_, 1, [])]
def mX3_takeEnd : mmM := (yX3_takeEnd, cX3_takeEnd, 3, none, 1, 22, tbX3_takeEnd)
def tbX3_hasSameArguments : List mmI := [(0, .aload_n 0, 1, []), (1, .getfield 26, 3, [3, 3, 301]), (4, .iload_n 1, 1, []), (5, .invokevirtual 93, 3, [0, 82, 2, 7, 742, 152, 58, 150, 151]), (8, .istore_n 3, 1, []), (9, .aload_n 0, 1, []), (10, .getfield 29, 3, [3, 4, 305]), (13, .iload_n 1, 1, []), (14, .invokevirtual 93, 3, [0, 82, 2, 7, 742, 152, 58, 150, 151]), (17, .istore 4, 2, []), (19, .aload_n 0, 1, []), (20, .getfield 29, 3, [3, 4, 305]), (23, .iload_n 2, 1, []), (24, .invokevirtual 93, 3, [0, 82, 2, 7, 742, 152, 58, 150, 151]), (27, .istore 5, 2, []), (29, .iload_n 3, 1, []), (30, .aload_n 0, 1, []), (31, .getfield 26, 3, [3, 3, 301]), (34, .iload_n 2, 1, []), (35, .invokevirtual 93, 3, [0, 82, 2, 7, 742, 152, 58, 150, 151]), (38, .if_icmp .ne 7, 3, [45]), (41, .iconst 1, 1, []), (42, .goto 4, 3, [46]), (45, .iconst 0, 1, []), (46, .istore 6, 2, []), (48, .iconst 0, 1, []), (49, .istore 7, 2, []), (51, .iload 7, 2, []), (53, .iload_n 3, 1, []), (54, .if_icmp .ge 75, 3, [129]), (57, .iload 6, 2, []), (59, .ifCond .eq 61, 3, [120]), (62, .aload_n 0, 1, []), (63, .getfield 32, 3, [3, 5, 307]), (66, .iload 4, 2, []), (68, .iload 7, 2, []), (70, .iadd, 1, []), (71, .invokevirtual 93, 3, [0, 82, 2, 7, 742, 152, 58, 150, 151]), (74, .aload_n 0, 1, []), (75, .getfield 32, 3, [3, 5, 307]), (78, .iload 5, 2, []), (80, .iload 7, 2, []), (82, .iadd, 1, []), (83, .invokevirtual 93, 3, [0, 82, 2, 7, 742, 152, 58, 150, 151]), (86, .if_icmp .ne 34, 3, [120]), (89, .aload_n 0, 1, []), (90, .getfield 35, 3, [3, 6, 309]), (93, .iload 4, 2, []), (95, .iload 7, 2, []), (97, .iadd, 1, []), (98, .invokevirtual 93, 3, [0, 82, 2, 7, 742, 152, 58, 150, 151]), (101, .aload_n 0, 1, []), (102, .getfield 35, 3, [3, 6, 309]), (105, .iload 5, 2, []), (107, .iload 7, 2, []), (109, .iadd, 1, []), (110, .invokevirtual 93, 3, [0, 82, 2, 7, 742, 152, 58, 150, 151]), (113, .if_icmp .ne 7, 3, [120]), (116, .iconst 1, 1, []), (117, .goto 4, 3, [121]), (120, .iconst 0, 1, []), (121, .istore 6, 2, []), (123, .iinc 7 1, 3, []), (126, .goto (-75), 3, [51]), (129, .iload 6, 2, []), (131, .ireturn, 1, [1])]
def mX3_hasSameArguments : mmM := (yX3_hasSameArguments, cX3_hasSameArguments, 8, some .boolean, 1, 21, tbX3_hasSameArguments)
def tbX3_hasCrossedArguments : List mmI := [(0, .aload_n 0, 1, []), (1, .getfield 29, 3, [3, 4, 305]), (4, .iload_n 1, 1, []), (5, .invokevirtual 93, 3, [0, 82, 2, 7, 742, 152, 58, 150, 151]), (8, .istore_n 3, 1, []), (9, .aload_n 0, 1, []), (10, .getfield 29, 3, [3, 4, 305]), (13, .iload_n 2, 1, []), (14, .invokevirtual 93, 3, [0, 82, 2, 7, 742, 152, 58, 150, 151]), (17, .istore 4, 2, []), (19, .aload_n 0, 1, []), (20, .getfield 32, 3, [3, 5, 307]), (23, .iload_n 3, 1, []), (24, .invokevirtual 93, 3, [0, 82, 2, 7, 742, 152, 58, 150, 151]), (27, .aload_n 0, 1, []), (28, .getfield 32, 3, [3, 5, 307]), (31, .iload 4, 2, []), (33, .iconst 1, 1, []), (34, .iadd, 1, []), (35, .invokevirtual 93, 3, [0, 82, 2, 7, 742, 152, 58, 150, 151]), (38, .if_icmp .ne 73, 3, [111]), (41, .aload_n 0, 1, []), (42, .getfield 35, 3, [3, 6, 309]), (45, .iload_n 3, 1, []), (46, .invokevirtual 93, 3, [0, 82, 2, 7, 742, 152, 58, 150, 151]), (49, .aload_n 0, 1, []), (50, .getfield 35, 3, [3, 6, 309]), (53, .iload 4, 2, []), (55, .iconst 1, 1, []), (56, .iadd, 1, []), (57, .invokevirtual 93, 3, [0, 82, 2, 7, 742, 152, 58, 150, 151]), (60, .if_icmp .ne 51, 3, [111]), (63, .aload_n 0, 1, []), (64, .getfield 32, 3, [3, 5, 307]), (67, .iload_n 3, 1, []), (68, .iconst 1, 1, []), (69, .iadd, 1, []), (70, .invokevirtual 93, 3, [0, 82, 2, 7, 742, 152, 58, 150, 151]), (73, .aload_n 0, 1, []), (74, .getfield 32, 3, [3, 5, 307]), (77, .iload 4, 2, []), (79, .invokevirtual 93, 3, [0, 82, 2, 7, 742, 152, 58, 150, 151]), (82, .if_icmp .ne 29, 3, [111]), (85, .aload_n 0, 1, []), (86, .getfield 35, 3, [3, 6, 309]), (89, .iload_n 3, 1, []), (90, .iconst 1, 1, []), (91, .iadd, 1, []), (92, .invokevirtual 93, 3, [0, 82, 2, 7, 742, 152, 58, 150, 151]), (95, .aload_n 0, 1, []), (96, .getfield 35, 3, [3, 6, 309]), (99, .iload 4, 2, []), (101, .invokevirtual 93, 3, [0, 82, 2, 7, 742, 152, 58, 150, 151]), (104, .if_icmp .ne 7, 3, [111]), (107, .iconst 1, 1, []), (108, .goto 4, 3, [112]), (111, .iconst 0, 1, []), (112, .ireturn, 1, [1])]
def mX3_hasCrossedArguments : mmM := (yX3_hasCrossedArguments, cX3_hasCrossedArguments, 5, some .boolean, 1, 21, tbX3_hasCrossedArguments)
def tbX3_soleArgument : List mmI := [(0, .aload_n 0, 1, []), (1, .getfield 29, 3, [3, 4, 305]), (4, .iload_n 1, 1, []), (5, .invokevirtual 93, 3, [0, 82, 2, 7, 742, 152, 58, 150, 151]), (8, .istore_n 2, 1, []), (9, .iconst (-1), 1, []), (10, .istore_n 3, 1, []), (11, .iconst 0, 1, []), (12, .istore 4, 2, []), (14, .iload 4, 2, []), (16, .aload_n 0, 1, []), (17, .getfield 26, 3, [3, 3, 301]), (20, .iload_n 1, 1, []), (21, .invokevirtual 93, 3, [0, 82, 2, 7, 742, 152, 58, 150, 151]), (24, .if_icmp .ge 83, 3, [107]), (27, .aload_n 0, 1, []), (28, .getfield 32, 3, [3, 5, 307]), (31, .iload_n 2, 1, []), (32, .iload 4, 2, []), (34, .iadd, 1, []), (35, .invokevirtual 93, 3, [0, 82, 2, 7, 742, 152, 58, 150, 151]), (38, .istore 5, 2, []), (40, .iload 5, 2, []), (42, .iload_n 1, 1, []), (43, .if_icmp .ne 6, 3, [49]), (46, .goto 55, 3, [101]), (49, .iload_n 3, 1, []), (50, .iconst (-1), 1, []), (51, .if_icmp .ne 9, 3, [60]), (54, .iload 4, 2, []), (56, .istore_n 3, 1, []), (57, .goto 44, 3, [101]), (60, .iload 5, 2, []), (62, .aload_n 0, 1, []), (63, .getfield 32, 3, [3, 5, 307]), (66, .iload_n 2, 1, []), (67, .iload_n 3, 1, []), (68, .iadd, 1, []), (69, .invokevirtual 93, 3, [0, 82, 2, 7, 742, 152, 58, 150, 151]), (72, .if_icmp .ne 27, 3, [99]), (75, .aload_n 0, 1, []), (76, .getfield 35, 3, [3, 6, 309]), (79, .iload_n 2, 1, []), (80, .iload 4, 2, []), (82, .iadd, 1, []), (83, .invokevirtual 93, 3, [0, 82, 2, 7, 742, 152, 58, 150, 151]), (86, .aload_n 0, 1, []), (87, .getfield 35, 3, [3, 6, 309]), (90, .iload_n 2, 1, []), (91, .iload_n 3, 1, []), (92, .iadd, 1, []), (93, .invokevirtual 93, 3, [0, 82, 2, 7, 742, 152, 58, 150, 151]), (96, .if_icmp .eq 5, 3, [101]), (99, .iconst (-1), 1, []), (100, .ireturn, 1, []), (101, .iinc 4 1, 3, []), (104, .goto (-90), 3, [14]), (107, .iload_n 3, 1, []), (108, .ireturn, 1, [])]
def mX3_soleArgument : mmM := (yX3_soleArgument, cX3_soleArgument, 6, some .int, 1, 21, tbX3_soleArgument)
def tbX4_init : List mmI := [(0, .aload_n 0, 1, []), (1, .invokespecial 3, 3, [9, 471, 0]), (4, .return_, 1, [])]
def mX4_init : mmM := (yX4_init, cX4_init, 1, none, 1, 20, tbX4_init)
def tbX4_goOver : List mmI := [(0, .iconst 0, 1, []), (1, .istore_n 2, 1, []), (2, .iload_n 2, 1, []), (3, .bipush 10, 2, []), (5, .if_icmp .ge 52, 3, [57]), (8, .aload_n 1, 1, []), (9, .invokestatic 9, 3, [2, 57, 1, 4, 1018, 1020, 68, 1019, 0]), (12, .istore_n 3, 1, []), (13, .iload_n 3, 1, []), (14, .iconst (-1), 1, []), (15, .if_icmp .ne 4, 3, [19]), (18, .return_, 1, []), (19, .aload_n 1, 1, []), (20, .getfield 15, 3, [3, 12, 333]), (23, .iload_n 3, 1, []), (24, .iconst 2, 1, []), (25, .imul, 1, []), (26, .invokevirtual 21, 3, [0, 82, 2, 7, 1021, 152, 58, 150, 151]), (29, .istore 4, 2, []), (31, .aload_n 1, 1, []), (32, .iload_n 3, 1, []), (33, .iload 4, 2, []), (35, .invokestatic 27, 3, [2, 58, 3, 4, 1023, 1025, 68, 1024, 0]), (38, .aload_n 1, 1, []), (39, .iload_n 3, 1, []), (40, .iload 4, 2, []), (42, .invokestatic 31, 3, [2, 59, 3, 4, 1031, 1033, 68, 1032, 0]), (45, .aload_n 1, 1, []), (46, .iload 4, 2, []), (48, .invokevirtual 34, 3, [0, 46, 2, 3, 1040, 922, 63, 920, 921]), (51, .iinc 2 1, 3, []), (54, .goto (-52), 3, [2]), (57, .return_, 1, [])]
def mX4_goOver : mmM := (yX4_goOver, cX4_goOver, 5, none, 4, 96, tbX4_goOver)
def tbX4_firstToJoin : List mmI := [(0, .iconst 0, 1, []), (1, .istore_n 1, 1, []), (2, .iload_n 1, 1, []), (3, .aload_n 0, 1, []), (4, .getfield 38, 3, [3, 13, 340]), (7, .if_icmp .ge 62, 3, [69]), (10, .aload_n 0, 1, []), (11, .getfield 15, 3, [3, 12, 333]), (14, .iload_n 1, 1, []), (15, .iconst 2, 1, []), (16, .imul, 1, []), (17, .invokevirtual 21, 3, [0, 82, 2, 7, 1021, 152, 58, 150, 151]), (20, .istore_n 2, 1, []), (21, .aload_n 0, 1, []), (22, .getfield 42, 3, [3, 14, 345]), (25, .iload_n 1, 1, []), (26, .invokestatic 45, 3, [3, 152, 2, 11, 1022, 187, 56, 186, 0]), (29, .ifCond .eq 34, 3, [63]), (32, .aload_n 0, 1, []), (33, .getfield 49, 3, [3, 11, 327]), (36, .iload_n 1, 1, []), (37, .invokevirtual 21, 3, [0, 82, 2, 7, 1021, 152, 58, 150, 151]), (40, .iconst 1, 1, []), (41, .if_icmp .ne 22, 3, [63]), (44, .iload_n 2, 1, []), (45, .iload_n 1, 1, []), (46, .if_icmp .eq 17, 3, [63]), (49, .aload_n 0, 1, []), (50, .getfield 52, 3, [3, 9, 321]), (53, .iload_n 2, 1, []), (54, .invokevirtual 21, 3, [0, 82, 2, 7, 1021, 152, 58, 150, 151]), (57, .iconst 1, 1, []), (58, .if_icmp .ne 5, 3, [63]), (61, .iload_n 1, 1, []), (62, .ireturn, 1, []), (63, .iinc 1 1, 3, []), (66, .goto (-64), 3, [2]), (69, .iconst (-1), 1, []), (70, .ireturn, 1, [])]
def mX4_firstToJoin : mmM := (yX4_firstToJoin, cX4_firstToJoin, 3, some .int, 1, 21, tbX4_firstToJoin)
def tbX4_moveValues : List mmI := [(0, .iconst 0, 1, []), (1, .istore_n 3, 1, []), (2, .iload_n 3, 1, []), (3, .aload_n 0, 1, []), (4, .getfield 55, 3, [3, 7, 314]), (7, .iload_n 2, 1, []), (8, .invokevirtual 21, 3, [0, 82, 2, 7, 1021, 152, 58, 150, 151]), (11, .if_icmp .ge 74, 3, [85]), (14, .aload_n 0, 1, []), (15, .iload_n 2, 1, []), (16, .iload_n 3, 1, []), (17, .invokevirtual 58, 3, [0, 35, 3, 3, 1026, 785, 63, 783, 784]), (20, .istore 4, 2, []), (22, .aload_n 0, 1, []), (23, .getfield 62, 3, [3, 0, 287]), (26, .iload 4, 2, []), (28, .invokevirtual 21, 3, [0, 82, 2, 7, 1021, 152, 58, 150, 151]), (31, .bipush 9, 2, []), (33, .if_icmp .ne 26, 3, [59]), (36, .aload_n 0, 1, []), (37, .iload 4, 2, []), (39, .aload_n 0, 1, []), (40, .iload 4, 2, []), (42, .iconst 0, 1, []), (43, .invokevirtual 65, 3, [0, 37, 3, 3, 1027, 987, 63, 985, 986]), (46, .aload_n 0, 1, []), (47, .iload 4, 2, []), (49, .iconst 0, 1, []), (50, .invokevirtual 68, 3, [0, 38, 3, 3, 1028, 991, 63, 989, 990]), (53, .invokevirtual 71, 3, [0, 43, 4, 3, 1029, 935, 63, 933, 934]), (56, .goto 23, 3, [79]), (59, .aload_n 0, 1, []), (60, .getfield 75, 3, [3, 1, 293]), (63, .iload 4, 2, []), (65, .invokevirtual 21, 3, [0, 82, 2, 7, 1021, 152, 58, 150, 151]), (68, .iload_n 2, 1, []), (69, .if_icmp .ne 10, 3, [79]), (72, .aload_n 0, 1, []), (73, .iload 4, 2, []), (75, .iload_n 1, 1, []), (76, .invokevirtual 78, 3, [0, 32, 3, 3, 1030, 741, 63, 739, 740]), (79, .iinc 3 1, 3, []), (82, .goto (-80), 3, [2]), (85, .return_, 1, [])]
def mX4_moveValues : mmM := (yX4_moveValues, cX4_moveValues, 5, none, 3, 71, tbX4_moveValues)
def tbX4_moveEnd : List mmI := [(0, .aload_n 0, 1, []), (1, .iload_n 1, 1, []), (2, .iconst 2, 1, []), (3, .imul, 1, []), (4, .invokevirtual 82, 3, [0, 48, 2, 3, 1034, 901, 63, 899, 900]), (7, .iconst 0, 1, []), (8, .istore_n 3, 1, []), (9, .iload_n 3, 1, []), (10, .iconst 2, 1, []), (11, .if_icmp .ge 23, 3, [34]), (14, .aload_n 0, 1, []), (15, .iload_n 2, 1, []), (16, .iconst 2, 1, []), (17, .imul, 1, []), (18, .iload_n 3, 1, []), (19, .iadd, 1, []), (20, .iload_n 1, 1, []), (21, .iconst 2, 1, []), (22, .imul, 1, []), (23, .iload_n 3, 1, []), (24, .iadd, 1, []), (25, .invokevirtual 85, 3, [0, 50, 3, 3, 1035, 914, 63, 912, 913]), (28, .iinc 3 1, 3, []), (31, .goto (-22), 3, [9]), (34, .aload_n 0, 1, []), (35, .iload_n 1, 1, []), (36, .iload_n 2, 1, []), (37, .invokevirtual 88, 3, [0, 51, 3, 3, 1036, 1039, 63, 1037, 1038]), (40, .return_, 1, [])]
def mX4_moveEnd : mmM := (yX4_moveEnd, cX4_moveEnd, 4, none, 3, 73, tbX4_moveEnd)
def tbX5_init : List mmI := [(0, .aload_n 0, 1, []), (1, .invokespecial 3, 3, [9, 402, 0]), (4, .aload_n 0, 1, []), (5, .new 9, 3, [7, 403, 94, 58]), (8, .dup, 1, []), (9, .bipush 60, 2, []), (11, .invokespecial 11, 3, [4, 81, 2, 7, 404, 97, 58, 96, 0]), (14, .putfield 14, 3, [5, 0, 3, 405]), (17, .aload_n 0, 1, []), (18, .new 9, 3, [7, 403, 94, 58]), (21, .dup, 1, []), (22, .bipush 60, 2, []), (24, .invokespecial 11, 3, [4, 81, 2, 7, 404, 97, 58, 96, 0]), (27, .putfield 20, 3, [5, 1, 3, 406]), (30, .aload_n 0, 1, []), (31, .new 9, 3, [7, 403, 94, 58]), (34, .dup, 1, []), (35, .bipush 10, 2, []), (37, .invokespecial 11, 3, [4, 81, 2, 7, 404, 97, 58, 96, 0]), (40, .putfield 23, 3, [5, 2, 3, 407]), (43, .return_, 1, [])]
def mX5_init : mmM := (yX5_init, cX5_init, 1, none, 2, 41, tbX5_init)
def tbX5_make : List mmI := [(0, .aload_n 2, 1, []), (1, .aload_n 1, 1, []), (2, .getfield 26, 3, [10, 12, 246]), (5, .aload_n 1, 1, []), (6, .getfield 32, 3, [10, 11, 243]), (9, .getfield 36, 3, [2, 4, 120]), (12, .invokevirtual 41, 3, [0, 29, 3, 3, 728, 731, 63, 729, 730]), (15, .aload_n 0, 1, []), (16, .aload_n 1, 1, []), (17, .invokevirtual 47, 3, [0, 62, 2, 5, 743, 746, 64, 745, 8]), (20, .iconst 0, 1, []), (21, .istore_n 3, 1, []), (22, .iload_n 3, 1, []), (23, .aload_n 1, 1, []), (24, .getfield 26, 3, [10, 12, 246]), (27, .if_icmp .ge 34, 3, [61]), (30, .aload_n 2, 1, []), (31, .getfield 51, 3, [3, 14, 344]), (34, .iload_n 3, 1, []), (35, .invokestatic 54, 3, [3, 152, 2, 11, 754, 187, 56, 186, 0]), (38, .ifCond .eq 17, 3, [55]), (41, .aload_n 0, 1, []), (42, .aload_n 1, 1, []), (43, .aload_n 2, 1, []), (44, .iload_n 3, 1, []), (45, .invokevirtual 58, 3, [0, 64, 4, 5, 757, 760, 64, 759, 10]), (48, .aload_n 0, 1, []), (49, .aload_n 1, 1, []), (50, .aload_n 2, 1, []), (51, .iload_n 3, 1, []), (52, .invokevirtual 62, 3, [0, 65, 4, 5, 762, 765, 64, 764, 11]), (55, .iinc 3 1, 3, []), (58, .goto (-36), 3, [22]), (61, .iconst 0, 1, []), (62, .istore_n 3, 1, []), (63, .iload_n 3, 1, []), (64, .bipush 10, 2, []), (66, .if_icmp .ge 44, 3, [110]), (69, .aload_n 1, 1, []), (70, .getfield 32, 3, [10, 11, 243]), (73, .getfield 65, 3, [2, 3, 119]), (76, .iload_n 3, 1, []), (77, .invokevirtual 68, 3, [0, 82, 2, 7, 753, 152, 58, 150, 151]), (80, .istore 4, 2, []), (82, .iload 4, 2, []), (84, .iconst (-1), 1, []), (85, .if_icmp .eq 19, 3, [104]), (88, .aload_n 0, 1, []), (89, .aload_n 1, 1, []), (90, .aload_n 2, 1, []), (91, .iload 4, 2, []), (93, .invokevirtual 72, 3, [0, 66, 4, 5, 770, 773, 64, 772, 12]), (96, .aload_n 0, 1, []), (97, .aload_n 1, 1, []), (98, .aload_n 2, 1, []), (99, .iload 4, 2, []), (101, .invokevirtual 75, 3, [0, 68, 4, 5, 786, 789, 64, 788, 14]), (104, .iinc 3 1, 3, []), (107, .goto (-44), 3, [63]), (110, .aload_n 0, 1, []), (111, .aload_n 2, 1, []), (112, .invokevirtual 78, 3, [0, 72, 2, 5, 815, 818, 64, 817, 18]), (115, .return_, 1, [])]
def mX5_make : mmM := (yX5_make, cX5_make, 5, none, 4, 99, tbX5_make)
def tbX5_placePhis : List mmI := [(0, .aload_n 0, 1, []), (1, .getfield 23, 3, [5, 2, 407]), (4, .iconst 0, 1, []), (5, .invokevirtual 82, 3, [0, 84, 2, 7, 747, 145, 58, 143, 144]), (8, .iconst 0, 1, []), (9, .istore_n 2, 1, []), (10, .iload_n 2, 1, []), (11, .bipush 6, 2, []), (13, .if_icmp .ge 82, 3, [95]), (16, .aload_n 0, 1, []), (17, .aload_n 1, 1, []), (18, .iload_n 2, 1, []), (19, .invokevirtual 85, 3, [0, 63, 3, 5, 748, 751, 64, 750, 9]), (22, .istore_n 3, 1, []), (23, .iconst 0, 1, []), (24, .istore 4, 2, []), (26, .iload 4, 2, []), (28, .aload_n 1, 1, []), (29, .getfield 26, 3, [10, 12, 246]), (32, .if_icmp .ge 57, 3, [89]), (35, .iload_n 3, 1, []), (36, .iload 4, 2, []), (38, .invokestatic 54, 3, [3, 152, 2, 11, 754, 187, 56, 186, 0]), (41, .ifCond .eq 42, 3, [83]), (44, .aload_n 1, 1, []), (45, .getfield 89, 3, [10, 10, 240]), (48, .iload 4, 2, []), (50, .invokevirtual 68, 3, [0, 82, 2, 7, 753, 152, 58, 150, 151]), (53, .iload_n 2, 1, []), (54, .invokestatic 54, 3, [3, 152, 2, 11, 754, 187, 56, 186, 0]), (57, .ifCond .eq 26, 3, [83]), (60, .aload_n 0, 1, []), (61, .getfield 23, 3, [5, 2, 407]), (64, .iload 4, 2, []), (66, .aload_n 0, 1, []), (67, .getfield 23, 3, [5, 2, 407]), (70, .iload 4, 2, []), (72, .invokevirtual 68, 3, [0, 82, 2, 7, 753, 152, 58, 150, 151]), (75, .iload_n 2, 1, []), (76, .invokestatic 92, 3, [3, 151, 1, 11, 752, 160, 56, 159, 0]), (79, .ior, 1, []), (80, .invokevirtual 95, 3, [0, 83, 3, 7, 756, 164, 58, 162, 163]), (83, .iinc 4 1, 3, []), (86, .goto (-60), 3, [26]), (89, .iinc 2 1, 3, []), (92, .goto (-82), 3, [10]), (95, .return_, 1, [])]
def mX5_placePhis : mmM := (yX5_placePhis, cX5_placePhis, 5, none, 3, 71, tbX5_placePhis)
def tbX5_whereJoined : List mmI := [(0, .iconst 0, 1, []), (1, .invokestatic 92, 3, [3, 151, 1, 11, 752, 160, 56, 159, 0]), (4, .istore_n 3, 1, []), (5, .iconst 0, 1, []), (6, .istore 4, 2, []), (8, .iload 4, 2, []), (10, .aload_n 1, 1, []), (11, .getfield 26, 3, [10, 12, 246]), (14, .if_icmp .ge 33, 3, [47]), (17, .aload_n 1, 1, []), (18, .getfield 98, 3, [10, 9, 238]), (21, .iload 4, 2, []), (23, .invokevirtual 68, 3, [0, 82, 2, 7, 753, 152, 58, 150, 151]), (26, .iload_n 2, 1, []), (27, .invokestatic 54, 3, [3, 152, 2, 11, 754, 187, 56, 186, 0]), (30, .ifCond .eq 11, 3, [41]), (33, .iload_n 3, 1, []), (34, .iload 4, 2, []), (36, .invokestatic 92, 3, [3, 151, 1, 11, 752, 160, 56, 159, 0]), (39, .ior, 1, []), (40, .istore_n 3, 1, []), (41, .iinc 4 1, 3, []), (44, .goto (-36), 3, [8]), (47, .iconst 0, 1, []), (48, .istore 4, 2, []), (50, .iconst 0, 1, []), (51, .istore 5, 2, []), (53, .iload 5, 2, []), (55, .bipush 10, 2, []), (57, .if_icmp .ge 53, 3, [110]), (60, .iconst 0, 1, []), (61, .istore 6, 2, []), (63, .iload 6, 2, []), (65, .aload_n 1, 1, []), (66, .getfield 26, 3, [10, 12, 246]), (69, .if_icmp .ge 35, 3, [104]), (72, .iload_n 3, 1, []), (73, .iload 4, 2, []), (75, .ior, 1, []), (76, .iload 6, 2, []), (78, .invokestatic 54, 3, [3, 152, 2, 11, 754, 187, 56, 186, 0]), (81, .ifCond .eq 17, 3, [98]), (84, .iload 4, 2, []), (86, .aload_n 1, 1, []), (87, .getfield 32, 3, [10, 11, 243]), (90, .iload 6, 2, []), (92, .invokevirtual 101, 3, [0, 26, 2, 2, 755, 718, 59, 716, 717]), (95, .ior, 1, []), (96, .istore 4, 2, []), (98, .iinc 6 1, 3, []), (101, .goto (-38), 3, [63]), (104, .iinc 5 1, 3, []), (107, .goto (-54), 3, [53]), (110, .iload 4, 2, []), (112, .ireturn, 1, [])]
def mX5_whereJoined : mmM := (yX5_whereJoined, cX5_whereJoined, 7, some .int, 2, 45, tbX5_whereJoined)
def tbX5_addValues : List mmI := [(0, .iconst 0, 1, []), (1, .istore 4, 2, []), (3, .iload 4, 2, []), (5, .bipush 6, 2, []), (7, .if_icmp .ge 34, 3, [41]), (10, .aload_n 0, 1, []), (11, .getfield 23, 3, [5, 2, 407]), (14, .iload_n 3, 1, []), (15, .invokevirtual 68, 3, [0, 82, 2, 7, 753, 152, 58, 150, 151]), (18, .iload 4, 2, []), (20, .invokestatic 54, 3, [3, 152, 2, 11, 754, 187, 56, 186, 0]), (23, .ifCond .eq 12, 3, [35]), (26, .aload_n 2, 1, []), (27, .iload_n 3, 1, []), (28, .bipush 9, 2, []), (30, .iload 4, 2, []), (32, .invokevirtual 104, 3, [0, 31, 4, 3, 761, 736, 63, 734, 735]), (35, .iinc 4 1, 3, []), (38, .goto (-35), 3, [3]), (41, .iconst 0, 1, []), (42, .istore 4, 2, []), (44, .iload 4, 2, []), (46, .aload_n 1, 1, []), (47, .getfield 108, 3, [10, 0, 213]), (50, .iload_n 3, 1, []), (51, .invokevirtual 68, 3, [0, 82, 2, 7, 753, 152, 58, 150, 151]), (54, .if_icmp .ge 38, 3, [92]), (57, .aload_n 1, 1, []), (58, .getfield 111, 3, [10, 1, 216]), (61, .iload_n 3, 1, []), (62, .bipush 8, 2, []), (64, .imul, 1, []), (65, .iload 4, 2, []), (67, .iadd, 1, []), (68, .invokevirtual 68, 3, [0, 82, 2, 7, 753, 152, 58, 150, 151]), (71, .istore 5, 2, []), (73, .iload 5, 2, []), (75, .ifCond .eq 11, 3, [86]), (78, .aload_n 2, 1, []), (79, .iload_n 3, 1, []), (80, .iload 5, 2, []), (82, .iconst (-1), 1, []), (83, .invokevirtual 104, 3, [0, 31, 4, 3, 761, 736, 63, 734, 735]), (86, .iinc 4 1, 3, []), (89, .goto (-45), 3, [44]), (92, .return_, 1, [])]
def mX5_addValues : mmM := (yX5_addValues, cX5_addValues, 6, none, 3, 68, tbX5_addValues)
def tbX5_addEdges : List mmI := [(0, .aload_n 1, 1, []), (1, .getfield 114, 3, [10, 5, 228]), (4, .iload_n 3, 1, []), (5, .invokevirtual 68, 3, [0, 82, 2, 7, 753, 152, 58, 150, 151]), (8, .istore 4, 2, []), (10, .aload_n 2, 1, []), (11, .getfield 117, 3, [3, 11, 329]), (14, .iload_n 3, 1, []), (15, .iload 4, 2, []), (17, .invokevirtual 95, 3, [0, 83, 3, 7, 756, 164, 58, 162, 163]), (20, .iconst 0, 1, []), (21, .istore 5, 2, []), (23, .iload 5, 2, []), (25, .iload 4, 2, []), (27, .if_icmp .ge 32, 3, [59]), (30, .iload_n 3, 1, []), (31, .iconst 2, 1, []), (32, .imul, 1, []), (33, .iload 5, 2, []), (35, .iadd, 1, []), (36, .istore 6, 2, []), (38, .aload_n 2, 1, []), (39, .iload 6, 2, []), (41, .aload_n 1, 1, []), (42, .getfield 118, 3, [10, 7, 235]), (45, .iload 6, 2, []), (47, .invokevirtual 68, 3, [0, 82, 2, 7, 753, 152, 58, 150, 151]), (50, .invokevirtual 121, 3, [0, 34, 3, 3, 766, 769, 63, 767, 768]), (53, .iinc 5 1, 3, []), (56, .goto (-33), 3, [23]), (59, .return_, 1, [])]
def mX5_addEdges : mmM := (yX5_addEdges, cX5_addEdges, 7, none, 2, 45, tbX5_addEdges)
def tbX5_holdAtBeginning : List mmI := [(0, .aload_n 1, 1, []), (1, .getfield 32, 3, [10, 11, 243]), (4, .iload_n 3, 1, []), (5, .invokevirtual 124, 3, [0, 27, 2, 2, 774, 777, 59, 775, 776]), (8, .istore 4, 2, []), (10, .iconst 0, 1, []), (11, .istore 5, 2, []), (13, .iload 5, 2, []), (15, .bipush 6, 2, []), (17, .if_icmp .ge 65, 3, [82]), (20, .iload 4, 2, []), (22, .bipush 6, 2, []), (24, .imul, 1, []), (25, .iload 5, 2, []), (27, .iadd, 1, []), (28, .istore 6, 2, []), (30, .aload_n 0, 1, []), (31, .iload_n 3, 1, []), (32, .iload 5, 2, []), (34, .iload 4, 2, []), (36, .iconst (-1), 1, []), (37, .if_icmp .ne 8, 3, [45]), (40, .iload 5, 2, []), (42, .goto 12, 3, [54]), (45, .aload_n 0, 1, []), (46, .getfield 14, 3, [5, 0, 405]), (49, .iload 6, 2, []), (51, .invokevirtual 68, 3, [0, 82, 2, 7, 753, 152, 58, 150, 151]), (54, .iload 4, 2, []), (56, .iconst (-1), 1, []), (57, .if_icmp .ne 7, 3, [64]), (60, .iconst 0, 1, []), (61, .goto 12, 3, [73]), (64, .aload_n 0, 1, []), (65, .getfield 20, 3, [5, 1, 406]), (68, .iload 6, 2, []), (70, .invokevirtual 68, 3, [0, 82, 2, 7, 753, 152, 58, 150, 151]), (73, .invokevirtual 127, 3, [0, 67, 5, 5, 778, 781, 64, 780, 13]), (76, .iinc 5 1, 3, []), (79, .goto (-66), 3, [13]), (82, .iconst 0, 1, []), (83, .istore 5, 2, []), (85, .iload 5, 2, []), (87, .aload_n 2, 1, []), (88, .getfield 131, 3, [3, 7, 316]), (91, .iload_n 3, 1, []), (92, .invokevirtual 68, 3, [0, 82, 2, 7, 753, 152, 58, 150, 151]), (95, .if_icmp .ge 49, 3, [144]), (98, .aload_n 2, 1, []), (99, .iload_n 3, 1, []), (100, .iload 5, 2, []), (102, .invokevirtual 134, 3, [0, 35, 3, 3, 782, 785, 63, 783, 784]), (105, .istore 6, 2, []), (107, .aload_n 2, 1, []), (108, .getfield 138, 3, [3, 0, 289]), (111, .iload 6, 2, []), (113, .invokevirtual 68, 3, [0, 82, 2, 7, 753, 152, 58, 150, 151]), (116, .bipush 9, 2, []), (118, .if_icmp .ne 20, 3, [138]), (121, .aload_n 0, 1, []), (122, .iload_n 3, 1, []), (123, .aload_n 2, 1, []), (124, .getfield 139, 3, [3, 2, 299]), (127, .iload 6, 2, []), (129, .invokevirtual 68, 3, [0, 82, 2, 7, 753, 152, 58, 150, 151]), (132, .iload 6, 2, []), (134, .iconst 0, 1, []), (135, .invokevirtual 127, 3, [0, 67, 5, 5, 778, 781, 64, 780, 13]), (138, .iinc 5 1, 3, []), (141, .goto (-56), 3, [85]), (144, .return_, 1, [])]
def mX5_holdAtBeginning : mmM := (yX5_holdAtBeginning, cX5_holdAtBeginning, 7, none, 2, 46, tbX5_holdAtBeginning)
def tbX5_hold : List mmI := [(0, .aload_n 0, 1, []), (1, .getfield 14, 3, [5, 0, 405]), (4, .iload_n 1, 1, []), (5, .bipush 6, 2, []), (7, .imul, 1, []), (8, .iload_n 2, 1, []), (9, .iadd, 1, []), (10, .iload_n 3, 1, []), (11, .invokevirtual 95, 3, [0, 83, 3, 7, 756, 164, 58, 162, 163]), (14, .aload_n 0, 1, []), (15, .getfield 20, 3, [5, 1, 406]), (18, .iload_n 1, 1, []), (19, .bipush 6, 2, []), (21, .imul, 1, []), (22, .iload_n 2, 1, []), (23, .iadd, 1, []), (24, .iload 4, 2, []), (26, .invokevirtual 95, 3, [0, 83, 3, 7, 756, 164, 58, 162, 163]), (29, .return_, 1, [])]
def mX5_hold : mmM := (yX5_hold, cX5_hold, 5, none, 1, 22, tbX5_hold)
def tbX5_followLines : List mmI := [(0, .aload_n 0, 1, []), (1, .getfield 23, 3, [5, 2, 407]), (4, .iload_n 3, 1, []), (5, .invokevirtual 68, 3, [0, 82, 2, 7, 753, 152, 58, 150, 151]), (8, .invokestatic 142, 3, [2, 165, 1, 0, 790, 792, 78, 791, 0]), (11, .istore 4, 2, []), (13, .iconst 0, 1, []), (14, .istore 5, 2, []), (16, .iload 5, 2, []), (18, .aload_n 1, 1, []), (19, .getfield 108, 3, [10, 0, 213]), (22, .iload_n 3, 1, []), (23, .invokevirtual 68, 3, [0, 82, 2, 7, 753, 152, 58, 150, 151]), (26, .if_icmp .ge 163, 3, [189]), (29, .iload_n 3, 1, []), (30, .bipush 8, 2, []), (32, .imul, 1, []), (33, .iload 5, 2, []), (35, .iadd, 1, []), (36, .istore 6, 2, []), (38, .aload_n 1, 1, []), (39, .getfield 111, 3, [10, 1, 216]), (42, .iload 6, 2, []), (44, .invokevirtual 68, 3, [0, 82, 2, 7, 753, 152, 58, 150, 151]), (47, .istore 7, 2, []), (49, .aload_n 1, 1, []), (50, .getfield 147, 3, [10, 3, 222]), (53, .iload 6, 2, []), (55, .invokevirtual 68, 3, [0, 82, 2, 7, 753, 152, 58, 150, 151]), (58, .istore 8, 2, []), (60, .iconst (-1), 1, []), (61, .istore 9, 2, []), (63, .iload 7, 2, []), (65, .ifCond .eq 57, 3, [122]), (68, .aload_n 2, 1, []), (69, .iload_n 3, 1, []), (70, .iload 4, 2, []), (72, .invokevirtual 134, 3, [0, 35, 3, 3, 782, 785, 63, 783, 784]), (75, .istore 9, 2, []), (77, .iinc 4 1, 3, []), (80, .aload_n 0, 1, []), (81, .aload_n 2, 1, []), (82, .iload 9, 2, []), (84, .iload_n 3, 1, []), (85, .iload 8, 2, []), (87, .invokevirtual 150, 3, [0, 69, 5, 5, 796, 799, 64, 798, 15]), (90, .iload 7, 2, []), (92, .invokestatic 154, 3, [3, 154, 1, 11, 813, 662, 56, 661, 0]), (95, .ifCond .ne 10, 3, [105]), (98, .iload 7, 2, []), (100, .bipush 7, 2, []), (102, .if_icmp .ne 20, 3, [122]), (105, .aload_n 0, 1, []), (106, .aload_n 2, 1, []), (107, .iload 9, 2, []), (109, .iload_n 3, 1, []), (110, .aload_n 1, 1, []), (111, .getfield 158, 3, [10, 4, 225]), (114, .iload 6, 2, []), (116, .invokevirtual 68, 3, [0, 82, 2, 7, 753, 152, 58, 150, 151]), (119, .invokevirtual 150, 3, [0, 69, 5, 5, 796, 799, 64, 798, 15]), (122, .iload 7, 2, []), (124, .ifCond .ne 34, 3, [158]), (127, .aload_n 0, 1, []), (128, .iload_n 3, 1, []), (129, .aload_n 1, 1, []), (130, .getfield 161, 3, [10, 2, 219]), (133, .iload 6, 2, []), (135, .invokevirtual 68, 3, [0, 82, 2, 7, 753, 152, 58, 150, 151]), (138, .aload_n 0, 1, []), (139, .iload_n 3, 1, []), (140, .iload 8, 2, []), (142, .invokevirtual 162, 3, [0, 70, 3, 5, 800, 803, 64, 802, 16]), (145, .aload_n 0, 1, []), (146, .iload_n 3, 1, []), (147, .iload 8, 2, []), (149, .invokevirtual 165, 3, [0, 71, 3, 5, 805, 808, 64, 807, 17]), (152, .invokevirtual 127, 3, [0, 67, 5, 5, 778, 781, 64, 780, 13]), (155, .goto 28, 3, [183]), (158, .iload 7, 2, []), (160, .invokestatic 168, 3, [3, 153, 1, 11, 814, 175, 56, 174, 0]), (163, .ifCond .eq 20, 3, [183]), (166, .aload_n 0, 1, []), (167, .iload_n 3, 1, []), (168, .aload_n 1, 1, []), (169, .getfield 161, 3, [10, 2, 219]), (172, .iload 6, 2, []), (174, .invokevirtual 68, 3, [0, 82, 2, 7, 753, 152, 58, 150, 151]), (177, .iload 9, 2, []), (179, .iconst 0, 1, []), (180, .invokevirtual 127, 3, [0, 67, 5, 5, 778, 781, 64, 780, 13]), (183, .iinc 5 1, 3, []), (186, .goto (-170), 3, [16]), (189, .aload_n 1, 1, []), (190, .getfield 114, 3, [10, 5, 228]), (193, .iload_n 3, 1, []), (194, .invokevirtual 68, 3, [0, 82, 2, 7, 753, 152, 58, 150, 151]), (197, .iconst 1, 1, []), (198, .if_icmp .eq 22, 3, [220]), (201, .aload_n 0, 1, []), (202, .aload_n 2, 1, []), (203, .sipush 140, 3, []), (206, .iload_n 3, 1, []), (207, .iadd, 1, []), (208, .iload_n 3, 1, []), (209, .aload_n 1, 1, []), (210, .getfield 171, 3, [10, 6, 232]), (213, .iload_n 3, 1, []), (214, .invokevirtual 68, 3, [0, 82, 2, 7, 753, 152, 58, 150, 151]), (217, .invokevirtual 150, 3, [0, 69, 5, 5, 796, 799, 64, 798, 15]), (220, .return_, 1, [])]
def mX5_followLines : mmM := (yX5_followLines, cX5_followLines, 10, none, 3, 70, tbX5_followLines)
def tbX5_give : List mmI := [(0, .aload_n 1, 1, []), (1, .iload_n 2, 1, []), (2, .aload_n 0, 1, []), (3, .iload_n 3, 1, []), (4, .iload 4, 2, []), (6, .invokevirtual 162, 3, [0, 70, 3, 5, 800, 803, 64, 802, 16]), (9, .aload_n 0, 1, []), (10, .iload_n 3, 1, []), (11, .iload 4, 2, []), (13, .invokevirtual 165, 3, [0, 71, 3, 5, 805, 808, 64, 807, 17]), (16, .invokevirtual 174, 3, [0, 33, 4, 3, 809, 812, 63, 810, 811]), (19, .return_, 1, [])]
def mX5_give : mmM := (yX5_give, cX5_give, 5, none, 2, 46, tbX5_give)
def tbX5_valueFor : List mmI := [(0, .iload_n 2, 1, []), (1, .invokestatic 177, 3, [3, 155, 1, 11, 804, 171, 56, 170, 0]), (4, .istore_n 3, 1, []), (5, .iload_n 3, 1, []), (6, .iconst (-1), 1, []), (7, .if_icmp .ne 7, 3, [14]), (10, .iconst (-1), 1, []), (11, .goto 16, 3, [27]), (14, .aload_n 0, 1, []), (15, .getfield 14, 3, [5, 0, 405]), (18, .iload_n 1, 1, []), (19, .bipush 6, 2, []), (21, .imul, 1, []), (22, .iload_n 3, 1, []), (23, .iadd, 1, []), (24, .invokevirtual 68, 3, [0, 82, 2, 7, 753, 152, 58, 150, 151]), (27, .ireturn, 1, [])]
def mX5_valueFor : mmM := (yX5_valueFor, cX5_valueFor, 4, some .int, 1, 21, tbX5_valueFor)
def tbX5_numberFor : List mmI := [(0, .iload_n 2, 1, []), (1, .invokestatic 177, 3, [3, 155, 1, 11, 804, 171, 56, 170, 0]), (4, .istore_n 3, 1, []), (5, .iload_n 3, 1, []), (6, .iconst (-1), 1, []), (7, .if_icmp .ne 7, 3, [14]), (10, .iload_n 2, 1, []), (11, .goto 16, 3, [27]), (14, .aload_n 0, 1, []), (15, .getfield 20, 3, [5, 1, 406]), (18, .iload_n 1, 1, []), (19, .bipush 6, 2, []), (21, .imul, 1, []), (22, .iload_n 3, 1, []), (23, .iadd, 1, []), (24, .invokevirtual 68, 3, [0, 82, 2, 7, 753, 152, 58, 150, 151]), (27, .ireturn, 1, [])]
def mX5_numberFor : mmM := (yX5_numberFor, cX5_numberFor, 4, some .int, 1, 21, tbX5_numberFor)
def tbX5_givePhisTheirs : List mmI := [(0, .iconst 0, 1, []), (1, .istore_n 2, 1, []), (2, .iload_n 2, 1, []), (3, .aload_n 1, 1, []), (4, .getfield 180, 3, [3, 15, 351]), (7, .if_icmp .ge 28, 3, [35]), (10, .aload_n 1, 1, []), (11, .getfield 138, 3, [3, 0, 289]), (14, .iload_n 2, 1, []), (15, .invokevirtual 68, 3, [0, 82, 2, 7, 753, 152, 58, 150, 151]), (18, .bipush 9, 2, []), (20, .if_icmp .ne 9, 3, [29]), (23, .aload_n 0, 1, []), (24, .aload_n 1, 1, []), (25, .iload_n 2, 1, []), (26, .invokevirtual 183, 3, [0, 73, 3, 5, 819, 822, 64, 821, 19]), (29, .iinc 2 1, 3, []), (32, .goto (-30), 3, [2]), (35, .return_, 1, [])]
def mX5_givePhisTheirs : mmM := (yX5_givePhisTheirs, cX5_givePhisTheirs, 3, none, 3, 71, tbX5_givePhisTheirs)
def tbX5_givePhi : List mmI := [(0, .aload_n 1, 1, []), (1, .getfield 187, 3, [3, 1, 296]), (4, .iload_n 2, 1, []), (5, .invokevirtual 68, 3, [0, 82, 2, 7, 753, 152, 58, 150, 151]), (8, .istore_n 3, 1, []), (9, .iconst 0, 1, []), (10, .istore 4, 2, []), (12, .iload 4, 2, []), (14, .aload_n 1, 1, []), (15, .getfield 190, 3, [3, 9, 324]), (18, .iload_n 3, 1, []), (19, .invokevirtual 68, 3, [0, 82, 2, 7, 753, 152, 58, 150, 151]), (22, .if_icmp .ge 56, 3, [78]), (25, .aload_n 1, 1, []), (26, .iload_n 3, 1, []), (27, .iload 4, 2, []), (29, .invokevirtual 193, 3, [0, 36, 3, 3, 823, 826, 63, 824, 825]), (32, .invokestatic 196, 3, [3, 156, 1, 11, 827, 829, 56, 828, 0]), (35, .bipush 6, 2, []), (37, .imul, 1, []), (38, .aload_n 1, 1, []), (39, .getfield 139, 3, [3, 2, 299]), (42, .iload_n 2, 1, []), (43, .invokevirtual 68, 3, [0, 82, 2, 7, 753, 152, 58, 150, 151]), (46, .iadd, 1, []), (47, .istore 5, 2, []), (49, .aload_n 1, 1, []), (50, .iload_n 2, 1, []), (51, .aload_n 0, 1, []), (52, .getfield 14, 3, [5, 0, 405]), (55, .iload 5, 2, []), (57, .invokevirtual 68, 3, [0, 82, 2, 7, 753, 152, 58, 150, 151]), (60, .aload_n 0, 1, []), (61, .getfield 20, 3, [5, 1, 406]), (64, .iload 5, 2, []), (66, .invokevirtual 68, 3, [0, 82, 2, 7, 753, 152, 58, 150, 151]), (69, .invokevirtual 174, 3, [0, 33, 4, 3, 809, 812, 63, 810, 811]), (72, .iinc 4 1, 3, []), (75, .goto (-63), 3, [12]), (78, .return_, 1, [])]
def mX5_givePhi : mmM := (yX5_givePhi, cX5_givePhi, 6, none, 2, 46, tbX5_givePhi)
def tbX6_init : List mmI := [(0, .aload_n 0, 1, []), (1, .invokespecial 3, 3, [9, 444, 0]), (4, .aload_n 0, 1, []), (5, .new 9, 3, [2, 445, 105, 59]), (8, .dup, 1, []), (9, .invokespecial 11, 3, [5, 19, 1, 2, 446, 108, 59, 107, 0]), (12, .putfield 12, 3, [6, 0, 3, 447]), (15, .return_, 1, [])]
def mX6_init : mmM := (yX6_init, cX6_init, 1, none, 3, 61, tbX6_init)
def tbX6_goOver : List mmI := [(0, .aload_n 0, 1, []), (1, .aload_n 1, 1, []), (2, .invokevirtual 18, 3, [0, 76, 2, 6, 945, 948, 66, 947, 34]), (5, .aload_n 0, 1, []), (6, .getfield 12, 3, [6, 0, 447]), (9, .invokevirtual 22, 3, [0, 22, 1, 2, 954, 180, 59, 178, 179]), (12, .iconst 0, 1, []), (13, .istore_n 2, 1, []), (14, .iload_n 2, 1, []), (15, .bipush 10, 2, []), (17, .if_icmp .ge 32, 3, [49]), (20, .aload_n 0, 1, []), (21, .getfield 12, 3, [6, 0, 447]), (24, .getfield 25, 3, [2, 3, 118]), (27, .iload_n 2, 1, []), (28, .invokevirtual 29, 3, [0, 82, 2, 7, 950, 152, 58, 150, 151]), (31, .istore_n 3, 1, []), (32, .iload_n 3, 1, []), (33, .iconst (-1), 1, []), (34, .if_icmp .eq 9, 3, [43]), (37, .aload_n 0, 1, []), (38, .aload_n 1, 1, []), (39, .iload_n 3, 1, []), (40, .invokevirtual 35, 3, [0, 77, 3, 6, 955, 958, 66, 957, 35]), (43, .iinc 2 1, 3, []), (46, .goto (-32), 3, [14]), (49, .return_, 1, [])]
def mX6_goOver : mmM := (yX6_goOver, cX6_goOver, 4, none, 4, 106, tbX6_goOver)
def tbX6_readEdges : List mmI := [(0, .aload_n 0, 1, []), (1, .getfield 12, 3, [6, 0, 447]), (4, .invokevirtual 39, 3, [0, 20, 1, 2, 949, 141, 59, 139, 140]), (7, .iconst 0, 1, []), (8, .istore_n 2, 1, []), (9, .iload_n 2, 1, []), (10, .aload_n 1, 1, []), (11, .getfield 42, 3, [3, 13, 341]), (14, .if_icmp .ge 46, 3, [60]), (17, .iconst 0, 1, []), (18, .istore_n 3, 1, []), (19, .iload_n 3, 1, []), (20, .aload_n 1, 1, []), (21, .getfield 48, 3, [3, 9, 320]), (24, .iload_n 2, 1, []), (25, .invokevirtual 29, 3, [0, 82, 2, 7, 950, 152, 58, 150, 151]), (28, .if_icmp .ge 26, 3, [54]), (31, .aload_n 0, 1, []), (32, .getfield 12, 3, [6, 0, 447]), (35, .aload_n 1, 1, []), (36, .iload_n 2, 1, []), (37, .iload_n 3, 1, []), (38, .invokevirtual 51, 3, [0, 36, 3, 3, 951, 826, 63, 824, 825]), (41, .invokestatic 55, 3, [3, 156, 1, 11, 952, 829, 56, 828, 0]), (44, .iload_n 2, 1, []), (45, .invokevirtual 58, 3, [0, 21, 3, 2, 953, 156, 59, 154, 155]), (48, .iinc 3 1, 3, []), (51, .goto (-32), 3, [19]), (54, .iinc 2 1, 3, []), (57, .goto (-48), 3, [9]), (60, .return_, 1, [])]
def mX6_readEdges : mmM := (yX6_readEdges, cX6_readEdges, 4, none, 3, 64, tbX6_readEdges)
def tbX6_visit : List mmI := [(0, .iconst 0, 1, []), (1, .istore_n 3, 1, []), (2, .iload_n 3, 1, []), (3, .aload_n 1, 1, []), (4, .getfield 62, 3, [3, 7, 313]), (7, .iload_n 2, 1, []), (8, .invokevirtual 29, 3, [0, 82, 2, 7, 950, 152, 58, 150, 151]), (11, .if_icmp .ge 137, 3, [148]), (14, .aload_n 1, 1, []), (15, .iload_n 2, 1, []), (16, .iload_n 3, 1, []), (17, .invokevirtual 65, 3, [0, 35, 3, 3, 959, 785, 63, 783, 784]), (20, .istore 4, 2, []), (22, .aload_n 1, 1, []), (23, .getfield 68, 3, [3, 0, 286]), (26, .iload 4, 2, []), (28, .invokevirtual 29, 3, [0, 82, 2, 7, 950, 152, 58, 150, 151]), (31, .istore 5, 2, []), (33, .iload 5, 2, []), (35, .bipush 9, 2, []), (37, .if_icmp .ne 12, 3, [49]), (40, .aload_n 1, 1, []), (41, .iload 4, 2, []), (43, .invokevirtual 71, 3, [0, 54, 2, 3, 960, 963, 63, 961, 962]), (46, .goto 4, 3, [50]), (49, .iconst (-1), 1, []), (50, .istore 6, 2, []), (52, .iconst (-1), 1, []), (53, .istore 7, 2, []), (55, .iload 5, 2, []), (57, .bipush 9, 2, []), (59, .if_icmp .ne 20, 3, [79]), (62, .iload 6, 2, []), (64, .iconst (-1), 1, []), (65, .if_icmp .ne 14, 3, [79]), (68, .aload_n 1, 1, []), (69, .iload_n 2, 1, []), (70, .iload_n 3, 1, []), (71, .invokestatic 74, 3, [2, 78, 3, 6, 964, 966, 66, 965, 0]), (74, .istore 7, 2, []), (76, .goto 20, 3, [96]), (79, .iload 5, 2, []), (81, .invokestatic 78, 3, [3, 154, 1, 11, 974, 662, 56, 661, 0]), (84, .ifCond .eq 12, 3, [96]), (87, .aload_n 0, 1, []), (88, .aload_n 1, 1, []), (89, .iload_n 2, 1, []), (90, .iload_n 3, 1, []), (91, .invokevirtual 82, 3, [0, 79, 4, 6, 975, 978, 66, 977, 36]), (94, .istore 7, 2, []), (96, .iload 6, 2, []), (98, .iconst (-1), 1, []), (99, .if_icmp .eq 28, 3, [127]), (102, .aload_n 1, 1, []), (103, .iload 4, 2, []), (105, .aload_n 1, 1, []), (106, .iload 4, 2, []), (108, .iload 6, 2, []), (110, .invokevirtual 85, 3, [0, 37, 3, 3, 984, 987, 63, 985, 986]), (113, .aload_n 1, 1, []), (114, .iload 4, 2, []), (116, .iload 6, 2, []), (118, .invokevirtual 88, 3, [0, 38, 3, 3, 988, 991, 63, 989, 990]), (121, .invokevirtual 91, 3, [0, 43, 4, 3, 992, 935, 63, 933, 934]), (124, .goto 18, 3, [142]), (127, .iload 7, 2, []), (129, .iconst (-1), 1, []), (130, .if_icmp .eq 12, 3, [142]), (133, .aload_n 1, 1, []), (134, .iload 4, 2, []), (136, .iload 7, 2, []), (138, .iconst 0, 1, []), (139, .invokevirtual 91, 3, [0, 43, 4, 3, 992, 935, 63, 933, 934]), (142, .iinc 3 1, 3, []), (145, .goto (-143), 3, [2]), (148, .return_, 1, [])]
def mX6_visit : mmM := (yX6_visit, cX6_visit, 8, none, 3, 79, tbX6_visit)
def tbX6_twinOfPhi : List mmI := [(0, .aload_n 0, 1, []), (1, .iload_n 1, 1, []), (2, .iload_n 2, 1, []), (3, .invokevirtual 65, 3, [0, 35, 3, 3, 959, 785, 63, 783, 784]), (6, .istore_n 3, 1, []), (7, .iconst 0, 1, []), (8, .istore 4, 2, []), (10, .iload 4, 2, []), (12, .iload_n 2, 1, []), (13, .if_icmp .ge 43, 3, [56]), (16, .aload_n 0, 1, []), (17, .iload_n 1, 1, []), (18, .iload 4, 2, []), (20, .invokevirtual 65, 3, [0, 35, 3, 3, 959, 785, 63, 783, 784]), (23, .istore 5, 2, []), (25, .aload_n 0, 1, []), (26, .iload 5, 2, []), (28, .bipush 9, 2, []), (30, .iload_n 1, 1, []), (31, .invokestatic 95, 3, [2, 80, 4, 6, 967, 969, 66, 968, 0]), (34, .ifCond .eq 16, 3, [50]), (37, .aload_n 0, 1, []), (38, .iload_n 3, 1, []), (39, .iload 5, 2, []), (41, .invokevirtual 99, 3, [0, 52, 3, 3, 970, 973, 63, 971, 972]), (44, .ifCond .eq 6, 3, [50]), (47, .iload 5, 2, []), (49, .ireturn, 1, []), (50, .iinc 4 1, 3, []), (53, .goto (-43), 3, [10]), (56, .iconst (-1), 1, []), (57, .ireturn, 1, [])]
def mX6_twinOfPhi : mmM := (yX6_twinOfPhi, cX6_twinOfPhi, 6, some .int, 2, 48, tbX6_twinOfPhi)
def tbX6_twinOfReckoning : List mmI := [(0, .aload_n 1, 1, []), (1, .iload_n 2, 1, []), (2, .iload_n 3, 1, []), (3, .invokevirtual 65, 3, [0, 35, 3, 3, 959, 785, 63, 783, 784]), (6, .istore 4, 2, []), (8, .aload_n 1, 1, []), (9, .getfield 68, 3, [3, 0, 286]), (12, .iload 4, 2, []), (14, .invokevirtual 29, 3, [0, 82, 2, 7, 950, 152, 58, 150, 151]), (17, .istore 5, 2, []), (19, .iload 5, 2, []), (21, .iconst 1, 1, []), (22, .if_icmp .eq 9, 3, [31]), (25, .iload 5, 2, []), (27, .iconst 3, 1, []), (28, .if_icmp .ne 7, 3, [35]), (31, .iconst 1, 1, []), (32, .goto 4, 3, [36]), (35, .iconst 0, 1, []), (36, .istore 6, 2, []), (38, .iconst 0, 1, []), (39, .istore 7, 2, []), (41, .iload 7, 2, []), (43, .bipush 10, 2, []), (45, .if_icmp .ge 136, 3, [181]), (48, .aload_n 0, 1, []), (49, .getfield 12, 3, [6, 0, 447]), (52, .getfield 25, 3, [2, 3, 118]), (55, .iload 7, 2, []), (57, .invokevirtual 29, 3, [0, 82, 2, 7, 950, 152, 58, 150, 151]), (60, .istore 8, 2, []), (62, .aload_n 0, 1, []), (63, .getfield 12, 3, [6, 0, 447]), (66, .getfield 103, 3, [2, 2, 116]), (69, .iload_n 2, 1, []), (70, .invokevirtual 29, 3, [0, 82, 2, 7, 950, 152, 58, 150, 151]), (73, .iload 8, 2, []), (75, .invokestatic 106, 3, [3, 152, 2, 11, 979, 187, 56, 186, 0]), (78, .ifCond .ne 7, 3, [85]), (81, .iconst 0, 1, []), (82, .goto 22, 3, [104]), (85, .iload 8, 2, []), (87, .iload_n 2, 1, []), (88, .if_icmp .ne 7, 3, [95]), (91, .iload_n 3, 1, []), (92, .goto 12, 3, [104]), (95, .aload_n 1, 1, []), (96, .getfield 62, 3, [3, 7, 313]), (99, .iload 8, 2, []), (101, .invokevirtual 29, 3, [0, 82, 2, 7, 950, 152, 58, 150, 151]), (104, .istore 9, 2, []), (106, .iconst 0, 1, []), (107, .istore 10, 2, []), (109, .iload 10, 2, []), (111, .iload 9, 2, []), (113, .if_icmp .ge 62, 3, [175]), (116, .aload_n 1, 1, []), (117, .iload 8, 2, []), (119, .iload 10, 2, []), (121, .invokevirtual 65, 3, [0, 35, 3, 3, 959, 785, 63, 783, 784]), (124, .istore 11, 2, []), (126, .aload_n 1, 1, []), (127, .iload 11, 2, []), (129, .iload 5, 2, []), (131, .iload 8, 2, []), (133, .invokestatic 95, 3, [2, 80, 4, 6, 967, 969, 66, 968, 0]), (136, .ifCond .eq 33, 3, [169]), (139, .aload_n 1, 1, []), (140, .iload 4, 2, []), (142, .iload 11, 2, []), (144, .invokevirtual 99, 3, [0, 52, 3, 3, 970, 973, 63, 971, 972]), (147, .ifCond .ne 19, 3, [166]), (150, .iload 6, 2, []), (152, .ifCond .eq 17, 3, [169]), (155, .aload_n 1, 1, []), (156, .iload 4, 2, []), (158, .iload 11, 2, []), (160, .invokevirtual 109, 3, [0, 53, 3, 3, 980, 983, 63, 981, 982]), (163, .ifCond .eq 6, 3, [169]), (166, .iload 11, 2, []), (168, .ireturn, 1, []), (169, .iinc 10 1, 3, []), (172, .goto (-63), 3, [109]), (175, .iinc 7 1, 3, []), (178, .goto (-137), 3, [41]), (181, .iconst (-1), 1, []), (182, .ireturn, 1, [])]
def mX6_twinOfReckoning : mmM := (yX6_twinOfReckoning, cX6_twinOfReckoning, 12, some .int, 2, 48, tbX6_twinOfReckoning)
def tbX6_isStill : List mmI := [(0, .aload_n 0, 1, []), (1, .getfield 68, 3, [3, 0, 286]), (4, .iload_n 1, 1, []), (5, .invokevirtual 29, 3, [0, 82, 2, 7, 950, 152, 58, 150, 151]), (8, .iload_n 2, 1, []), (9, .if_icmp .ne 19, 3, [28]), (12, .aload_n 0, 1, []), (13, .getfield 112, 3, [3, 1, 294]), (16, .iload_n 1, 1, []), (17, .invokevirtual 29, 3, [0, 82, 2, 7, 950, 152, 58, 150, 151]), (20, .iload_n 3, 1, []), (21, .if_icmp .ne 7, 3, [28]), (24, .iconst 1, 1, []), (25, .goto 4, 3, [29]), (28, .iconst 0, 1, []), (29, .ireturn, 1, [1])]
def mX6_isStill : mmM := (yX6_isStill, cX6_isStill, 4, some .boolean, 1, 21, tbX6_isStill)
def tbX7_init : List mmI := [(0, .aload_n 0, 1, []), (1, .invokespecial 1, 3, [9, 98, 0]), (4, .aload_n 0, 1, []), (5, .iload_n 1, 1, []), (6, .ifCond .ge 7, 3, [13]), (9, .iconst 0, 1, []), (10, .goto 4, 3, [14]), (13, .iload_n 1, 1, []), (14, .newarray .int, 2, [103]), (16, .putfield 7, 3, [7, 0, 3, 99]), (19, .return_, 1, [])]
def mX7_init : mmM := (yX7_init, cX7_init, 2, none, 1, 20, tbX7_init)
def tbX7_at : List mmI := [(0, .iload_n 1, 1, []), (1, .ifCond .lt 21, 3, [22]), (4, .iload_n 1, 1, []), (5, .aload_n 0, 1, []), (6, .getfield 7, 3, [7, 0, 99]), (9, .arraylength, 1, []), (10, .if_icmp .ge 12, 3, [22]), (13, .aload_n 0, 1, []), (14, .getfield 7, 3, [7, 0, 99]), (17, .iload_n 1, 1, []), (18, .iaload, 1, []), (19, .goto 4, 3, [23]), (22, .iconst 0, 1, []), (23, .ireturn, 1, [])]
def mX7_at : mmM := (yX7_at, cX7_at, 2, some .int, 0, 0, tbX7_at)
def tbX7_put : List mmI := [(0, .iload_n 1, 1, []), (1, .ifCond .lt 19, 3, [20]), (4, .iload_n 1, 1, []), (5, .aload_n 0, 1, []), (6, .getfield 7, 3, [7, 0, 99]), (9, .arraylength, 1, []), (10, .if_icmp .ge 10, 3, [20]), (13, .aload_n 0, 1, []), (14, .getfield 7, 3, [7, 0, 99]), (17, .iload_n 1, 1, []), (18, .iload_n 2, 1, []), (19, .iastore, 1, []), (20, .return_, 1, [])]
def mX7_put : mmM := (yX7_put, cX7_put, 3, none, 0, 0, tbX7_put)
def tbX7_fill : List mmI := [(0, .aload_n 0, 1, []), (1, .getfield 7, 3, [7, 0, 99]), (4, .iload_n 1, 1, []), (5, .invokestatic 13, 3, [2, 168, 2, 0, 146, 148, 60, 147, 0]), (8, .return_, 1, [])]
def mX7_fill : mmM := (yX7_fill, cX7_fill, 2, none, 1, 23, tbX7_fill)
def tbX7_take : List mmI := [(0, .aload_n 1, 1, []), (1, .getfield 7, 3, [7, 0, 99]), (4, .iconst 0, 1, []), (5, .aload_n 0, 1, []), (6, .getfield 7, 3, [7, 0, 99]), (9, .iconst 0, 1, []), (10, .aload_n 0, 1, []), (11, .getfield 7, 3, [7, 0, 99]), (14, .arraylength, 1, []), (15, .aload_n 1, 1, []), (16, .getfield 7, 3, [7, 0, 99]), (19, .arraylength, 1, []), (20, .invokestatic 19, 3, [2, 167, 2, 0, 204, 206, 61, 205, 0]), (23, .invokestatic 25, 3, [8, 207, 0]), (26, .return_, 1, [])]
def mX7_take : mmM := (yX7_take, cX7_take, 2, none, 1, 26, tbX7_take)
def tbX8_init : List mmI := [(0, .aload_n 0, 1, []), (1, .invokespecial 3, 3, [9, 478, 0]), (4, .aload_n 0, 1, []), (5, .new 9, 3, [7, 479, 94, 58]), (8, .dup, 1, []), (9, .bipush 6, 2, []), (11, .invokespecial 11, 3, [4, 81, 2, 7, 480, 97, 58, 96, 0]), (14, .putfield 14, 3, [8, 0, 3, 481]), (17, .aload_n 0, 1, []), (18, .new 9, 3, [7, 479, 94, 58]), (21, .dup, 1, []), (22, .sipush 140, 3, []), (25, .invokespecial 11, 3, [4, 81, 2, 7, 480, 97, 58, 96, 0]), (28, .putfield 20, 3, [8, 1, 3, 482]), (31, .aload_n 0, 1, []), (32, .new 9, 3, [7, 479, 94, 58]), (35, .dup, 1, []), (36, .sipush 140, 3, []), (39, .invokespecial 11, 3, [4, 81, 2, 7, 480, 97, 58, 96, 0]), (42, .putfield 23, 3, [8, 2, 3, 483]), (45, .return_, 1, [])]
def mX8_init : mmM := (yX8_init, cX8_init, 1, none, 2, 41, tbX8_init)
def tbX8_walkBlocks : List mmI := [(0, .aload 4, 2, []), (2, .invokevirtual 26, 3, [0, 95, 1, 9, 1088, 1091, 70, 1089, 1090]), (5, .aload_n 0, 1, []), (6, .getfield 14, 3, [8, 0, 481]), (9, .iconst 0, 1, []), (10, .invokevirtual 31, 3, [0, 84, 2, 7, 1093, 145, 58, 143, 144]), (13, .aload_n 0, 1, []), (14, .getfield 14, 3, [8, 0, 481]), (17, .iconst 0, 1, []), (18, .iload_n 2, 1, []), (19, .invokevirtual 34, 3, [0, 83, 3, 7, 1094, 164, 58, 162, 163]), (22, .aload_n 0, 1, []), (23, .getfield 14, 3, [8, 0, 481]), (26, .iconst 1, 1, []), (27, .iload_n 3, 1, []), (28, .invokevirtual 34, 3, [0, 83, 3, 7, 1094, 164, 58, 162, 163]), (31, .iconst 0, 1, []), (32, .istore 5, 2, []), (34, .iconst 0, 1, []), (35, .istore 6, 2, []), (37, .aload 4, 2, []), (39, .getfield 38, 3, [9, 2, 504]), (42, .ifCond .eq 71, 3, [113]), (45, .iload 6, 2, []), (47, .sipush 300, 3, []), (50, .if_icmp .gt 63, 3, [113]), (53, .aload_n 0, 1, []), (54, .aload_n 1, 1, []), (55, .iload 5, 2, []), (57, .aload 4, 2, []), (59, .invokevirtual 42, 3, [0, 88, 4, 8, 1223, 1226, 69, 1225, 46]), (62, .iload 5, 2, []), (64, .iconst 2, 1, []), (65, .imul, 1, []), (66, .aload 4, 2, []), (68, .aload_n 1, 1, []), (69, .getfield 46, 3, [10, 5, 227]), (72, .iload 5, 2, []), (74, .invokevirtual 51, 3, [0, 82, 2, 7, 1100, 152, 58, 150, 151]), (77, .aload_n 0, 1, []), (78, .aload_n 1, 1, []), (79, .getfield 55, 3, [10, 6, 231]), (82, .iload 5, 2, []), (84, .invokevirtual 51, 3, [0, 82, 2, 7, 1100, 152, 58, 150, 151]), (87, .invokevirtual 58, 3, [0, 89, 2, 8, 1227, 1230, 69, 1229, 47]), (90, .invokevirtual 61, 3, [0, 98, 3, 9, 1129, 1132, 70, 1130, 1131]), (93, .iadd, 1, []), (94, .istore 7, 2, []), (96, .aload_n 1, 1, []), (97, .getfield 65, 3, [10, 7, 234]), (100, .iload 7, 2, []), (102, .invokevirtual 51, 3, [0, 82, 2, 7, 1100, 152, 58, 150, 151]), (105, .istore 5, 2, []), (107, .iinc 6 1, 3, []), (110, .goto (-73), 3, [37]), (113, .return_, 1, [])]
def mX8_walkBlocks : mmM := (yX8_walkBlocks, cX8_walkBlocks, 8, none, 3, 72, tbX8_walkBlocks)
def tbX8_doLines : List mmI := [(0, .iconst 0, 1, []), (1, .istore 4, 2, []), (3, .aload_n 3, 1, []), (4, .getfield 38, 3, [9, 2, 504]), (7, .ifCond .eq 102, 3, [109]), (10, .iload 4, 2, []), (12, .aload_n 1, 1, []), (13, .getfield 68, 3, [10, 0, 211]), (16, .iload_n 2, 1, []), (17, .invokevirtual 51, 3, [0, 82, 2, 7, 1100, 152, 58, 150, 151]), (20, .if_icmp .ge 89, 3, [109]), (23, .iload_n 2, 1, []), (24, .bipush 8, 2, []), (26, .imul, 1, []), (27, .iload 4, 2, []), (29, .iadd, 1, []), (30, .istore 5, 2, []), (32, .aload_n 1, 1, []), (33, .getfield 71, 3, [10, 1, 215]), (36, .iload 5, 2, []), (38, .invokevirtual 51, 3, [0, 82, 2, 7, 1100, 152, 58, 150, 151]), (41, .istore 6, 2, []), (43, .aload_n 3, 1, []), (44, .iload 6, 2, []), (46, .aload_n 0, 1, []), (47, .aload_n 1, 1, []), (48, .getfield 74, 3, [10, 3, 221]), (51, .iload 5, 2, []), (53, .invokevirtual 51, 3, [0, 82, 2, 7, 1100, 152, 58, 150, 151]), (56, .invokevirtual 58, 3, [0, 89, 2, 8, 1227, 1230, 69, 1229, 47]), (59, .aload_n 0, 1, []), (60, .aload_n 1, 1, []), (61, .getfield 77, 3, [10, 4, 224]), (64, .iload 5, 2, []), (66, .invokevirtual 51, 3, [0, 82, 2, 7, 1100, 152, 58, 150, 151]), (69, .invokevirtual 58, 3, [0, 89, 2, 8, 1227, 1230, 69, 1229, 47]), (72, .invokevirtual 80, 3, [0, 97, 4, 9, 1112, 1115, 70, 1113, 1114]), (75, .istore 7, 2, []), (77, .iload 6, 2, []), (79, .invokestatic 84, 3, [3, 153, 1, 11, 1232, 175, 56, 174, 0]), (82, .ifCond .eq 21, 3, [103]), (85, .aload_n 0, 1, []), (86, .getfield 14, 3, [8, 0, 481]), (89, .aload_n 1, 1, []), (90, .getfield 88, 3, [10, 2, 218]), (93, .iload 5, 2, []), (95, .invokevirtual 51, 3, [0, 82, 2, 7, 1100, 152, 58, 150, 151]), (98, .iload 7, 2, []), (100, .invokevirtual 34, 3, [0, 83, 3, 7, 1094, 164, 58, 162, 163]), (103, .iinc 4 1, 3, []), (106, .goto (-103), 3, [3]), (109, .return_, 1, [])]
def mX8_doLines : mmM := (yX8_doLines, cX8_doLines, 8, none, 2, 45, tbX8_doLines)
def tbX8_read : List mmI := [(0, .iload_n 1, 1, []), (1, .invokestatic 89, 3, [3, 155, 1, 11, 1231, 171, 56, 170, 0]), (4, .istore_n 2, 1, []), (5, .iload_n 2, 1, []), (6, .iconst (-1), 1, []), (7, .if_icmp .ne 7, 3, [14]), (10, .iload_n 1, 1, []), (11, .goto 11, 3, [22]), (14, .aload_n 0, 1, []), (15, .getfield 14, 3, [8, 0, 481]), (18, .iload_n 2, 1, []), (19, .invokevirtual 51, 3, [0, 82, 2, 7, 1100, 152, 58, 150, 151]), (22, .ireturn, 1, [])]
def mX8_read : mmM := (yX8_read, cX8_read, 3, some .int, 1, 21, tbX8_read)
def tbX8_walkForm : List mmI := [(0, .aload 4, 2, []), (2, .invokevirtual 26, 3, [0, 95, 1, 9, 1088, 1091, 70, 1089, 1090]), (5, .aload_n 0, 1, []), (6, .getfield 20, 3, [8, 1, 482]), (9, .iconst 0, 1, []), (10, .invokevirtual 31, 3, [0, 84, 2, 7, 1093, 145, 58, 143, 144]), (13, .aload_n 0, 1, []), (14, .getfield 20, 3, [8, 1, 482]), (17, .iconst 0, 1, []), (18, .iload_n 2, 1, []), (19, .invokevirtual 34, 3, [0, 83, 3, 7, 1094, 164, 58, 162, 163]), (22, .aload_n 0, 1, []), (23, .getfield 20, 3, [8, 1, 482]), (26, .iconst 1, 1, []), (27, .iload_n 3, 1, []), (28, .invokevirtual 34, 3, [0, 83, 3, 7, 1094, 164, 58, 162, 163]), (31, .iconst 0, 1, []), (32, .istore 5, 2, []), (34, .iconst (-1), 1, []), (35, .istore 6, 2, []), (37, .iconst 0, 1, []), (38, .istore 7, 2, []), (40, .aload 4, 2, []), (42, .getfield 38, 3, [9, 2, 504]), (45, .ifCond .eq 85, 3, [130]), (48, .iload 7, 2, []), (50, .sipush 300, 3, []), (53, .if_icmp .gt 77, 3, [130]), (56, .aload_n 0, 1, []), (57, .aload_n 1, 1, []), (58, .iload 5, 2, []), (60, .aload_n 1, 1, []), (61, .iload 5, 2, []), (63, .iload 6, 2, []), (65, .invokevirtual 92, 3, [0, 42, 3, 3, 1095, 905, 63, 903, 904]), (68, .invokevirtual 97, 3, [0, 91, 4, 8, 1096, 1099, 69, 1098, 40]), (71, .aload_n 0, 1, []), (72, .aload_n 1, 1, []), (73, .iload 5, 2, []), (75, .aload 4, 2, []), (77, .invokevirtual 101, 3, [0, 92, 4, 8, 1108, 1111, 69, 1110, 42]), (80, .iload 5, 2, []), (82, .iconst 2, 1, []), (83, .imul, 1, []), (84, .aload 4, 2, []), (86, .aload_n 1, 1, []), (87, .getfield 105, 3, [3, 11, 328]), (90, .iload 5, 2, []), (92, .invokevirtual 51, 3, [0, 82, 2, 7, 1100, 152, 58, 150, 151]), (95, .aload_n 0, 1, []), (96, .aload_n 1, 1, []), (97, .sipush 140, 3, []), (100, .iload 5, 2, []), (102, .iadd, 1, []), (103, .iconst 0, 1, []), (104, .invokevirtual 106, 3, [0, 93, 4, 8, 1102, 1105, 69, 1104, 41]), (107, .invokevirtual 61, 3, [0, 98, 3, 9, 1129, 1132, 70, 1130, 1131]), (110, .iadd, 1, []), (111, .istore 6, 2, []), (113, .aload_n 1, 1, []), (114, .getfield 110, 3, [3, 12, 334]), (117, .iload 6, 2, []), (119, .invokevirtual 51, 3, [0, 82, 2, 7, 1100, 152, 58, 150, 151]), (122, .istore 5, 2, []), (124, .iinc 7 1, 3, []), (127, .goto (-87), 3, [40]), (130, .return_, 1, [])]
def mX8_walkForm : mmM := (yX8_walkForm, cX8_walkForm, 8, none, 4, 93, tbX8_walkForm)
def tbX8_doPhis : List mmI := [(0, .iconst 0, 1, []), (1, .istore 4, 2, []), (3, .iload 4, 2, []), (5, .aload_n 1, 1, []), (6, .getfield 111, 3, [3, 7, 315]), (9, .iload_n 2, 1, []), (10, .invokevirtual 51, 3, [0, 82, 2, 7, 1100, 152, 58, 150, 151]), (13, .if_icmp .ge 49, 3, [62]), (16, .aload_n 1, 1, []), (17, .iload_n 2, 1, []), (18, .iload 4, 2, []), (20, .invokevirtual 114, 3, [0, 35, 3, 3, 1101, 785, 63, 783, 784]), (23, .istore 5, 2, []), (25, .aload_n 1, 1, []), (26, .getfield 117, 3, [3, 0, 288]), (29, .iload 5, 2, []), (31, .invokevirtual 51, 3, [0, 82, 2, 7, 1100, 152, 58, 150, 151]), (34, .bipush 9, 2, []), (36, .if_icmp .ne 20, 3, [56]), (39, .aload_n 0, 1, []), (40, .getfield 23, 3, [8, 2, 483]), (43, .iload 5, 2, []), (45, .aload_n 0, 1, []), (46, .aload_n 1, 1, []), (47, .iload 5, 2, []), (49, .iload_n 3, 1, []), (50, .invokevirtual 106, 3, [0, 93, 4, 8, 1102, 1105, 69, 1104, 41]), (53, .invokevirtual 34, 3, [0, 83, 3, 7, 1094, 164, 58, 162, 163]), (56, .iinc 4 1, 3, []), (59, .goto (-56), 3, [3]), (62, .iconst 0, 1, []), (63, .istore 4, 2, []), (65, .iload 4, 2, []), (67, .aload_n 1, 1, []), (68, .getfield 111, 3, [3, 7, 315]), (71, .iload_n 2, 1, []), (72, .invokevirtual 51, 3, [0, 82, 2, 7, 1100, 152, 58, 150, 151]), (75, .if_icmp .ge 50, 3, [125]), (78, .aload_n 1, 1, []), (79, .iload_n 2, 1, []), (80, .iload 4, 2, []), (82, .invokevirtual 114, 3, [0, 35, 3, 3, 1101, 785, 63, 783, 784]), (85, .istore 5, 2, []), (87, .aload_n 1, 1, []), (88, .getfield 117, 3, [3, 0, 288]), (91, .iload 5, 2, []), (93, .invokevirtual 51, 3, [0, 82, 2, 7, 1100, 152, 58, 150, 151]), (96, .bipush 9, 2, []), (98, .if_icmp .ne 21, 3, [119]), (101, .aload_n 0, 1, []), (102, .getfield 20, 3, [8, 1, 482]), (105, .iload 5, 2, []), (107, .aload_n 0, 1, []), (108, .getfield 23, 3, [8, 2, 483]), (111, .iload 5, 2, []), (113, .invokevirtual 51, 3, [0, 82, 2, 7, 1100, 152, 58, 150, 151]), (116, .invokevirtual 34, 3, [0, 83, 3, 7, 1094, 164, 58, 162, 163]), (119, .iinc 4 1, 3, []), (122, .goto (-57), 3, [65]), (125, .return_, 1, [])]
def mX8_doPhis : mmM := (yX8_doPhis, cX8_doPhis, 6, none, 3, 67, tbX8_doPhis)
def tbX8_doValues : List mmI := [(0, .iconst 0, 1, []), (1, .istore 4, 2, []), (3, .aload_n 3, 1, []), (4, .getfield 38, 3, [9, 2, 504]), (7, .ifCond .eq 80, 3, [87]), (10, .iload 4, 2, []), (12, .aload_n 1, 1, []), (13, .getfield 111, 3, [3, 7, 315]), (16, .iload_n 2, 1, []), (17, .invokevirtual 51, 3, [0, 82, 2, 7, 1100, 152, 58, 150, 151]), (20, .if_icmp .ge 67, 3, [87]), (23, .aload_n 1, 1, []), (24, .iload_n 2, 1, []), (25, .iload 4, 2, []), (27, .invokevirtual 114, 3, [0, 35, 3, 3, 1101, 785, 63, 783, 784]), (30, .istore 5, 2, []), (32, .aload_n 1, 1, []), (33, .getfield 117, 3, [3, 0, 288]), (36, .iload 5, 2, []), (38, .invokevirtual 51, 3, [0, 82, 2, 7, 1100, 152, 58, 150, 151]), (41, .istore 6, 2, []), (43, .iload 6, 2, []), (45, .bipush 9, 2, []), (47, .if_icmp .eq 34, 3, [81]), (50, .aload_n 0, 1, []), (51, .getfield 20, 3, [8, 1, 482]), (54, .iload 5, 2, []), (56, .aload_n 3, 1, []), (57, .iload 6, 2, []), (59, .aload_n 0, 1, []), (60, .aload_n 1, 1, []), (61, .iload 5, 2, []), (63, .iconst 0, 1, []), (64, .invokevirtual 106, 3, [0, 93, 4, 8, 1102, 1105, 69, 1104, 41]), (67, .aload_n 0, 1, []), (68, .aload_n 1, 1, []), (69, .iload 5, 2, []), (71, .iconst 1, 1, []), (72, .invokevirtual 106, 3, [0, 93, 4, 8, 1102, 1105, 69, 1104, 41]), (75, .invokevirtual 80, 3, [0, 97, 4, 9, 1112, 1115, 70, 1113, 1114]), (78, .invokevirtual 34, 3, [0, 83, 3, 7, 1094, 164, 58, 162, 163]), (81, .iinc 4 1, 3, []), (84, .goto (-81), 3, [3]), (87, .return_, 1, [])]
def mX8_doValues : mmM := (yX8_doValues, cX8_doValues, 7, none, 3, 67, tbX8_doValues)
def tbX8_reckon : List mmI := [(0, .aload_n 1, 1, []), (1, .iload_n 2, 1, []), (2, .iload_n 3, 1, []), (3, .invokevirtual 118, 3, [0, 37, 3, 3, 1106, 987, 63, 985, 986]), (6, .istore 4, 2, []), (8, .iload 4, 2, []), (10, .iconst (-1), 1, []), (11, .if_icmp .ne 12, 3, [23]), (14, .aload_n 1, 1, []), (15, .iload_n 2, 1, []), (16, .iload_n 3, 1, []), (17, .invokevirtual 121, 3, [0, 38, 3, 3, 1107, 991, 63, 989, 990]), (20, .goto 12, 3, [32]), (23, .aload_n 0, 1, []), (24, .getfield 20, 3, [8, 1, 482]), (27, .iload 4, 2, []), (29, .invokevirtual 51, 3, [0, 82, 2, 7, 1100, 152, 58, 150, 151]), (32, .ireturn, 1, [])]
def mX8_reckon : mmM := (yX8_reckon, cX8_reckon, 5, some .int, 2, 43, tbX8_reckon)
def tbX9_init : List mmI := [(0, .aload_n 0, 1, []), (1, .invokespecial 3, 3, [9, 496, 0]), (4, .aload_n 0, 1, []), (5, .new 9, 3, [7, 497, 94, 58]), (8, .dup, 1, []), (9, .bipush 8, 2, []), (11, .invokespecial 11, 3, [4, 81, 2, 7, 498, 97, 58, 96, 0]), (14, .putfield 14, 3, [9, 1, 3, 501]), (17, .aload_n 0, 1, []), (18, .new 9, 3, [7, 497, 94, 58]), (21, .dup, 1, []), (22, .iload_n 1, 1, []), (23, .invokespecial 11, 3, [4, 81, 2, 7, 498, 97, 58, 96, 0]), (26, .putfield 20, 3, [9, 0, 3, 499]), (29, .return_, 1, [])]
def mX9_init : mmM := (yX9_init, cX9_init, 2, none, 2, 41, tbX9_init)
def tbX9_begin : List mmI := [(0, .aload_n 0, 1, []), (1, .getfield 14, 3, [9, 1, 501]), (4, .iconst 0, 1, []), (5, .invokevirtual 23, 3, [0, 84, 2, 7, 1092, 145, 58, 143, 144]), (8, .aload_n 0, 1, []), (9, .iconst 1, 1, []), (10, .putfield 26, 3, [9, 2, 1, 503]), (13, .aload_n 0, 1, []), (14, .iconst 0, 1, []), (15, .putfield 30, 3, [9, 3, 0, 505]), (18, .aload_n 0, 1, []), (19, .iconst 0, 1, []), (20, .putfield 34, 3, [9, 4, 0, 507]), (23, .aload_n 0, 1, []), (24, .iconst 0, 1, []), (25, .putfield 37, 3, [9, 5, 0, 509]), (28, .aload_n 0, 1, []), (29, .iconst 0, 1, []), (30, .putfield 40, 3, [9, 6, 0, 511]), (33, .aload_n 0, 1, []), (34, .iconst 0, 1, []), (35, .putfield 43, 3, [9, 7, 0, 513]), (38, .return_, 1, [])]
def mX9_begin : mmM := (yX9_begin, cX9_begin, 1, none, 2, 44, tbX9_begin)
def tbX9_finish : List mmI := [(0, .aload_n 0, 1, []), (1, .iconst 0, 1, []), (2, .putfield 26, 3, [9, 2, 1, 503]), (5, .aload_n 0, 1, []), (6, .iload_n 1, 1, []), (7, .putfield 30, 3, [9, 3, 0, 505]), (10, .return_, 1, [])]
def mX9_finish : mmM := (yX9_finish, cX9_finish, 2, none, 0, 0, tbX9_finish)
def tbX9_act : List mmI := [(0, .aload_n 0, 1, []), (1, .dup, 1, []), (2, .getfield 40, 3, [9, 6, 511]), (5, .iload_n 1, 1, []), (6, .invokestatic 46, 3, [3, 158, 1, 11, 1116, 1118, 56, 1117, 0]), (9, .iadd, 1, []), (10, .putfield 40, 3, [9, 6, 0, 511]), (13, .iload_n 1, 1, []), (14, .tableswitch 106 0 8 #[50, 106, 106, 106, 106, 106, 52, 66, 82], 50, [120, 64, 120, 120, 120, 120, 120, 66, 80, 96]), (64, .iload_n 2, 1, []), (65, .ireturn, 1, []), (66, .aload_n 0, 1, []), (67, .getfield 14, 3, [9, 1, 501]), (70, .iload_n 2, 1, []), (71, .bipush 8, 2, []), (73, .invokestatic 50, 3, [2, 166, 2, 0, 1119, 1121, 61, 1120, 0]), (76, .invokevirtual 56, 3, [0, 82, 2, 7, 1122, 152, 58, 150, 151]), (79, .ireturn, 1, []), (80, .aload_n 0, 1, []), (81, .getfield 14, 3, [9, 1, 501]), (84, .iload_n 2, 1, []), (85, .bipush 8, 2, []), (87, .invokestatic 50, 3, [2, 166, 2, 0, 1119, 1121, 61, 1120, 0]), (90, .iload_n 3, 1, []), (91, .invokevirtual 59, 3, [0, 83, 3, 7, 1123, 164, 58, 162, 163]), (94, .iconst 0, 1, []), (95, .ireturn, 1, []), (96, .aload_n 0, 1, []), (97, .getfield 20, 3, [9, 0, 499]), (100, .aload_n 0, 1, []), (101, .getfield 37, 3, [9, 5, 509]), (104, .iload_n 2, 1, []), (105, .invokevirtual 59, 3, [0, 83, 3, 7, 1123, 164, 58, 162, 163]), (108, .aload_n 0, 1, []), (109, .dup, 1, []), (110, .getfield 37, 3, [9, 5, 509]), (113, .iconst 1, 1, []), (114, .iadd, 1, []), (115, .putfield 37, 3, [9, 5, 0, 509]), (118, .iconst 0, 1, []), (119, .ireturn, 1, []), (120, .iload_n 1, 1, []), (121, .iconst 4, 1, []), (122, .if_icmp .ne 12, 3, [134]), (125, .iload_n 3, 1, []), (126, .ifCond .ne 8, 3, [134]), (129, .aload_n 0, 1, []), (130, .iconst 1, 1, []), (131, .invokevirtual 63, 3, [0, 96, 2, 9, 1124, 1127, 70, 1126, 43]), (134, .iload_n 1, 1, []), (135, .iload_n 2, 1, []), (136, .iload_n 3, 1, []), (137, .invokestatic 66, 3, [3, 157, 3, 11, 1128, 885, 56, 884, 0]), (140, .ireturn, 1, [])]
def mX9_act : mmM := (yX9_act, cX9_act, 4, some .int, 1, 22, tbX9_act)
def tbX9_leaveBy : List mmI := [(0, .aload_n 0, 1, []), (1, .getfield 26, 3, [9, 2, 503]), (4, .ifCond .ne 5, 3, [9]), (7, .iconst 0, 1, []), (8, .ireturn, 1, []), (9, .aload_n 0, 1, []), (10, .getfield 43, 3, [9, 7, 513]), (13, .sipush 300, 3, []), (16, .if_icmp .lt 10, 3, [26]), (19, .aload_n 0, 1, []), (20, .iconst 2, 1, []), (21, .invokevirtual 63, 3, [0, 96, 2, 9, 1124, 1127, 70, 1126, 43]), (24, .iconst 0, 1, []), (25, .ireturn, 1, []), (26, .aload_n 0, 1, []), (27, .dup, 1, []), (28, .getfield 43, 3, [9, 7, 513]), (31, .iconst 1, 1, []), (32, .iadd, 1, []), (33, .putfield 43, 3, [9, 7, 0, 513]), (36, .iload_n 1, 1, []), (37, .ifCond .ne 15, 3, [52]), (40, .aload_n 0, 1, []), (41, .iload_n 2, 1, []), (42, .putfield 34, 3, [9, 4, 0, 507]), (45, .aload_n 0, 1, []), (46, .iconst 0, 1, []), (47, .invokevirtual 63, 3, [0, 96, 2, 9, 1124, 1127, 70, 1126, 43]), (50, .iconst 0, 1, []), (51, .ireturn, 1, []), (52, .aload_n 0, 1, []), (53, .dup, 1, []), (54, .getfield 40, 3, [9, 6, 511]), (57, .iload_n 1, 1, []), (58, .iconst 2, 1, []), (59, .if_icmp .ne 7, 3, [66]), (62, .iconst 2, 1, []), (63, .goto 4, 3, [67]), (66, .iconst 1, 1, []), (67, .iadd, 1, []), (68, .putfield 40, 3, [9, 6, 0, 511]), (71, .iload_n 1, 1, []), (72, .iconst 2, 1, []), (73, .if_icmp .ne 11, 3, [84]), (76, .iload_n 2, 1, []), (77, .ifCond .gt 7, 3, [84]), (80, .iconst 1, 1, []), (81, .goto 4, 3, [85]), (84, .iconst 0, 1, []), (85, .ireturn, 1, [])]
def mX9_leaveBy : mmM := (yX9_leaveBy, cX9_leaveBy, 3, some .int, 1, 21, tbX9_leaveBy)
def tbX9_isLike : List mmI := [(0, .aload_n 0, 1, []), (1, .getfield 30, 3, [9, 3, 505]), (4, .aload_n 1, 1, []), (5, .getfield 30, 3, [9, 3, 505]), (8, .if_icmp .ne 29, 3, [37]), (11, .aload_n 0, 1, []), (12, .getfield 34, 3, [9, 4, 507]), (15, .aload_n 1, 1, []), (16, .getfield 34, 3, [9, 4, 507]), (19, .if_icmp .ne 18, 3, [37]), (22, .aload_n 0, 1, []), (23, .getfield 37, 3, [9, 5, 509]), (26, .aload_n 1, 1, []), (27, .getfield 37, 3, [9, 5, 509]), (30, .if_icmp .ne 7, 3, [37]), (33, .iconst 1, 1, []), (34, .goto 4, 3, [38]), (37, .iconst 0, 1, []), (38, .istore_n 2, 1, []), (39, .iconst 0, 1, []), (40, .istore_n 3, 1, []), (41, .iload_n 3, 1, []), (42, .bipush 8, 2, []), (44, .if_icmp .ge 38, 3, [82]), (47, .iload_n 2, 1, []), (48, .ifCond .eq 26, 3, [74]), (51, .aload_n 0, 1, []), (52, .getfield 14, 3, [9, 1, 501]), (55, .iload_n 3, 1, []), (56, .invokevirtual 56, 3, [0, 82, 2, 7, 1122, 152, 58, 150, 151]), (59, .aload_n 1, 1, []), (60, .getfield 14, 3, [9, 1, 501]), (63, .iload_n 3, 1, []), (64, .invokevirtual 56, 3, [0, 82, 2, 7, 1122, 152, 58, 150, 151]), (67, .if_icmp .ne 7, 3, [74]), (70, .iconst 1, 1, []), (71, .goto 4, 3, [75]), (74, .iconst 0, 1, []), (75, .istore_n 2, 1, []), (76, .iinc 3 1, 3, []), (79, .goto (-38), 3, [41]), (82, .iconst 0, 1, []), (83, .istore_n 3, 1, []), (84, .iload_n 2, 1, []), (85, .ifCond .eq 42, 3, [127]), (88, .iload_n 3, 1, []), (89, .aload_n 0, 1, []), (90, .getfield 37, 3, [9, 5, 509]), (93, .if_icmp .ge 34, 3, [127]), (96, .aload_n 0, 1, []), (97, .getfield 20, 3, [9, 0, 499]), (100, .iload_n 3, 1, []), (101, .invokevirtual 56, 3, [0, 82, 2, 7, 1122, 152, 58, 150, 151]), (104, .aload_n 1, 1, []), (105, .getfield 20, 3, [9, 0, 499]), (108, .iload_n 3, 1, []), (109, .invokevirtual 56, 3, [0, 82, 2, 7, 1122, 152, 58, 150, 151]), (112, .if_icmp .ne 7, 3, [119]), (115, .iconst 1, 1, []), (116, .goto 4, 3, [120]), (119, .iconst 0, 1, []), (120, .istore_n 2, 1, []), (121, .iinc 3 1, 3, []), (124, .goto (-40), 3, [84]), (127, .iload_n 2, 1, []), (128, .ireturn, 1, [1])]
def mX9_isLike : mmM := (yX9_isLike, cX9_isLike, 4, some .boolean, 1, 21, tbX9_isLike)
def tbX10_init : List mmI := [(0, .aload_n 0, 1, []), (1, .invokespecial 3, 3, [9, 92, 0]), (4, .aload_n 0, 1, []), (5, .new 9, 3, [7, 93, 94, 58]), (8, .dup, 1, []), (9, .bipush 10, 2, []), (11, .invokespecial 11, 3, [4, 81, 2, 7, 95, 97, 58, 96, 0]), (14, .putfield 14, 3, [10, 0, 3, 210]), (17, .aload_n 0, 1, []), (18, .new 9, 3, [7, 93, 94, 58]), (21, .dup, 1, []), (22, .bipush 80, 2, []), (24, .invokespecial 11, 3, [4, 81, 2, 7, 95, 97, 58, 96, 0]), (27, .putfield 20, 3, [10, 1, 3, 214]), (30, .aload_n 0, 1, []), (31, .new 9, 3, [7, 93, 94, 58]), (34, .dup, 1, []), (35, .bipush 80, 2, []), (37, .invokespecial 11, 3, [4, 81, 2, 7, 95, 97, 58, 96, 0]), (40, .putfield 23, 3, [10, 2, 3, 217]), (43, .aload_n 0, 1, []), (44, .new 9, 3, [7, 93, 94, 58]), (47, .dup, 1, []), (48, .bipush 80, 2, []), (50, .invokespecial 11, 3, [4, 81, 2, 7, 95, 97, 58, 96, 0]), (53, .putfield 26, 3, [10, 3, 3, 220]), (56, .aload_n 0, 1, []), (57, .new 9, 3, [7, 93, 94, 58]), (60, .dup, 1, []), (61, .bipush 80, 2, []), (63, .invokespecial 11, 3, [4, 81, 2, 7, 95, 97, 58, 96, 0]), (66, .putfield 29, 3, [10, 4, 3, 223]), (69, .aload_n 0, 1, []), (70, .new 9, 3, [7, 93, 94, 58]), (73, .dup, 1, []), (74, .bipush 10, 2, []), (76, .invokespecial 11, 3, [4, 81, 2, 7, 95, 97, 58, 96, 0]), (79, .putfield 32, 3, [10, 5, 3, 226]), (82, .aload_n 0, 1, []), (83, .new 9, 3, [7, 93, 94, 58]), (86, .dup, 1, []), (87, .bipush 10, 2, []), (89, .invokespecial 11, 3, [4, 81, 2, 7, 95, 97, 58, 96, 0]), (92, .putfield 35, 3, [10, 6, 3, 230]), (95, .aload_n 0, 1, []), (96, .new 9, 3, [7, 93, 94, 58]), (99, .dup, 1, []), (100, .bipush 20, 2, []), (102, .invokespecial 11, 3, [4, 81, 2, 7, 95, 97, 58, 96, 0]), (105, .putfield 38, 3, [10, 7, 3, 233]), (108, .aload_n 0, 1, []), (109, .new 9, 3, [7, 93, 94, 58]), (112, .dup, 1, []), (113, .bipush 10, 2, []), (115, .invokespecial 11, 3, [4, 81, 2, 7, 95, 97, 58, 96, 0]), (118, .putfield 41, 3, [10, 8, 3, 236]), (121, .aload_n 0, 1, []), (122, .new 9, 3, [7, 93, 94, 58]), (125, .dup, 1, []), (126, .bipush 10, 2, []), (128, .invokespecial 11, 3, [4, 81, 2, 7, 95, 97, 58, 96, 0]), (131, .putfield 44, 3, [10, 9, 3, 237]), (134, .aload_n 0, 1, []), (135, .new 9, 3, [7, 93, 94, 58]), (138, .dup, 1, []), (139, .bipush 10, 2, []), (141, .invokespecial 11, 3, [4, 81, 2, 7, 95, 97, 58, 96, 0]), (144, .putfield 47, 3, [10, 10, 3, 239]), (147, .aload_n 0, 1, []), (148, .new 50, 3, [2, 104, 105, 59]), (151, .dup, 1, []), (152, .invokespecial 52, 3, [5, 19, 1, 2, 106, 108, 59, 107, 0]), (155, .putfield 53, 3, [10, 11, 3, 242]), (158, .aload_n 0, 1, []), (159, .iconst 1, 1, []), (160, .putfield 57, 3, [10, 12, 0, 245]), (163, .aload_n 0, 1, []), (164, .invokevirtual 61, 3, [0, 106, 1, 10, 134, 137, 57, 136, 0]), (167, .return_, 1, [])]
def mX10_init : mmM := (yX10_init, cX10_init, 1, none, 4, 93, tbX10_init)
def tbX10_addBlock : List mmI := [(0, .aload_n 0, 1, []), (1, .dup, 1, []), (2, .getfield 57, 3, [10, 12, 245]), (5, .iconst 1, 1, []), (6, .iadd, 1, []), (7, .putfield 57, 3, [10, 12, 0, 245]), (10, .aload_n 0, 1, []), (11, .invokevirtual 61, 3, [0, 106, 1, 10, 134, 137, 57, 136, 0]), (14, .aload_n 0, 1, []), (15, .getfield 57, 3, [10, 12, 245]), (18, .iconst 1, 1, []), (19, .isub, 1, []), (20, .ireturn, 1, [])]
def mX10_addBlock : mmM := (yX10_addBlock, cX10_addBlock, 1, some .int, 4, 93, tbX10_addBlock)
def tbX10_addLine : List mmI := [(0, .aload_n 0, 1, []), (1, .getfield 14, 3, [10, 0, 210]), (4, .iload_n 1, 1, []), (5, .invokevirtual 64, 3, [0, 82, 2, 7, 149, 152, 58, 150, 151]), (8, .istore 6, 2, []), (10, .iload_n 1, 1, []), (11, .bipush 8, 2, []), (13, .imul, 1, []), (14, .iload 6, 2, []), (16, .iadd, 1, []), (17, .istore 7, 2, []), (19, .aload_n 0, 1, []), (20, .getfield 20, 3, [10, 1, 214]), (23, .iload 7, 2, []), (25, .iload_n 2, 1, []), (26, .invokevirtual 68, 3, [0, 83, 3, 7, 176, 164, 58, 162, 163]), (29, .aload_n 0, 1, []), (30, .getfield 23, 3, [10, 2, 217]), (33, .iload 7, 2, []), (35, .iload_n 3, 1, []), (36, .invokevirtual 68, 3, [0, 83, 3, 7, 176, 164, 58, 162, 163]), (39, .aload_n 0, 1, []), (40, .getfield 26, 3, [10, 3, 220]), (43, .iload 7, 2, []), (45, .iload 4, 2, []), (47, .invokevirtual 68, 3, [0, 83, 3, 7, 176, 164, 58, 162, 163]), (50, .aload_n 0, 1, []), (51, .getfield 29, 3, [10, 4, 223]), (54, .iload 7, 2, []), (56, .iload 5, 2, []), (58, .invokevirtual 68, 3, [0, 83, 3, 7, 176, 164, 58, 162, 163]), (61, .aload_n 0, 1, []), (62, .getfield 14, 3, [10, 0, 210]), (65, .iload_n 1, 1, []), (66, .iload 6, 2, []), (68, .iconst 1, 1, []), (69, .iadd, 1, []), (70, .invokevirtual 68, 3, [0, 83, 3, 7, 176, 164, 58, 162, 163]), (73, .aload_n 0, 1, []), (74, .invokevirtual 61, 3, [0, 106, 1, 10, 134, 137, 57, 136, 0]), (77, .iload 6, 2, []), (79, .ireturn, 1, [])]
def mX10_addLine : mmM := (yX10_addLine, cX10_addLine, 8, some .int, 4, 93, tbX10_addLine)
def tbX10_cutLine : List mmI := [(0, .aload_n 0, 1, []), (1, .getfield 14, 3, [10, 0, 210]), (4, .iload_n 1, 1, []), (5, .invokevirtual 64, 3, [0, 82, 2, 7, 149, 152, 58, 150, 151]), (8, .iconst 1, 1, []), (9, .isub, 1, []), (10, .istore_n 2, 1, []), (11, .aload_n 0, 1, []), (12, .getfield 14, 3, [10, 0, 210]), (15, .iload_n 1, 1, []), (16, .iload_n 2, 1, []), (17, .invokevirtual 68, 3, [0, 83, 3, 7, 176, 164, 58, 162, 163]), (20, .aload_n 0, 1, []), (21, .invokevirtual 61, 3, [0, 106, 1, 10, 134, 137, 57, 136, 0]), (24, .iload_n 2, 1, []), (25, .ireturn, 1, [])]
def mX10_cutLine : mmM := (yX10_cutLine, cX10_cutLine, 3, some .int, 4, 93, tbX10_cutLine)
def tbX10_putEnd : List mmI := [(0, .aload_n 0, 1, []), (1, .getfield 32, 3, [10, 5, 226]), (4, .iload_n 1, 1, []), (5, .invokevirtual 64, 3, [0, 82, 2, 7, 149, 152, 58, 150, 151]), (8, .istore 6, 2, []), (10, .aload_n 0, 1, []), (11, .getfield 32, 3, [10, 5, 226]), (14, .iload_n 1, 1, []), (15, .iload_n 2, 1, []), (16, .invokevirtual 68, 3, [0, 83, 3, 7, 176, 164, 58, 162, 163]), (19, .aload_n 0, 1, []), (20, .getfield 35, 3, [10, 6, 230]), (23, .iload_n 1, 1, []), (24, .iload_n 3, 1, []), (25, .invokevirtual 68, 3, [0, 83, 3, 7, 176, 164, 58, 162, 163]), (28, .aload_n 0, 1, []), (29, .getfield 38, 3, [10, 7, 233]), (32, .iload_n 1, 1, []), (33, .iconst 2, 1, []), (34, .imul, 1, []), (35, .iload 4, 2, []), (37, .invokevirtual 68, 3, [0, 83, 3, 7, 176, 164, 58, 162, 163]), (40, .aload_n 0, 1, []), (41, .getfield 38, 3, [10, 7, 233]), (44, .iload_n 1, 1, []), (45, .iconst 2, 1, []), (46, .imul, 1, []), (47, .iconst 1, 1, []), (48, .iadd, 1, []), (49, .iload 5, 2, []), (51, .invokevirtual 68, 3, [0, 83, 3, 7, 176, 164, 58, 162, 163]), (54, .aload_n 0, 1, []), (55, .invokevirtual 61, 3, [0, 106, 1, 10, 134, 137, 57, 136, 0]), (58, .iload 6, 2, []), (60, .ireturn, 1, [])]
def mX10_putEnd : mmM := (yX10_putEnd, cX10_putEnd, 7, some .int, 4, 93, tbX10_putEnd)
def tbX10_allLines : List mmI := [(0, .iconst 0, 1, []), (1, .istore_n 1, 1, []), (2, .iconst 0, 1, []), (3, .istore_n 2, 1, []), (4, .iload_n 2, 1, []), (5, .aload_n 0, 1, []), (6, .getfield 57, 3, [10, 12, 245]), (9, .if_icmp .ge 20, 3, [29]), (12, .iload_n 1, 1, []), (13, .aload_n 0, 1, []), (14, .getfield 14, 3, [10, 0, 210]), (17, .iload_n 2, 1, []), (18, .invokevirtual 64, 3, [0, 82, 2, 7, 149, 152, 58, 150, 151]), (21, .iadd, 1, []), (22, .istore_n 1, 1, []), (23, .iinc 2 1, 3, []), (26, .goto (-22), 3, [4]), (29, .iload_n 1, 1, []), (30, .ireturn, 1, [])]
def mX10_allLines : mmM := (yX10_allLines, cX10_allLines, 3, some .int, 1, 21, tbX10_allLines)
def tbX10_reckon : List mmI := [(0, .aload_n 0, 1, []), (1, .getfield 53, 3, [10, 11, 242]), (4, .invokevirtual 72, 3, [0, 20, 1, 2, 138, 141, 59, 139, 140]), (7, .iconst 0, 1, []), (8, .istore_n 1, 1, []), (9, .iload_n 1, 1, []), (10, .aload_n 0, 1, []), (11, .getfield 57, 3, [10, 12, 245]), (14, .if_icmp .ge 54, 3, [68]), (17, .iconst 0, 1, []), (18, .istore_n 2, 1, []), (19, .iload_n 2, 1, []), (20, .aload_n 0, 1, []), (21, .getfield 32, 3, [10, 5, 226]), (24, .iload_n 1, 1, []), (25, .invokevirtual 64, 3, [0, 82, 2, 7, 149, 152, 58, 150, 151]), (28, .if_icmp .ge 29, 3, [57]), (31, .aload_n 0, 1, []), (32, .getfield 53, 3, [10, 11, 242]), (35, .iload_n 1, 1, []), (36, .aload_n 0, 1, []), (37, .getfield 38, 3, [10, 7, 233]), (40, .iload_n 1, 1, []), (41, .iconst 2, 1, []), (42, .imul, 1, []), (43, .iload_n 2, 1, []), (44, .iadd, 1, []), (45, .invokevirtual 64, 3, [0, 82, 2, 7, 149, 152, 58, 150, 151]), (48, .invokevirtual 75, 3, [0, 21, 3, 2, 153, 156, 59, 154, 155]), (51, .iinc 2 1, 3, []), (54, .goto (-35), 3, [19]), (57, .aload_n 0, 1, []), (58, .iload_n 1, 1, []), (59, .invokevirtual 78, 3, [0, 107, 2, 10, 165, 168, 57, 167, 1]), (62, .iinc 1 1, 3, []), (65, .goto (-56), 3, [9]), (68, .aload_n 0, 1, []), (69, .getfield 53, 3, [10, 11, 242]), (72, .invokevirtual 81, 3, [0, 22, 1, 2, 177, 180, 59, 178, 179]), (75, .aload_n 0, 1, []), (76, .invokevirtual 82, 3, [0, 108, 1, 10, 196, 199, 57, 198, 5]), (79, .return_, 1, [])]
def mX10_reckon : mmM := (yX10_reckon, cX10_reckon, 3, none, 3, 71, tbX10_reckon)
def tbX10_readLines : List mmI := [(0, .iconst 0, 1, []), (1, .istore_n 2, 1, []), (2, .iconst 0, 1, []), (3, .istore_n 3, 1, []), (4, .iconst 0, 1, []), (5, .istore 4, 2, []), (7, .iload 4, 2, []), (9, .aload_n 0, 1, []), (10, .getfield 14, 3, [10, 0, 210]), (13, .iload_n 1, 1, []), (14, .invokevirtual 64, 3, [0, 82, 2, 7, 149, 152, 58, 150, 151]), (17, .if_icmp .ge 86, 3, [103]), (20, .iload_n 1, 1, []), (21, .bipush 8, 2, []), (23, .imul, 1, []), (24, .iload 4, 2, []), (26, .iadd, 1, []), (27, .istore 5, 2, []), (29, .iload_n 2, 1, []), (30, .iload_n 3, 1, []), (31, .iconst (-1), 1, []), (32, .ixor, 1, []), (33, .aload_n 0, 1, []), (34, .getfield 26, 3, [10, 3, 220]), (37, .iload 5, 2, []), (39, .invokevirtual 64, 3, [0, 82, 2, 7, 149, 152, 58, 150, 151]), (42, .invokestatic 85, 3, [3, 155, 1, 11, 169, 171, 56, 170, 0]), (45, .invokestatic 88, 3, [3, 151, 1, 11, 172, 160, 56, 159, 0]), (48, .aload_n 0, 1, []), (49, .getfield 29, 3, [10, 4, 223]), (52, .iload 5, 2, []), (54, .invokevirtual 64, 3, [0, 82, 2, 7, 149, 152, 58, 150, 151]), (57, .invokestatic 85, 3, [3, 155, 1, 11, 169, 171, 56, 170, 0]), (60, .invokestatic 88, 3, [3, 151, 1, 11, 172, 160, 56, 159, 0]), (63, .ior, 1, []), (64, .iand, 1, []), (65, .ior, 1, []), (66, .istore_n 2, 1, []), (67, .aload_n 0, 1, []), (68, .getfield 20, 3, [10, 1, 214]), (71, .iload 5, 2, []), (73, .invokevirtual 64, 3, [0, 82, 2, 7, 149, 152, 58, 150, 151]), (76, .invokestatic 91, 3, [3, 153, 1, 11, 173, 175, 56, 174, 0]), (79, .ifCond .eq 18, 3, [97]), (82, .iload_n 3, 1, []), (83, .aload_n 0, 1, []), (84, .getfield 23, 3, [10, 2, 217]), (87, .iload 5, 2, []), (89, .invokevirtual 64, 3, [0, 82, 2, 7, 149, 152, 58, 150, 151]), (92, .invokestatic 88, 3, [3, 151, 1, 11, 172, 160, 56, 159, 0]), (95, .ior, 1, []), (96, .istore_n 3, 1, []), (97, .iinc 4 1, 3, []), (100, .goto (-93), 3, [7]), (103, .aload_n 0, 1, []), (104, .getfield 41, 3, [10, 8, 236]), (107, .iload_n 1, 1, []), (108, .iload_n 2, 1, []), (109, .iload_n 3, 1, []), (110, .iconst (-1), 1, []), (111, .ixor, 1, []), (112, .aload_n 0, 1, []), (113, .getfield 35, 3, [10, 6, 230]), (116, .iload_n 1, 1, []), (117, .invokevirtual 64, 3, [0, 82, 2, 7, 149, 152, 58, 150, 151]), (120, .invokestatic 85, 3, [3, 155, 1, 11, 169, 171, 56, 170, 0]), (123, .invokestatic 88, 3, [3, 151, 1, 11, 172, 160, 56, 159, 0]), (126, .iand, 1, []), (127, .ior, 1, []), (128, .invokevirtual 68, 3, [0, 83, 3, 7, 176, 164, 58, 162, 163]), (131, .aload_n 0, 1, []), (132, .getfield 44, 3, [10, 9, 237]), (135, .iload_n 1, 1, []), (136, .iload_n 3, 1, []), (137, .invokevirtual 68, 3, [0, 83, 3, 7, 176, 164, 58, 162, 163]), (140, .return_, 1, [])]
def mX10_readLines : mmM := (yX10_readLines, cX10_readLines, 6, none, 1, 22, tbX10_readLines)
def tbX10_reckonWanted : List mmI := [(0, .aload_n 0, 1, []), (1, .getfield 47, 3, [10, 10, 239]), (4, .aload_n 0, 1, []), (5, .getfield 41, 3, [10, 8, 236]), (8, .invokevirtual 95, 3, [0, 85, 2, 7, 200, 203, 58, 201, 202]), (11, .iconst 0, 1, []), (12, .istore_n 1, 1, []), (13, .iload_n 1, 1, []), (14, .bipush 10, 2, []), (16, .if_icmp .ge 101, 3, [117]), (19, .iconst 0, 1, []), (20, .istore_n 2, 1, []), (21, .iload_n 2, 1, []), (22, .aload_n 0, 1, []), (23, .getfield 57, 3, [10, 12, 245]), (26, .if_icmp .ge 85, 3, [111]), (29, .iconst 0, 1, []), (30, .istore_n 3, 1, []), (31, .iconst 0, 1, []), (32, .istore 4, 2, []), (34, .iload 4, 2, []), (36, .aload_n 0, 1, []), (37, .getfield 32, 3, [10, 5, 226]), (40, .iload_n 2, 1, []), (41, .invokevirtual 64, 3, [0, 82, 2, 7, 149, 152, 58, 150, 151]), (44, .if_icmp .ge 32, 3, [76]), (47, .iload_n 3, 1, []), (48, .aload_n 0, 1, []), (49, .getfield 47, 3, [10, 10, 239]), (52, .aload_n 0, 1, []), (53, .getfield 38, 3, [10, 7, 233]), (56, .iload_n 2, 1, []), (57, .iconst 2, 1, []), (58, .imul, 1, []), (59, .iload 4, 2, []), (61, .iadd, 1, []), (62, .invokevirtual 64, 3, [0, 82, 2, 7, 149, 152, 58, 150, 151]), (65, .invokevirtual 64, 3, [0, 82, 2, 7, 149, 152, 58, 150, 151]), (68, .ior, 1, []), (69, .istore_n 3, 1, []), (70, .iinc 4 1, 3, []), (73, .goto (-39), 3, [34]), (76, .aload_n 0, 1, []), (77, .getfield 47, 3, [10, 10, 239]), (80, .iload_n 2, 1, []), (81, .aload_n 0, 1, []), (82, .getfield 41, 3, [10, 8, 236]), (85, .iload_n 2, 1, []), (86, .invokevirtual 64, 3, [0, 82, 2, 7, 149, 152, 58, 150, 151]), (89, .iload_n 3, 1, []), (90, .aload_n 0, 1, []), (91, .getfield 44, 3, [10, 9, 237]), (94, .iload_n 2, 1, []), (95, .invokevirtual 64, 3, [0, 82, 2, 7, 149, 152, 58, 150, 151]), (98, .iconst (-1), 1, []), (99, .ixor, 1, []), (100, .iand, 1, []), (101, .ior, 1, []), (102, .invokevirtual 68, 3, [0, 83, 3, 7, 176, 164, 58, 162, 163]), (105, .iinc 2 1, 3, []), (108, .goto (-87), 3, [21]), (111, .iinc 1 1, 3, []), (114, .goto (-101), 3, [13]), (117, .return_, 1, [])]
def mX10_reckonWanted : mmM := (yX10_reckonWanted, cX10_reckonWanted, 5, none, 2, 47, tbX10_reckonWanted)
def tbX11_init : List mmI := [(0, .aload_n 0, 1, []), (1, .invokespecial 3, 3, [9, 84, 0]), (4, .aload_n 0, 1, []), (5, .new 9, 3, [10, 87, 88, 57]), (8, .dup, 1, []), (9, .invokespecial 11, 3, [4, 100, 1, 10, 89, 91, 57, 90, 0]), (12, .putfield 12, 3, [11, 0, 3, 532]), (15, .aload_n 0, 1, []), (16, .new 16, 3, [3, 275, 276, 63]), (19, .dup, 1, []), (20, .invokespecial 18, 3, [5, 28, 1, 3, 277, 279, 63, 278, 0]), (23, .putfield 19, 3, [11, 1, 3, 533]), (26, .aload_n 0, 1, []), (27, .new 16, 3, [3, 275, 276, 63]), (30, .dup, 1, []), (31, .invokespecial 18, 3, [5, 28, 1, 3, 277, 279, 63, 278, 0]), (34, .putfield 23, 3, [11, 2, 3, 534]), (37, .aload_n 0, 1, []), (38, .new 26, 3, [5, 397, 398, 64]), (41, .dup, 1, []), (42, .invokespecial 28, 3, [5, 60, 1, 5, 399, 401, 64, 400, 0]), (45, .putfield 29, 3, [11, 3, 3, 535]), (48, .aload_n 0, 1, []), (49, .new 33, 3, [0, 415, 416, 65]), (52, .dup, 1, []), (53, .invokespecial 35, 3, [5, 0, 1, 0, 417, 419, 65, 418, 0]), (56, .putfield 36, 3, [11, 4, 3, 536]), (59, .aload_n 0, 1, []), (60, .new 40, 3, [6, 439, 440, 66]), (63, .dup, 1, []), (64, .invokespecial 42, 3, [5, 74, 1, 6, 441, 443, 66, 442, 0]), (67, .putfield 43, 3, [11, 5, 3, 537]), (70, .aload_n 0, 1, []), (71, .new 47, 3, [1, 451, 452, 67]), (74, .dup, 1, []), (75, .invokespecial 49, 3, [5, 14, 1, 1, 453, 455, 67, 454, 0]), (78, .putfield 50, 3, [11, 6, 3, 538]), (81, .aload_n 0, 1, []), (82, .new 54, 3, [4, 466, 467, 68]), (85, .dup, 1, []), (86, .invokespecial 56, 3, [5, 55, 1, 4, 468, 470, 68, 469, 0]), (89, .putfield 57, 3, [11, 7, 3, 539]), (92, .aload_n 0, 1, []), (93, .new 61, 3, [8, 473, 474, 69]), (96, .dup, 1, []), (97, .invokespecial 63, 3, [5, 86, 1, 8, 475, 477, 69, 476, 0]), (100, .putfield 64, 3, [11, 8, 3, 540]), (103, .aload_n 0, 1, []), (104, .new 68, 3, [9, 491, 492, 70]), (107, .dup, 1, []), (108, .bipush 60, 2, []), (110, .invokespecial 70, 3, [4, 94, 2, 9, 493, 495, 70, 494, 0]), (113, .putfield 73, 3, [11, 9, 3, 541]), (116, .aload_n 0, 1, []), (117, .new 68, 3, [9, 491, 492, 70]), (120, .dup, 1, []), (121, .sipush 2408, 3, []), (124, .invokespecial 70, 3, [4, 94, 2, 9, 493, 495, 70, 494, 0]), (127, .putfield 77, 3, [11, 10, 3, 542]), (130, .aload_n 0, 1, []), (131, .new 68, 3, [9, 491, 492, 70]), (134, .dup, 1, []), (135, .sipush 2408, 3, []), (138, .invokespecial 70, 3, [4, 94, 2, 9, 493, 495, 70, 494, 0]), (141, .putfield 80, 3, [11, 11, 3, 543]), (144, .return_, 1, [])]
def mX11_init : mmM := (yX11_init, cX11_init, 1, none, 5, 113, tbX11_init)
def tbX11_block : List mmI := [(0, .aload_n 0, 1, []), (1, .getfield 12, 3, [11, 0, 532]), (4, .getfield 83, 3, [10, 12, 247]), (7, .bipush 10, 2, []), (9, .if_icmp .lt 13, 3, [22]), (12, .new 87, 3, []), (15, .dup, 1, []), (16, .ldc 89, 2, []), (18, .invokespecial 91, 3, []), (21, .athrow, 1, []), (22, .aload_n 0, 1, []), (23, .getfield 12, 3, [11, 0, 532]), (26, .invokevirtual 94, 3, [0, 101, 1, 10, 1165, 1168, 57, 1166, 1167]), (29, .ireturn, 1, [])]
def mX11_block : mmM := (yX11_block, cX11_block, 1, some .int, 5, 113, tbX11_block)
def tbX11_line : List mmI := [(0, .aload_n 0, 1, []), (1, .iload_n 1, 1, []), (2, .invokevirtual 98, 3, [0, 134, 2, 11, 582, 585, 56, 584, 6]), (5, .ifCond .ne 13, 3, [18]), (8, .new 102, 3, []), (11, .dup, 1, []), (12, .ldc 104, 2, []), (14, .invokespecial 106, 3, []), (17, .athrow, 1, []), (18, .iload_n 2, 1, []), (19, .iload_n 3, 1, []), (20, .iload 4, 2, []), (22, .iload 5, 2, []), (24, .invokestatic 107, 3, [2, 137, 4, 11, 654, 656, 56, 655, 0]), (27, .ifCond .ne 13, 3, [40]), (30, .new 111, 3, []), (33, .dup, 1, []), (34, .ldc 113, 2, []), (36, .invokespecial 115, 3, []), (39, .athrow, 1, []), (40, .aload_n 0, 1, []), (41, .getfield 12, 3, [11, 0, 532]), (44, .getfield 116, 3, [10, 0, 212]), (47, .iload_n 1, 1, []), (48, .invokevirtual 120, 3, [0, 82, 2, 7, 680, 152, 58, 150, 151]), (51, .bipush 8, 2, []), (53, .if_icmp .lt 13, 3, [66]), (56, .new 87, 3, []), (59, .dup, 1, []), (60, .ldc 126, 2, []), (62, .invokespecial 91, 3, []), (65, .athrow, 1, []), (66, .aload_n 0, 1, []), (67, .getfield 12, 3, [11, 0, 532]), (70, .iload_n 1, 1, []), (71, .iload_n 2, 1, []), (72, .iload_n 3, 1, []), (73, .iload 4, 2, []), (75, .iload 5, 2, []), (77, .invokevirtual 128, 3, [0, 102, 6, 10, 697, 700, 57, 698, 699]), (80, .ireturn, 1, [])]
def mX11_line : mmM := (yX11_line, cX11_line, 6, some .int, 5, 120, tbX11_line)
def tbX11_cut : List mmI := [(0, .aload_n 0, 1, []), (1, .iload_n 1, 1, []), (2, .invokevirtual 98, 3, [0, 134, 2, 11, 582, 585, 56, 584, 6]), (5, .ifCond .ne 13, 3, [18]), (8, .new 102, 3, []), (11, .dup, 1, []), (12, .ldc 104, 2, []), (14, .invokespecial 106, 3, []), (17, .athrow, 1, []), (18, .aload_n 0, 1, []), (19, .getfield 12, 3, [11, 0, 532]), (22, .getfield 116, 3, [10, 0, 212]), (25, .iload_n 1, 1, []), (26, .invokevirtual 120, 3, [0, 82, 2, 7, 680, 152, 58, 150, 151]), (29, .ifCond .ne 13, 3, [42]), (32, .new 87, 3, []), (35, .dup, 1, []), (36, .ldc 132, 2, []), (38, .invokespecial 91, 3, []), (41, .athrow, 1, []), (42, .aload_n 0, 1, []), (43, .getfield 12, 3, [11, 0, 532]), (46, .iload_n 1, 1, []), (47, .invokevirtual 134, 3, [0, 103, 2, 10, 706, 709, 57, 707, 708]), (50, .ireturn, 1, [])]
def mX11_cut : mmM := (yX11_cut, cX11_cut, 2, some .int, 5, 115, tbX11_cut)
def tbX11_end : List mmI := [(0, .aload_n 0, 1, []), (1, .iload_n 1, 1, []), (2, .invokevirtual 98, 3, [0, 134, 2, 11, 582, 585, 56, 584, 6]), (5, .ifCond .ne 13, 3, [18]), (8, .new 102, 3, []), (11, .dup, 1, []), (12, .ldc 104, 2, []), (14, .invokespecial 106, 3, []), (17, .athrow, 1, []), (18, .aload_n 0, 1, []), (19, .iload_n 2, 1, []), (20, .iload_n 3, 1, []), (21, .iload 4, 2, []), (23, .iload 5, 2, []), (25, .invokevirtual 137, 3, [0, 138, 5, 11, 1197, 1200, 56, 1199, 44]), (28, .ifCond .ne 13, 3, [41]), (31, .new 111, 3, []), (34, .dup, 1, []), (35, .ldc 140, 2, []), (37, .invokespecial 115, 3, []), (40, .athrow, 1, []), (41, .aload_n 0, 1, []), (42, .getfield 12, 3, [11, 0, 532]), (45, .iload_n 1, 1, []), (46, .iload_n 2, 1, []), (47, .iload_n 3, 1, []), (48, .iload 4, 2, []), (50, .iload 5, 2, []), (52, .invokevirtual 142, 3, [0, 104, 6, 10, 1206, 1209, 57, 1207, 1208]), (55, .ireturn, 1, [])]
def mX11_end : mmM := (yX11_end, cX11_end, 6, some .int, 5, 119, tbX11_end)
def tbX11_ofBlock : List mmI := [(0, .aload_n 0, 1, []), (1, .iload_n 1, 1, []), (2, .invokevirtual 98, 3, [0, 134, 2, 11, 582, 585, 56, 584, 6]), (5, .ifCond .ne 13, 3, [18]), (8, .new 102, 3, []), (11, .dup, 1, []), (12, .ldc 104, 2, []), (14, .invokespecial 106, 3, []), (17, .athrow, 1, []), (18, .aload_n 0, 1, []), (19, .getfield 12, 3, [11, 0, 532]), (22, .getfield 145, 3, [10, 11, 244]), (25, .getfield 149, 3, [2, 4, 122]), (28, .iload_n 1, 1, []), (29, .invokestatic 154, 3, [2, 152, 2, 11, 714, 187, 56, 186, 0]), (32, .istore_n 3, 1, []), (33, .iload_n 2, 1, []), (34, .tableswitch 135 0 5 #[38, 50, 62, 72, 95, 115], 38, [169, 72, 84, 96, 106, 129, 149]), (72, .aload_n 0, 1, []), (73, .getfield 12, 3, [11, 0, 532]), (76, .getfield 116, 3, [10, 0, 212]), (79, .iload_n 1, 1, []), (80, .invokevirtual 120, 3, [0, 82, 2, 7, 680, 152, 58, 150, 151]), (83, .ireturn, 1, []), (84, .aload_n 0, 1, []), (85, .getfield 12, 3, [11, 0, 532]), (88, .getfield 158, 3, [10, 5, 229]), (91, .iload_n 1, 1, []), (92, .invokevirtual 120, 3, [0, 82, 2, 7, 680, 152, 58, 150, 151]), (95, .ireturn, 1, []), (96, .iload_n 3, 1, []), (97, .ifCond .eq 7, 3, [104]), (100, .iconst 1, 1, []), (101, .goto 4, 3, [105]), (104, .iconst 0, 1, []), (105, .ireturn, 1, []), (106, .iload_n 3, 1, []), (107, .ifCond .eq 20, 3, [127]), (110, .aload_n 0, 1, []), (111, .getfield 12, 3, [11, 0, 532]), (114, .getfield 145, 3, [10, 11, 244]), (117, .getfield 161, 3, [2, 1, 114]), (120, .iload_n 1, 1, []), (121, .invokevirtual 120, 3, [0, 82, 2, 7, 680, 152, 58, 150, 151]), (124, .goto 4, 3, [128]), (127, .iconst 0, 1, []), (128, .ireturn, 1, []), (129, .iload_n 3, 1, []), (130, .ifCond .eq 17, 3, [147]), (133, .aload_n 0, 1, []), (134, .getfield 12, 3, [11, 0, 532]), (137, .getfield 145, 3, [10, 11, 244]), (140, .iload_n 1, 1, []), (141, .invokevirtual 164, 3, [0, 26, 2, 2, 715, 718, 59, 716, 717]), (144, .goto 4, 3, [148]), (147, .iconst 0, 1, []), (148, .ireturn, 1, []), (149, .iload_n 3, 1, []), (150, .ifCond .eq 17, 3, [167]), (153, .aload_n 0, 1, []), (154, .getfield 12, 3, [11, 0, 532]), (157, .getfield 167, 3, [10, 10, 241]), (160, .iload_n 1, 1, []), (161, .invokevirtual 120, 3, [0, 82, 2, 7, 680, 152, 58, 150, 151]), (164, .goto 4, 3, [168]), (167, .iconst 0, 1, []), (168, .ireturn, 1, []), (169, .new 111, 3, []), (172, .dup, 1, []), (173, .ldc 170, 2, []), (175, .invokespecial 115, 3, []), (178, .athrow, 1, [])]
def mX11_ofBlock : mmM := (yX11_ofBlock, cX11_ofBlock, 4, some .int, 2, 45, tbX11_ofBlock)
def tbX11_form : List mmI := [(0, .aload_n 0, 1, []), (1, .getfield 29, 3, [11, 3, 535]), (4, .aload_n 0, 1, []), (5, .getfield 12, 3, [11, 0, 532]), (8, .aload_n 0, 1, []), (9, .getfield 19, 3, [11, 1, 533]), (12, .invokevirtual 172, 3, [0, 61, 3, 5, 724, 727, 64, 725, 726]), (15, .aload_n 0, 1, []), (16, .iconst 1, 1, []), (17, .putfield 176, 3, [11, 12, 1, 544]), (20, .aload_n 0, 1, []), (21, .getfield 19, 3, [11, 1, 533]), (24, .getfield 180, 3, [3, 15, 350]), (27, .ireturn, 1, [])]
def mX11_form : mmM := (yX11_form, cX11_form, 1, some .int, 5, 123, tbX11_form)
def tbX11_pass : List mmI := [(0, .iload_n 1, 1, []), (1, .invokestatic 183, 3, [2, 139, 1, 11, 834, 836, 56, 835, 0]), (4, .ifCond .ne 13, 3, [17]), (7, .new 111, 3, []), (10, .dup, 1, []), (11, .ldc 186, 2, []), (13, .invokespecial 115, 3, []), (16, .athrow, 1, []), (17, .aload_n 0, 1, []), (18, .getfield 176, 3, [11, 12, 544]), (21, .ifCond .ne 13, 3, [34]), (24, .new 87, 3, []), (27, .dup, 1, []), (28, .ldc 188, 2, []), (30, .invokespecial 91, 3, []), (33, .athrow, 1, []), (34, .aload_n 0, 1, []), (35, .aload_n 0, 1, []), (36, .getfield 19, 3, [11, 1, 533]), (39, .iload_n 1, 1, []), (40, .invokevirtual 190, 3, [0, 145, 3, 11, 839, 842, 56, 841, 20]), (43, .ireturn, 1, [])]
def mX11_pass : mmM := (yX11_pass, cX11_pass, 2, some .int, 6, 152, tbX11_pass)
def tbX11_ofPlace : List mmI := [(0, .aload_n 0, 1, []), (1, .getfield 176, 3, [11, 12, 544]), (4, .ifCond .eq 18, 3, [22]), (7, .iload_n 1, 1, []), (8, .ifCond .lt 14, 3, [22]), (11, .iload_n 1, 1, []), (12, .aload_n 0, 1, []), (13, .getfield 19, 3, [11, 1, 533]), (16, .getfield 194, 3, [3, 13, 342]), (19, .if_icmp .lt 13, 3, [32]), (22, .new 102, 3, []), (25, .dup, 1, []), (26, .ldc 195, 2, []), (28, .invokespecial 106, 3, []), (31, .athrow, 1, []), (32, .aload_n 0, 1, []), (33, .getfield 19, 3, [11, 1, 533]), (36, .getfield 197, 3, [3, 14, 346]), (39, .iload_n 1, 1, []), (40, .invokestatic 154, 3, [2, 152, 2, 11, 714, 187, 56, 186, 0]), (43, .istore_n 3, 1, []), (44, .iload_n 2, 1, []), (45, .tableswitch 207 0 7 #[47, 57, 77, 97, 119, 143, 163, 185], 47, [252, 92, 102, 122, 142, 164, 188, 208, 230]), (92, .iload_n 3, 1, []), (93, .ifCond .eq 7, 3, [100]), (96, .iconst 1, 1, []), (97, .goto 4, 3, [101]), (100, .iconst 0, 1, []), (101, .ireturn, 1, []), (102, .iload_n 3, 1, []), (103, .ifCond .eq 17, 3, [120]), (106, .aload_n 0, 1, []), (107, .getfield 19, 3, [11, 1, 533]), (110, .getfield 200, 3, [3, 7, 317]), (113, .iload_n 1, 1, []), (114, .invokevirtual 120, 3, [0, 82, 2, 7, 680, 152, 58, 150, 151]), (117, .goto 4, 3, [121]), (120, .iconst 0, 1, []), (121, .ireturn, 1, []), (122, .iload_n 3, 1, []), (123, .ifCond .eq 17, 3, [140]), (126, .aload_n 0, 1, []), (127, .getfield 19, 3, [11, 1, 533]), (130, .getfield 203, 3, [3, 11, 330]), (133, .iload_n 1, 1, []), (134, .invokevirtual 120, 3, [0, 82, 2, 7, 680, 152, 58, 150, 151]), (137, .goto 4, 3, [141]), (140, .iconst 0, 1, []), (141, .ireturn, 1, []), (142, .iload_n 3, 1, []), (143, .ifCond .eq 19, 3, [162]), (146, .aload_n 0, 1, []), (147, .getfield 19, 3, [11, 1, 533]), (150, .getfield 204, 3, [3, 12, 335]), (153, .iload_n 1, 1, []), (154, .iconst 2, 1, []), (155, .imul, 1, []), (156, .invokevirtual 120, 3, [0, 82, 2, 7, 680, 152, 58, 150, 151]), (159, .goto 4, 3, [163]), (162, .iconst 0, 1, []), (163, .ireturn, 1, []), (164, .iload_n 3, 1, []), (165, .ifCond .eq 21, 3, [186]), (168, .aload_n 0, 1, []), (169, .getfield 19, 3, [11, 1, 533]), (172, .getfield 204, 3, [3, 12, 335]), (175, .iload_n 1, 1, []), (176, .iconst 2, 1, []), (177, .imul, 1, []), (178, .iconst 1, 1, []), (179, .iadd, 1, []), (180, .invokevirtual 120, 3, [0, 82, 2, 7, 680, 152, 58, 150, 151]), (183, .goto 4, 3, [187]), (186, .iconst 0, 1, []), (187, .ireturn, 1, []), (188, .iload_n 3, 1, []), (189, .ifCond .eq 17, 3, [206]), (192, .aload_n 0, 1, []), (193, .getfield 19, 3, [11, 1, 533]), (196, .getfield 207, 3, [3, 9, 323]), (199, .iload_n 1, 1, []), (200, .invokevirtual 120, 3, [0, 82, 2, 7, 680, 152, 58, 150, 151]), (203, .goto 4, 3, [207]), (206, .iconst 0, 1, []), (207, .ireturn, 1, []), (208, .iload_n 3, 1, []), (209, .ifCond .eq 19, 3, [228]), (212, .aload_n 0, 1, []), (213, .getfield 19, 3, [11, 1, 533]), (216, .sipush 140, 3, []), (219, .iload_n 1, 1, []), (220, .iadd, 1, []), (221, .iconst 0, 1, []), (222, .invokevirtual 210, 3, [0, 37, 3, 3, 1307, 987, 63, 985, 986]), (225, .goto 4, 3, [229]), (228, .iconst 0, 1, []), (229, .ireturn, 1, []), (230, .iload_n 3, 1, []), (231, .ifCond .eq 19, 3, [250]), (234, .aload_n 0, 1, []), (235, .getfield 19, 3, [11, 1, 533]), (238, .sipush 140, 3, []), (241, .iload_n 1, 1, []), (242, .iadd, 1, []), (243, .iconst 0, 1, []), (244, .invokevirtual 214, 3, [0, 38, 3, 3, 1308, 991, 63, 989, 990]), (247, .goto 4, 3, [251]), (250, .iconst 0, 1, []), (251, .ireturn, 1, []), (252, .new 111, 3, []), (255, .dup, 1, []), (256, .ldc 217, 2, []), (258, .invokespecial 115, 3, []), (261, .athrow, 1, [])]
def mX11_ofPlace : mmM := (yX11_ofPlace, cX11_ofPlace, 4, some .int, 2, 43, tbX11_ofPlace)
def tbX11_valueAt : List mmI := [(0, .aload_n 0, 1, []), (1, .getfield 176, 3, [11, 12, 544]), (4, .ifCond .eq 36, 3, [40]), (7, .aload_n 0, 1, []), (8, .getfield 19, 3, [11, 1, 533]), (11, .getfield 197, 3, [3, 14, 346]), (14, .iload_n 1, 1, []), (15, .invokestatic 154, 3, [2, 152, 2, 11, 714, 187, 56, 186, 0]), (18, .ifCond .eq 22, 3, [40]), (21, .iload_n 2, 1, []), (22, .ifCond .lt 18, 3, [40]), (25, .iload_n 2, 1, []), (26, .aload_n 0, 1, []), (27, .getfield 19, 3, [11, 1, 533]), (30, .getfield 200, 3, [3, 7, 317]), (33, .iload_n 1, 1, []), (34, .invokevirtual 120, 3, [0, 82, 2, 7, 680, 152, 58, 150, 151]), (37, .if_icmp .lt 13, 3, [50]), (40, .new 102, 3, []), (43, .dup, 1, []), (44, .ldc 219, 2, []), (46, .invokespecial 106, 3, []), (49, .athrow, 1, []), (50, .aload_n 0, 1, []), (51, .getfield 19, 3, [11, 1, 533]), (54, .iload_n 1, 1, []), (55, .iload_n 2, 1, []), (56, .invokevirtual 221, 3, [0, 35, 3, 3, 1322, 785, 63, 783, 784]), (59, .ireturn, 1, [])]
def mX11_valueAt : mmM := (yX11_valueAt, cX11_valueAt, 3, some .int, 2, 43, tbX11_valueAt)
def tbX11_edge : List mmI := [(0, .aload_n 0, 1, []), (1, .getfield 176, 3, [11, 12, 544]), (4, .ifCond .eq 36, 3, [40]), (7, .aload_n 0, 1, []), (8, .getfield 19, 3, [11, 1, 533]), (11, .getfield 197, 3, [3, 14, 346]), (14, .iload_n 1, 1, []), (15, .invokestatic 154, 3, [2, 152, 2, 11, 714, 187, 56, 186, 0]), (18, .ifCond .eq 22, 3, [40]), (21, .iload_n 2, 1, []), (22, .ifCond .lt 18, 3, [40]), (25, .iload_n 2, 1, []), (26, .aload_n 0, 1, []), (27, .getfield 19, 3, [11, 1, 533]), (30, .getfield 207, 3, [3, 9, 323]), (33, .iload_n 1, 1, []), (34, .invokevirtual 120, 3, [0, 82, 2, 7, 680, 152, 58, 150, 151]), (37, .if_icmp .lt 13, 3, [50]), (40, .new 102, 3, []), (43, .dup, 1, []), (44, .ldc 224, 2, []), (46, .invokespecial 106, 3, []), (49, .athrow, 1, []), (50, .aload_n 0, 1, []), (51, .getfield 19, 3, [11, 1, 533]), (54, .iload_n 1, 1, []), (55, .iload_n 2, 1, []), (56, .invokevirtual 226, 3, [0, 36, 3, 3, 1315, 826, 63, 824, 825]), (59, .invokestatic 229, 3, [2, 156, 1, 11, 1316, 829, 56, 828, 0]), (62, .ireturn, 1, [])]
def mX11_edge : mmM := (yX11_edge, cX11_edge, 3, some .int, 2, 43, tbX11_edge)
def tbX11_ofValue : List mmI := [(0, .aload_n 0, 1, []), (1, .iload_n 1, 1, []), (2, .invokevirtual 232, 3, [0, 140, 2, 11, 1331, 1334, 56, 1333, 53]), (5, .ifCond .ne 13, 3, [18]), (8, .new 102, 3, []), (11, .dup, 1, []), (12, .ldc 235, 2, []), (14, .invokespecial 106, 3, []), (17, .athrow, 1, []), (18, .iload_n 2, 1, []), (19, .tableswitch 90 0 4 #[33, 45, 57, 69, 81], 33, [109, 52, 64, 76, 88, 100]), (52, .aload_n 0, 1, []), (53, .getfield 19, 3, [11, 1, 533]), (56, .getfield 237, 3, [3, 0, 290]), (59, .iload_n 1, 1, []), (60, .invokevirtual 120, 3, [0, 82, 2, 7, 680, 152, 58, 150, 151]), (63, .ireturn, 1, []), (64, .aload_n 0, 1, []), (65, .getfield 19, 3, [11, 1, 533]), (68, .getfield 240, 3, [3, 1, 295]), (71, .iload_n 1, 1, []), (72, .invokevirtual 120, 3, [0, 82, 2, 7, 680, 152, 58, 150, 151]), (75, .ireturn, 1, []), (76, .aload_n 0, 1, []), (77, .getfield 19, 3, [11, 1, 533]), (80, .getfield 243, 3, [3, 2, 300]), (83, .iload_n 1, 1, []), (84, .invokevirtual 120, 3, [0, 82, 2, 7, 680, 152, 58, 150, 151]), (87, .ireturn, 1, []), (88, .aload_n 0, 1, []), (89, .getfield 19, 3, [11, 1, 533]), (92, .getfield 246, 3, [3, 3, 303]), (95, .iload_n 1, 1, []), (96, .invokevirtual 120, 3, [0, 82, 2, 7, 680, 152, 58, 150, 151]), (99, .ireturn, 1, []), (100, .aload_n 0, 1, []), (101, .getfield 19, 3, [11, 1, 533]), (104, .iload_n 1, 1, []), (105, .invokevirtual 249, 3, [0, 41, 2, 3, 1336, 1339, 63, 1337, 1338]), (108, .ireturn, 1, []), (109, .new 111, 3, []), (112, .dup, 1, []), (113, .ldc 252, 2, []), (115, .invokespecial 115, 3, []), (118, .athrow, 1, [])]
def mX11_ofValue : mmM := (yX11_ofValue, cX11_ofValue, 3, some .int, 2, 45, tbX11_ofValue)
def tbX11_argument : List mmI := [(0, .aload_n 0, 1, []), (1, .iload_n 1, 1, []), (2, .iload_n 2, 1, []), (3, .invokevirtual 254, 3, [0, 141, 3, 11, 1345, 1348, 56, 1347, 54]), (6, .ifCond .ne 14, 3, [20]), (9, .new 102, 3, []), (12, .dup, 1, []), (13, .ldc_w 257, 3, []), (16, .invokespecial 106, 3, []), (19, .athrow, 1, []), (20, .aload_n 0, 1, []), (21, .getfield 19, 3, [11, 1, 533]), (24, .iload_n 1, 1, []), (25, .iload_n 2, 1, []), (26, .invokevirtual 210, 3, [0, 37, 3, 3, 1307, 987, 63, 985, 986]), (29, .ireturn, 1, [])]
def mX11_argument : mmM := (yX11_argument, cX11_argument, 3, some .int, 2, 43, tbX11_argument)
def tbX11_number : List mmI := [(0, .aload_n 0, 1, []), (1, .iload_n 1, 1, []), (2, .iload_n 2, 1, []), (3, .invokevirtual 254, 3, [0, 141, 3, 11, 1345, 1348, 56, 1347, 54]), (6, .ifCond .ne 14, 3, [20]), (9, .new 102, 3, []), (12, .dup, 1, []), (13, .ldc_w 257, 3, []), (16, .invokespecial 106, 3, []), (19, .athrow, 1, []), (20, .aload_n 0, 1, []), (21, .getfield 19, 3, [11, 1, 533]), (24, .iload_n 1, 1, []), (25, .iload_n 2, 1, []), (26, .invokevirtual 214, 3, [0, 38, 3, 3, 1308, 991, 63, 989, 990]), (29, .ireturn, 1, [])]
def mX11_number : mmM := (yX11_number, cX11_number, 3, some .int, 2, 43, tbX11_number)
def tbX11_run : List mmI := [(0, .aload_n 0, 1, []), (1, .getfield 64, 3, [11, 8, 540]), (4, .aload_n 0, 1, []), (5, .getfield 12, 3, [11, 0, 532]), (8, .iload_n 1, 1, []), (9, .iload_n 2, 1, []), (10, .aload_n 0, 1, []), (11, .getfield 73, 3, [11, 9, 541]), (14, .invokevirtual 259, 3, [0, 87, 5, 8, 1219, 1222, 69, 1220, 1221]), (17, .aload_n 0, 1, []), (18, .invokevirtual 263, 3, [0, 142, 1, 11, 1233, 1236, 56, 1235, 48]), (21, .aload_n 0, 1, []), (22, .getfield 73, 3, [11, 9, 541]), (25, .getfield 266, 3, [9, 3, 506]), (28, .ireturn, 1, [])]
def mX11_run : mmM := (yX11_run, cX11_run, 3, some .int, 4, 99, tbX11_run)
def tbX11_runForm : List mmI := [(0, .aload_n 0, 1, []), (1, .getfield 176, 3, [11, 12, 544]), (4, .ifCond .ne 13, 3, [17]), (7, .new 87, 3, []), (10, .dup, 1, []), (11, .ldc 188, 2, []), (13, .invokespecial 91, 3, []), (16, .athrow, 1, []), (17, .aload_n 0, 1, []), (18, .getfield 64, 3, [11, 8, 540]), (21, .aload_n 0, 1, []), (22, .getfield 19, 3, [11, 1, 533]), (25, .iload_n 1, 1, []), (26, .iload_n 2, 1, []), (27, .aload_n 0, 1, []), (28, .getfield 73, 3, [11, 9, 541]), (31, .invokevirtual 269, 3, [0, 90, 5, 8, 1084, 1087, 69, 1085, 1086]), (34, .aload_n 0, 1, []), (35, .invokevirtual 263, 3, [0, 142, 1, 11, 1233, 1236, 56, 1235, 48]), (38, .aload_n 0, 1, []), (39, .getfield 73, 3, [11, 9, 541]), (42, .getfield 266, 3, [9, 3, 506]), (45, .ireturn, 1, [])]
def mX11_runForm : mmM := (yX11_runForm, cX11_runForm, 3, some .int, 5, 120, tbX11_runForm)
def tbX11_ofRun : List mmI := [(0, .iload_n 1, 1, []), (1, .tableswitch 84 0 5 #[39, 47, 55, 63, 71, 79], 39, [85, 40, 48, 56, 64, 72, 80]), (40, .aload_n 0, 1, []), (41, .getfield 73, 3, [11, 9, 541]), (44, .getfield 266, 3, [9, 3, 506]), (47, .ireturn, 1, []), (48, .aload_n 0, 1, []), (49, .getfield 73, 3, [11, 9, 541]), (52, .getfield 273, 3, [9, 4, 508]), (55, .ireturn, 1, []), (56, .aload_n 0, 1, []), (57, .getfield 73, 3, [11, 9, 541]), (60, .getfield 276, 3, [9, 5, 510]), (63, .ireturn, 1, []), (64, .aload_n 0, 1, []), (65, .getfield 73, 3, [11, 9, 541]), (68, .getfield 279, 3, [9, 6, 512]), (71, .ireturn, 1, []), (72, .aload_n 0, 1, []), (73, .getfield 73, 3, [11, 9, 541]), (76, .getfield 282, 3, [9, 7, 514]), (79, .ireturn, 1, []), (80, .aload_n 0, 1, []), (81, .getfield 285, 3, [11, 13, 545]), (84, .ireturn, 1, []), (85, .new 111, 3, []), (88, .dup, 1, []), (89, .ldc 170, 2, []), (91, .invokespecial 115, 3, []), (94, .athrow, 1, [])]
def mX11_ofRun : mmM := (yX11_ofRun, cX11_ofRun, 2, some .int, 0, 0, tbX11_ofRun)
def tbX11_printed : List mmI := [(0, .iload_n 1, 1, []), (1, .ifCond .lt 20, 3, [21]), (4, .iload_n 1, 1, []), (5, .aload_n 0, 1, []), (6, .getfield 73, 3, [11, 9, 541]), (9, .getfield 276, 3, [9, 5, 510]), (12, .if_icmp .ge 9, 3, [21]), (15, .iload_n 1, 1, []), (16, .bipush 60, 2, []), (18, .if_icmp .lt 14, 3, [32]), (21, .new 102, 3, []), (24, .dup, 1, []), (25, .ldc_w 288, 3, []), (28, .invokespecial 106, 3, []), (31, .athrow, 1, []), (32, .aload_n 0, 1, []), (33, .getfield 73, 3, [11, 9, 541]), (36, .getfield 290, 3, [9, 0, 500]), (39, .iload_n 1, 1, []), (40, .invokevirtual 120, 3, [0, 82, 2, 7, 680, 152, 58, 150, 151]), (43, .ireturn, 1, [])]
def mX11_printed : mmM := (yX11_printed, cX11_printed, 2, some .int, 1, 21, tbX11_printed)
def tbX11_cell : List mmI := [(0, .iload_n 1, 1, []), (1, .ifCond .lt 9, 3, [10]), (4, .iload_n 1, 1, []), (5, .bipush 8, 2, []), (7, .if_icmp .lt 14, 3, [21]), (10, .new 102, 3, []), (13, .dup, 1, []), (14, .ldc_w 293, 3, []), (17, .invokespecial 106, 3, []), (20, .athrow, 1, []), (21, .aload_n 0, 1, []), (22, .getfield 73, 3, [11, 9, 541]), (25, .getfield 295, 3, [9, 1, 502]), (28, .iload_n 1, 1, []), (29, .invokevirtual 120, 3, [0, 82, 2, 7, 680, 152, 58, 150, 151]), (32, .ireturn, 1, [])]
def mX11_cell : mmM := (yX11_cell, cX11_cell, 2, some .int, 1, 21, tbX11_cell)
def tbX11_many : List mmI := [(0, .iload_n 1, 1, []), (1, .ifCond .lt 9, 3, [10]), (4, .iload_n 1, 1, []), (5, .bipush 10, 2, []), (7, .if_icmp .le 14, 3, [21]), (10, .new 111, 3, []), (13, .dup, 1, []), (14, .ldc_w 298, 3, []), (17, .invokespecial 115, 3, []), (20, .athrow, 1, []), (21, .iload_n 1, 1, []), (22, .tableswitch 73 0 3 #[30, 38, 52, 60], 30, [95, 52, 60, 74, 82]), (52, .aload_n 0, 1, []), (53, .getfield 12, 3, [11, 0, 532]), (56, .getfield 83, 3, [10, 12, 247]), (59, .ireturn, 1, []), (60, .aload_n 0, 1, []), (61, .getfield 12, 3, [11, 0, 532]), (64, .getfield 145, 3, [10, 11, 244]), (67, .getfield 149, 3, [2, 4, 122]), (70, .invokestatic 300, 3, [2, 165, 1, 0, 1050, 792, 78, 791, 0]), (73, .ireturn, 1, []), (74, .aload_n 0, 1, []), (75, .getfield 12, 3, [11, 0, 532]), (78, .invokevirtual 305, 3, [0, 105, 1, 10, 1051, 1054, 57, 1052, 1053]), (81, .ireturn, 1, []), (82, .aload_n 0, 1, []), (83, .getfield 176, 3, [11, 12, 544]), (86, .ifCond .eq 7, 3, [93]), (89, .iconst 1, 1, []), (90, .goto 4, 3, [94]), (93, .iconst 0, 1, []), (94, .ireturn, 1, []), (95, .aload_n 0, 1, []), (96, .getfield 176, 3, [11, 12, 544]), (99, .ifCond .eq 11, 3, [110]), (102, .aload_n 0, 1, []), (103, .iload_n 1, 1, []), (104, .invokevirtual 308, 3, [0, 143, 2, 11, 1055, 1058, 56, 1057, 39]), (107, .goto 4, 3, [111]), (110, .iconst 0, 1, []), (111, .ireturn, 1, [])]
def mX11_many : mmM := (yX11_many, cX11_many, 2, some .int, 3, 65, tbX11_many)
def tbX11_wouldGo : List mmI := [(0, .iload_n 1, 1, []), (1, .invokestatic 183, 3, [2, 139, 1, 11, 834, 836, 56, 835, 0]), (4, .ifCond .ne 13, 3, [17]), (7, .new 111, 3, []), (10, .dup, 1, []), (11, .ldc 186, 2, []), (13, .invokespecial 115, 3, []), (16, .athrow, 1, []), (17, .aload_n 0, 1, []), (18, .getfield 176, 3, [11, 12, 544]), (21, .ifCond .ne 13, 3, [34]), (24, .new 87, 3, []), (27, .dup, 1, []), (28, .ldc 188, 2, []), (30, .invokespecial 91, 3, []), (33, .athrow, 1, []), (34, .aload_n 0, 1, []), (35, .getfield 23, 3, [11, 2, 534]), (38, .aload_n 0, 1, []), (39, .getfield 19, 3, [11, 1, 533]), (42, .invokevirtual 315, 3, [0, 30, 2, 3, 1071, 1074, 63, 1072, 1073]), (45, .aload_n 0, 1, []), (46, .aload_n 0, 1, []), (47, .getfield 23, 3, [11, 2, 534]), (50, .iload_n 1, 1, []), (51, .invokevirtual 190, 3, [0, 145, 3, 11, 839, 842, 56, 841, 20]), (54, .ireturn, 1, [])]
def mX11_wouldGo : mmM := (yX11_wouldGo, cX11_wouldGo, 2, some .int, 6, 152, tbX11_wouldGo)
def tbX11_wouldCost : List mmI := [(0, .iload_n 1, 1, []), (1, .ifCond .lt 8, 3, [9]), (4, .iload_n 1, 1, []), (5, .iconst 5, 1, []), (6, .if_icmp .le 14, 3, [20]), (9, .new 111, 3, []), (12, .dup, 1, []), (13, .ldc_w 319, 3, []), (16, .invokespecial 115, 3, []), (19, .athrow, 1, []), (20, .aload_n 0, 1, []), (21, .getfield 176, 3, [11, 12, 544]), (24, .ifCond .ne 13, 3, [37]), (27, .new 87, 3, []), (30, .dup, 1, []), (31, .ldc 188, 2, []), (33, .invokespecial 91, 3, []), (36, .athrow, 1, []), (37, .aload_n 0, 1, []), (38, .getfield 23, 3, [11, 2, 534]), (41, .aload_n 0, 1, []), (42, .getfield 19, 3, [11, 1, 533]), (45, .invokevirtual 315, 3, [0, 30, 2, 3, 1071, 1074, 63, 1072, 1073]), (48, .iconst 0, 1, []), (49, .istore 4, 2, []), (51, .iload 4, 2, []), (53, .iload_n 1, 1, []), (54, .iconst 4, 1, []), (55, .imul, 1, []), (56, .if_icmp .ge 23, 3, [79]), (59, .aload_n 0, 1, []), (60, .aload_n 0, 1, []), (61, .getfield 23, 3, [11, 2, 534]), (64, .iload 4, 2, []), (66, .invokestatic 321, 3, [2, 144, 1, 11, 1081, 1083, 56, 1082, 0]), (69, .invokevirtual 190, 3, [0, 145, 3, 11, 839, 842, 56, 841, 20]), (72, .pop, 1, []), (73, .iinc 4 1, 3, []), (76, .goto (-25), 3, [51]), (79, .aload_n 0, 1, []), (80, .getfield 64, 3, [11, 8, 540]), (83, .aload_n 0, 1, []), (84, .getfield 23, 3, [11, 2, 534]), (87, .iload_n 2, 1, []), (88, .iload_n 3, 1, []), (89, .aload_n 0, 1, []), (90, .getfield 80, 3, [11, 11, 543]), (93, .invokevirtual 269, 3, [0, 90, 5, 8, 1084, 1087, 69, 1085, 1086]), (96, .aload_n 0, 1, []), (97, .getfield 80, 3, [11, 11, 543]), (100, .getfield 279, 3, [9, 6, 512]), (103, .ireturn, 1, [])]
def mX11_wouldCost : mmM := (yX11_wouldCost, cX11_wouldCost, 5, some .int, 6, 152, tbX11_wouldCost)
def tbX11_untilStill : List mmI := [(0, .aload_n 0, 1, []), (1, .getfield 176, 3, [11, 12, 544]), (4, .ifCond .ne 13, 3, [17]), (7, .new 87, 3, []), (10, .dup, 1, []), (11, .ldc 188, 2, []), (13, .invokespecial 91, 3, []), (16, .athrow, 1, []), (17, .aload_n 0, 1, []), (18, .getfield 23, 3, [11, 2, 534]), (21, .aload_n 0, 1, []), (22, .getfield 19, 3, [11, 1, 533]), (25, .invokevirtual 315, 3, [0, 30, 2, 3, 1071, 1074, 63, 1072, 1073]), (28, .iconst 0, 1, []), (29, .istore_n 1, 1, []), (30, .iconst 0, 1, []), (31, .istore_n 2, 1, []), (32, .iload_n 2, 1, []), (33, .bipush 40, 2, []), (35, .if_icmp .ge 37, 3, [72]), (38, .iload_n 1, 1, []), (39, .iconst 4, 1, []), (40, .if_icmp .ge 32, 3, [72]), (43, .aload_n 0, 1, []), (44, .aload_n 0, 1, []), (45, .getfield 23, 3, [11, 2, 534]), (48, .iload_n 2, 1, []), (49, .invokestatic 321, 3, [2, 144, 1, 11, 1081, 1083, 56, 1082, 0]), (52, .invokevirtual 190, 3, [0, 145, 3, 11, 839, 842, 56, 841, 20]), (55, .ifCond .ne 9, 3, [64]), (58, .iload_n 1, 1, []), (59, .iconst 1, 1, []), (60, .iadd, 1, []), (61, .goto 4, 3, [65]), (64, .iconst 0, 1, []), (65, .istore_n 1, 1, []), (66, .iinc 2 1, 3, []), (69, .goto (-37), 3, [32]), (72, .iload_n 2, 1, []), (73, .ireturn, 1, [])]
def mX11_untilStill : mmM := (yX11_untilStill, cX11_untilStill, 3, some .int, 6, 152, tbX11_untilStill)
def tbX11_isAlike : List mmI := [(0, .aload_n 0, 1, []), (1, .getfield 176, 3, [11, 12, 544]), (4, .ifCond .ne 13, 3, [17]), (7, .new 87, 3, []), (10, .dup, 1, []), (11, .ldc 188, 2, []), (13, .invokespecial 91, 3, []), (16, .athrow, 1, []), (17, .aload_n 0, 1, []), (18, .getfield 64, 3, [11, 8, 540]), (21, .aload_n 0, 1, []), (22, .getfield 12, 3, [11, 0, 532]), (25, .iload_n 1, 1, []), (26, .iload_n 2, 1, []), (27, .aload_n 0, 1, []), (28, .getfield 77, 3, [11, 10, 542]), (31, .invokevirtual 259, 3, [0, 87, 5, 8, 1219, 1222, 69, 1220, 1221]), (34, .aload_n 0, 1, []), (35, .getfield 64, 3, [11, 8, 540]), (38, .aload_n 0, 1, []), (39, .getfield 19, 3, [11, 1, 533]), (42, .iload_n 1, 1, []), (43, .iload_n 2, 1, []), (44, .aload_n 0, 1, []), (45, .getfield 80, 3, [11, 11, 543]), (48, .invokevirtual 269, 3, [0, 90, 5, 8, 1084, 1087, 69, 1085, 1086]), (51, .aload_n 0, 1, []), (52, .getfield 77, 3, [11, 10, 542]), (55, .aload_n 0, 1, []), (56, .getfield 80, 3, [11, 11, 543]), (59, .invokevirtual 324, 3, [0, 99, 2, 9, 1259, 1262, 70, 1260, 1261]), (62, .ireturn, 1, [1])]
def mX11_isAlike : mmM := (yX11_isAlike, cX11_isAlike, 3, some .boolean, 5, 120, tbX11_isAlike)
def tbX11_digest : List mmI := [(0, .ldc2_w 328, 3, [7605, 1280]), (3, .lstore_n 1, 1, []), (4, .iconst 0, 1, []), (5, .istore_n 3, 1, []), (6, .iload_n 3, 1, []), (7, .bipush 10, 2, []), (9, .if_icmp .gt 20, 3, [29]), (12, .lload_n 1, 1, []), (13, .aload_n 0, 1, []), (14, .iload_n 3, 1, []), (15, .invokevirtual 330, 3, [0, 128, 2, 11, 1281, 1048, 56, 1046, 1047]), (18, .i2l, 1, []), (19, .invokestatic 333, 3, [2, 146, 2, 11, 1282, 1284, 56, 1283, 0]), (22, .lstore_n 1, 1, []), (23, .iinc 3 1, 3, []), (26, .goto (-20), 3, [6]), (29, .aload_n 0, 1, []), (30, .lload_n 1, 1, []), (31, .invokevirtual 337, 3, [0, 147, 2, 11, 1286, 1289, 56, 1288, 49]), (34, .lstore_n 1, 1, []), (35, .aload_n 0, 1, []), (36, .lload_n 1, 1, []), (37, .invokevirtual 341, 3, [0, 148, 2, 11, 1291, 1294, 56, 1293, 50]), (40, .lstore_n 1, 1, []), (41, .aload_n 0, 1, []), (42, .getfield 176, 3, [11, 12, 544]), (45, .ifCond .ne 5, 3, [50]), (48, .lload_n 1, 1, []), (49, .lreturn, 1, []), (50, .iconst 0, 1, []), (51, .istore_n 3, 1, []), (52, .iload_n 3, 1, []), (53, .aload_n 0, 1, []), (54, .getfield 19, 3, [11, 1, 533]), (57, .getfield 194, 3, [3, 13, 342]), (60, .if_icmp .ge 16, 3, [76]), (63, .aload_n 0, 1, []), (64, .lload_n 1, 1, []), (65, .iload_n 3, 1, []), (66, .invokevirtual 344, 3, [0, 149, 3, 11, 1298, 1301, 56, 1300, 51]), (69, .lstore_n 1, 1, []), (70, .iinc 3 1, 3, []), (73, .goto (-21), 3, [52]), (76, .iconst 0, 1, []), (77, .istore_n 3, 1, []), (78, .iload_n 3, 1, []), (79, .aload_n 0, 1, []), (80, .getfield 19, 3, [11, 1, 533]), (83, .getfield 180, 3, [3, 15, 350]), (86, .if_icmp .ge 16, 3, [102]), (89, .aload_n 0, 1, []), (90, .lload_n 1, 1, []), (91, .iload_n 3, 1, []), (92, .invokevirtual 348, 3, [0, 150, 3, 11, 1323, 1326, 56, 1325, 52]), (95, .lstore_n 1, 1, []), (96, .iinc 3 1, 3, []), (99, .goto (-21), 3, [78]), (102, .iconst 1, 1, []), (103, .istore_n 3, 1, []), (104, .iload_n 3, 1, []), (105, .iconst 4, 1, []), (106, .if_icmp .gt 20, 3, [126]), (109, .lload_n 1, 1, []), (110, .aload_n 0, 1, []), (111, .iload_n 3, 1, []), (112, .invokevirtual 351, 3, [0, 129, 2, 11, 1354, 1070, 56, 1068, 1069]), (115, .i2l, 1, []), (116, .invokestatic 333, 3, [2, 146, 2, 11, 1282, 1284, 56, 1283, 0]), (119, .lstore_n 1, 1, []), (120, .iinc 3 1, 3, []), (123, .goto (-19), 3, [104]), (126, .lload_n 1, 1, []), (127, .aload_n 0, 1, []), (128, .iconst 0, 1, []), (129, .iconst 3, 1, []), (130, .bipush (-2), 2, []), (132, .invokevirtual 354, 3, [0, 130, 4, 11, 1355, 1079, 56, 1077, 1078]), (135, .i2l, 1, []), (136, .invokestatic 333, 3, [2, 146, 2, 11, 1282, 1284, 56, 1283, 0]), (139, .lstore_n 1, 1, []), (140, .lload_n 1, 1, []), (141, .aload_n 0, 1, []), (142, .iconst 2, 1, []), (143, .iconst 3, 1, []), (144, .bipush (-2), 2, []), (146, .invokevirtual 354, 3, [0, 130, 4, 11, 1355, 1079, 56, 1077, 1078]), (149, .i2l, 1, []), (150, .invokestatic 333, 3, [2, 146, 2, 11, 1282, 1284, 56, 1283, 0]), (153, .lreturn, 1, [])]
def mX11_digest : mmM := (yX11_digest, cX11_digest, 4, some .long, 7, 176, tbX11_digest)
def tbX11_isTold : List mmI := [(0, .iload_n 1, 1, []), (1, .ifCond .lt 18, 3, [19]), (4, .iload_n 1, 1, []), (5, .aload_n 0, 1, []), (6, .getfield 12, 3, [11, 0, 532]), (9, .getfield 83, 3, [10, 12, 247]), (12, .if_icmp .ge 7, 3, [19]), (15, .iconst 1, 1, []), (16, .goto 4, 3, [20]), (19, .iconst 0, 1, []), (20, .ireturn, 1, [1])]
def mX11_isTold : mmM := (yX11_isTold, cX11_isTold, 2, some .boolean, 0, 0, tbX11_isTold)
def tbX11_isTarget : List mmI := [(0, .iload_n 1, 1, []), (1, .ifCond .le 18, 3, [19]), (4, .iload_n 1, 1, []), (5, .aload_n 0, 1, []), (6, .getfield 12, 3, [11, 0, 532]), (9, .getfield 83, 3, [10, 12, 247]), (12, .if_icmp .ge 7, 3, [19]), (15, .iconst 1, 1, []), (16, .goto 4, 3, [20]), (19, .iconst 0, 1, []), (20, .ireturn, 1, [1])]
def mX11_isTarget : mmM := (yX11_isTarget, cX11_isTarget, 2, some .boolean, 0, 0, tbX11_isTarget)
def tbX11_isOperand : List mmI := [(0, .iload_n 0, 1, []), (1, .bipush (-99), 2, []), (3, .if_icmp .lt 13, 3, [16]), (6, .iload_n 0, 1, []), (7, .bipush 106, 2, []), (9, .if_icmp .ge 7, 3, [16]), (12, .iconst 1, 1, []), (13, .goto 4, 3, [17]), (16, .iconst 0, 1, []), (17, .ireturn, 1, [1])]
def mX11_isOperand : mmM := (yX11_isOperand, cX11_isOperand, 1, some .boolean, 0, 0, tbX11_isOperand)
def tbX11_isLine : List mmI := [(0, .iload_n 0, 1, []), (1, .ifCond .lt 16, 3, [17]), (4, .iload_n 0, 1, []), (5, .bipush 8, 2, []), (7, .if_icmp .gt 10, 3, [17]), (10, .iload_n 2, 1, []), (11, .invokestatic 358, 3, [2, 136, 1, 11, 657, 659, 56, 658, 0]), (14, .ifCond .ne 5, 3, [19]), (17, .iconst 0, 1, []), (18, .ireturn, 1, [1]), (19, .iload_n 1, 1, []), (20, .ifCond .lt 13, 3, [33]), (23, .iload_n 1, 1, []), (24, .bipush 6, 2, []), (26, .if_icmp .ge 7, 3, [33]), (29, .iconst 1, 1, []), (30, .goto 4, 3, [34]), (33, .iconst 0, 1, []), (34, .istore 4, 2, []), (36, .iload_n 0, 1, []), (37, .invokestatic 361, 3, [2, 154, 1, 11, 660, 662, 56, 661, 0]), (40, .ifCond .ne 9, 3, [49]), (43, .iload_n 0, 1, []), (44, .bipush 7, 2, []), (46, .if_icmp .ne 7, 3, [53]), (49, .iconst 1, 1, []), (50, .goto 4, 3, [54]), (53, .iconst 0, 1, []), (54, .istore 5, 2, []), (56, .iload_n 0, 1, []), (57, .invokestatic 364, 3, [2, 153, 1, 11, 663, 175, 56, 174, 0]), (60, .ifCond .eq 11, 3, [71]), (63, .iload 4, 2, []), (65, .ifCond .eq 33, 3, [98]), (68, .goto 7, 3, [75]), (71, .iload_n 1, 1, []), (72, .ifCond .ne 26, 3, [98]), (75, .iload 5, 2, []), (77, .ifCond .eq 13, 3, [90]), (80, .iload_n 3, 1, []), (81, .invokestatic 358, 3, [2, 136, 1, 11, 657, 659, 56, 658, 0]), (84, .ifCond .eq 14, 3, [98]), (87, .goto 7, 3, [94]), (90, .iload_n 3, 1, []), (91, .ifCond .ne 7, 3, [98]), (94, .iconst 1, 1, []), (95, .goto 4, 3, [99]), (98, .iconst 0, 1, []), (99, .ireturn, 1, [1])]
def mX11_isLine : mmM := (yX11_isLine, cX11_isLine, 6, some .boolean, 1, 20, tbX11_isLine)
def tbX11_isEnd : List mmI := [(0, .iload_n 1, 1, []), (1, .tableswitch 102 0 2 #[27, 49, 72], 27, [103, 28, 50, 73]), (28, .iload_n 2, 1, []), (29, .invokestatic 358, 3, [2, 136, 1, 11, 657, 659, 56, 658, 0]), (32, .ifCond .eq 16, 3, [48]), (35, .iload_n 3, 1, []), (36, .ifCond .ne 12, 3, [48]), (39, .iload 4, 2, []), (41, .ifCond .ne 7, 3, [48]), (44, .iconst 1, 1, []), (45, .goto 4, 3, [49]), (48, .iconst 0, 1, []), (49, .ireturn, 1, [1]), (50, .iload_n 2, 1, []), (51, .ifCond .ne 20, 3, [71]), (54, .aload_n 0, 1, []), (55, .iload_n 3, 1, []), (56, .invokevirtual 367, 3, [0, 135, 2, 11, 1201, 1204, 56, 1203, 45]), (59, .ifCond .eq 12, 3, [71]), (62, .iload 4, 2, []), (64, .ifCond .ne 7, 3, [71]), (67, .iconst 1, 1, []), (68, .goto 4, 3, [72]), (71, .iconst 0, 1, []), (72, .ireturn, 1, [1]), (73, .iload_n 2, 1, []), (74, .invokestatic 358, 3, [2, 136, 1, 11, 657, 659, 56, 658, 0]), (77, .ifCond .eq 24, 3, [101]), (80, .aload_n 0, 1, []), (81, .iload_n 3, 1, []), (82, .invokevirtual 367, 3, [0, 135, 2, 11, 1201, 1204, 56, 1203, 45]), (85, .ifCond .eq 16, 3, [101]), (88, .aload_n 0, 1, []), (89, .iload 4, 2, []), (91, .invokevirtual 367, 3, [0, 135, 2, 11, 1201, 1204, 56, 1203, 45]), (94, .ifCond .eq 7, 3, [101]), (97, .iconst 1, 1, []), (98, .goto 4, 3, [102]), (101, .iconst 0, 1, []), (102, .ireturn, 1, [1]), (103, .iconst 0, 1, []), (104, .ireturn, 1, [1])]
def mX11_isEnd : mmM := (yX11_isEnd, cX11_isEnd, 5, some .boolean, 1, 21, tbX11_isEnd)
def tbX11_isPass : List mmI := [(0, .iload_n 0, 1, []), (1, .iconst 1, 1, []), (2, .if_icmp .lt 12, 3, [14]), (5, .iload_n 0, 1, []), (6, .iconst 4, 1, []), (7, .if_icmp .gt 7, 3, [14]), (10, .iconst 1, 1, []), (11, .goto 4, 3, [15]), (14, .iconst 0, 1, []), (15, .ireturn, 1, [1])]
def mX11_isPass : mmM := (yX11_isPass, cX11_isPass, 1, some .boolean, 0, 0, tbX11_isPass)
def tbX11_isValue : List mmI := [(0, .aload_n 0, 1, []), (1, .getfield 176, 3, [11, 12, 544]), (4, .ifCond .eq 22, 3, [26]), (7, .iload_n 1, 1, []), (8, .ifCond .lt 18, 3, [26]), (11, .iload_n 1, 1, []), (12, .aload_n 0, 1, []), (13, .getfield 19, 3, [11, 1, 533]), (16, .getfield 180, 3, [3, 15, 350]), (19, .if_icmp .ge 7, 3, [26]), (22, .iconst 1, 1, []), (23, .goto 4, 3, [27]), (26, .iconst 0, 1, []), (27, .ireturn, 1, [1])]
def mX11_isValue : mmM := (yX11_isValue, cX11_isValue, 2, some .boolean, 0, 0, tbX11_isValue)
def tbX11_isArgument : List mmI := [(0, .aload_n 0, 1, []), (1, .iload_n 1, 1, []), (2, .invokevirtual 232, 3, [0, 140, 2, 11, 1331, 1334, 56, 1333, 53]), (5, .ifCond .eq 26, 3, [31]), (8, .iload_n 2, 1, []), (9, .ifCond .lt 22, 3, [31]), (12, .iload_n 2, 1, []), (13, .aload_n 0, 1, []), (14, .getfield 19, 3, [11, 1, 533]), (17, .getfield 246, 3, [3, 3, 303]), (20, .iload_n 1, 1, []), (21, .invokevirtual 120, 3, [0, 82, 2, 7, 680, 152, 58, 150, 151]), (24, .if_icmp .ge 7, 3, [31]), (27, .iconst 1, 1, []), (28, .goto 4, 3, [32]), (31, .iconst 0, 1, []), (32, .ireturn, 1, [1])]
def mX11_isArgument : mmM := (yX11_isArgument, cX11_isArgument, 3, some .boolean, 1, 21, tbX11_isArgument)
def tbX11_countRun : List mmI := [(0, .aload_n 0, 1, []), (1, .dup, 1, []), (2, .getfield 285, 3, [11, 13, 545]), (5, .iconst 1, 1, []), (6, .iadd, 1, []), (7, .putfield 285, 3, [11, 13, 0, 545]), (10, .aload_n 0, 1, []), (11, .dup, 1, []), (12, .getfield 311, 3, [11, 14, 546]), (15, .aload_n 0, 1, []), (16, .getfield 73, 3, [11, 9, 541]), (19, .getfield 279, 3, [9, 6, 512]), (22, .i2l, 1, []), (23, .ladd, 1, []), (24, .putfield 311, 3, [11, 14, 2, 546]), (27, .return_, 1, [])]
def mX11_countRun : mmM := (yX11_countRun, cX11_countRun, 1, none, 0, 0, tbX11_countRun)
def tbX11_manyOfForm : List mmI := [(0, .iload_n 1, 1, []), (1, .tableswitch 104 4 9 #[39, 47, 62, 70, 81, 96], 39, [105, 40, 48, 63, 71, 82, 97]), (40, .aload_n 0, 1, []), (41, .getfield 19, 3, [11, 1, 533]), (44, .getfield 180, 3, [3, 15, 350]), (47, .ireturn, 1, []), (48, .aload_n 0, 1, []), (49, .getfield 19, 3, [11, 1, 533]), (52, .aload_n 0, 1, []), (53, .getfield 19, 3, [11, 1, 533]), (56, .getfield 200, 3, [3, 7, 317]), (59, .invokevirtual 370, 3, [0, 39, 2, 3, 1059, 1062, 63, 1060, 1061]), (62, .ireturn, 1, []), (63, .aload_n 0, 1, []), (64, .getfield 19, 3, [11, 1, 533]), (67, .invokevirtual 374, 3, [0, 40, 1, 3, 1063, 1066, 63, 1064, 1065]), (70, .ireturn, 1, []), (71, .aload_n 0, 1, []), (72, .getfield 19, 3, [11, 1, 533]), (75, .getfield 197, 3, [3, 14, 346]), (78, .invokestatic 300, 3, [2, 165, 1, 0, 1050, 792, 78, 791, 0]), (81, .ireturn, 1, []), (82, .aload_n 0, 1, []), (83, .getfield 19, 3, [11, 1, 533]), (86, .aload_n 0, 1, []), (87, .getfield 19, 3, [11, 1, 533]), (90, .getfield 207, 3, [3, 9, 323]), (93, .invokevirtual 370, 3, [0, 39, 2, 3, 1059, 1062, 63, 1060, 1061]), (96, .ireturn, 1, []), (97, .aload_n 0, 1, []), (98, .getfield 19, 3, [11, 1, 533]), (101, .getfield 377, 3, [3, 17, 355]), (104, .ireturn, 1, []), (105, .aload_n 0, 1, []), (106, .getfield 19, 3, [11, 1, 533]), (109, .getfield 380, 3, [3, 18, 357]), (112, .ireturn, 1, [])]
def mX11_manyOfForm : mmM := (yX11_manyOfForm, cX11_manyOfForm, 2, some .int, 2, 44, tbX11_manyOfForm)
def tbX11_passBehind : List mmI := [(0, .iconst 1, 1, []), (1, .iload_n 0, 1, []), (2, .iconst 4, 1, []), (3, .irem, 1, []), (4, .iadd, 1, []), (5, .ireturn, 1, [])]
def mX11_passBehind : mmM := (yX11_passBehind, cX11_passBehind, 1, some .int, 0, 0, tbX11_passBehind)
def tbX11_passOver : List mmI := [(0, .aload_n 1, 1, []), (1, .getfield 380, 3, [3, 18, 357]), (4, .istore_n 3, 1, []), (5, .iload_n 2, 1, []), (6, .tableswitch 74 1 4 #[30, 41, 52, 63], 30, [80, 36, 47, 58, 69]), (36, .aload_n 0, 1, []), (37, .getfield 36, 3, [11, 4, 536]), (40, .aload_n 1, 1, []), (41, .invokevirtual 383, 3, [0, 1, 2, 0, 843, 846, 65, 844, 845]), (44, .goto 36, 3, [80]), (47, .aload_n 0, 1, []), (48, .getfield 43, 3, [11, 5, 537]), (51, .aload_n 1, 1, []), (52, .invokevirtual 386, 3, [0, 75, 2, 6, 941, 944, 66, 942, 943]), (55, .goto 25, 3, [80]), (58, .aload_n 0, 1, []), (59, .getfield 50, 3, [11, 6, 538]), (62, .aload_n 1, 1, []), (63, .invokevirtual 387, 3, [0, 15, 2, 1, 993, 996, 67, 994, 995]), (66, .goto 14, 3, [80]), (69, .aload_n 0, 1, []), (70, .getfield 57, 3, [11, 7, 539]), (73, .aload_n 1, 1, []), (74, .invokevirtual 388, 3, [0, 56, 2, 4, 1014, 1017, 68, 1015, 1016]), (77, .goto 3, 3, [80]), (80, .aload_n 1, 1, []), (81, .invokevirtual 389, 3, [0, 47, 1, 3, 1041, 1044, 63, 1042, 1043]), (84, .aload_n 1, 1, []), (85, .dup, 1, []), (86, .getfield 377, 3, [3, 17, 355]), (89, .iconst 1, 1, []), (90, .iadd, 1, []), (91, .putfield 377, 3, [3, 17, 0, 355]), (94, .aload_n 1, 1, []), (95, .getfield 380, 3, [3, 18, 357]), (98, .iload_n 3, 1, []), (99, .isub, 1, []), (100, .ireturn, 1, [])]
def mX11_passOver : mmM := (yX11_passOver, cX11_passOver, 4, some .int, 5, 129, tbX11_passOver)
def tbX11_mixed : List mmI := [(0, .lload_n 0, 1, []), (1, .ldc2_w 392, 3, [31, 1285]), (4, .lmul, 1, []), (5, .lload_n 2, 1, []), (6, .ladd, 1, []), (7, .lreturn, 1, [])]
def mX11_mixed : mmM := (yX11_mixed, cX11_mixed, 4, some .long, 0, 0, tbX11_mixed)
def tbX11_mixedWithBlocks : List mmI := [(0, .lload_n 1, 1, []), (1, .lstore_n 3, 1, []), (2, .iconst 0, 1, []), (3, .istore 5, 2, []), (5, .iload 5, 2, []), (7, .aload_n 0, 1, []), (8, .getfield 12, 3, [11, 0, 532]), (11, .getfield 83, 3, [10, 12, 247]), (14, .if_icmp .ge 38, 3, [52]), (17, .iconst 0, 1, []), (18, .istore 6, 2, []), (20, .iload 6, 2, []), (22, .iconst 5, 1, []), (23, .if_icmp .gt 23, 3, [46]), (26, .lload_n 3, 1, []), (27, .aload_n 0, 1, []), (28, .iload 5, 2, []), (30, .iload 6, 2, []), (32, .invokevirtual 394, 3, [0, 114, 3, 11, 1290, 713, 56, 711, 712]), (35, .i2l, 1, []), (36, .invokestatic 333, 3, [2, 146, 2, 11, 1282, 1284, 56, 1283, 0]), (39, .lstore_n 3, 1, []), (40, .iinc 6 1, 3, []), (43, .goto (-23), 3, [20]), (46, .iinc 5 1, 3, []), (49, .goto (-44), 3, [5]), (52, .lload_n 3, 1, []), (53, .lreturn, 1, [])]
def mX11_mixedWithBlocks : mmM := (yX11_mixedWithBlocks, cX11_mixedWithBlocks, 7, some .long, 3, 68, tbX11_mixedWithBlocks)
def tbX11_mixedWithRun : List mmI := [(0, .lload_n 1, 1, []), (1, .lstore_n 3, 1, []), (2, .iconst 0, 1, []), (3, .istore 5, 2, []), (5, .iload 5, 2, []), (7, .iconst 5, 1, []), (8, .if_icmp .gt 21, 3, [29]), (11, .lload_n 3, 1, []), (12, .aload_n 0, 1, []), (13, .iload 5, 2, []), (15, .invokevirtual 397, 3, [0, 125, 2, 11, 1295, 1243, 56, 1241, 1242]), (18, .i2l, 1, []), (19, .invokestatic 333, 3, [2, 146, 2, 11, 1282, 1284, 56, 1283, 0]), (22, .lstore_n 3, 1, []), (23, .iinc 5 1, 3, []), (26, .goto (-21), 3, [5]), (29, .iconst 0, 1, []), (30, .istore 5, 2, []), (32, .iload 5, 2, []), (34, .bipush 60, 2, []), (36, .if_icmp .ge 33, 3, [69]), (39, .iload 5, 2, []), (41, .aload_n 0, 1, []), (42, .getfield 73, 3, [11, 9, 541]), (45, .getfield 276, 3, [9, 5, 510]), (48, .if_icmp .ge 21, 3, [69]), (51, .lload_n 3, 1, []), (52, .aload_n 0, 1, []), (53, .iload 5, 2, []), (55, .invokevirtual 400, 3, [0, 126, 2, 11, 1296, 1248, 56, 1246, 1247]), (58, .i2l, 1, []), (59, .invokestatic 333, 3, [2, 146, 2, 11, 1282, 1284, 56, 1283, 0]), (62, .lstore_n 3, 1, []), (63, .iinc 5 1, 3, []), (66, .goto (-34), 3, [32]), (69, .iconst 0, 1, []), (70, .istore 5, 2, []), (72, .iload 5, 2, []), (74, .bipush 8, 2, []), (76, .if_icmp .ge 21, 3, [97]), (79, .lload_n 3, 1, []), (80, .aload_n 0, 1, []), (81, .iload 5, 2, []), (83, .invokevirtual 403, 3, [0, 127, 2, 11, 1297, 1253, 56, 1251, 1252]), (86, .i2l, 1, []), (87, .invokestatic 333, 3, [2, 146, 2, 11, 1282, 1284, 56, 1283, 0]), (90, .lstore_n 3, 1, []), (91, .iinc 5 1, 3, []), (94, .goto (-22), 3, [72]), (97, .lload_n 3, 1, []), (98, .lreturn, 1, [])]
def mX11_mixedWithRun : mmM := (yX11_mixedWithRun, cX11_mixedWithRun, 6, some .long, 2, 42, tbX11_mixedWithRun)
def tbX11_mixedWithPlace : List mmI := [(0, .lload_n 1, 1, []), (1, .lstore 4, 2, []), (3, .iconst 0, 1, []), (4, .istore 6, 2, []), (6, .iload 6, 2, []), (8, .bipush 7, 2, []), (10, .if_icmp .gt 24, 3, [34]), (13, .lload 4, 2, []), (15, .aload_n 0, 1, []), (16, .iload_n 3, 1, []), (17, .iload 6, 2, []), (19, .invokevirtual 406, 3, [0, 117, 3, 11, 1302, 1305, 56, 1303, 1304]), (22, .i2l, 1, []), (23, .invokestatic 333, 3, [2, 146, 2, 11, 1282, 1284, 56, 1283, 0]), (26, .lstore 4, 2, []), (28, .iinc 6 1, 3, []), (31, .goto (-25), 3, [6]), (34, .aload_n 0, 1, []), (35, .getfield 19, 3, [11, 1, 533]), (38, .getfield 197, 3, [3, 14, 346]), (41, .iload_n 3, 1, []), (42, .invokestatic 154, 3, [2, 152, 2, 11, 714, 187, 56, 186, 0]), (45, .ifCond .ne 6, 3, [51]), (48, .lload 4, 2, []), (50, .lreturn, 1, []), (51, .iconst 0, 1, []), (52, .istore 6, 2, []), (54, .iload 6, 2, []), (56, .aload_n 0, 1, []), (57, .getfield 19, 3, [11, 1, 533]), (60, .getfield 207, 3, [3, 9, 323]), (63, .iload_n 3, 1, []), (64, .invokevirtual 120, 3, [0, 82, 2, 7, 680, 152, 58, 150, 151]), (67, .if_icmp .ge 24, 3, [91]), (70, .lload 4, 2, []), (72, .aload_n 0, 1, []), (73, .iload_n 3, 1, []), (74, .iload 6, 2, []), (76, .invokevirtual 409, 3, [0, 119, 3, 11, 1310, 1313, 56, 1311, 1312]), (79, .i2l, 1, []), (80, .invokestatic 333, 3, [2, 146, 2, 11, 1282, 1284, 56, 1283, 0]), (83, .lstore 4, 2, []), (85, .iinc 6 1, 3, []), (88, .goto (-34), 3, [54]), (91, .iconst 0, 1, []), (92, .istore 6, 2, []), (94, .iload 6, 2, []), (96, .aload_n 0, 1, []), (97, .getfield 19, 3, [11, 1, 533]), (100, .getfield 200, 3, [3, 7, 317]), (103, .iload_n 3, 1, []), (104, .invokevirtual 120, 3, [0, 82, 2, 7, 680, 152, 58, 150, 151]), (107, .if_icmp .ge 24, 3, [131]), (110, .lload 4, 2, []), (112, .aload_n 0, 1, []), (113, .iload_n 3, 1, []), (114, .iload 6, 2, []), (116, .invokevirtual 412, 3, [0, 118, 3, 11, 1317, 1320, 56, 1318, 1319]), (119, .i2l, 1, []), (120, .invokestatic 333, 3, [2, 146, 2, 11, 1282, 1284, 56, 1283, 0]), (123, .lstore 4, 2, []), (125, .iinc 6 1, 3, []), (128, .goto (-34), 3, [94]), (131, .lload 4, 2, []), (133, .lreturn, 1, [])]
def mX11_mixedWithPlace : mmM := (yX11_mixedWithPlace, cX11_mixedWithPlace, 7, some .long, 3, 66, tbX11_mixedWithPlace)
def tbX11_mixedWithValue : List mmI := [(0, .lload_n 1, 1, []), (1, .lstore 4, 2, []), (3, .iconst 0, 1, []), (4, .istore 6, 2, []), (6, .iload 6, 2, []), (8, .iconst 4, 1, []), (9, .if_icmp .gt 24, 3, [33]), (12, .lload 4, 2, []), (14, .aload_n 0, 1, []), (15, .iload_n 3, 1, []), (16, .iload 6, 2, []), (18, .invokevirtual 415, 3, [0, 120, 3, 11, 1327, 1330, 56, 1328, 1329]), (21, .i2l, 1, []), (22, .invokestatic 333, 3, [2, 146, 2, 11, 1282, 1284, 56, 1283, 0]), (25, .lstore 4, 2, []), (27, .iinc 6 1, 3, []), (30, .goto (-24), 3, [6]), (33, .iconst 0, 1, []), (34, .istore 6, 2, []), (36, .iload 6, 2, []), (38, .aload_n 0, 1, []), (39, .getfield 19, 3, [11, 1, 533]), (42, .getfield 246, 3, [3, 3, 303]), (45, .iload_n 3, 1, []), (46, .invokevirtual 120, 3, [0, 82, 2, 7, 680, 152, 58, 150, 151]), (49, .if_icmp .ge 39, 3, [88]), (52, .lload 4, 2, []), (54, .aload_n 0, 1, []), (55, .iload_n 3, 1, []), (56, .iload 6, 2, []), (58, .invokevirtual 418, 3, [0, 121, 3, 11, 1341, 1344, 56, 1342, 1343]), (61, .i2l, 1, []), (62, .invokestatic 333, 3, [2, 146, 2, 11, 1282, 1284, 56, 1283, 0]), (65, .lstore 4, 2, []), (67, .lload 4, 2, []), (69, .aload_n 0, 1, []), (70, .iload_n 3, 1, []), (71, .iload 6, 2, []), (73, .invokevirtual 421, 3, [0, 122, 3, 11, 1350, 1353, 56, 1351, 1352]), (76, .i2l, 1, []), (77, .invokestatic 333, 3, [2, 146, 2, 11, 1282, 1284, 56, 1283, 0]), (80, .lstore 4, 2, []), (82, .iinc 6 1, 3, []), (85, .goto (-49), 3, [36]), (88, .lload 4, 2, []), (90, .lreturn, 1, [])]
def mX11_mixedWithValue : mmM := (yX11_mixedWithValue, cX11_mixedWithValue, 7, some .long, 3, 67, tbX11_mixedWithValue)
def tbX11_bit : List mmI := [(0, .iload_n 0, 1, []), (1, .ifCond .lt 15, 3, [16]), (4, .iload_n 0, 1, []), (5, .bipush 20, 2, []), (7, .if_icmp .ge 9, 3, [16]), (10, .iconst 1, 1, []), (11, .iload_n 0, 1, []), (12, .ishl, 1, []), (13, .goto 4, 3, [17]), (16, .iconst 0, 1, []), (17, .ireturn, 1, [])]
def mX11_bit : mmM := (yX11_bit, cX11_bit, 1, some .int, 0, 0, tbX11_bit)
def tbX11_has : List mmI := [(0, .iload_n 1, 1, []), (1, .ifCond .lt 22, 3, [23]), (4, .iload_n 1, 1, []), (5, .bipush 20, 2, []), (7, .if_icmp .ge 16, 3, [23]), (10, .iload_n 0, 1, []), (11, .iload_n 1, 1, []), (12, .ishr, 1, []), (13, .iconst 1, 1, []), (14, .iand, 1, []), (15, .iconst 1, 1, []), (16, .if_icmp .ne 7, 3, [23]), (19, .iconst 1, 1, []), (20, .goto 4, 3, [24]), (23, .iconst 0, 1, []), (24, .ireturn, 1, [1])]
def mX11_has : mmM := (yX11_has, cX11_has, 2, some .boolean, 0, 0, tbX11_has)
def tbX11_sets : List mmI := [(0, .iload_n 0, 1, []), (1, .ifCond .lt 13, 3, [14]), (4, .iload_n 0, 1, []), (5, .bipush 6, 2, []), (7, .if_icmp .gt 7, 3, [14]), (10, .iconst 1, 1, []), (11, .goto 4, 3, [15]), (14, .iconst 0, 1, []), (15, .ireturn, 1, [1])]
def mX11_sets : mmM := (yX11_sets, cX11_sets, 1, some .boolean, 0, 0, tbX11_sets)
def tbX11_isReckoning : List mmI := [(0, .iload_n 0, 1, []), (1, .iconst 1, 1, []), (2, .if_icmp .lt 12, 3, [14]), (5, .iload_n 0, 1, []), (6, .iconst 5, 1, []), (7, .if_icmp .gt 7, 3, [14]), (10, .iconst 1, 1, []), (11, .goto 4, 3, [15]), (14, .iconst 0, 1, []), (15, .ireturn, 1, [1])]
def mX11_isReckoning : mmM := (yX11_isReckoning, cX11_isReckoning, 1, some .boolean, 0, 0, tbX11_isReckoning)
def tbX11_variableOf : List mmI := [(0, .iload_n 0, 1, []), (1, .bipush 100, 2, []), (3, .if_icmp .lt 10, 3, [13]), (6, .iload_n 0, 1, []), (7, .bipush 100, 2, []), (9, .isub, 1, []), (10, .goto 4, 3, [14]), (13, .iconst (-1), 1, []), (14, .ireturn, 1, [])]
def mX11_variableOf : mmM := (yX11_variableOf, cX11_variableOf, 1, some .int, 0, 0, tbX11_variableOf)
def tbX11_fromOf : List mmI := [(0, .iload_n 0, 1, []), (1, .ifCond .ge 7, 3, [8]), (4, .iconst (-1), 1, []), (5, .goto 6, 3, [11]), (8, .iload_n 0, 1, []), (9, .iconst 2, 1, []), (10, .idiv, 1, []), (11, .ireturn, 1, [])]
def mX11_fromOf : mmM := (yX11_fromOf, cX11_fromOf, 1, some .int, 0, 0, tbX11_fromOf)
def tbX11_reckoned : List mmI := [(0, .iload_n 0, 1, []), (1, .tableswitch 70 1 5 #[35, 39, 43, 47, 59], 35, [71, 36, 40, 44, 48, 60]), (36, .iload_n 1, 1, []), (37, .iload_n 2, 1, []), (38, .iadd, 1, []), (39, .ireturn, 1, []), (40, .iload_n 1, 1, []), (41, .iload_n 2, 1, []), (42, .isub, 1, []), (43, .ireturn, 1, []), (44, .iload_n 1, 1, []), (45, .iload_n 2, 1, []), (46, .imul, 1, []), (47, .ireturn, 1, []), (48, .iload_n 2, 1, []), (49, .ifCond .ne 7, 3, [56]), (52, .iconst 0, 1, []), (53, .goto 6, 3, [59]), (56, .iload_n 1, 1, []), (57, .iload_n 2, 1, []), (58, .idiv, 1, []), (59, .ireturn, 1, []), (60, .iload_n 1, 1, []), (61, .iload_n 2, 1, []), (62, .if_icmp .ge 7, 3, [69]), (65, .iconst 1, 1, []), (66, .goto 4, 3, [70]), (69, .iconst 0, 1, []), (70, .ireturn, 1, []), (71, .iconst 0, 1, []), (72, .ireturn, 1, [])]
def mX11_reckoned : mmM := (yX11_reckoned, cX11_reckoned, 3, some .int, 0, 0, tbX11_reckoned)
def tbX11_costOf : List mmI := [(0, .iload_n 0, 1, []), (1, .tableswitch 56 1 8 #[47, 47, 49, 53, 47, 51, 51, 47], 47, [57, 48, 48, 50, 54, 48, 52, 52, 48]), (48, .iconst 1, 1, []), (49, .ireturn, 1, []), (50, .iconst 3, 1, []), (51, .ireturn, 1, []), (52, .iconst 4, 1, []), (53, .ireturn, 1, []), (54, .bipush 8, 2, []), (56, .ireturn, 1, []), (57, .iconst 0, 1, []), (58, .ireturn, 1, [])]
def mX11_costOf : mmM := (yX11_costOf, cX11_costOf, 1, some .int, 0, 0, tbX11_costOf)
def tbX12_init : List mmI := [(0, .aload_n 0, 1, []), (1, .invokespecial 1, 3, [9, 1138, 0]), (4, .aload_n 0, 1, []), (5, .bipush 10, 2, []), (7, .bipush 8, 2, []), (9, .multianewarray 7 2, 4, [1002, 1139]), (13, .putfield 9, 3, [12, 0, 3, 1143]), (16, .aload_n 0, 1, []), (17, .bipush 10, 2, []), (19, .newarray .int, 2, [103]), (21, .putfield 14, 3, [12, 1, 3, 1144]), (24, .aload_n 0, 1, []), (25, .bipush 10, 2, []), (27, .iconst 4, 1, []), (28, .multianewarray 18 2, 4, [1001, 1142]), (32, .putfield 20, 3, [12, 2, 3, 1145]), (35, .aload_n 0, 1, []), (36, .iconst 1, 1, []), (37, .putfield 23, 3, [12, 3, 0, 1146]), (40, .return_, 1, [])]
def mX12_init : mmM := (yX12_init, cX12_init, 1, none, 1, 20, tbX12_init)
def tbX12_isLine : List mmI := [(0, .aload_n 0, 1, []), (1, .getfield 14, 3, [12, 1, 1144]), (4, .iload_n 2, 1, []), (5, .iaload, 1, []), (6, .bipush 8, 2, []), (8, .if_icmp .ne 5, 3, [13]), (11, .iconst 1, 1, []), (12, .ireturn, 1, [1]), (13, .iconst 4, 1, []), (14, .newarray .int, 2, [103]), (16, .dup, 1, []), (17, .iconst 0, 1, []), (18, .iload_n 3, 1, []), (19, .iastore, 1, []), (20, .dup, 1, []), (21, .iconst 1, 1, []), (22, .iload 4, 2, []), (24, .iastore, 1, []), (25, .dup, 1, []), (26, .iconst 2, 1, []), (27, .iload 5, 2, []), (29, .iastore, 1, []), (30, .dup, 1, []), (31, .iconst 3, 1, []), (32, .iload 6, 2, []), (34, .iastore, 1, []), (35, .astore 7, 2, []), (37, .aload_n 0, 1, []), (38, .getfield 9, 3, [12, 0, 1143]), (41, .iload_n 2, 1, []), (42, .aaload, 1, []), (43, .aload_n 0, 1, []), (44, .getfield 14, 3, [12, 1, 1144]), (47, .iload_n 2, 1, []), (48, .iaload, 1, []), (49, .aload 7, 2, []), (51, .aastore, 1, []), (52, .aload_n 0, 1, []), (53, .getfield 14, 3, [12, 1, 1144]), (56, .iload_n 2, 1, []), (57, .dup2, 1, []), (58, .iaload, 1, []), (59, .iconst 1, 1, []), (60, .iadd, 1, []), (61, .iastore, 1, []), (62, .aload_n 1, 1, []), (63, .iload_n 2, 1, []), (64, .iload_n 3, 1, []), (65, .iload 4, 2, []), (67, .iload 5, 2, []), (69, .iload 6, 2, []), (71, .invokevirtual 27, 3, [0, 111, 6, 11, 1188, 581, 56, 579, 580]), (74, .aload_n 0, 1, []), (75, .getfield 14, 3, [12, 1, 1144]), (78, .iload_n 2, 1, []), (79, .iaload, 1, []), (80, .iconst 1, 1, []), (81, .isub, 1, []), (82, .if_icmp .ne 7, 3, [89]), (85, .iconst 1, 1, []), (86, .goto 4, 3, [90]), (89, .iconst 0, 1, []), (90, .ireturn, 1, [1])]
def mX12_isLine : mmM := (yX12_isLine, cX12_isLine, 8, some .boolean, 6, 145, tbX12_isLine)
def tbX12_isEnd : List mmI := [(0, .aload_n 0, 1, []), (1, .getfield 20, 3, [12, 2, 1145]), (4, .iload_n 2, 1, []), (5, .aaload, 1, []), (6, .iconst 0, 1, []), (7, .iaload, 1, []), (8, .istore 7, 2, []), (10, .iconst 4, 1, []), (11, .newarray .int, 2, [103]), (13, .dup, 1, []), (14, .iconst 0, 1, []), (15, .iload_n 3, 1, []), (16, .iastore, 1, []), (17, .dup, 1, []), (18, .iconst 1, 1, []), (19, .iload 4, 2, []), (21, .iastore, 1, []), (22, .dup, 1, []), (23, .iconst 2, 1, []), (24, .iload 5, 2, []), (26, .iastore, 1, []), (27, .dup, 1, []), (28, .iconst 3, 1, []), (29, .iload 6, 2, []), (31, .iastore, 1, []), (32, .astore 8, 2, []), (34, .aload_n 0, 1, []), (35, .getfield 20, 3, [12, 2, 1145]), (38, .iload_n 2, 1, []), (39, .aload 8, 2, []), (41, .aastore, 1, []), (42, .aload_n 1, 1, []), (43, .iload_n 2, 1, []), (44, .iload_n 3, 1, []), (45, .iload 4, 2, []), (47, .iload 5, 2, []), (49, .iload 6, 2, []), (51, .invokevirtual 33, 3, [0, 113, 6, 11, 1193, 1196, 56, 1194, 1195]), (54, .iload 7, 2, []), (56, .if_icmp .ne 7, 3, [63]), (59, .iconst 1, 1, []), (60, .goto 4, 3, [64]), (63, .iconst 0, 1, []), (64, .ireturn, 1, [1])]
def mX12_isEnd : mmM := (yX12_isEnd, cX12_isEnd, 9, some .boolean, 6, 144, tbX12_isEnd)
def tbX12_operand : List mmI := [(0, .iload_n 0, 1, []), (1, .iconst 3, 1, []), (2, .invokestatic 36, 3, [3, 169, 2, 0, 1173, 1175, 55, 1174, 0]), (5, .ifCond .ne 16, 3, [21]), (8, .iload_n 0, 1, []), (9, .iconst 2, 1, []), (10, .ishr, 1, []), (11, .bipush 9, 2, []), (13, .invokestatic 36, 3, [3, 169, 2, 0, 1173, 1175, 55, 1174, 0]), (16, .iconst 3, 1, []), (17, .isub, 1, []), (18, .goto 14, 3, [32]), (21, .bipush 100, 2, []), (23, .iload_n 0, 1, []), (24, .iconst 2, 1, []), (25, .ishr, 1, []), (26, .bipush 6, 2, []), (28, .invokestatic 36, 3, [3, 169, 2, 0, 1173, 1175, 55, 1174, 0]), (31, .iadd, 1, []), (32, .ireturn, 1, [])]
def mX12_operand : mmM := (yX12_operand, cX12_operand, 1, some .int, 1, 21, tbX12_operand)
def tbX12_isDrawn : List mmI := [(0, .iload_n 3, 1, []), (1, .bipush 12, 2, []), (3, .invokestatic 36, 3, [3, 169, 2, 0, 1173, 1175, 55, 1174, 0]), (6, .istore 4, 2, []), (8, .iload_n 3, 1, []), (9, .iconst 4, 1, []), (10, .ishr, 1, []), (11, .bipush 6, 2, []), (13, .invokestatic 36, 3, [3, 169, 2, 0, 1173, 1175, 55, 1174, 0]), (16, .istore 5, 2, []), (18, .iload_n 3, 1, []), (19, .bipush 6, 2, []), (21, .ishr, 1, []), (22, .invokestatic 42, 3, [2, 162, 1, 12, 1181, 1183, 71, 1182, 0]), (25, .istore 6, 2, []), (27, .iload_n 3, 1, []), (28, .bipush 9, 2, []), (30, .ishr, 1, []), (31, .invokestatic 42, 3, [2, 162, 1, 12, 1181, 1183, 71, 1182, 0]), (34, .istore 7, 2, []), (36, .iload 4, 2, []), (38, .ifCond .eq 10, 3, [48]), (41, .iload 4, 2, []), (43, .bipush 8, 2, []), (45, .if_icmp .le 39, 3, [84]), (48, .iload 4, 2, []), (50, .bipush 9, 2, []), (52, .if_icmp .le 19, 3, [71]), (55, .aload_n 0, 1, []), (56, .aload_n 1, 1, []), (57, .iload_n 2, 1, []), (58, .iconst 1, 1, []), (59, .iload 5, 2, []), (61, .iload 6, 2, []), (63, .iload 7, 2, []), (65, .invokevirtual 46, 3, [0, 160, 7, 12, 1184, 1187, 71, 1185, 1186]), (68, .goto 15, 3, [83]), (71, .aload_n 0, 1, []), (72, .aload_n 1, 1, []), (73, .iload_n 2, 1, []), (74, .iconst 0, 1, []), (75, .iload 5, 2, []), (77, .iload 6, 2, []), (79, .iconst 0, 1, []), (80, .invokevirtual 46, 3, [0, 160, 7, 12, 1184, 1187, 71, 1185, 1186]), (83, .ireturn, 1, [1]), (84, .iload 4, 2, []), (86, .bipush 6, 2, []), (88, .if_icmp .ge 18, 3, [106]), (91, .aload_n 0, 1, []), (92, .aload_n 1, 1, []), (93, .iload_n 2, 1, []), (94, .iload 4, 2, []), (96, .iload 5, 2, []), (98, .iload 6, 2, []), (100, .iload 7, 2, []), (102, .invokevirtual 46, 3, [0, 160, 7, 12, 1184, 1187, 71, 1185, 1186]), (105, .ireturn, 1, [1]), (106, .iload 4, 2, []), (108, .bipush 6, 2, []), (110, .if_icmp .ne 19, 3, [129]), (113, .aload_n 0, 1, []), (114, .aload_n 1, 1, []), (115, .iload_n 2, 1, []), (116, .bipush 6, 2, []), (118, .iload 5, 2, []), (120, .iload 6, 2, []), (122, .iconst 0, 1, []), (123, .invokevirtual 46, 3, [0, 160, 7, 12, 1184, 1187, 71, 1185, 1186]), (126, .goto 38, 3, [164]), (129, .iload 4, 2, []), (131, .bipush 7, 2, []), (133, .if_icmp .ne 19, 3, [152]), (136, .aload_n 0, 1, []), (137, .aload_n 1, 1, []), (138, .iload_n 2, 1, []), (139, .bipush 7, 2, []), (141, .iconst 0, 1, []), (142, .iload 6, 2, []), (144, .iload 7, 2, []), (146, .invokevirtual 46, 3, [0, 160, 7, 12, 1184, 1187, 71, 1185, 1186]), (149, .goto 15, 3, [164]), (152, .aload_n 0, 1, []), (153, .aload_n 1, 1, []), (154, .iload_n 2, 1, []), (155, .bipush 8, 2, []), (157, .iconst 0, 1, []), (158, .iload 6, 2, []), (160, .iconst 0, 1, []), (161, .invokevirtual 46, 3, [0, 160, 7, 12, 1184, 1187, 71, 1185, 1186]), (164, .ireturn, 1, [1])]
def mX12_isDrawn : mmM := (yX12_isDrawn, cX12_isDrawn, 8, some .boolean, 7, 172, tbX12_isDrawn)
def tbX12_isTold : List mmI := [(0, .iconst 1, 1, []), (1, .istore 4, 2, []), (3, .iload 4, 2, []), (5, .iload_n 3, 1, []), (6, .if_icmp .ge 30, 3, [36]), (9, .aload_n 0, 1, []), (10, .dup, 1, []), (11, .getfield 23, 3, [12, 3, 1146]), (14, .iconst 1, 1, []), (15, .iadd, 1, []), (16, .putfield 23, 3, [12, 3, 0, 1146]), (19, .aload_n 1, 1, []), (20, .invokevirtual 50, 3, [0, 110, 1, 11, 1160, 1163, 56, 1161, 1162]), (23, .iload 4, 2, []), (25, .if_icmp .eq 5, 3, [30]), (28, .iconst 0, 1, []), (29, .ireturn, 1, [1]), (30, .iinc 4 1, 3, []), (33, .goto (-30), 3, [3]), (36, .iconst 0, 1, []), (37, .istore 4, 2, []), (39, .iload 4, 2, []), (41, .iload_n 3, 1, []), (42, .if_icmp .ge 218, 3, [260]), (45, .aload_n 2, 1, []), (46, .iload 4, 2, []), (48, .invokestatic 54, 3, [3, 170, 2, 0, 1169, 1171, 55, 1170, 0]), (51, .istore 5, 2, []), (53, .iconst 0, 1, []), (54, .istore 6, 2, []), (56, .iload 6, 2, []), (58, .iload 5, 2, []), (60, .iconst 5, 1, []), (61, .invokestatic 36, 3, [3, 169, 2, 0, 1173, 1175, 55, 1174, 0]), (64, .if_icmp .ge 46, 3, [110]), (67, .aload_n 0, 1, []), (68, .aload_n 1, 1, []), (69, .iload 4, 2, []), (71, .aload_n 2, 1, []), (72, .bipush 8, 2, []), (74, .iload 4, 2, []), (76, .iconst 4, 1, []), (77, .imul, 1, []), (78, .iload 6, 2, []), (80, .iadd, 1, []), (81, .bipush 20, 2, []), (83, .irem, 1, []), (84, .iadd, 1, []), (85, .invokestatic 54, 3, [3, 170, 2, 0, 1169, 1171, 55, 1170, 0]), (88, .iload 4, 2, []), (90, .iload 6, 2, []), (92, .iadd, 1, []), (93, .iconst 5, 1, []), (94, .irem, 1, []), (95, .ishr, 1, []), (96, .invokevirtual 58, 3, [0, 163, 4, 12, 1177, 1180, 71, 1178, 1179]), (99, .ifCond .ne 5, 3, [104]), (102, .iconst 0, 1, []), (103, .ireturn, 1, [1]), (104, .iinc 6 1, 3, []), (107, .goto (-51), 3, [56]), (110, .iload_n 3, 1, []), (111, .iconst 1, 1, []), (112, .if_icmp .ne 7, 3, [119]), (115, .iconst 0, 1, []), (116, .goto 34, 3, [150]), (119, .iload 4, 2, []), (121, .iconst 1, 1, []), (122, .iadd, 1, []), (123, .iload_n 3, 1, []), (124, .if_icmp .ne 14, 3, [138]), (127, .iload 5, 2, []), (129, .iconst 4, 1, []), (130, .ishr, 1, []), (131, .iconst 2, 1, []), (132, .invokestatic 36, 3, [3, 169, 2, 0, 1173, 1175, 55, 1174, 0]), (135, .goto 15, 3, [150]), (138, .iconst 1, 1, []), (139, .iload 5, 2, []), (141, .iconst 4, 1, []), (142, .ishr, 1, []), (143, .iconst 3, 1, []), (144, .invokestatic 36, 3, [3, 169, 2, 0, 1173, 1175, 55, 1174, 0]), (147, .iconst 2, 1, []), (148, .irem, 1, []), (149, .iadd, 1, []), (150, .istore 6, 2, []), (152, .iload_n 3, 1, []), (153, .iconst 1, 1, []), (154, .if_icmp .ne 7, 3, [161]), (157, .iconst 0, 1, []), (158, .goto 16, 3, [174]), (161, .iconst 1, 1, []), (162, .iload 5, 2, []), (164, .bipush 6, 2, []), (166, .ishr, 1, []), (167, .iload_n 3, 1, []), (168, .iconst 1, 1, []), (169, .isub, 1, []), (170, .invokestatic 36, 3, [3, 169, 2, 0, 1173, 1175, 55, 1174, 0]), (173, .iadd, 1, []), (174, .istore 7, 2, []), (176, .iload_n 3, 1, []), (177, .iconst 1, 1, []), (178, .if_icmp .ne 7, 3, [185]), (181, .iconst 0, 1, []), (182, .goto 16, 3, [198]), (185, .iconst 1, 1, []), (186, .iload 5, 2, []), (188, .bipush 8, 2, []), (190, .ishr, 1, []), (191, .iload_n 3, 1, []), (192, .iconst 1, 1, []), (193, .isub, 1, []), (194, .invokestatic 36, 3, [3, 169, 2, 0, 1173, 1175, 55, 1174, 0]), (197, .iadd, 1, []), (198, .istore 8, 2, []), (200, .aload_n 0, 1, []), (201, .aload_n 1, 1, []), (202, .iload 4, 2, []), (204, .iload 6, 2, []), (206, .iload 6, 2, []), (208, .iconst 1, 1, []), (209, .if_icmp .ne 7, 3, [216]), (212, .iconst 0, 1, []), (213, .goto 10, 3, [223]), (216, .iload 5, 2, []), (218, .iconst 5, 1, []), (219, .ishr, 1, []), (220, .invokestatic 42, 3, [2, 162, 1, 12, 1181, 1183, 71, 1182, 0]), (223, .iload 6, 2, []), (225, .ifCond .ne 7, 3, [232]), (228, .iconst 0, 1, []), (229, .goto 5, 3, [234]), (232, .iload 7, 2, []), (234, .iload 6, 2, []), (236, .iconst 2, 1, []), (237, .if_icmp .ne 8, 3, [245]), (240, .iload 8, 2, []), (242, .goto 4, 3, [246]), (245, .iconst 0, 1, []), (246, .invokevirtual 62, 3, [0, 161, 7, 12, 1189, 1192, 71, 1190, 1191]), (249, .ifCond .ne 5, 3, [254]), (252, .iconst 0, 1, []), (253, .ireturn, 1, [1]), (254, .iinc 4 1, 3, []), (257, .goto (-218), 3, [39]), (260, .iconst 1, 1, []), (261, .ireturn, 1, [1])]
def mX12_isTold : mmM := (yX12_isTold, cX12_isTold, 9, some .boolean, 8, 199, tbX12_isTold)
def tbJ6_bitCount_0f7a4 : List mmI := [(0, .iload_n 0, 1, []), (1, .iload_n 0, 1, []), (2, .iconst 1, 1, []), (3, .iushr, 1, []), (4, .ldc_w 265, 3, [1431655765, 793]), (7, .iand, 1, []), (8, .isub, 1, []), (9, .istore_n 0, 1, []), (10, .iload_n 0, 1, []), (11, .ldc_w 266, 3, [858993459, 794]), (14, .iand, 1, []), (15, .iload_n 0, 1, []), (16, .iconst 2, 1, []), (17, .iushr, 1, []), (18, .ldc_w 266, 3, [858993459, 794]), (21, .iand, 1, []), (22, .iadd, 1, []), (23, .istore_n 0, 1, []), (24, .iload_n 0, 1, []), (25, .iload_n 0, 1, []), (26, .iconst 4, 1, []), (27, .iushr, 1, []), (28, .iadd, 1, []), (29, .ldc_w 267, 3, [252645135, 795]), (32, .iand, 1, []), (33, .istore_n 0, 1, []), (34, .iload_n 0, 1, []), (35, .iload_n 0, 1, []), (36, .bipush 8, 2, []), (38, .iushr, 1, []), (39, .iadd, 1, []), (40, .istore_n 0, 1, []), (41, .iload_n 0, 1, []), (42, .iload_n 0, 1, []), (43, .bipush 16, 2, []), (45, .iushr, 1, []), (46, .iadd, 1, []), (47, .istore_n 0, 1, []), (48, .iload_n 0, 1, []), (49, .bipush 63, 2, []), (51, .iand, 1, []), (52, .ireturn, 1, [])]
def mJ6_bitCount_0f7a4 : mmM := (yJ6_bitCount_0f7a4, cJ6_bitCount_0f7a4, 1, some .int, 0, 0, tbJ6_bitCount_0f7a4)
def tbJ9_floorMod_7cf53 : List mmI := [(0, .iload_n 0, 1, []), (1, .iload_n 1, 1, []), (2, .irem, 1, []), (3, .istore_n 2, 1, []), (4, .iload_n 0, 1, []), (5, .iload_n 1, 1, []), (6, .ixor, 1, []), (7, .ifCond .ge 11, 3, [18]), (10, .iload_n 2, 1, []), (11, .ifCond .eq 7, 3, [18]), (14, .iload_n 2, 1, []), (15, .iload_n 1, 1, []), (16, .iadd, 1, []), (17, .ireturn, 1, []), (18, .iload_n 2, 1, []), (19, .ireturn, 1, [])]
def mJ9_floorMod_7cf53 : mmM := (yJ9_floorMod_7cf53, cJ9_floorMod_7cf53, 3, some .int, 0, 0, tbJ9_floorMod_7cf53)
def tbJ9_min_7cf53 : List mmI := [(0, .iload_n 0, 1, []), (1, .iload_n 1, 1, []), (2, .if_icmp .gt 7, 3, [9]), (5, .iload_n 0, 1, []), (6, .goto 4, 3, [10]), (9, .iload_n 1, 1, []), (10, .ireturn, 1, [])]
def mJ9_min_7cf53 : mmM := (yJ9_min_7cf53, cJ9_min_7cf53, 2, some .int, 0, 0, tbJ9_min_7cf53)
def tbJ7_fill_53178 : List mmI := [(0, .iconst 0, 1, []), (1, .istore_n 2, 1, []), (2, .aload_n 0, 1, []), (3, .arraylength, 1, []), (4, .istore_n 3, 1, []), (5, .iload_n 2, 1, []), (6, .iload_n 3, 1, []), (7, .if_icmp .ge 13, 3, [20]), (10, .aload_n 0, 1, []), (11, .iload_n 2, 1, []), (12, .iload_n 1, 1, []), (13, .iastore, 1, []), (14, .iinc 2 1, 3, []), (17, .goto (-12), 3, [5]), (20, .return_, 1, [])]
def mJ7_fill_53178 : mmM := (yJ7_fill_53178, cJ7_fill_53178, 4, none, 0, 0, tbJ7_fill_53178)
def tbL_below : List mmI := [(0, .iload_n 0, 1, []), (1, .ldc 7, 2, [2147483647, 1176]), (3, .iand, 1, []), (4, .iload_n 1, 1, []), (5, .irem, 1, []), (6, .ireturn, 1, [])]
def mL_below : mmM := (yL_below, cL_below, 2, some .int, 0, 0, tbL_below)
def tbL_cell : List mmI := [(0, .iload_n 1, 1, []), (1, .aload_n 0, 1, []), (2, .arraylength, 1, []), (3, .if_icmp .ge 9, 3, [12]), (6, .aload_n 0, 1, []), (7, .iload_n 1, 1, []), (8, .iaload, 1, []), (9, .goto 9, 3, [18]), (12, .ldc 8, 2, [790386105, 1172]), (14, .iload_n 1, 1, []), (15, .iconst 3, 1, []), (16, .iadd, 1, []), (17, .imul, 1, []), (18, .ireturn, 1, [])]
def mL_cell : mmM := (yL_cell, cL_cell, 2, some .int, 0, 0, tbL_cell)
def tbL_law : List mmI := [(0, .new 9, 3, [11, 79, 80, 56]), (3, .dup, 1, []), (4, .invokespecial 11, 3, [4, 109, 1, 11, 81, 83, 56, 82, 0]), (7, .astore_n 1, 1, []), (8, .new 12, 3, [12, 1133, 1134, 71]), (11, .dup, 1, []), (12, .invokespecial 14, 3, [5, 159, 1, 12, 1135, 1137, 71, 1136, 0]), (15, .astore_n 2, 1, []), (16, .iconst 1, 1, []), (17, .aload_n 0, 1, []), (18, .bipush 28, 2, []), (20, .invokestatic 15, 3, [2, 170, 2, 0, 1211, 1171, 55, 1170, 0]), (23, .bipush 8, 2, []), (25, .invokestatic 21, 3, [2, 169, 2, 0, 1210, 1175, 55, 1174, 0]), (28, .iadd, 1, []), (29, .istore_n 3, 1, []), (30, .aload_n 2, 1, []), (31, .aload_n 1, 1, []), (32, .aload_n 0, 1, []), (33, .iload_n 3, 1, []), (34, .invokevirtual 25, 3, [0, 164, 4, 12, 1156, 1159, 71, 1157, 1158]), (37, .ifCond .ne 5, 3, [42]), (40, .iconst 0, 1, []), (41, .ireturn, 1, [1]), (42, .iconst 0, 1, []), (43, .istore 4, 2, []), (45, .iload 4, 2, []), (47, .iconst 3, 1, []), (48, .if_icmp .ge 353, 3, [401]), (51, .aload_n 0, 1, []), (52, .bipush 20, 2, []), (54, .iload 4, 2, []), (56, .iadd, 1, []), (57, .invokestatic 15, 3, [2, 170, 2, 0, 1211, 1171, 55, 1170, 0]), (60, .iload_n 3, 1, []), (61, .invokestatic 21, 3, [2, 169, 2, 0, 1210, 1175, 55, 1174, 0]), (64, .istore 5, 2, []), (66, .iload 4, 2, []), (68, .ifCond .le 20, 3, [88]), (71, .aload_n 1, 1, []), (72, .iload 5, 2, []), (74, .iconst 0, 1, []), (75, .invokevirtual 29, 3, [0, 114, 3, 11, 710, 713, 56, 711, 712]), (78, .ifCond .le 10, 3, [88]), (81, .aload_n 1, 1, []), (82, .iload 5, 2, []), (84, .invokevirtual 32, 3, [0, 112, 2, 11, 701, 704, 56, 702, 703]), (87, .pop, 1, []), (88, .iload 4, 2, []), (90, .iconst 2, 1, []), (91, .if_icmp .ne 26, 3, [117]), (94, .aload_n 1, 1, []), (95, .iload 5, 2, []), (97, .iconst 1, 1, []), (98, .aload_n 0, 1, []), (99, .bipush 9, 2, []), (101, .invokestatic 15, 3, [2, 170, 2, 0, 1211, 1171, 55, 1170, 0]), (104, .bipush 6, 2, []), (106, .invokestatic 21, 3, [2, 169, 2, 0, 1210, 1175, 55, 1174, 0]), (109, .bipush 100, 2, []), (111, .bipush 101, 2, []), (113, .invokevirtual 36, 3, [0, 111, 6, 11, 578, 581, 56, 579, 580]), (116, .pop, 1, []), (117, .aload_n 1, 1, []), (118, .invokevirtual 40, 3, [0, 115, 1, 11, 720, 723, 56, 721, 722]), (121, .istore 6, 2, []), (123, .iconst 0, 1, []), (124, .istore 7, 2, []), (126, .aload_n 1, 1, []), (127, .iconst 4, 1, []), (128, .invokevirtual 44, 3, [0, 128, 2, 11, 1045, 1048, 56, 1046, 1047]), (131, .iload 6, 2, []), (133, .if_icmp .ne 43, 3, [176]), (136, .aload_n 1, 1, []), (137, .bipush 9, 2, []), (139, .invokevirtual 44, 3, [0, 128, 2, 11, 1045, 1048, 56, 1046, 1047]), (142, .ifCond .ne 34, 3, [176]), (145, .aload_n 1, 1, []), (146, .bipush 10, 2, []), (148, .invokevirtual 44, 3, [0, 128, 2, 11, 1045, 1048, 56, 1046, 1047]), (151, .ifCond .ne 25, 3, [176]), (154, .aload_n 1, 1, []), (155, .bipush 7, 2, []), (157, .invokevirtual 44, 3, [0, 128, 2, 11, 1045, 1048, 56, 1046, 1047]), (160, .aload_n 1, 1, []), (161, .iconst 1, 1, []), (162, .invokevirtual 44, 3, [0, 128, 2, 11, 1045, 1048, 56, 1046, 1047]), (165, .if_icmp .ne 11, 3, [176]), (168, .aload_n 1, 1, []), (169, .iload_n 3, 1, []), (170, .invokestatic 47, 3, [2, 174, 2, 0, 1267, 1269, 55, 1268, 0]), (173, .ifCond .ne 5, 3, [178]), (176, .iconst 0, 1, []), (177, .ireturn, 1, [1]), (178, .iconst 0, 1, []), (179, .istore 8, 2, []), (181, .iload 8, 2, []), (183, .bipush 7, 2, []), (185, .if_icmp .ge 200, 3, [385]), (188, .aload_n 0, 1, []), (189, .iload 8, 2, []), (191, .bipush 7, 2, []), (193, .iload 4, 2, []), (195, .imul, 1, []), (196, .iadd, 1, []), (197, .invokestatic 15, 3, [2, 170, 2, 0, 1211, 1171, 55, 1170, 0]), (200, .istore 9, 2, []), (202, .iconst 1, 1, []), (203, .iload 9, 2, []), (205, .iconst 4, 1, []), (206, .invokestatic 21, 3, [2, 169, 2, 0, 1210, 1175, 55, 1174, 0]), (209, .iadd, 1, []), (210, .istore 10, 2, []), (212, .aload_n 1, 1, []), (213, .iload 10, 2, []), (215, .invokevirtual 51, 3, [0, 129, 2, 11, 1067, 1070, 56, 1068, 1069]), (218, .istore 11, 2, []), (220, .aload_n 1, 1, []), (221, .iconst 0, 1, []), (222, .iload 9, 2, []), (224, .iconst 3, 1, []), (225, .ishr, 1, []), (226, .bipush 20, 2, []), (228, .invokestatic 21, 3, [2, 169, 2, 0, 1210, 1175, 55, 1174, 0]), (231, .iconst 5, 1, []), (232, .isub, 1, []), (233, .iload 9, 2, []), (235, .bipush 6, 2, []), (237, .ishr, 1, []), (238, .bipush 9, 2, []), (240, .invokestatic 21, 3, [2, 169, 2, 0, 1210, 1175, 55, 1174, 0]), (243, .invokevirtual 54, 3, [0, 130, 4, 11, 1076, 1079, 56, 1077, 1078]), (246, .istore 12, 2, []), (248, .aload_n 1, 1, []), (249, .iload 10, 2, []), (251, .invokevirtual 58, 3, [0, 116, 2, 11, 830, 833, 56, 831, 832]), (254, .iload 11, 2, []), (256, .if_icmp .ne 8, 3, [264]), (259, .iload 11, 2, []), (261, .ifCond .ge 5, 3, [266]), (264, .iconst 0, 1, []), (265, .ireturn, 1, [1]), (266, .iload 7, 2, []), (268, .iload 11, 2, []), (270, .iadd, 1, []), (271, .istore 7, 2, []), (273, .aload_n 1, 1, []), (274, .bipush 10, 2, []), (276, .invokevirtual 44, 3, [0, 128, 2, 11, 1045, 1048, 56, 1046, 1047]), (279, .iload 7, 2, []), (281, .if_icmp .ne 85, 3, [366]), (284, .aload_n 1, 1, []), (285, .bipush 9, 2, []), (287, .invokevirtual 44, 3, [0, 128, 2, 11, 1045, 1048, 56, 1046, 1047]), (290, .iload 8, 2, []), (292, .iconst 1, 1, []), (293, .iadd, 1, []), (294, .if_icmp .ne 72, 3, [366]), (297, .aload_n 1, 1, []), (298, .iconst 5, 1, []), (299, .invokevirtual 44, 3, [0, 128, 2, 11, 1045, 1048, 56, 1046, 1047]), (302, .aload_n 1, 1, []), (303, .bipush 7, 2, []), (305, .invokevirtual 44, 3, [0, 128, 2, 11, 1045, 1048, 56, 1046, 1047]), (308, .iadd, 1, []), (309, .iload 6, 2, []), (311, .bipush 6, 2, []), (313, .isub, 1, []), (314, .aload_n 1, 1, []), (315, .iconst 1, 1, []), (316, .invokevirtual 44, 3, [0, 128, 2, 11, 1045, 1048, 56, 1046, 1047]), (319, .iadd, 1, []), (320, .iload 7, 2, []), (322, .isub, 1, []), (323, .if_icmp .ne 43, 3, [366]), (326, .aload_n 1, 1, []), (327, .iconst 0, 1, []), (328, .iload 9, 2, []), (330, .iconst 3, 1, []), (331, .ishr, 1, []), (332, .bipush 20, 2, []), (334, .invokestatic 21, 3, [2, 169, 2, 0, 1210, 1175, 55, 1174, 0]), (337, .iconst 5, 1, []), (338, .isub, 1, []), (339, .iload 9, 2, []), (341, .bipush 6, 2, []), (343, .ishr, 1, []), (344, .bipush 9, 2, []), (346, .invokestatic 21, 3, [2, 169, 2, 0, 1210, 1175, 55, 1174, 0]), (349, .invokevirtual 54, 3, [0, 130, 4, 11, 1076, 1079, 56, 1077, 1078]), (352, .iload 12, 2, []), (354, .if_icmp .le 14, 3, [368]), (357, .aload_n 1, 1, []), (358, .iload 9, 2, []), (360, .invokestatic 61, 3, [2, 172, 2, 0, 1212, 1214, 55, 1213, 0]), (363, .ifCond .ne 5, 3, [368]), (366, .iconst 0, 1, []), (367, .ireturn, 1, [1]), (368, .aload_n 1, 1, []), (369, .iload 9, 2, []), (371, .invokestatic 64, 3, [2, 173, 2, 0, 1237, 1239, 55, 1238, 0]), (374, .ifCond .ne 5, 3, [379]), (377, .iconst 0, 1, []), (378, .ireturn, 1, [1]), (379, .iinc 8 1, 3, []), (382, .goto (-201), 3, [181]), (385, .aload_n 1, 1, []), (386, .iload_n 3, 1, []), (387, .invokestatic 67, 3, [2, 176, 2, 0, 1273, 1275, 55, 1274, 0]), (390, .ifCond .ne 5, 3, [395]), (393, .iconst 0, 1, []), (394, .ireturn, 1, [1]), (395, .iinc 4 1, 3, []), (398, .goto (-353), 3, [45]), (401, .iconst 1, 1, []), (402, .ireturn, 1, [1])]
def mL_law : mmM := (yL_law, cL_law, 13, some .boolean, 9, 230, tbL_law)
def tbL_isCut : List mmI := [(0, .aload_n 0, 1, []), (1, .iload_n 1, 1, []), (2, .iconst 3, 1, []), (3, .ishr, 1, []), (4, .bipush 20, 2, []), (6, .invokestatic 21, 3, [2, 169, 2, 0, 1210, 1175, 55, 1174, 0]), (9, .iconst 5, 1, []), (10, .isub, 1, []), (11, .iload_n 1, 1, []), (12, .bipush 6, 2, []), (14, .ishr, 1, []), (15, .bipush 9, 2, []), (17, .invokestatic 21, 3, [2, 169, 2, 0, 1210, 1175, 55, 1174, 0]), (20, .invokevirtual 70, 3, [0, 123, 3, 11, 1215, 1218, 56, 1216, 1217]), (23, .iconst 2, 1, []), (24, .if_icmp .ne 7, 3, [31]), (27, .iconst 1, 1, []), (28, .goto 4, 3, [32]), (31, .iconst 0, 1, []), (32, .ireturn, 1, [1])]
def mL_isCut : mmM := (yL_isCut, cL_isCut, 2, some .boolean, 5, 121, tbL_isCut)
def tbL_isRunRight : List mmI := [(0, .iload_n 1, 1, []), (1, .iconst 3, 1, []), (2, .ishr, 1, []), (3, .bipush 20, 2, []), (5, .invokestatic 21, 3, [2, 169, 2, 0, 1210, 1175, 55, 1174, 0]), (8, .iconst 5, 1, []), (9, .isub, 1, []), (10, .istore_n 2, 1, []), (11, .iload_n 1, 1, []), (12, .bipush 6, 2, []), (14, .ishr, 1, []), (15, .bipush 9, 2, []), (17, .invokestatic 21, 3, [2, 169, 2, 0, 1210, 1175, 55, 1174, 0]), (20, .istore_n 3, 1, []), (21, .aload_n 0, 1, []), (22, .iconst 5, 1, []), (23, .invokevirtual 73, 3, [0, 125, 2, 11, 1240, 1243, 56, 1241, 1242]), (26, .istore 4, 2, []), (28, .aload_n 0, 1, []), (29, .iload_n 2, 1, []), (30, .iload_n 3, 1, []), (31, .invokevirtual 70, 3, [0, 123, 3, 11, 1215, 1218, 56, 1216, 1217]), (34, .istore 5, 2, []), (36, .aload_n 0, 1, []), (37, .iconst 1, 1, []), (38, .invokevirtual 73, 3, [0, 125, 2, 11, 1240, 1243, 56, 1241, 1242]), (41, .istore 6, 2, []), (43, .aload_n 0, 1, []), (44, .iconst 2, 1, []), (45, .invokevirtual 73, 3, [0, 125, 2, 11, 1240, 1243, 56, 1241, 1242]), (48, .istore 7, 2, []), (50, .aload_n 0, 1, []), (51, .iconst 3, 1, []), (52, .invokevirtual 73, 3, [0, 125, 2, 11, 1240, 1243, 56, 1241, 1242]), (55, .istore 8, 2, []), (57, .iconst 0, 1, []), (58, .istore 9, 2, []), (60, .iconst 0, 1, []), (61, .istore 10, 2, []), (63, .iload 10, 2, []), (65, .bipush 60, 2, []), (67, .iload 7, 2, []), (69, .invokestatic 76, 3, [2, 167, 2, 0, 1244, 206, 61, 205, 0]), (72, .if_icmp .ge 23, 3, [95]), (75, .iload 9, 2, []), (77, .bipush 31, 2, []), (79, .imul, 1, []), (80, .aload_n 0, 1, []), (81, .iload 10, 2, []), (83, .invokevirtual 81, 3, [0, 126, 2, 11, 1245, 1248, 56, 1246, 1247]), (86, .iadd, 1, []), (87, .istore 9, 2, []), (89, .iinc 10 1, 3, []), (92, .goto (-29), 3, [63]), (95, .iconst 0, 1, []), (96, .istore 10, 2, []), (98, .iload 10, 2, []), (100, .bipush 8, 2, []), (102, .if_icmp .ge 23, 3, [125]), (105, .iload 9, 2, []), (107, .bipush 31, 2, []), (109, .imul, 1, []), (110, .aload_n 0, 1, []), (111, .iload 10, 2, []), (113, .invokevirtual 84, 3, [0, 127, 2, 11, 1250, 1253, 56, 1251, 1252]), (116, .iadd, 1, []), (117, .istore 9, 2, []), (119, .iinc 10 1, 3, []), (122, .goto (-24), 3, [98]), (125, .iload 5, 2, []), (127, .ifCond .lt 57, 3, [184]), (130, .iload 5, 2, []), (132, .iconst 2, 1, []), (133, .if_icmp .gt 51, 3, [184]), (136, .iload 5, 2, []), (138, .ifCond .eq 8, 3, [146]), (141, .iload 6, 2, []), (143, .ifCond .ne 41, 3, [184]), (146, .aload_n 0, 1, []), (147, .iconst 0, 1, []), (148, .invokevirtual 73, 3, [0, 125, 2, 11, 1240, 1243, 56, 1241, 1242]), (151, .iload 5, 2, []), (153, .if_icmp .ne 31, 3, [184]), (156, .aload_n 0, 1, []), (157, .iconst 4, 1, []), (158, .invokevirtual 73, 3, [0, 125, 2, 11, 1240, 1243, 56, 1241, 1242]), (161, .sipush 300, 3, []), (164, .if_icmp .gt 20, 3, [184]), (167, .iload 5, 2, []), (169, .iconst 2, 1, []), (170, .if_icmp .ne 16, 3, [186]), (173, .aload_n 0, 1, []), (174, .iconst 4, 1, []), (175, .invokevirtual 73, 3, [0, 125, 2, 11, 1240, 1243, 56, 1241, 1242]), (178, .sipush 300, 3, []), (181, .if_icmp .eq 5, 3, [186]), (184, .iconst 0, 1, []), (185, .ireturn, 1, [1]), (186, .iload 5, 2, []), (188, .iconst 2, 1, []), (189, .if_icmp .ne 21, 3, [210]), (192, .aload_n 0, 1, []), (193, .iconst 5, 1, []), (194, .invokevirtual 73, 3, [0, 125, 2, 11, 1240, 1243, 56, 1241, 1242]), (197, .iload 4, 2, []), (199, .iconst 1, 1, []), (200, .iadd, 1, []), (201, .if_icmp .ne 7, 3, [208]), (204, .iconst 1, 1, []), (205, .goto 4, 3, [209]), (208, .iconst 0, 1, []), (209, .ireturn, 1, [1]), (210, .aload_n 0, 1, []), (211, .iload_n 2, 1, []), (212, .iload_n 3, 1, []), (213, .invokevirtual 86, 3, [0, 132, 3, 11, 1255, 1258, 56, 1256, 1257]), (216, .ifCond .eq 44, 3, [260]), (219, .aload_n 0, 1, []), (220, .iload_n 2, 1, []), (221, .iload_n 3, 1, []), (222, .invokevirtual 90, 3, [0, 124, 3, 11, 1263, 1266, 56, 1264, 1265]), (225, .iload 5, 2, []), (227, .if_icmp .ne 33, 3, [260]), (230, .aload_n 0, 1, []), (231, .iconst 1, 1, []), (232, .invokevirtual 73, 3, [0, 125, 2, 11, 1240, 1243, 56, 1241, 1242]), (235, .iload 6, 2, []), (237, .if_icmp .ne 23, 3, [260]), (240, .aload_n 0, 1, []), (241, .iconst 2, 1, []), (242, .invokevirtual 73, 3, [0, 125, 2, 11, 1240, 1243, 56, 1241, 1242]), (245, .iload 7, 2, []), (247, .if_icmp .ne 13, 3, [260]), (250, .aload_n 0, 1, []), (251, .iconst 3, 1, []), (252, .invokevirtual 73, 3, [0, 125, 2, 11, 1240, 1243, 56, 1241, 1242]), (255, .iload 8, 2, []), (257, .if_icmp .le 5, 3, [262]), (260, .iconst 0, 1, []), (261, .ireturn, 1, [1]), (262, .iconst 0, 1, []), (263, .istore 10, 2, []), (265, .iconst 0, 1, []), (266, .istore 11, 2, []), (268, .iload 11, 2, []), (270, .bipush 60, 2, []), (272, .iload 7, 2, []), (274, .invokestatic 76, 3, [2, 167, 2, 0, 1244, 206, 61, 205, 0]), (277, .if_icmp .ge 23, 3, [300]), (280, .iload 10, 2, []), (282, .bipush 31, 2, []), (284, .imul, 1, []), (285, .aload_n 0, 1, []), (286, .iload 11, 2, []), (288, .invokevirtual 81, 3, [0, 126, 2, 11, 1245, 1248, 56, 1246, 1247]), (291, .iadd, 1, []), (292, .istore 10, 2, []), (294, .iinc 11 1, 3, []), (297, .goto (-29), 3, [268]), (300, .iconst 0, 1, []), (301, .istore 11, 2, []), (303, .iload 11, 2, []), (305, .bipush 8, 2, []), (307, .if_icmp .ge 23, 3, [330]), (310, .iload 10, 2, []), (312, .bipush 31, 2, []), (314, .imul, 1, []), (315, .aload_n 0, 1, []), (316, .iload 11, 2, []), (318, .invokevirtual 84, 3, [0, 127, 2, 11, 1250, 1253, 56, 1251, 1252]), (321, .iadd, 1, []), (322, .istore 10, 2, []), (324, .iinc 11 1, 3, []), (327, .goto (-24), 3, [303]), (330, .iload 10, 2, []), (332, .iload 9, 2, []), (334, .if_icmp .ne 34, 3, [368]), (337, .aload_n 0, 1, []), (338, .iconst 5, 1, []), (339, .invokevirtual 73, 3, [0, 125, 2, 11, 1240, 1243, 56, 1241, 1242]), (342, .iload 4, 2, []), (344, .iconst 2, 1, []), (345, .iadd, 1, []), (346, .if_icmp .ne 22, 3, [368]), (349, .aload_n 0, 1, []), (350, .iconst 3, 1, []), (351, .invokevirtual 73, 3, [0, 125, 2, 11, 1240, 1243, 56, 1241, 1242]), (354, .aload_n 0, 1, []), (355, .iconst 0, 1, []), (356, .iload_n 2, 1, []), (357, .iload_n 3, 1, []), (358, .invokevirtual 54, 3, [0, 130, 4, 11, 1076, 1079, 56, 1077, 1078]), (361, .if_icmp .ne 7, 3, [368]), (364, .iconst 1, 1, []), (365, .goto 4, 3, [369]), (368, .iconst 0, 1, []), (369, .ireturn, 1, [1])]
def mL_isRunRight : mmM := (yL_isRunRight, cL_isRunRight, 12, some .boolean, 7, 176, tbL_isRunRight)
def tbL_areBlocksRight : List mmI := [(0, .iconst 0, 1, []), (1, .istore_n 2, 1, []), (2, .iconst 0, 1, []), (3, .istore_n 3, 1, []), (4, .iload_n 3, 1, []), (5, .iload_n 1, 1, []), (6, .if_icmp .ge 179, 3, [185]), (9, .iload_n 2, 1, []), (10, .aload_n 0, 1, []), (11, .iload_n 3, 1, []), (12, .iconst 2, 1, []), (13, .invokevirtual 29, 3, [0, 114, 3, 11, 710, 713, 56, 711, 712]), (16, .iadd, 1, []), (17, .istore_n 2, 1, []), (18, .aload_n 0, 1, []), (19, .iload_n 3, 1, []), (20, .iconst 3, 1, []), (21, .invokevirtual 29, 3, [0, 114, 3, 11, 710, 713, 56, 711, 712]), (24, .istore 4, 2, []), (26, .aload_n 0, 1, []), (27, .iload_n 3, 1, []), (28, .iconst 2, 1, []), (29, .invokevirtual 29, 3, [0, 114, 3, 11, 710, 713, 56, 711, 712]), (32, .ifCond .ne 29, 3, [61]), (35, .iload 4, 2, []), (37, .ifCond .ne 33, 3, [70]), (40, .aload_n 0, 1, []), (41, .iload_n 3, 1, []), (42, .iconst 4, 1, []), (43, .invokevirtual 29, 3, [0, 114, 3, 11, 710, 713, 56, 711, 712]), (46, .ifCond .ne 24, 3, [70]), (49, .aload_n 0, 1, []), (50, .iload_n 3, 1, []), (51, .iconst 5, 1, []), (52, .invokevirtual 29, 3, [0, 114, 3, 11, 710, 713, 56, 711, 712]), (55, .ifCond .eq 17, 3, [72]), (58, .goto 12, 3, [70]), (61, .iload 4, 2, []), (63, .iload_n 3, 1, []), (64, .ishr, 1, []), (65, .iconst 1, 1, []), (66, .iand, 1, []), (67, .ifCond .ne 5, 3, [72]), (70, .iconst 0, 1, []), (71, .ireturn, 1, [1]), (72, .iconst 0, 1, []), (73, .istore 5, 2, []), (75, .iload 5, 2, []), (77, .iload_n 1, 1, []), (78, .if_icmp .ge 69, 3, [147]), (81, .iload 4, 2, []), (83, .iload 5, 2, []), (85, .ishr, 1, []), (86, .iconst 1, 1, []), (87, .iand, 1, []), (88, .iconst 1, 1, []), (89, .if_icmp .ne 18, 3, [107]), (92, .aload_n 0, 1, []), (93, .iload 5, 2, []), (95, .iconst 3, 1, []), (96, .invokevirtual 29, 3, [0, 114, 3, 11, 710, 713, 56, 711, 712]), (99, .iload 4, 2, []), (101, .iconst (-1), 1, []), (102, .ixor, 1, []), (103, .iand, 1, []), (104, .ifCond .ne 35, 3, [139]), (107, .iload 5, 2, []), (109, .iload_n 3, 1, []), (110, .if_icmp .eq 31, 3, [141]), (113, .iload 4, 2, []), (115, .iload 5, 2, []), (117, .ishr, 1, []), (118, .iconst 1, 1, []), (119, .iand, 1, []), (120, .iconst 1, 1, []), (121, .if_icmp .ne 20, 3, [141]), (124, .aload_n 0, 1, []), (125, .iload 5, 2, []), (127, .iconst 3, 1, []), (128, .invokevirtual 29, 3, [0, 114, 3, 11, 710, 713, 56, 711, 712]), (131, .iload_n 3, 1, []), (132, .ishr, 1, []), (133, .iconst 1, 1, []), (134, .iand, 1, []), (135, .iconst 1, 1, []), (136, .if_icmp .ne 5, 3, [141]), (139, .iconst 0, 1, []), (140, .ireturn, 1, [1]), (141, .iinc 5 1, 3, []), (144, .goto (-69), 3, [75]), (147, .aload_n 0, 1, []), (148, .iload_n 3, 1, []), (149, .iconst 4, 1, []), (150, .invokevirtual 29, 3, [0, 114, 3, 11, 710, 713, 56, 711, 712]), (153, .iload 4, 2, []), (155, .iand, 1, []), (156, .iconst 1, 1, []), (157, .iload_n 3, 1, []), (158, .ishl, 1, []), (159, .iconst (-1), 1, []), (160, .ixor, 1, []), (161, .iand, 1, []), (162, .ifCond .ne 15, 3, [177]), (165, .aload_n 0, 1, []), (166, .iload_n 3, 1, []), (167, .iconst 4, 1, []), (168, .invokevirtual 29, 3, [0, 114, 3, 11, 710, 713, 56, 711, 712]), (171, .iconst 1, 1, []), (172, .iand, 1, []), (173, .iconst 1, 1, []), (174, .if_icmp .ne 5, 3, [179]), (177, .iconst 0, 1, []), (178, .ireturn, 1, [1]), (179, .iinc 3 1, 3, []), (182, .goto (-178), 3, [4]), (185, .aload_n 0, 1, []), (186, .iconst 1, 1, []), (187, .invokevirtual 44, 3, [0, 128, 2, 11, 1045, 1048, 56, 1046, 1047]), (190, .iload_n 2, 1, []), (191, .if_icmp .ne 21, 3, [212]), (194, .aload_n 0, 1, []), (195, .iconst 0, 1, []), (196, .iconst 3, 1, []), (197, .invokevirtual 29, 3, [0, 114, 3, 11, 710, 713, 56, 711, 712]), (200, .aload_n 0, 1, []), (201, .iload_n 1, 1, []), (202, .invokestatic 93, 3, [2, 175, 2, 0, 1270, 1272, 55, 1271, 0]), (205, .if_icmp .ne 7, 3, [212]), (208, .iconst 1, 1, []), (209, .goto 4, 3, [213]), (212, .iconst 0, 1, []), (213, .ireturn, 1, [1])]
def mL_areBlocksRight : mmM := (yL_areBlocksRight, cL_areBlocksRight, 6, some .boolean, 4, 91, tbL_areBlocksRight)
def tbL_reachedSet : List mmI := [(0, .iconst 0, 1, []), (1, .istore_n 2, 1, []), (2, .iconst 0, 1, []), (3, .istore_n 3, 1, []), (4, .iload_n 3, 1, []), (5, .iload_n 1, 1, []), (6, .if_icmp .ge 20, 3, [26]), (9, .iload_n 2, 1, []), (10, .aload_n 0, 1, []), (11, .iload_n 3, 1, []), (12, .iconst 2, 1, []), (13, .invokevirtual 29, 3, [0, 114, 3, 11, 710, 713, 56, 711, 712]), (16, .iload_n 3, 1, []), (17, .ishl, 1, []), (18, .ior, 1, []), (19, .istore_n 2, 1, []), (20, .iinc 3 1, 3, []), (23, .goto (-19), 3, [4]), (26, .iload_n 2, 1, []), (27, .ireturn, 1, [])]
def mL_reachedSet : mmM := (yL_reachedSet, cL_reachedSet, 4, some .int, 3, 68, tbL_reachedSet)
def tbL_isFormRight : List mmI := [(0, .aload_n 0, 1, []), (1, .invokevirtual 97, 3, [0, 133, 1, 11, 1276, 1279, 56, 1277, 1278]), (4, .lstore_n 2, 1, []), (5, .iconst 0, 1, []), (6, .istore 4, 2, []), (8, .iconst 0, 1, []), (9, .istore 5, 2, []), (11, .iconst 0, 1, []), (12, .istore 6, 2, []), (14, .iconst 0, 1, []), (15, .istore 7, 2, []), (17, .iconst 0, 1, []), (18, .istore 8, 2, []), (20, .iload 8, 2, []), (22, .iload_n 1, 1, []), (23, .if_icmp .ge 94, 3, [117]), (26, .iload 4, 2, []), (28, .aload_n 0, 1, []), (29, .iload 8, 2, []), (31, .iconst 0, 1, []), (32, .invokevirtual 101, 3, [0, 117, 3, 11, 1356, 1305, 56, 1303, 1304]), (35, .iadd, 1, []), (36, .istore 4, 2, []), (38, .iload 5, 2, []), (40, .aload_n 0, 1, []), (41, .iload 8, 2, []), (43, .iconst 1, 1, []), (44, .invokevirtual 101, 3, [0, 117, 3, 11, 1356, 1305, 56, 1303, 1304]), (47, .iadd, 1, []), (48, .istore 5, 2, []), (50, .iload 6, 2, []), (52, .aload_n 0, 1, []), (53, .iload 8, 2, []), (55, .iconst 5, 1, []), (56, .invokevirtual 101, 3, [0, 117, 3, 11, 1356, 1305, 56, 1303, 1304]), (59, .iadd, 1, []), (60, .istore 6, 2, []), (62, .iconst 0, 1, []), (63, .istore 9, 2, []), (65, .iload 9, 2, []), (67, .aload_n 0, 1, []), (68, .iload 8, 2, []), (70, .iconst 1, 1, []), (71, .invokevirtual 101, 3, [0, 117, 3, 11, 1356, 1305, 56, 1303, 1304]), (74, .if_icmp .ge 37, 3, [111]), (77, .iload 7, 2, []), (79, .aload_n 0, 1, []), (80, .aload_n 0, 1, []), (81, .iload 8, 2, []), (83, .iload 9, 2, []), (85, .invokevirtual 104, 3, [0, 118, 3, 11, 1357, 1320, 56, 1318, 1319]), (88, .iconst 0, 1, []), (89, .invokevirtual 107, 3, [0, 120, 3, 11, 1358, 1330, 56, 1328, 1329]), (92, .bipush 9, 2, []), (94, .if_icmp .ne 7, 3, [101]), (97, .iconst 1, 1, []), (98, .goto 4, 3, [102]), (101, .iconst 0, 1, []), (102, .iadd, 1, []), (103, .istore 7, 2, []), (105, .iinc 9 1, 3, []), (108, .goto (-43), 3, [65]), (111, .iinc 8 1, 3, []), (114, .goto (-94), 3, [20]), (117, .iconst 0, 1, []), (118, .istore 8, 2, []), (120, .iconst 0, 1, []), (121, .istore 9, 2, []), (123, .iconst 0, 1, []), (124, .istore 10, 2, []), (126, .iload 10, 2, []), (128, .aload_n 0, 1, []), (129, .iconst 4, 1, []), (130, .invokevirtual 44, 3, [0, 128, 2, 11, 1045, 1048, 56, 1046, 1047]), (133, .if_icmp .ge 63, 3, [196]), (136, .iload 8, 2, []), (138, .aload_n 0, 1, []), (139, .iload 10, 2, []), (141, .iconst 4, 1, []), (142, .invokevirtual 107, 3, [0, 120, 3, 11, 1358, 1330, 56, 1328, 1329]), (145, .iadd, 1, []), (146, .istore 8, 2, []), (148, .iconst 0, 1, []), (149, .istore 11, 2, []), (151, .iload 11, 2, []), (153, .aload_n 0, 1, []), (154, .iload 10, 2, []), (156, .iconst 3, 1, []), (157, .invokevirtual 107, 3, [0, 120, 3, 11, 1358, 1330, 56, 1328, 1329]), (160, .if_icmp .ge 30, 3, [190]), (163, .iload 9, 2, []), (165, .aload_n 0, 1, []), (166, .iload 10, 2, []), (168, .iload 11, 2, []), (170, .invokevirtual 110, 3, [0, 121, 3, 11, 1359, 1344, 56, 1342, 1343]), (173, .ifCond .lt 7, 3, [180]), (176, .iconst 1, 1, []), (177, .goto 4, 3, [181]), (180, .iconst 0, 1, []), (181, .iadd, 1, []), (182, .istore 9, 2, []), (184, .iinc 11 1, 3, []), (187, .goto (-36), 3, [151]), (190, .iinc 10 1, 3, []), (193, .goto (-67), 3, [126]), (196, .iconst 0, 1, []), (197, .istore 10, 2, []), (199, .iload 10, 2, []), (201, .iload_n 1, 1, []), (202, .if_icmp .ge 41, 3, [243]), (205, .iload 9, 2, []), (207, .aload_n 0, 1, []), (208, .iload 10, 2, []), (210, .iconst 0, 1, []), (211, .invokevirtual 101, 3, [0, 117, 3, 11, 1356, 1305, 56, 1303, 1304]), (214, .iconst 1, 1, []), (215, .if_icmp .ne 18, 3, [233]), (218, .aload_n 0, 1, []), (219, .iload 10, 2, []), (221, .bipush 6, 2, []), (223, .invokevirtual 101, 3, [0, 117, 3, 11, 1356, 1305, 56, 1303, 1304]), (226, .ifCond .lt 7, 3, [233]), (229, .iconst 1, 1, []), (230, .goto 4, 3, [234]), (233, .iconst 0, 1, []), (234, .iadd, 1, []), (235, .istore 9, 2, []), (237, .iinc 10 1, 3, []), (240, .goto (-41), 3, [199]), (243, .aload_n 0, 1, []), (244, .invokevirtual 113, 3, [0, 131, 1, 11, 1360, 1363, 56, 1361, 1362]), (247, .istore 10, 2, []), (249, .aload_n 0, 1, []), (250, .iconst 5, 1, []), (251, .invokevirtual 44, 3, [0, 128, 2, 11, 1045, 1048, 56, 1046, 1047]), (254, .iload 5, 2, []), (256, .if_icmp .ne 69, 3, [325]), (259, .aload_n 0, 1, []), (260, .bipush 6, 2, []), (262, .invokevirtual 44, 3, [0, 128, 2, 11, 1045, 1048, 56, 1046, 1047]), (265, .iload 7, 2, []), (267, .if_icmp .ne 58, 3, [325]), (270, .aload_n 0, 1, []), (271, .bipush 7, 2, []), (273, .invokevirtual 44, 3, [0, 128, 2, 11, 1045, 1048, 56, 1046, 1047]), (276, .iload 4, 2, []), (278, .if_icmp .ne 47, 3, [325]), (281, .aload_n 0, 1, []), (282, .bipush 8, 2, []), (284, .invokevirtual 44, 3, [0, 128, 2, 11, 1045, 1048, 56, 1046, 1047]), (287, .iload 6, 2, []), (289, .if_icmp .ne 36, 3, [325]), (292, .iload 8, 2, []), (294, .iload 9, 2, []), (296, .if_icmp .ne 29, 3, [325]), (299, .iload 10, 2, []), (301, .iconst 4, 1, []), (302, .if_icmp .lt 23, 3, [325]), (305, .iload 10, 2, []), (307, .bipush 40, 2, []), (309, .if_icmp .gt 16, 3, [325]), (312, .aload_n 0, 1, []), (313, .invokevirtual 97, 3, [0, 133, 1, 11, 1276, 1279, 56, 1277, 1278]), (316, .lload_n 2, 1, []), (317, .lcmp, 1, []), (318, .ifCond .ne 7, 3, [325]), (321, .iconst 1, 1, []), (322, .goto 4, 3, [326]), (325, .iconst 0, 1, []), (326, .ireturn, 1, [1])]
def mL_isFormRight : mmM := (yL_isFormRight, cL_isFormRight, 12, some .boolean, 8, 199, tbL_isFormRight)
def mmPT : List mmM := [mX0_init, mX0_goOver, mX0_begin, mX0_visit, mX0_meet, mX0_reckon, mX0_knownAt, mX0_numberAt, mX0_rise, mX0_goOn, mX0_goAlong, mX0_cutWays, mX0_loseBlocks, mX0_replaceNumbers, mX1_init, mX1_goOver, mX1_isNeededBySelf, mX1_needArguments, mX1_loseOthers, mX2_init, mX2_forget, mX2_lead, mX2_reckon, mX2_reachedWithout, mX2_addDominator, mX2_firstReady, mX2_frontier, mX2_nearestDominator, mX3_init, mX3_begin, mX3_take, mX3_addValue, mX3_putInto, mX3_addArgument, mX3_addEdge, mX3_valueIn, mX3_wayTo, mX3_valueOf, mX3_numberOf, mX3_allIn, mX3_allPhis, mX3_usesOf, mX3_edgeOf, mX3_replace, mX3_redirect, mX3_lose, mX3_loseBlock, mX3_sweep, mX3_dropEdge, mX3_dropArgument, mX3_changeWay, mX3_takeEnd, mX3_hasSameArguments, mX3_hasCrossedArguments, mX3_soleArgument, mX4_init, mX4_goOver, mX4_firstToJoin, mX4_moveValues, mX4_moveEnd, mX5_init, mX5_make, mX5_placePhis, mX5_whereJoined, mX5_addValues, mX5_addEdges, mX5_holdAtBeginning, mX5_hold, mX5_followLines, mX5_give, mX5_valueFor, mX5_numberFor, mX5_givePhisTheirs, mX5_givePhi, mX6_init, mX6_goOver, mX6_readEdges, mX6_visit, mX6_twinOfPhi, mX6_twinOfReckoning, mX6_isStill, mX7_init, mX7_at, mX7_put, mX7_fill, mX7_take, mX8_init, mX8_walkBlocks, mX8_doLines, mX8_read, mX8_walkForm, mX8_doPhis, mX8_doValues, mX8_reckon, mX9_init, mX9_begin, mX9_finish, mX9_act, mX9_leaveBy, mX9_isLike, mX10_init, mX10_addBlock, mX10_addLine, mX10_cutLine, mX10_putEnd, mX10_allLines, mX10_reckon, mX10_readLines, mX10_reckonWanted, mX11_init, mX11_block, mX11_line, mX11_cut, mX11_end, mX11_ofBlock, mX11_form, mX11_pass, mX11_ofPlace, mX11_valueAt, mX11_edge, mX11_ofValue, mX11_argument, mX11_number, mX11_run, mX11_runForm, mX11_ofRun, mX11_printed, mX11_cell, mX11_many, mX11_wouldGo, mX11_wouldCost, mX11_untilStill, mX11_isAlike, mX11_digest, mX11_isTold, mX11_isTarget, mX11_isOperand, mX11_isLine, mX11_isEnd, mX11_isPass, mX11_isValue, mX11_isArgument, mX11_countRun, mX11_manyOfForm, mX11_passBehind, mX11_passOver, mX11_mixed, mX11_mixedWithBlocks, mX11_mixedWithRun, mX11_mixedWithPlace, mX11_mixedWithValue, mX11_bit, mX11_has, mX11_sets, mX11_isReckoning, mX11_variableOf, mX11_fromOf, mX11_reckoned, mX11_costOf, mX12_init, mX12_isLine, mX12_isEnd, mX12_operand, mX12_isDrawn, mX12_isTold, mJ6_bitCount_0f7a4, mJ9_floorMod_7cf53, mJ9_min_7cf53, mJ7_fill_53178, mL_below, mL_cell, mL_law, mL_isCut, mL_isRunRight, mL_areBlocksRight, mL_reachedSet, mL_isFormRight]
end
section
/-! the tables are the class's -/
set_option maxRecDepth 100000 in
theorem ckX0_init : mmChk mmPT mX0_init = true := by decide +kernel
set_option maxRecDepth 100000 in
theorem ckX0_goOver : mmChk mmPT mX0_goOver = true := by decide +kernel
set_option maxRecDepth 100000 in
theorem ckX0_begin : mmChk mmPT mX0_begin = true := by decide +kernel
set_option maxRecDepth 100000 in
theorem ckX0_visit : mmChk mmPT mX0_visit = true := by decide +kernel
set_option maxRecDepth 100000 in
theorem ckX0_meet : mmChk mmPT mX0_meet = true := by decide +kernel
set_option maxRecDepth 100000 in
theorem ckX0_reckon : mmChk mmPT mX0_reckon = true := by decide +kernel
set_option maxRecDepth 100000 in
theorem ckX0_knownAt : mmChk mmPT mX0_knownAt = true := by decide +kernel
set_option maxRecDepth 100000 in
theorem ckX0_numberAt : mmChk mmPT mX0_numberAt = true := by decide +kernel
set_option maxRecDepth 100000 in
theorem ckX0_rise : mmChk mmPT mX0_rise = true := by decide +kernel
set_option maxRecDepth 100000 in
theorem ckX0_goOn : mmChk mmPT mX0_goOn = true := by decide +kernel
set_option maxRecDepth 100000 in
theorem ckX0_goAlong : mmChk mmPT mX0_goAlong = true := by decide +kernel
set_option maxRecDepth 100000 in
theorem ckX0_cutWays : mmChk mmPT mX0_cutWays = true := by decide +kernel
set_option maxRecDepth 100000 in
theorem ckX0_loseBlocks : mmChk mmPT mX0_loseBlocks = true := by decide +kernel
set_option maxRecDepth 100000 in
theorem ckX0_replaceNumbers : mmChk mmPT mX0_replaceNumbers = true := by decide +kernel
set_option maxRecDepth 100000 in
theorem ckX1_init : mmChk mmPT mX1_init = true := by decide +kernel
set_option maxRecDepth 100000 in
theorem ckX1_goOver : mmChk mmPT mX1_goOver = true := by decide +kernel
set_option maxRecDepth 100000 in
theorem ckX1_isNeededBySelf : mmChk mmPT mX1_isNeededBySelf = true := by decide +kernel
set_option maxRecDepth 100000 in
theorem ckX1_needArguments : mmChk mmPT mX1_needArguments = true := by decide +kernel
set_option maxRecDepth 100000 in
theorem ckX1_loseOthers : mmChk mmPT mX1_loseOthers = true := by decide +kernel
set_option maxRecDepth 100000 in
theorem ckX2_init : mmChk mmPT mX2_init = true := by decide +kernel
set_option maxRecDepth 100000 in
theorem ckX2_forget : mmChk mmPT mX2_forget = true := by decide +kernel
set_option maxRecDepth 100000 in
theorem ckX2_lead : mmChk mmPT mX2_lead = true := by decide +kernel
set_option maxRecDepth 100000 in
theorem ckX2_reckon : mmChk mmPT mX2_reckon = true := by decide +kernel
set_option maxRecDepth 100000 in
theorem ckX2_reachedWithout : mmChk mmPT mX2_reachedWithout = true := by decide +kernel
set_option maxRecDepth 100000 in
theorem ckX2_addDominator : mmChk mmPT mX2_addDominator = true := by decide +kernel
set_option maxRecDepth 100000 in
theorem ckX2_firstReady : mmChk mmPT mX2_firstReady = true := by decide +kernel
set_option maxRecDepth 100000 in
theorem ckX2_frontier : mmChk mmPT mX2_frontier = true := by decide +kernel
set_option maxRecDepth 100000 in
theorem ckX2_nearestDominator : mmChk mmPT mX2_nearestDominator = true := by decide +kernel
set_option maxRecDepth 100000 in
theorem ckX3_init : mmChk mmPT mX3_init = true := by decide +kernel
set_option maxRecDepth 100000 in
theorem ckX3_begin : mmChk mmPT mX3_begin = true := by decide +kernel
set_option maxRecDepth 100000 in
theorem ckX3_take : mmChk mmPT mX3_take = true := by decide +kernel
set_option maxRecDepth 100000 in
theorem ckX3_addValue : mmChk mmPT mX3_addValue = true := by decide +kernel
set_option maxRecDepth 100000 in
theorem ckX3_putInto : mmChk mmPT mX3_putInto = true := by decide +kernel
set_option maxRecDepth 100000 in
theorem ckX3_addArgument : mmChk mmPT mX3_addArgument = true := by decide +kernel
set_option maxRecDepth 100000 in
theorem ckX3_addEdge : mmChk mmPT mX3_addEdge = true := by decide +kernel
set_option maxRecDepth 100000 in
theorem ckX3_valueIn : mmChk mmPT mX3_valueIn = true := by decide +kernel
set_option maxRecDepth 100000 in
theorem ckX3_wayTo : mmChk mmPT mX3_wayTo = true := by decide +kernel
set_option maxRecDepth 100000 in
theorem ckX3_valueOf : mmChk mmPT mX3_valueOf = true := by decide +kernel
set_option maxRecDepth 100000 in
theorem ckX3_numberOf : mmChk mmPT mX3_numberOf = true := by decide +kernel
set_option maxRecDepth 100000 in
theorem ckX3_allIn : mmChk mmPT mX3_allIn = true := by decide +kernel
set_option maxRecDepth 100000 in
theorem ckX3_allPhis : mmChk mmPT mX3_allPhis = true := by decide +kernel
set_option maxRecDepth 100000 in
theorem ckX3_usesOf : mmChk mmPT mX3_usesOf = true := by decide +kernel
set_option maxRecDepth 100000 in
theorem ckX3_edgeOf : mmChk mmPT mX3_edgeOf = true := by decide +kernel
set_option maxRecDepth 100000 in
theorem ckX3_replace : mmChk mmPT mX3_replace = true := by decide +kernel
set_option maxRecDepth 100000 in
theorem ckX3_redirect : mmChk mmPT mX3_redirect = true := by decide +kernel
set_option maxRecDepth 100000 in
theorem ckX3_lose : mmChk mmPT mX3_lose = true := by decide +kernel
set_option maxRecDepth 100000 in
theorem ckX3_loseBlock : mmChk mmPT mX3_loseBlock = true := by decide +kernel
set_option maxRecDepth 100000 in
theorem ckX3_sweep : mmChk mmPT mX3_sweep = true := by decide +kernel
set_option maxRecDepth 100000 in
theorem ckX3_dropEdge : mmChk mmPT mX3_dropEdge = true := by decide +kernel
set_option maxRecDepth 100000 in
theorem ckX3_dropArgument : mmChk mmPT mX3_dropArgument = true := by decide +kernel
set_option maxRecDepth 100000 in
theorem ckX3_changeWay : mmChk mmPT mX3_changeWay = true := by decide +kernel
set_option maxRecDepth 100000 in
theorem ckX3_takeEnd : mmChk mmPT mX3_takeEnd = true := by decide +kernel
set_option maxRecDepth 100000 in
theorem ckX3_hasSameArguments : mmChk mmPT mX3_hasSameArguments = true := by decide +kernel
set_option maxRecDepth 100000 in
theorem ckX3_hasCrossedArguments : mmChk mmPT mX3_hasCrossedArguments = true := by decide +kernel
set_option maxRecDepth 100000 in
theorem ckX3_soleArgument : mmChk mmPT mX3_soleArgument = true := by decide +kernel
set_option maxRecDepth 100000 in
theorem ckX4_init : mmChk mmPT mX4_init = true := by decide +kernel
set_option maxRecDepth 100000 in
theorem ckX4_goOver : mmChk mmPT mX4_goOver = true := by decide +kernel
set_option maxRecDepth 100000 in
theorem ckX4_firstToJoin : mmChk mmPT mX4_firstToJoin = true := by decide +kernel
set_option maxRecDepth 100000 in
theorem ckX4_moveValues : mmChk mmPT mX4_moveValues = true := by decide +kernel
set_option maxRecDepth 100000 in
theorem ckX4_moveEnd : mmChk mmPT mX4_moveEnd = true := by decide +kernel
set_option maxRecDepth 100000 in
theorem ckX5_init : mmChk mmPT mX5_init = true := by decide +kernel
set_option maxRecDepth 100000 in
theorem ckX5_make : mmChk mmPT mX5_make = true := by decide +kernel
set_option maxRecDepth 100000 in
theorem ckX5_placePhis : mmChk mmPT mX5_placePhis = true := by decide +kernel
set_option maxRecDepth 100000 in
theorem ckX5_whereJoined : mmChk mmPT mX5_whereJoined = true := by decide +kernel
set_option maxRecDepth 100000 in
theorem ckX5_addValues : mmChk mmPT mX5_addValues = true := by decide +kernel
set_option maxRecDepth 100000 in
theorem ckX5_addEdges : mmChk mmPT mX5_addEdges = true := by decide +kernel
set_option maxRecDepth 100000 in
theorem ckX5_holdAtBeginning : mmChk mmPT mX5_holdAtBeginning = true := by decide +kernel
set_option maxRecDepth 100000 in
theorem ckX5_hold : mmChk mmPT mX5_hold = true := by decide +kernel
set_option maxRecDepth 100000 in
theorem ckX5_followLines : mmChk mmPT mX5_followLines = true := by decide +kernel
set_option maxRecDepth 100000 in
theorem ckX5_give : mmChk mmPT mX5_give = true := by decide +kernel
set_option maxRecDepth 100000 in
theorem ckX5_valueFor : mmChk mmPT mX5_valueFor = true := by decide +kernel
set_option maxRecDepth 100000 in
theorem ckX5_numberFor : mmChk mmPT mX5_numberFor = true := by decide +kernel
set_option maxRecDepth 100000 in
theorem ckX5_givePhisTheirs : mmChk mmPT mX5_givePhisTheirs = true := by decide +kernel
set_option maxRecDepth 100000 in
theorem ckX5_givePhi : mmChk mmPT mX5_givePhi = true := by decide +kernel
set_option maxRecDepth 100000 in
theorem ckX6_init : mmChk mmPT mX6_init = true := by decide +kernel
set_option maxRecDepth 100000 in
theorem ckX6_goOver : mmChk mmPT mX6_goOver = true := by decide +kernel
set_option maxRecDepth 100000 in
theorem ckX6_readEdges : mmChk mmPT mX6_readEdges = true := by decide +kernel
set_option maxRecDepth 100000 in
theorem ckX6_visit : mmChk mmPT mX6_visit = true := by decide +kernel
set_option maxRecDepth 100000 in
theorem ckX6_twinOfPhi : mmChk mmPT mX6_twinOfPhi = true := by decide +kernel
set_option maxRecDepth 100000 in
theorem ckX6_twinOfReckoning : mmChk mmPT mX6_twinOfReckoning = true := by decide +kernel
set_option maxRecDepth 100000 in
theorem ckX6_isStill : mmChk mmPT mX6_isStill = true := by decide +kernel
set_option maxRecDepth 100000 in
theorem ckX7_init : mmChk mmPT mX7_init = true := by decide +kernel
set_option maxRecDepth 100000 in
theorem ckX7_at : mmChk mmPT mX7_at = true := by decide +kernel
set_option maxRecDepth 100000 in
theorem ckX7_put : mmChk mmPT mX7_put = true := by decide +kernel
set_option maxRecDepth 100000 in
theorem ckX7_fill : mmChk mmPT mX7_fill = true := by decide +kernel
set_option maxRecDepth 100000 in
theorem ckX7_take : mmChk mmPT mX7_take = true := by decide +kernel
set_option maxRecDepth 100000 in
theorem ckX8_init : mmChk mmPT mX8_init = true := by decide +kernel
set_option maxRecDepth 100000 in
theorem ckX8_walkBlocks : mmChk mmPT mX8_walkBlocks = true := by decide +kernel
set_option maxRecDepth 100000 in
theorem ckX8_doLines : mmChk mmPT mX8_doLines = true := by decide +kernel
set_option maxRecDepth 100000 in
theorem ckX8_read : mmChk mmPT mX8_read = true := by decide +kernel
set_option maxRecDepth 100000 in
theorem ckX8_walkForm : mmChk mmPT mX8_walkForm = true := by decide +kernel
set_option maxRecDepth 100000 in
theorem ckX8_doPhis : mmChk mmPT mX8_doPhis = true := by decide +kernel
set_option maxRecDepth 100000 in
theorem ckX8_doValues : mmChk mmPT mX8_doValues = true := by decide +kernel
set_option maxRecDepth 100000 in
theorem ckX8_reckon : mmChk mmPT mX8_reckon = true := by decide +kernel
set_option maxRecDepth 100000 in
theorem ckX9_init : mmChk mmPT mX9_init = true := by decide +kernel
set_option maxRecDepth 100000 in
theorem ckX9_begin : mmChk mmPT mX9_begin = true := by decide +kernel
set_option maxRecDepth 100000 in
theorem ckX9_finish : mmChk mmPT mX9_finish = true := by decide +kernel
set_option maxRecDepth 100000 in
theorem ckX9_act : mmChk mmPT mX9_act = true := by decide +kernel
set_option maxRecDepth 100000 in
theorem ckX9_leaveBy : mmChk mmPT mX9_leaveBy = true := by decide +kernel
set_option maxRecDepth 100000 in
theorem ckX9_isLike : mmChk mmPT mX9_isLike = true := by decide +kernel
set_option maxRecDepth 100000 in
theorem ckX10_init : mmChk mmPT mX10_init = true := by decide +kernel
set_option maxRecDepth 100000 in
theorem ckX10_addBlock : mmChk mmPT mX10_addBlock = true := by decide +kernel
set_option maxRecDepth 100000 in
theorem ckX10_addLine : mmChk mmPT mX10_addLine = true := by decide +kernel
set_option maxRecDepth 100000 in
theorem ckX10_cutLine : mmChk mmPT mX10_cutLine = true := by decide +kernel
set_option maxRecDepth 100000 in
theorem ckX10_putEnd : mmChk mmPT mX10_putEnd = true := by decide +kernel
set_option maxRecDepth 100000 in
theorem ckX10_allLines : mmChk mmPT mX10_allLines = true := by decide +kernel
set_option maxRecDepth 100000 in
theorem ckX10_reckon : mmChk mmPT mX10_reckon = true := by decide +kernel
set_option maxRecDepth 100000 in
theorem ckX10_readLines : mmChk mmPT mX10_readLines = true := by decide +kernel
set_option maxRecDepth 100000 in
theorem ckX10_reckonWanted : mmChk mmPT mX10_reckonWanted = true := by decide +kernel
set_option maxRecDepth 100000 in
theorem ckX11_init : mmChk mmPT mX11_init = true := by decide +kernel
set_option maxRecDepth 100000 in
theorem ckX11_block : mmChk mmPT mX11_block = true := by decide +kernel
set_option maxRecDepth 100000 in
theorem ckX11_line : mmChk mmPT mX11_line = true := by decide +kernel
set_option maxRecDepth 100000 in
theorem ckX11_cut : mmChk mmPT mX11_cut = true := by decide +kernel
set_option maxRecDepth 100000 in
theorem ckX11_end : mmChk mmPT mX11_end = true := by decide +kernel
set_option maxRecDepth 100000 in
theorem ckX11_ofBlock : mmChk mmPT mX11_ofBlock = true := by decide +kernel
set_option maxRecDepth 100000 in
theorem ckX11_form : mmChk mmPT mX11_form = true := by decide +kernel
set_option maxRecDepth 100000 in
theorem ckX11_pass : mmChk mmPT mX11_pass = true := by decide +kernel
set_option maxRecDepth 100000 in
theorem ckX11_ofPlace : mmChk mmPT mX11_ofPlace = true := by decide +kernel
set_option maxRecDepth 100000 in
theorem ckX11_valueAt : mmChk mmPT mX11_valueAt = true := by decide +kernel
set_option maxRecDepth 100000 in
theorem ckX11_edge : mmChk mmPT mX11_edge = true := by decide +kernel
set_option maxRecDepth 100000 in
theorem ckX11_ofValue : mmChk mmPT mX11_ofValue = true := by decide +kernel
set_option maxRecDepth 100000 in
theorem ckX11_argument : mmChk mmPT mX11_argument = true := by decide +kernel
set_option maxRecDepth 100000 in
theorem ckX11_number : mmChk mmPT mX11_number = true := by decide +kernel
set_option maxRecDepth 100000 in
theorem ckX11_run : mmChk mmPT mX11_run = true := by decide +kernel
set_option maxRecDepth 100000 in
theorem ckX11_runForm : mmChk mmPT mX11_runForm = true := by decide +kernel
set_option maxRecDepth 100000 in
theorem ckX11_ofRun : mmChk mmPT mX11_ofRun = true := by decide +kernel
set_option maxRecDepth 100000 in
theorem ckX11_printed : mmChk mmPT mX11_printed = true := by decide +kernel
set_option maxRecDepth 100000 in
theorem ckX11_cell : mmChk mmPT mX11_cell = true := by decide +kernel
set_option maxRecDepth 100000 in
theorem ckX11_many : mmChk mmPT mX11_many = true := by decide +kernel
set_option maxRecDepth 100000 in
theorem ckX11_wouldGo : mmChk mmPT mX11_wouldGo = true := by decide +kernel
set_option maxRecDepth 100000 in
theorem ckX11_wouldCost : mmChk mmPT mX11_wouldCost = true := by decide +kernel
set_option maxRecDepth 100000 in
theorem ckX11_untilStill : mmChk mmPT mX11_untilStill = true := by decide +kernel
set_option maxRecDepth 100000 in
theorem ckX11_isAlike : mmChk mmPT mX11_isAlike = true := by decide +kernel
set_option maxRecDepth 100000 in
theorem ckX11_digest : mmChk mmPT mX11_digest = true := by decide +kernel
set_option maxRecDepth 100000 in
theorem ckX11_isTold : mmChk mmPT mX11_isTold = true := by decide +kernel
set_option maxRecDepth 100000 in
theorem ckX11_isTarget : mmChk mmPT mX11_isTarget = true := by decide +kernel
set_option maxRecDepth 100000 in
theorem ckX11_isOperand : mmChk mmPT mX11_isOperand = true := by decide +kernel
set_option maxRecDepth 100000 in
theorem ckX11_isLine : mmChk mmPT mX11_isLine = true := by decide +kernel
set_option maxRecDepth 100000 in
theorem ckX11_isEnd : mmChk mmPT mX11_isEnd = true := by decide +kernel
set_option maxRecDepth 100000 in
theorem ckX11_isPass : mmChk mmPT mX11_isPass = true := by decide +kernel
set_option maxRecDepth 100000 in
theorem ckX11_isValue : mmChk mmPT mX11_isValue = true := by decide +kernel
set_option maxRecDepth 100000 in
theorem ckX11_isArgument : mmChk mmPT mX11_isArgument = true := by decide +kernel
set_option maxRecDepth 100000 in
theorem ckX11_countRun : mmChk mmPT mX11_countRun = true := by decide +kernel
set_option maxRecDepth 100000 in
theorem ckX11_manyOfForm : mmChk mmPT mX11_manyOfForm = true := by decide +kernel
set_option maxRecDepth 100000 in
theorem ckX11_passBehind : mmChk mmPT mX11_passBehind = true := by decide +kernel
set_option maxRecDepth 100000 in
theorem ckX11_passOver : mmChk mmPT mX11_passOver = true := by decide +kernel
set_option maxRecDepth 100000 in
theorem ckX11_mixed : mmChk mmPT mX11_mixed = true := by decide +kernel
set_option maxRecDepth 100000 in
theorem ckX11_mixedWithBlocks : mmChk mmPT mX11_mixedWithBlocks = true := by decide +kernel
set_option maxRecDepth 100000 in
theorem ckX11_mixedWithRun : mmChk mmPT mX11_mixedWithRun = true := by decide +kernel
set_option maxRecDepth 100000 in
theorem ckX11_mixedWithPlace : mmChk mmPT mX11_mixedWithPlace = true := by decide +kernel
set_option maxRecDepth 100000 in
theorem ckX11_mixedWithValue : mmChk mmPT mX11_mixedWithValue = true := by decide +kernel
set_option maxRecDepth 100000 in
theorem ckX11_bit : mmChk mmPT mX11_bit = true := by decide +kernel
set_option maxRecDepth 100000 in
theorem ckX11_has : mmChk mmPT mX11_has = true := by decide +kernel
set_option maxRecDepth 100000 in
theorem ckX11_sets : mmChk mmPT mX11_sets = true := by decide +kernel
set_option maxRecDepth 100000 in
theorem ckX11_isReckoning : mmChk mmPT mX11_isReckoning = true := by decide +kernel
set_option maxRecDepth 100000 in
theorem ckX11_variableOf : mmChk mmPT mX11_variableOf = true := by decide +kernel
set_option maxRecDepth 100000 in
theorem ckX11_fromOf : mmChk mmPT mX11_fromOf = true := by decide +kernel
set_option maxRecDepth 100000 in
theorem ckX11_reckoned : mmChk mmPT mX11_reckoned = true := by decide +kernel
set_option maxRecDepth 100000 in
theorem ckX11_costOf : mmChk mmPT mX11_costOf = true := by decide +kernel
set_option maxRecDepth 100000 in
theorem ckX12_init : mmChk mmPT mX12_init = true := by decide +kernel
set_option maxRecDepth 100000 in
theorem ckX12_isLine : mmChk mmPT mX12_isLine = true := by decide +kernel
set_option maxRecDepth 100000 in
theorem ckX12_isEnd : mmChk mmPT mX12_isEnd = true := by decide +kernel
set_option maxRecDepth 100000 in
theorem ckX12_operand : mmChk mmPT mX12_operand = true := by decide +kernel
set_option maxRecDepth 100000 in
theorem ckX12_isDrawn : mmChk mmPT mX12_isDrawn = true := by decide +kernel
set_option maxRecDepth 100000 in
theorem ckX12_isTold : mmChk mmPT mX12_isTold = true := by decide +kernel
set_option maxRecDepth 100000 in
theorem ckJ6_bitCount_0f7a4 : mmChk mmPT mJ6_bitCount_0f7a4 = true := by decide +kernel
set_option maxRecDepth 100000 in
theorem ckJ9_floorMod_7cf53 : mmChk mmPT mJ9_floorMod_7cf53 = true := by decide +kernel
set_option maxRecDepth 100000 in
theorem ckJ9_min_7cf53 : mmChk mmPT mJ9_min_7cf53 = true := by decide +kernel
set_option maxRecDepth 100000 in
theorem ckJ7_fill_53178 : mmChk mmPT mJ7_fill_53178 = true := by decide +kernel
set_option maxRecDepth 100000 in
theorem ckL_below : mmChk mmPT mL_below = true := by decide +kernel
set_option maxRecDepth 100000 in
theorem ckL_cell : mmChk mmPT mL_cell = true := by decide +kernel
set_option maxRecDepth 100000 in
theorem ckL_isCut : mmChk mmPT mL_isCut = true := by decide +kernel
set_option maxRecDepth 100000 in
theorem ckL_isRunRight : mmChk mmPT mL_isRunRight = true := by decide +kernel
set_option maxRecDepth 100000 in
theorem ckL_areBlocksRight : mmChk mmPT mL_areBlocksRight = true := by decide +kernel
set_option maxRecDepth 100000 in
theorem ckL_reachedSet : mmChk mmPT mL_reachedSet = true := by decide +kernel
set_option maxRecDepth 100000 in
theorem ckL_isFormRight : mmChk mmPT mL_isFormRight = true := by decide +kernel
end
section
/-! all of them -/
def mmRow (M : mmM) (q : mmI) : Bool := decide (decode M.2.1 q.1 = .ok (q.2.1, q.2.2.1)) && (mmIsSw q.2.1 || q.2.2.1 == mmLen q.2.1) && mmChkI mmPT M q.1 q.2.1 q.2.2.2
theorem mmRow_all (M : mmM) (n : Nat) (h0 : plainFor M.1 = true) (h : ∀ i, i < n → (((M.2.2.2.2.2.2).drop (30 * i)).take 30).all (mmRow M) = true) (hn : (M.2.2.2.2.2.2).length ≤ 30 * n) : mmChk mmPT M = true := by
  show (plainFor M.1 && (M.2.2.2.2.2.2).all (mmRow M)) = true
  rw [h0, Bool.true_and, List.all_eq_true]
  intro q hq
  obtain ⟨j, hj⟩ := List.getElem?_of_mem hq
  have hjl := (List.getElem?_eq_some_iff.mp hj).1
  have h1 := h (j / 30) (by omega)
  rw [List.all_eq_true] at h1
  refine h1 q (List.mem_of_getElem? (i := j % 30) ?_)
  rw [List.getElem?_take, if_pos (Nat.mod_lt _ (by decide)), List.getElem?_drop, show 30 * (j / 30) + j % 30 = j by omega]
  exact hj
set_option maxRecDepth 100000 in
theorem rowL_0 : ((tbL_law.drop (30 * 0)).take 30).all (mmRow mL_law) = true := by decide +kernel
set_option maxRecDepth 100000 in
theorem rowL_1 : ((tbL_law.drop (30 * 1)).take 30).all (mmRow mL_law) = true := by decide +kernel
set_option maxRecDepth 100000 in
theorem rowL_2 : ((tbL_law.drop (30 * 2)).take 30).all (mmRow mL_law) = true := by decide +kernel
set_option maxRecDepth 100000 in
theorem rowL_3 : ((tbL_law.drop (30 * 3)).take 30).all (mmRow mL_law) = true := by decide +kernel
set_option maxRecDepth 100000 in
theorem rowL_4 : ((tbL_law.drop (30 * 4)).take 30).all (mmRow mL_law) = true := by decide +kernel
set_option maxRecDepth 100000 in
theorem rowL_5 : ((tbL_law.drop (30 * 5)).take 30).all (mmRow mL_law) = true := by decide +kernel
set_option maxRecDepth 100000 in
theorem rowL_6 : ((tbL_law.drop (30 * 6)).take 30).all (mmRow mL_law) = true := by decide +kernel
set_option maxRecDepth 100000 in
theorem rowL_7 : ((tbL_law.drop (30 * 7)).take 30).all (mmRow mL_law) = true := by decide +kernel
set_option maxRecDepth 100000 in
theorem ckL_law : mmChk mmPT mL_law = true := by
  refine mmRow_all mL_law 8 (by decide +kernel) (fun i hi => ?_) (by decide +kernel)
  match i, hi with
  | 0, _ => exact rowL_0
  | 1, _ => exact rowL_1
  | 2, _ => exact rowL_2
  | 3, _ => exact rowL_3
  | 4, _ => exact rowL_4
  | 5, _ => exact rowL_5
  | 6, _ => exact rowL_6
  | 7, _ => exact rowL_7
  | n + 8, h => exact absurd h (by omega)
theorem mmPT_0 : ∀ M ∈ ([mX0_init, mX0_goOver, mX0_begin, mX0_visit, mX0_meet, mX0_reckon, mX0_knownAt, mX0_numberAt, mX0_rise, mX0_goOn, mX0_goAlong, mX0_cutWays, mX0_loseBlocks, mX0_replaceNumbers, mX1_init, mX1_goOver] : List mmM), mmOkM mmPT M := List.forall_mem_cons.mpr ⟨mmChk_ok ckX0_init, List.forall_mem_cons.mpr ⟨mmChk_ok ckX0_goOver, List.forall_mem_cons.mpr ⟨mmChk_ok ckX0_begin, List.forall_mem_cons.mpr ⟨mmChk_ok ckX0_visit, List.forall_mem_cons.mpr ⟨mmChk_ok ckX0_meet, List.forall_mem_cons.mpr ⟨mmChk_ok ckX0_reckon, List.forall_mem_cons.mpr ⟨mmChk_ok ckX0_knownAt, List.forall_mem_cons.mpr ⟨mmChk_ok ckX0_numberAt, List.forall_mem_cons.mpr ⟨mmChk_ok ckX0_rise, List.forall_mem_cons.mpr ⟨mmChk_ok ckX0_goOn, List.forall_mem_cons.mpr ⟨mmChk_ok ckX0_goAlong, List.forall_mem_cons.mpr ⟨mmChk_ok ckX0_cutWays, List.forall_mem_cons.mpr ⟨mmChk_ok ckX0_loseBlocks, List.forall_mem_cons.mpr ⟨mmChk_ok ckX0_replaceNumbers, List.forall_mem_cons.mpr ⟨mmChk_ok ckX1_init, List.forall_mem_cons.mpr ⟨mmChk_ok ckX1_goOver, fun _ h => absurd h List.not_mem_nil⟩⟩⟩⟩⟩⟩⟩⟩⟩⟩⟩⟩⟩⟩⟩⟩
theorem mmPT_1 : ∀ M ∈ ([mX1_isNeededBySelf, mX1_needArguments, mX1_loseOthers, mX2_init, mX2_forget, mX2_lead, mX2_reckon, mX2_reachedWithout, mX2_addDominator, mX2_firstReady, mX2_frontier, mX2_nearestDominator, mX3_init, mX3_begin, mX3_take, mX3_addValue] : List mmM), mmOkM mmPT M := List.forall_mem_cons.mpr ⟨mmChk_ok ckX1_isNeededBySelf, List.forall_mem_cons.mpr ⟨mmChk_ok ckX1_needArguments, List.forall_mem_cons.mpr ⟨mmChk_ok ckX1_loseOthers, List.forall_mem_cons.mpr ⟨mmChk_ok ckX2_init, List.forall_mem_cons.mpr ⟨mmChk_ok ckX2_forget, List.forall_mem_cons.mpr ⟨mmChk_ok ckX2_lead, List.forall_mem_cons.mpr ⟨mmChk_ok ckX2_reckon, List.forall_mem_cons.mpr ⟨mmChk_ok ckX2_reachedWithout, List.forall_mem_cons.mpr ⟨mmChk_ok ckX2_addDominator, List.forall_mem_cons.mpr ⟨mmChk_ok ckX2_firstReady, List.forall_mem_cons.mpr ⟨mmChk_ok ckX2_frontier, List.forall_mem_cons.mpr ⟨mmChk_ok ckX2_nearestDominator, List.forall_mem_cons.mpr ⟨mmChk_ok ckX3_init, List.forall_mem_cons.mpr ⟨mmChk_ok ckX3_begin, List.forall_mem_cons.mpr ⟨mmChk_ok ckX3_take, List.forall_mem_cons.mpr ⟨mmChk_ok ckX3_addValue, fun _ h => absurd h List.not_mem_nil⟩⟩⟩⟩⟩⟩⟩⟩⟩⟩⟩⟩⟩⟩⟩⟩
theorem mmPT_2 : ∀ M ∈ ([mX3_putInto, mX3_addArgument, mX3_addEdge, mX3_valueIn, mX3_wayTo, mX3_valueOf, mX3_numberOf, mX3_allIn, mX3_allPhis, mX3_usesOf, mX3_edgeOf, mX3_replace, mX3_redirect, mX3_lose, mX3_loseBlock, mX3_sweep] : List mmM), mmOkM mmPT M := List.forall_mem_cons.mpr ⟨mmChk_ok ckX3_putInto, List.forall_mem_cons.mpr ⟨mmChk_ok ckX3_addArgument, List.forall_mem_cons.mpr ⟨mmChk_ok ckX3_addEdge, List.forall_mem_cons.mpr ⟨mmChk_ok ckX3_valueIn, List.forall_mem_cons.mpr ⟨mmChk_ok ckX3_wayTo, List.forall_mem_cons.mpr ⟨mmChk_ok ckX3_valueOf, List.forall_mem_cons.mpr ⟨mmChk_ok ckX3_numberOf, List.forall_mem_cons.mpr ⟨mmChk_ok ckX3_allIn, List.forall_mem_cons.mpr ⟨mmChk_ok ckX3_allPhis, List.forall_mem_cons.mpr ⟨mmChk_ok ckX3_usesOf, List.forall_mem_cons.mpr ⟨mmChk_ok ckX3_edgeOf, List.forall_mem_cons.mpr ⟨mmChk_ok ckX3_replace, List.forall_mem_cons.mpr ⟨mmChk_ok ckX3_redirect, List.forall_mem_cons.mpr ⟨mmChk_ok ckX3_lose, List.forall_mem_cons.mpr ⟨mmChk_ok ckX3_loseBlock, List.forall_mem_cons.mpr ⟨mmChk_ok ckX3_sweep, fun _ h => absurd h List.not_mem_nil⟩⟩⟩⟩⟩⟩⟩⟩⟩⟩⟩⟩⟩⟩⟩⟩
theorem mmPT_3 : ∀ M ∈ ([mX3_dropEdge, mX3_dropArgument, mX3_changeWay, mX3_takeEnd, mX3_hasSameArguments, mX3_hasCrossedArguments, mX3_soleArgument, mX4_init, mX4_goOver, mX4_firstToJoin, mX4_moveValues, mX4_moveEnd, mX5_init, mX5_make, mX5_placePhis, mX5_whereJoined] : List mmM), mmOkM mmPT M := List.forall_mem_cons.mpr ⟨mmChk_ok ckX3_dropEdge, List.forall_mem_cons.mpr ⟨mmChk_ok ckX3_dropArgument, List.forall_mem_cons.mpr ⟨mmChk_ok ckX3_changeWay, List.forall_mem_cons.mpr ⟨mmChk_ok ckX3_takeEnd, List.forall_mem_cons.mpr ⟨mmChk_ok ckX3_hasSameArguments, List.forall_mem_cons.mpr ⟨mmChk_ok ckX3_hasCrossedArguments, List.forall_mem_cons.mpr ⟨mmChk_ok ckX3_soleArgument, List.forall_mem_cons.mpr ⟨mmChk_ok ckX4_init, List.forall_mem_cons.mpr ⟨mmChk_ok ckX4_goOver, List.forall_mem_cons.mpr ⟨mmChk_ok ckX4_firstToJoin, List.forall_mem_cons.mpr ⟨mmChk_ok ckX4_moveValues, List.forall_mem_cons.mpr ⟨mmChk_ok ckX4_moveEnd, List.forall_mem_cons.mpr ⟨mmChk_ok ckX5_init, List.forall_mem_cons.mpr ⟨mmChk_ok ckX5_make, List.forall_mem_cons.mpr ⟨mmChk_ok ckX5_placePhis, List.forall_mem_cons.mpr ⟨mmChk_ok ckX5_whereJoined, fun _ h => absurd h List.not_mem_nil⟩⟩⟩⟩⟩⟩⟩⟩⟩⟩⟩⟩⟩⟩⟩⟩
theorem mmPT_4 : ∀ M ∈ ([mX5_addValues, mX5_addEdges, mX5_holdAtBeginning, mX5_hold, mX5_followLines, mX5_give, mX5_valueFor, mX5_numberFor, mX5_givePhisTheirs, mX5_givePhi, mX6_init, mX6_goOver, mX6_readEdges, mX6_visit, mX6_twinOfPhi, mX6_twinOfReckoning] : List mmM), mmOkM mmPT M := List.forall_mem_cons.mpr ⟨mmChk_ok ckX5_addValues, List.forall_mem_cons.mpr ⟨mmChk_ok ckX5_addEdges, List.forall_mem_cons.mpr ⟨mmChk_ok ckX5_holdAtBeginning, List.forall_mem_cons.mpr ⟨mmChk_ok ckX5_hold, List.forall_mem_cons.mpr ⟨mmChk_ok ckX5_followLines, List.forall_mem_cons.mpr ⟨mmChk_ok ckX5_give, List.forall_mem_cons.mpr ⟨mmChk_ok ckX5_valueFor, List.forall_mem_cons.mpr ⟨mmChk_ok ckX5_numberFor, List.forall_mem_cons.mpr ⟨mmChk_ok ckX5_givePhisTheirs, List.forall_mem_cons.mpr ⟨mmChk_ok ckX5_givePhi, List.forall_mem_cons.mpr ⟨mmChk_ok ckX6_init, List.forall_mem_cons.mpr ⟨mmChk_ok ckX6_goOver, List.forall_mem_cons.mpr ⟨mmChk_ok ckX6_readEdges, List.forall_mem_cons.mpr ⟨mmChk_ok ckX6_visit, List.forall_mem_cons.mpr ⟨mmChk_ok ckX6_twinOfPhi, List.forall_mem_cons.mpr ⟨mmChk_ok ckX6_twinOfReckoning, fun _ h => absurd h List.not_mem_nil⟩⟩⟩⟩⟩⟩⟩⟩⟩⟩⟩⟩⟩⟩⟩⟩
theorem mmPT_5 : ∀ M ∈ ([mX6_isStill, mX7_init, mX7_at, mX7_put, mX7_fill, mX7_take, mX8_init, mX8_walkBlocks, mX8_doLines, mX8_read, mX8_walkForm, mX8_doPhis, mX8_doValues, mX8_reckon, mX9_init, mX9_begin] : List mmM), mmOkM mmPT M := List.forall_mem_cons.mpr ⟨mmChk_ok ckX6_isStill, List.forall_mem_cons.mpr ⟨mmChk_ok ckX7_init, List.forall_mem_cons.mpr ⟨mmChk_ok ckX7_at, List.forall_mem_cons.mpr ⟨mmChk_ok ckX7_put, List.forall_mem_cons.mpr ⟨mmChk_ok ckX7_fill, List.forall_mem_cons.mpr ⟨mmChk_ok ckX7_take, List.forall_mem_cons.mpr ⟨mmChk_ok ckX8_init, List.forall_mem_cons.mpr ⟨mmChk_ok ckX8_walkBlocks, List.forall_mem_cons.mpr ⟨mmChk_ok ckX8_doLines, List.forall_mem_cons.mpr ⟨mmChk_ok ckX8_read, List.forall_mem_cons.mpr ⟨mmChk_ok ckX8_walkForm, List.forall_mem_cons.mpr ⟨mmChk_ok ckX8_doPhis, List.forall_mem_cons.mpr ⟨mmChk_ok ckX8_doValues, List.forall_mem_cons.mpr ⟨mmChk_ok ckX8_reckon, List.forall_mem_cons.mpr ⟨mmChk_ok ckX9_init, List.forall_mem_cons.mpr ⟨mmChk_ok ckX9_begin, fun _ h => absurd h List.not_mem_nil⟩⟩⟩⟩⟩⟩⟩⟩⟩⟩⟩⟩⟩⟩⟩⟩
theorem mmPT_6 : ∀ M ∈ ([mX9_finish, mX9_act, mX9_leaveBy, mX9_isLike, mX10_init, mX10_addBlock, mX10_addLine, mX10_cutLine, mX10_putEnd, mX10_allLines, mX10_reckon, mX10_readLines, mX10_reckonWanted, mX11_init, mX11_block, mX11_line] : List mmM), mmOkM mmPT M := List.forall_mem_cons.mpr ⟨mmChk_ok ckX9_finish, List.forall_mem_cons.mpr ⟨mmChk_ok ckX9_act, List.forall_mem_cons.mpr ⟨mmChk_ok ckX9_leaveBy, List.forall_mem_cons.mpr ⟨mmChk_ok ckX9_isLike, List.forall_mem_cons.mpr ⟨mmChk_ok ckX10_init, List.forall_mem_cons.mpr ⟨mmChk_ok ckX10_addBlock, List.forall_mem_cons.mpr ⟨mmChk_ok ckX10_addLine, List.forall_mem_cons.mpr ⟨mmChk_ok ckX10_cutLine, List.forall_mem_cons.mpr ⟨mmChk_ok ckX10_putEnd, List.forall_mem_cons.mpr ⟨mmChk_ok ckX10_allLines, List.forall_mem_cons.mpr ⟨mmChk_ok ckX10_reckon, List.forall_mem_cons.mpr ⟨mmChk_ok ckX10_readLines, List.forall_mem_cons.mpr ⟨mmChk_ok ckX10_reckonWanted, List.forall_mem_cons.mpr ⟨mmChk_ok ckX11_init, List.forall_mem_cons.mpr ⟨mmChk_ok ckX11_block, List.forall_mem_cons.mpr ⟨mmChk_ok ckX11_line, fun _ h => absurd h List.not_mem_nil⟩⟩⟩⟩⟩⟩⟩⟩⟩⟩⟩⟩⟩⟩⟩⟩
theorem mmPT_7 : ∀ M ∈ ([mX11_cut, mX11_end, mX11_ofBlock, mX11_form, mX11_pass, mX11_ofPlace, mX11_valueAt, mX11_edge, mX11_ofValue, mX11_argument, mX11_number, mX11_run, mX11_runForm, mX11_ofRun, mX11_printed, mX11_cell] : List mmM), mmOkM mmPT M := List.forall_mem_cons.mpr ⟨mmChk_ok ckX11_cut, List.forall_mem_cons.mpr ⟨mmChk_ok ckX11_end, List.forall_mem_cons.mpr ⟨mmChk_ok ckX11_ofBlock, List.forall_mem_cons.mpr ⟨mmChk_ok ckX11_form, List.forall_mem_cons.mpr ⟨mmChk_ok ckX11_pass, List.forall_mem_cons.mpr ⟨mmChk_ok ckX11_ofPlace, List.forall_mem_cons.mpr ⟨mmChk_ok ckX11_valueAt, List.forall_mem_cons.mpr ⟨mmChk_ok ckX11_edge, List.forall_mem_cons.mpr ⟨mmChk_ok ckX11_ofValue, List.forall_mem_cons.mpr ⟨mmChk_ok ckX11_argument, List.forall_mem_cons.mpr ⟨mmChk_ok ckX11_number, List.forall_mem_cons.mpr ⟨mmChk_ok ckX11_run, List.forall_mem_cons.mpr ⟨mmChk_ok ckX11_runForm, List.forall_mem_cons.mpr ⟨mmChk_ok ckX11_ofRun, List.forall_mem_cons.mpr ⟨mmChk_ok ckX11_printed, List.forall_mem_cons.mpr ⟨mmChk_ok ckX11_cell, fun _ h => absurd h List.not_mem_nil⟩⟩⟩⟩⟩⟩⟩⟩⟩⟩⟩⟩⟩⟩⟩⟩
theorem mmPT_8 : ∀ M ∈ ([mX11_many, mX11_wouldGo, mX11_wouldCost, mX11_untilStill, mX11_isAlike, mX11_digest, mX11_isTold, mX11_isTarget, mX11_isOperand, mX11_isLine, mX11_isEnd, mX11_isPass, mX11_isValue, mX11_isArgument, mX11_countRun, mX11_manyOfForm] : List mmM), mmOkM mmPT M := List.forall_mem_cons.mpr ⟨mmChk_ok ckX11_many, List.forall_mem_cons.mpr ⟨mmChk_ok ckX11_wouldGo, List.forall_mem_cons.mpr ⟨mmChk_ok ckX11_wouldCost, List.forall_mem_cons.mpr ⟨mmChk_ok ckX11_untilStill, List.forall_mem_cons.mpr ⟨mmChk_ok ckX11_isAlike, List.forall_mem_cons.mpr ⟨mmChk_ok ckX11_digest, List.forall_mem_cons.mpr ⟨mmChk_ok ckX11_isTold, List.forall_mem_cons.mpr ⟨mmChk_ok ckX11_isTarget, List.forall_mem_cons.mpr ⟨mmChk_ok ckX11_isOperand, List.forall_mem_cons.mpr ⟨mmChk_ok ckX11_isLine, List.forall_mem_cons.mpr ⟨mmChk_ok ckX11_isEnd, List.forall_mem_cons.mpr ⟨mmChk_ok ckX11_isPass, List.forall_mem_cons.mpr ⟨mmChk_ok ckX11_isValue, List.forall_mem_cons.mpr ⟨mmChk_ok ckX11_isArgument, List.forall_mem_cons.mpr ⟨mmChk_ok ckX11_countRun, List.forall_mem_cons.mpr ⟨mmChk_ok ckX11_manyOfForm, fun _ h => absurd h List.not_mem_nil⟩⟩⟩⟩⟩⟩⟩⟩⟩⟩⟩⟩⟩⟩⟩⟩
theorem mmPT_9 : ∀ M ∈ ([mX11_passBehind, mX11_passOver, mX11_mixed, mX11_mixedWithBlocks, mX11_mixedWithRun, mX11_mixedWithPlace, mX11_mixedWithValue, mX11_bit, mX11_has, mX11_sets, mX11_isReckoning, mX11_variableOf, mX11_fromOf, mX11_reckoned, mX11_costOf, mX12_init] : List mmM), mmOkM mmPT M := List.forall_mem_cons.mpr ⟨mmChk_ok ckX11_passBehind, List.forall_mem_cons.mpr ⟨mmChk_ok ckX11_passOver, List.forall_mem_cons.mpr ⟨mmChk_ok ckX11_mixed, List.forall_mem_cons.mpr ⟨mmChk_ok ckX11_mixedWithBlocks, List.forall_mem_cons.mpr ⟨mmChk_ok ckX11_mixedWithRun, List.forall_mem_cons.mpr ⟨mmChk_ok ckX11_mixedWithPlace, List.forall_mem_cons.mpr ⟨mmChk_ok ckX11_mixedWithValue, List.forall_mem_cons.mpr ⟨mmChk_ok ckX11_bit, List.forall_mem_cons.mpr ⟨mmChk_ok ckX11_has, List.forall_mem_cons.mpr ⟨mmChk_ok ckX11_sets, List.forall_mem_cons.mpr ⟨mmChk_ok ckX11_isReckoning, List.forall_mem_cons.mpr ⟨mmChk_ok ckX11_variableOf, List.forall_mem_cons.mpr ⟨mmChk_ok ckX11_fromOf, List.forall_mem_cons.mpr ⟨mmChk_ok ckX11_reckoned, List.forall_mem_cons.mpr ⟨mmChk_ok ckX11_costOf, List.forall_mem_cons.mpr ⟨mmChk_ok ckX12_init, fun _ h => absurd h List.not_mem_nil⟩⟩⟩⟩⟩⟩⟩⟩⟩⟩⟩⟩⟩⟩⟩⟩
theorem mmPT_10 : ∀ M ∈ ([mX12_isLine, mX12_isEnd, mX12_operand, mX12_isDrawn, mX12_isTold, mJ6_bitCount_0f7a4, mJ9_floorMod_7cf53, mJ9_min_7cf53, mJ7_fill_53178, mL_below, mL_cell, mL_law, mL_isCut, mL_isRunRight, mL_areBlocksRight, mL_reachedSet] : List mmM), mmOkM mmPT M := List.forall_mem_cons.mpr ⟨mmChk_ok ckX12_isLine, List.forall_mem_cons.mpr ⟨mmChk_ok ckX12_isEnd, List.forall_mem_cons.mpr ⟨mmChk_ok ckX12_operand, List.forall_mem_cons.mpr ⟨mmChk_ok ckX12_isDrawn, List.forall_mem_cons.mpr ⟨mmChk_ok ckX12_isTold, List.forall_mem_cons.mpr ⟨mmChk_ok ckJ6_bitCount_0f7a4, List.forall_mem_cons.mpr ⟨mmChk_ok ckJ9_floorMod_7cf53, List.forall_mem_cons.mpr ⟨mmChk_ok ckJ9_min_7cf53, List.forall_mem_cons.mpr ⟨mmChk_ok ckJ7_fill_53178, List.forall_mem_cons.mpr ⟨mmChk_ok ckL_below, List.forall_mem_cons.mpr ⟨mmChk_ok ckL_cell, List.forall_mem_cons.mpr ⟨mmChk_ok ckL_law, List.forall_mem_cons.mpr ⟨mmChk_ok ckL_isCut, List.forall_mem_cons.mpr ⟨mmChk_ok ckL_isRunRight, List.forall_mem_cons.mpr ⟨mmChk_ok ckL_areBlocksRight, List.forall_mem_cons.mpr ⟨mmChk_ok ckL_reachedSet, fun _ h => absurd h List.not_mem_nil⟩⟩⟩⟩⟩⟩⟩⟩⟩⟩⟩⟩⟩⟩⟩⟩
theorem mmPT_11 : ∀ M ∈ ([mL_isFormRight] : List mmM), mmOkM mmPT M := List.forall_mem_cons.mpr ⟨mmChk_ok ckL_isFormRight, fun _ h => absurd h List.not_mem_nil⟩
set_option maxRecDepth 1000000 in
theorem mmPT_eq : mmPT = [mX0_init, mX0_goOver, mX0_begin, mX0_visit, mX0_meet, mX0_reckon, mX0_knownAt, mX0_numberAt, mX0_rise, mX0_goOn, mX0_goAlong, mX0_cutWays, mX0_loseBlocks, mX0_replaceNumbers, mX1_init, mX1_goOver] ++ ([mX1_isNeededBySelf, mX1_needArguments, mX1_loseOthers, mX2_init, mX2_forget, mX2_lead, mX2_reckon, mX2_reachedWithout, mX2_addDominator, mX2_firstReady, mX2_frontier, mX2_nearestDominator, mX3_init, mX3_begin, mX3_take, mX3_addValue] ++ ([mX3_putInto, mX3_addArgument, mX3_addEdge, mX3_valueIn, mX3_wayTo, mX3_valueOf, mX3_numberOf, mX3_allIn, mX3_allPhis, mX3_usesOf, mX3_edgeOf, mX3_replace, mX3_redirect, mX3_lose, mX3_loseBlock, mX3_sweep] ++ ([mX3_dropEdge, mX3_dropArgument, mX3_changeWay, mX3_takeEnd, mX3_hasSameArguments, mX3_hasCrossedArguments, mX3_soleArgument, mX4_init, mX4_goOver, mX4_firstToJoin, mX4_moveValues, mX4_moveEnd, mX5_init, mX5_make, mX5_placePhis, mX5_whereJoined] ++ ([mX5_addValues, mX5_addEdges, mX5_holdAtBeginning, mX5_hold, mX5_followLines, mX5_give, mX5_valueFor, mX5_numberFor, mX5_givePhisTheirs, mX5_givePhi, mX6_init, mX6_goOver, mX6_readEdges, mX6_visit, mX6_twinOfPhi, mX6_twinOfReckoning] ++ ([mX6_isStill, mX7_init, mX7_at, mX7_put, mX7_fill, mX7_take, mX8_init, mX8_walkBlocks, mX8_doLines, mX8_read, mX8_walkForm, mX8_doPhis, mX8_doValues, mX8_reckon, mX9_init, mX9_begin] ++ ([mX9_finish, mX9_act, mX9_leaveBy, mX9_isLike, mX10_init, mX10_addBlock, mX10_addLine, mX10_cutLine, mX10_putEnd, mX10_allLines, mX10_reckon, mX10_readLines, mX10_reckonWanted, mX11_init, mX11_block, mX11_line] ++ ([mX11_cut, mX11_end, mX11_ofBlock, mX11_form, mX11_pass, mX11_ofPlace, mX11_valueAt, mX11_edge, mX11_ofValue, mX11_argument, mX11_number, mX11_run, mX11_runForm, mX11_ofRun, mX11_printed, mX11_cell] ++ ([mX11_many, mX11_wouldGo, mX11_wouldCost, mX11_untilStill, mX11_isAlike, mX11_digest, mX11_isTold, mX11_isTarget, mX11_isOperand, mX11_isLine, mX11_isEnd, mX11_isPass, mX11_isValue, mX11_isArgument, mX11_countRun, mX11_manyOfForm] ++ ([mX11_passBehind, mX11_passOver, mX11_mixed, mX11_mixedWithBlocks, mX11_mixedWithRun, mX11_mixedWithPlace, mX11_mixedWithValue, mX11_bit, mX11_has, mX11_sets, mX11_isReckoning, mX11_variableOf, mX11_fromOf, mX11_reckoned, mX11_costOf, mX12_init] ++ ([mX12_isLine, mX12_isEnd, mX12_operand, mX12_isDrawn, mX12_isTold, mJ6_bitCount_0f7a4, mJ9_floorMod_7cf53, mJ9_min_7cf53, mJ7_fill_53178, mL_below, mL_cell, mL_law, mL_isCut, mL_isRunRight, mL_areBlocksRight, mL_reachedSet] ++ ([mL_isFormRight]))))))))))) := rfl
theorem mmPT_ok : mmOkT mmPT := fun y M h => by
  have hm := List.mem_of_getElem? h
  rw [mmPT_eq] at hm
  exact (List.forall_mem_append.mpr ⟨mmPT_0, List.forall_mem_append.mpr ⟨mmPT_1, List.forall_mem_append.mpr ⟨mmPT_2, List.forall_mem_append.mpr ⟨mmPT_3, List.forall_mem_append.mpr ⟨mmPT_4, List.forall_mem_append.mpr ⟨mmPT_5, List.forall_mem_append.mpr ⟨mmPT_6, List.forall_mem_append.mpr ⟨mmPT_7, List.forall_mem_append.mpr ⟨mmPT_8, List.forall_mem_append.mpr ⟨mmPT_9, List.forall_mem_append.mpr ⟨mmPT_10, mmPT_11⟩⟩⟩⟩⟩⟩⟩⟩⟩⟩⟩) M hm
end
section
/-! RUNS: enough steps, and rules for them -/
def mxB (PT : List mmM) (F : List mmI → Nat → List (Option Value) → List Value → List mmC → Option (Option Value × List mmC)) (t : List mmI) (pc : Nat) (lv : List (Option Value)) (st : List Value) (h : List mmC) : Option (Option Value × List mmC) :=
    match mmFetch t pc with
    | none => none
    | some (ins, _, ax) =>
      match ins with
      | .ifCond cd _ => match st, ax with
        | .int x :: r, tg :: _ => if mmIf cd x = true then F t tg lv r h else F t (pc + 3) lv r h
        | _, _ => none
      | .if_icmp cd _ => match st, ax with
        | .int y :: .int x :: r, tg :: _ => if mmIc cd x y = true then F t tg lv r h else F t (pc + 3) lv r h
        | _, _ => none
      | .goto _ => match ax with
        | tg :: _ => F t tg lv st h
        | _ => none
      | .tableswitch _ lo hi _ => match st, ax with
        | .int x :: r, df :: tgs => if x.toInt < lo ∨ hi < x.toInt then F t df lv r h else match tgs[(x.toInt - lo).toNat]? with
          | some tg => F t tg lv r h
          | none => none
        | _, _ => none
      | .ireturn => match st, ax with
        | [.int x], [] => some (some (.int x), h)
        | [.int x], [_] => if x = 0 ∨ x = 1 then some (some (.int x), h) else none
        | _, _ => none
      | .lreturn => match st with
        | [.long x] => some (some (.long x), h)
        | _ => none
      | .return_ => match st with
        | [] => some (none, h)
        | _ => none
      | .invokevirtual _ => match mmCall PT ax st h with
        | none => none
        | some (M, as, r) => match F M.2.2.2.2.2.2 0 (mmEntry M.2.2.1 as) [] h with
          | none => none
          | some (v, h') => F t (pc + 3) lv (v.toList ++ r) h'
      | .invokestatic _ => match ax with
        | [8, _, _] => match mmCopy st h with
          | some (r, h') => F t (pc + 3) lv r h'
          | none => none
        | _ => match mmCall PT ax st h with
          | none => none
          | some (M, as, r) => match F M.2.2.2.2.2.2 0 (mmEntry M.2.2.1 as) [] h with
            | none => none
            | some (v, h') => F t (pc + 3) lv (v.toList ++ r) h'
      | .invokespecial _ => match ax with
        | [9, _, _] => match st with
          | .ref _ :: r => if mmWords r ≤ 8 then F t (pc + 3) lv r h else none
          | _ => none
        | _ => match mmCall PT ax st h with
          | none => none
          | some (M, as, r) => match F M.2.2.2.2.2.2 0 (mmEntry M.2.2.1 as) [] h with
            | none => none
            | some (v, h') => F t (pc + 3) lv (v.toList ++ r) h'
      | _ => match mmS ins ax pc lv st h with
        | some (pc', lv', st', h') => F t pc' lv' st' h'
        | none => none
theorem mx_eq (PT : List mmM) (n : Nat) (t : List mmI) (pc : Nat) (lv : List (Option Value)) (st : List Value) (h : List mmC) : mx PT (n + 1) t pc lv st h = mxB PT (mx PT n) t pc lv st h := rfl
theorem mxB_call {F G : List mmI → Nat → List (Option Value) → List Value → List mmC → Option (Option Value × List mmC)} (hF : ∀ t pc lv st h x, F t pc lv st h = some x → G t pc lv st h = some x) {t t' : List mmI} {pc : Nat} {lv lv' : List (Option Value)} {r : List Value} {h : List mmC} {x : Option Value × List mmC}
    (hx : (match F t' 0 lv' [] h with
          | none => none
          | some (v, h') => F t pc lv (v.toList ++ r) h') = some x) : (match G t' 0 lv' [] h with
          | none => none
          | some (v, h') => G t pc lv (v.toList ++ r) h') = some x := by
  split at hx
  · cases hx
  · rename_i h1
    rw [hF _ _ _ _ _ _ h1]
    exact hF _ _ _ _ _ _ hx
theorem mxB_mono {PT : List mmM} {F G : List mmI → Nat → List (Option Value) → List Value → List mmC → Option (Option Value × List mmC)} (hF : ∀ t pc lv st h x, F t pc lv st h = some x → G t pc lv st h = some x) {t : List mmI} {pc : Nat} {lv : List (Option Value)} {st : List Value} {h : List mmC} {x : Option Value × List mmC} (hx : mxB PT F t pc lv st h = some x) : mxB PT G t pc lv st h = some x := by
  unfold mxB at hx ⊢
  split at hx
  · cases hx
  rename_i ins len ax hf
  (try rw [hf])
  (try dsimp only at hx ⊢)
  split at hx
  · (try dsimp only)
    split at hx
    · split at hx
      · rename_i hc
        (try rw [if_pos hc]); exact hF _ _ _ _ _ _ hx
      · rename_i hc
        (try rw [if_neg hc]); exact hF _ _ _ _ _ _ hx
    · cases hx
  · (try dsimp only)
    split at hx
    · split at hx
      · rename_i hc
        (try rw [if_pos hc]); exact hF _ _ _ _ _ _ hx
      · rename_i hc
        (try rw [if_neg hc]); exact hF _ _ _ _ _ _ hx
    · cases hx
  · (try dsimp only)
    split at hx
    · exact hF _ _ _ _ _ _ hx
    · cases hx
  · (try dsimp only)
    split at hx
    · split at hx
      · rename_i hc
        (try rw [if_pos hc]); exact hF _ _ _ _ _ _ hx
      · rename_i hc
        (try rw [if_neg hc])
        split at hx
        · rename_i htg
          (try rw [htg]); exact hF _ _ _ _ _ _ hx
        · cases hx
    · cases hx
  · exact hx
  · exact hx
  · exact hx
  · (try dsimp only)
    split at hx
    · cases hx
    · rename_i hc
      (try rw [hc])
      exact mxB_call hF hx
  · (try dsimp only)
    split at hx
    · split at hx
      · rename_i hc
        (try rw [hc]); exact hF _ _ _ _ _ _ hx
      · cases hx
    · split at hx
      · cases hx
      · rename_i hc
        (try rw [hc])
        exact mxB_call hF hx
  · (try dsimp only)
    split at hx
    · split at hx
      · split at hx
        · rename_i hc
          (try rw [if_pos hc]); exact hF _ _ _ _ _ _ hx
        · cases hx
      · cases hx
    · split at hx
      · cases hx
      · rename_i hc
        (try rw [hc])
        exact mxB_call hF hx
  · split at hx
    · rename_i hs
      (try rw [hs]); exact hF _ _ _ _ _ _ hx
    · cases hx
theorem mx_succ (PT : List mmM) : ∀ (n : Nat) (t : List mmI) (pc : Nat) (lv : List (Option Value)) (st : List Value) (h : List mmC) (x : Option Value × List mmC), mx PT n t pc lv st h = some x → mx PT (n + 1) t pc lv st h = some x := by
  intro n
  induction n with
  | zero => intro t pc lv st h x hx; cases hx
  | succ n ih =>
    intro t pc lv st h x hx
    rw [mx_eq] at hx ⊢
    exact mxB_mono ih hx
theorem mx_more {PT : List mmM} {n m : Nat} (hnm : n ≤ m) {t : List mmI} {pc : Nat} {lv : List (Option Value)} {st : List Value} {h : List mmC} {x : Option Value × List mmC} (hx : mx PT n t pc lv st h = some x) : mx PT m t pc lv st h = some x := by
  obtain ⟨k, rfl⟩ := Nat.exists_eq_add_of_le hnm
  induction k with
  | zero => exact hx
  | succ k ih => exact mx_succ PT _ _ _ _ _ _ _ (ih (Nat.le_add_right _ _))
def Ev (PT : List mmM) (t : List mmI) (pc : Nat) (lv : List (Option Value)) (st : List Value) (h : List mmC) (x : Option Value × List mmC) : Prop := ∃ n, mx PT n t pc lv st h = some x
section EV
variable {PT : List mmM} {t : List mmI} {pc len : Nat} {lv : List (Option Value)} {st : List Value} {h : List mmC} {x : Option Value × List mmC} {ax : List Nat}
/-- a simple instruction -/
theorem Ev.s {ins : Instr} {pc' : Nat} {lv' : List (Option Value)} {st' : List Value} {h' : List mmC} (hf : mmFetch t pc = some (ins, len, ax)) (hs : mmS ins ax pc lv st h = some (pc', lv', st', h')) (k : Ev PT t pc' lv' st' h' x) : Ev PT t pc lv st h x := by
  obtain ⟨n, hn⟩ := k
  refine ⟨n + 1, ?_⟩
  rw [mx_eq]
  unfold mxB
  rw [hf]
  cases ins <;> first | (unfold mmS at hs; cases hs; done) | (dsimp only; rw [hs]; exact hn)
theorem Ev.call {ins : Instr} {i : Nat} {M : mmM} {as r : List Value} {v : Option Value} {h' : List mmC} (hi : ins = .invokevirtual i ∨ ins = .invokestatic i ∧ ax.length ≠ 3 ∨ ins = .invokespecial i ∧ ax.length ≠ 3) (hf : mmFetch t pc = some (ins, len, ax)) (hc : mmCall PT ax st h = some (M, as, r)) (hm : Ev PT M.2.2.2.2.2.2 0 (mmEntry M.2.2.1 as) [] h (v, h')) (k : Ev PT t (pc + 3) lv (v.toList ++ r) h' x) : Ev PT t pc lv st h x := by
  obtain ⟨n, hn⟩ := hm
  obtain ⟨n2, hn2⟩ := k
  refine ⟨max n n2 + 1, ?_⟩
  rw [mx_eq]
  unfold mxB
  rw [hf]
  have g1 := mx_more (Nat.le_max_left n n2) hn
  have g2 := mx_more (Nat.le_max_right n n2) hn2
  rcases hi with rfl | ⟨rfl, hl⟩ | ⟨rfl, hl⟩
  · dsimp only
    rw [hc]
    dsimp only
    rw [g1]
    exact g2
  · dsimp only
    split
    · exact absurd rfl hl
    · rw [hc]
      dsimp only
      rw [g1]
      exact g2
  · dsimp only
    split
    · exact absurd rfl hl
    · rw [hc]
      dsimp only
      rw [g1]
      exact g2
theorem Ev.copy {i a b : Nat} {r : List Value} {h' : List mmC} (hf : mmFetch t pc = some (.invokestatic i, len, [8, a, b])) (hc : mmCopy st h = some (r, h')) (k : Ev PT t (pc + 3) lv r h' x) : Ev PT t pc lv st h x := by
  obtain ⟨n, hn⟩ := k
  refine ⟨n + 1, ?_⟩
  rw [mx_eq]
  unfold mxB
  rw [hf]
  dsimp only
  rw [hc]
  exact hn
theorem Ev.obj {i a b q : Nat} {r : List Value} (hf : mmFetch t pc = some (.invokespecial i, len, [9, a, b])) (hs : st = .ref q :: r) (hw : mmWords r ≤ 8) (k : Ev PT t (pc + 3) lv r h x) : Ev PT t pc lv st h x := by
  obtain ⟨n, hn⟩ := k
  refine ⟨n + 1, ?_⟩
  rw [mx_eq]
  unfold mxB
  rw [hf]
  subst hs
  dsimp only
  rw [if_pos hw]
  exact hn
theorem Ev.if1 {cd : ClassFile.Cond} {off : Int} {tg : Nat} {ax' : List Nat} {y : Int32} {r : List Value} (hf : mmFetch t pc = some (.ifCond cd off, len, tg :: ax')) (hs : st = .int y :: r) (kt : mmIf cd y = true → Ev PT t tg lv r h x) (kf : mmIf cd y = false → Ev PT t (pc + 3) lv r h x) : Ev PT t pc lv st h x := by
  subst hs
  cases hb : mmIf cd y with
  | true =>
    obtain ⟨n, hn⟩ := kt hb
    refine ⟨n + 1, ?_⟩
    rw [mx_eq]
    unfold mxB
    rw [hf]
    dsimp only
    rw [if_pos hb]
    exact hn
  | false =>
    obtain ⟨n, hn⟩ := kf hb
    refine ⟨n + 1, ?_⟩
    rw [mx_eq]
    unfold mxB
    rw [hf]
    dsimp only
    rw [if_neg (by rw [hb]; decide)]
    exact hn
theorem Ev.if2 {cd : ClassFile.Cond} {off : Int} {tg : Nat} {ax' : List Nat} {y z : Int32} {r : List Value} (hf : mmFetch t pc = some (.if_icmp cd off, len, tg :: ax')) (hs : st = .int z :: .int y :: r) (kt : mmIc cd y z = true → Ev PT t tg lv r h x) (kf : mmIc cd y z = false → Ev PT t (pc + 3) lv r h x) : Ev PT t pc lv st h x := by
  subst hs
  cases hb : mmIc cd y z with
  | true =>
    obtain ⟨n, hn⟩ := kt hb
    refine ⟨n + 1, ?_⟩
    rw [mx_eq]
    unfold mxB
    rw [hf]
    dsimp only
    rw [if_pos hb]
    exact hn
  | false =>
    obtain ⟨n, hn⟩ := kf hb
    refine ⟨n + 1, ?_⟩
    rw [mx_eq]
    unfold mxB
    rw [hf]
    dsimp only
    rw [if_neg (by rw [hb]; decide)]
    exact hn
theorem Ev.goto {off : Int} {tg : Nat} {ax' : List Nat} (hf : mmFetch t pc = some (.goto off, len, tg :: ax')) (k : Ev PT t tg lv st h x) : Ev PT t pc lv st h x := by
  obtain ⟨n, hn⟩ := k
  refine ⟨n + 1, ?_⟩
  rw [mx_eq]
  unfold mxB
  rw [hf]
  exact hn
theorem Ev.iret {y : Int32} (hf : mmFetch t pc = some (.ireturn, len, [])) (hs : st = [.int y]) (hx : x = (some (.int y), h)) : Ev PT t pc lv st h x := by
  subst hs; subst hx
  refine ⟨1, ?_⟩
  rw [mx_eq]
  unfold mxB
  rw [hf]
theorem Ev.zret {y : Int32} {a : Nat} (hf : mmFetch t pc = some (.ireturn, len, [a])) (hs : st = [.int y]) (hy : y = 0 ∨ y = 1) (hx : x = (some (.int y), h)) : Ev PT t pc lv st h x := by
  subst hs; subst hx
  refine ⟨1, ?_⟩
  rw [mx_eq]
  unfold mxB
  rw [hf]
  dsimp only
  rw [if_pos hy]
theorem Ev.lret {y : Int64} (hf : mmFetch t pc = some (.lreturn, len, ax)) (hs : st = [.long y]) (hx : x = (some (.long y), h)) : Ev PT t pc lv st h x := by
  subst hs; subst hx
  refine ⟨1, ?_⟩
  rw [mx_eq]
  unfold mxB
  rw [hf]
theorem Ev.vret (hf : mmFetch t pc = some (.return_, len, ax)) (hs : st = []) (hx : x = (none, h)) : Ev PT t pc lv st h x := by
  subst hs; subst hx
  refine ⟨1, ?_⟩
  rw [mx_eq]
  unfold mxB
  rw [hf]
theorem Ev.sw {dflt lo hi : Int} {offs : Array Int} {y : Int32} {r : List Value} {df : Nat} {tgs : List Nat} {tg : Nat} (hf : mmFetch t pc = some (.tableswitch dflt lo hi offs, len, df :: tgs)) (hs : st = .int y :: r) (htg : (if y.toInt < lo ∨ hi < y.toInt then some df else tgs[(y.toInt - lo).toNat]?) = some tg) (k : Ev PT t tg lv r h x) : Ev PT t pc lv st h x := by
  subst hs
  obtain ⟨n, hn⟩ := k
  refine ⟨n + 1, ?_⟩
  rw [mx_eq]
  unfold mxB
  rw [hf]
  dsimp only
  split at htg
  · rename_i hc
    cases htg
    rw [if_pos hc]
    exact hn
  · rename_i hc
    rw [if_neg hc, htg]
    exact hn
end EV
end
section
/-! THE CLAIM OUT OF ONE WALK OF THE LAW'S BODY. Your part is whole_start (and what it stands on); all else here is the same for every law, but numbers. -/
def R_law : String := "PhiHallLaw"
def lw_P (b : Addr) (xs : List Int32) (args : Array Value) (s : State) : Prop := args = #[.ref b] ∧ s.IntsAt b xs ∧ xs.length ≤ 260 ∧ (Jvm.Cond.and given_1 narrow_1).before args s = true
def lw_Q (_ : Array Value) (s : State) (o : Outcome) (t : State) : Prop := o = .returned (some (.int 1)) ∧ Framed s o t [] 600086 7301442
def lw_Z (below : List Frame) (a : Array Value) (s : State) : State → Prop := fun t => ∃ o, t.status = .running ∧ Ended t below o ∧ lw_Q a s o t
/-- the law's own end, with 1 on the stack, nothing written that was there before, its room as the claim has it -/
theorem lw_ret {p : Program} {l : Launch} {e : Env} {s : State} {m : MethodId} {below : List Frame} {meth : Method} {c : Code} {b : Nat} (hx : p.tables.exec = Jvm.exec) (hb : c.code = code) (hr : meth.sig.returnType = ret) (hlocks : meth.locks = false) {pc : Nat} {H : Heap} {ls : Array Slot} (hdg : decode code pc = .ok (.ireturn, 1)) : W p l e room_1 s m #[Value.ref b] below meth c H [] 600086 7301442 (lw_Z below #[Value.ref b] s) (F0 m pc ls [.int 1]) := by
  intro T hT X
  obtain ⟨fs, hret, hrun, hended, hW, hframe⟩ := X.leave (v := some (.int 1)) (hlocks := hlocks) (fun h => by rw [hr] at h; cases h)
  have hmeth' : T.vm.method? m = some meth := X.method'
  refine ⟨T.setFrames fs, ?_, .returned (some (.int 1)), hrun, hended, rfl, ⟨_, rfl⟩, hW, hframe⟩
  jvm_step X.here [X.here.top, hx, hb, hdg, hmeth', hr, ret, narrow_b1]
  (try refine ⟨rfl, ?_⟩); (try refine ⟨rfl, ?_⟩)
  first | (intro acts; rw [hret _ acts rfl rfl rfl]) | rw [hret _ _ rfl rfl rfl]
  exact Steps.refl _
/-- what holds at the law's entry: the machine, the code, the tables' words (any of lw_tbl by 'hts w (by decide +kernel)'), the script of L ints xs at the cell b, what the Statement gives of the start (any of its parts by flat_of_before) -/
def lw_At (p : Program) (s : State) (m : MethodId) (meth : Method) (c : Code) (b L : Nat) (xs : Nat → Int32) : Prop :=
  p.tables.exec = Jvm.exec ∧ c.code = code ∧ meth.sig.returnType = ret ∧ c.maxLocals = 13 ∧ s.vm.findClass R_law = some m.cls ∧ (∀ w ∈ lw_tbl, w.before #[Value.ref b] s = true) ∧ va_X b L xs s s.heap ∧ b < s.heap.size ∧ meth.locks = false ∧ (Jvm.Cond.and given_1 narrow_1).before #[Value.ref b] s = true
end
section
/-! THE LAW OUT OF A RUN: what is left is pure -/
def mmScr (L : Nat) (xs : Nat → Int32) : mmC := (1999, (List.range L).map fun k => .int (xs k))
def mmHasInst : Bool := vwCl.all fun q => mmGood.any fun w => match w with
  | .instantiable c _ => c == q.1
  | _ => false
set_option maxRecDepth 100000 in
theorem mmHasInst_ok : mmHasInst = true := by decide +kernel
set_option maxRecDepth 100000 in
theorem mmHasArr : Cond.arrayClass .int ∈ mmGood := by decide +kernel
set_option maxRecDepth 100000 in
theorem mmHasOv1 : Cond.arrayOver (.array .int) ∈ lw_tbl := by decide +kernel
set_option maxRecDepth 100000 in
theorem mmHasOv2 : Cond.arrayOver (.array (.array .int)) ∈ lw_tbl := by decide +kernel
theorem mmK_start {s : State} {b L : Nat} {xs : Nat → Int32} {args : Array Value} (hts : ∀ w ∈ lw_tbl, w.before args s = true) {scr : Cell} (hof : s.isArrayOf scr .int) (hkn : scr.vm ≠ .unknown) : ∃ (D : va_G) (cA : Nat → ClassId), mmK D (cA, scr) s := by
  have hg : ∀ w ∈ mmGood, w.before args s = true := fun w hw => hts w (List.mem_filter.mp hw).1
  obtain ⟨cA0, kA, comp, hfind, hkA, hkind⟩ := Cond.arrayClass_spec (hg _ mmHasArr)
  have hx : ∀ k : Nat, ∃ f : ClassId × (Nat → Nat), ∀ q, vwCl[k]? = some q → u_Kn s q.1 q.2.1 q.2.2 f.1 f.2 := by
    intro k
    cases hk : vwCl[k]? with
    | none => exact ⟨(0, fun _ => 0), fun q h => by cases h⟩
    | some q =>
      have h1 := List.all_eq_true.mp mmHasInst_ok q (List.mem_of_getElem? hk)
      obtain ⟨w, hw, h2⟩ := List.any_eq_true.mp h1
      split at h2
      · rename_i c n
        have hc : c = q.1 := by simpa using h2
        subst hc
        obtain ⟨cC, iS, hKn⟩ := u_known hg (mmLay hk).1 (hg _ hw)
        exact ⟨(cC, iS), fun q' h => by cases h; exact hKn⟩
      · cases h2
  obtain ⟨f, hf⟩ := Classical.skolem.mp hx
  obtain ⟨c0, c1, q1, f0, -, g1, g2, g3⟩ := arrayOverA_spec (hts _ mmHasOv1)
  obtain ⟨c1', c2, q2, f1, -, e1, e2, e3⟩ := arrayOverA_spec (hts _ mmHasOv2)
  have hc0 : c0 = cA0 := Option.some.inj (f0.symm.trans hfind)
  have hc1 : c1' = c1 := Option.some.inj (f1.symm.trans g3)
  subst hc0 hc1
  have n1 : (fun t : Nat => if t = 1000 then c0 else if t = 1001 then c1' else c2) 1000 = c0 := rfl
  have n2 : (fun t : Nat => if t = 1000 then c0 else if t = 1001 then c1' else c2) 1001 = c1' := rfl
  have n3 : (fun t : Nat => if t = 1000 then c0 else if t = 1001 then c1' else c2) 1002 = c2 := rfl
  refine ⟨(fun k => (f k).1, fun k => (f k).2), fun t : Nat => if t = 1000 then c0 else if t = 1001 then c1' else c2, fun c q hq => hf c q hq, fun t ty ht => ?_, fun w hw => ?_, hof, hkn, ⟨kA, comp, hkA, hkind⟩, ⟨q1, g1, g2⟩, q2, e1, e2⟩
  · simp only [mmTys, List.mem_cons, List.not_mem_nil, or_false, Prod.mk.injEq] at ht
    rcases ht with ⟨rfl, rfl⟩ | ⟨rfl, rfl⟩ | ⟨rfl, rfl⟩
    · exact ⟨fun n z => ⟨fun k h => (by cases h), kA, hkA, comp, hkind⟩, hfind⟩
    · exact ⟨fun n z => ⟨fun k h => (by cases h), q1, g1, c0, g2⟩, g3⟩
    · exact ⟨fun n z => ⟨fun k h => (by cases h), q2, e1, c1', e2⟩, e3⟩
  · have h2 := (List.mem_filter.mp hw).2
    refine va_Nw.of ?_ (hts w (List.mem_filter.mp hw).1)
    cases w <;> first | rfl | cases h2
def mmTop (b n : Nat) (i : Nat) : Nat := if i = 0 then b else n + (i - 1)
set_option maxHeartbeats 4000000 in
theorem whole_of_run {p : Program} {e : Env} {s : State} {m : MethodId} {below : List Frame} {meth : Method} {c : Code} (l : Launch) {b L : Nat} {xs : Nat → Int32} (C0 : lw_At p s m meth c b L xs) {hE : List mmC} (hrun : Ev mmPT tbL_law 0 (mmEntry 13 [.ref 0]) [] [mmScr L xs] (some (.int 1), hE)) (hc1 : hE.length ≤ 600087) (hc2 : mmSl hE ≤ 7301442) : W p l e room_1 s m #[Value.ref b] below meth c s.heap [] 0 0 (lw_Z below #[Value.ref b] s) (entryFrame m ([Value.ref b] : List Value).toArray 13) := by
  obtain ⟨hx, hb, hr, hml, hown, hts, ⟨scr, g1, g2, g3, g4, g5⟩, hbl, hlocks, hgv⟩ := C0
  obtain ⟨D, cA, hK⟩ := mmK_start (b := b) (L := L) (xs := xs) hts g2 g3
  obtain ⟨n, hn⟩ := hrun
  have C : mmCtx D (cA, scr) p s m #[Value.ref b] meth c mL_law := ⟨hx, hb, hml, hr, hlocks, hown, fun w hw => hts w (List.mem_filter.mp hw).1, hK, fun hh => absurd hh (by decide)⟩
  have hW : mmW D (cA, scr) (mmTop b s.heap.size) [mmScr L xs] s.heap := by
    refine ⟨fun i ci hi => ?_, fun i j hi hj _ => ?_, fun j hj => ?_⟩
    · match i, hi with
      | 0, hi =>
        cases hi
        refine ⟨fun hh => absurd hh (by show ¬ (1999 : Nat) < 1000; decide), fun _ hh => absurd rfl hh, fun _ => ⟨g1, ?_, fun j hj => ?_⟩⟩
        · simp [mmScr, g4]
        · have hj' : j < L := by simpa [mmScr] using hj
          rw [g5 j hj']
          simp [mmScr, mmV, List.getD, hj', mmv]
      | i + 1, hi => simp at hi
    · simp at hi hj
      omega
    · simp at hj
      unfold mmTop
      rw [if_neg (by omega)]
      simp
      omega
  have hS : va_S (mmA (mmTop b s.heap.size) [mmScr L xs]) s.heap s.heap [] := va_S.rf
  rw [lg_entry_eq]
  have h0 := mx_sound (l := l) (D := D) (cA := (cA, scr)) (r := mmTop b s.heap.size) mmPT_ok n (R := room_1) (e := e) (below := below) (Q := lw_Z below #[Value.ref b] s) (mmChk_ok ckL_law) C (by decide) (by decide) (h0 := [mmScr L xs]) (hE := hE) (v := some (.int 1)) (by show hE.length - 1 ≤ 600086; omega) (Nat.le_trans (Nat.sub_le _ _) hc2) hW.2.2 (fun pc ls H locs hdg _ hWE hSE => ?_) hn (by rfl) (mmEntry_ls (n := 13) (vs := [.ref 0]) (mmTop b s.heap.size) (by decide)) hW hS (Nat.le_refl _) (Nat.le_refl _)
  · rw [Nat.sub_self, Nat.sub_self] at h0
    exact h0
  · refine va_forget (fun q hq => ?_) ?_
    · rcases hSE.2.2 q hq with ⟨i, h1, h2, -⟩ | h1
      · simp [mmRo] at h1 h2
        omega
      · exact h1
    · refine W.widen (k := 600086) (n := 7301442) (by simp; omega) (Nat.le_trans (Nat.sub_le _ _) hc2) ?_
      exact lw_ret hx hb hr hlocks hdg
end
