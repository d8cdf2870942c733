section
-- ===== PART A: goes FIRST, ahead of the names: the tables' words, and 'selects' of the private methods out of them =====
/-- a private method of a class that the tables say can be made, by its rows of tables_1 -/
def lw_okq (q : MethodName × Nat) : Prop := (q.1.cls ≠ "java/lang/invoke/MethodHandle" ∧ q.1.cls ≠ "java/lang/invoke/VarHandle") ∧ Cond.instantiable q.1.cls q.2 ∈ tables_1 ∧ Cond.privateMethod q.1 ∈ tables_1 ∧ Cond.instanceMethod q.1 ∈ tables_1
theorem lw_p0 : lw_okq (⟨"PhiHall$Told", "reckon", "()V"⟩, 13) := ⟨⟨by decide +kernel, by decide +kernel⟩, List.mem_of_getElem? (i := 33) (by decide +kernel), List.mem_of_getElem? (i := 80) (by decide +kernel), List.mem_of_getElem? (i := 81) (by decide +kernel)⟩
theorem lw_p1 : lw_okq (⟨"PhiHall$Told", "readLines", "(I)V"⟩, 13) := ⟨⟨by decide +kernel, by decide +kernel⟩, List.mem_of_getElem? (i := 33) (by decide +kernel), List.mem_of_getElem? (i := 111) (by decide +kernel), List.mem_of_getElem? (i := 112) (by decide +kernel)⟩
theorem lw_p2 : lw_okq (⟨"PhiHall$Flow", "reachedWithout", "(I)I"⟩, 5) := ⟨⟨by decide +kernel, by decide +kernel⟩, List.mem_of_getElem? (i := 50) (by decide +kernel), List.mem_of_getElem? (i := 127) (by decide +kernel), List.mem_of_getElem? (i := 128) (by decide +kernel)⟩
theorem lw_p3 : lw_okq (⟨"PhiHall$Flow", "addDominator", "(II)V"⟩, 5) := ⟨⟨by decide +kernel, by decide +kernel⟩, List.mem_of_getElem? (i := 50) (by decide +kernel), List.mem_of_getElem? (i := 134) (by decide +kernel), List.mem_of_getElem? (i := 135) (by decide +kernel)⟩
theorem lw_p4 : lw_okq (⟨"PhiHall$Flow", "firstReady", "(I)I"⟩, 5) := ⟨⟨by decide +kernel, by decide +kernel⟩, List.mem_of_getElem? (i := 50) (by decide +kernel), List.mem_of_getElem? (i := 138) (by decide +kernel), List.mem_of_getElem? (i := 139) (by decide +kernel)⟩
theorem lw_p5 : lw_okq (⟨"PhiHall$Told", "reckonWanted", "()V"⟩, 13) := ⟨⟨by decide +kernel, by decide +kernel⟩, List.mem_of_getElem? (i := 33) (by decide +kernel), List.mem_of_getElem? (i := 142) (by decide +kernel), List.mem_of_getElem? (i := 143) (by decide +kernel)⟩
theorem lw_p6 : lw_okq (⟨"PhiHall", "isTold", "(I)Z"⟩, 15) := ⟨⟨by decide +kernel, by decide +kernel⟩, List.mem_of_getElem? (i := 25) (by decide +kernel), List.mem_of_getElem? (i := 528) (by decide +kernel), List.mem_of_getElem? (i := 529) (by decide +kernel)⟩
theorem lw_p7 : lw_okq (⟨"java/lang/Throwable", "fillInStackTrace", "(I)Ljava/lang/Throwable;"⟩, 6) := ⟨⟨by decide +kernel, by decide +kernel⟩, List.mem_of_getElem? (i := 570) (by decide +kernel), List.mem_of_getElem? (i := 568) (by decide +kernel), List.mem_of_getElem? (i := 569) (by decide +kernel)⟩
theorem lw_p8 : lw_okq (⟨"PhiHall$Maker", "placePhis", "(LPhiHall$Told;)V"⟩, 3) := ⟨⟨by decide +kernel, by decide +kernel⟩, List.mem_of_getElem? (i := 343) (by decide +kernel), List.mem_of_getElem? (i := 689) (by decide +kernel), List.mem_of_getElem? (i := 690) (by decide +kernel)⟩
theorem lw_p9 : lw_okq (⟨"PhiHall$Maker", "whereJoined", "(LPhiHall$Told;I)I"⟩, 3) := ⟨⟨by decide +kernel, by decide +kernel⟩, List.mem_of_getElem? (i := 343) (by decide +kernel), List.mem_of_getElem? (i := 694) (by decide +kernel), List.mem_of_getElem? (i := 695) (by decide +kernel)⟩
theorem lw_p10 : lw_okq (⟨"PhiHall$Maker", "addValues", "(LPhiHall$Told;LPhiHall$Form;I)V"⟩, 3) := ⟨⟨by decide +kernel, by decide +kernel⟩, List.mem_of_getElem? (i := 343) (by decide +kernel), List.mem_of_getElem? (i := 703) (by decide +kernel), List.mem_of_getElem? (i := 704) (by decide +kernel)⟩
theorem lw_p11 : lw_okq (⟨"PhiHall$Maker", "addEdges", "(LPhiHall$Told;LPhiHall$Form;I)V"⟩, 3) := ⟨⟨by decide +kernel, by decide +kernel⟩, List.mem_of_getElem? (i := 343) (by decide +kernel), List.mem_of_getElem? (i := 708) (by decide +kernel), List.mem_of_getElem? (i := 709) (by decide +kernel)⟩
theorem lw_p12 : lw_okq (⟨"PhiHall$Maker", "holdAtBeginning", "(LPhiHall$Told;LPhiHall$Form;I)V"⟩, 3) := ⟨⟨by decide +kernel, by decide +kernel⟩, List.mem_of_getElem? (i := 343) (by decide +kernel), List.mem_of_getElem? (i := 716) (by decide +kernel), List.mem_of_getElem? (i := 717) (by decide +kernel)⟩
theorem lw_p13 : lw_okq (⟨"PhiHall$Maker", "hold", "(IIII)V"⟩, 3) := ⟨⟨by decide +kernel, by decide +kernel⟩, List.mem_of_getElem? (i := 343) (by decide +kernel), List.mem_of_getElem? (i := 724) (by decide +kernel), List.mem_of_getElem? (i := 725) (by decide +kernel)⟩
theorem lw_p14 : lw_okq (⟨"PhiHall$Maker", "followLines", "(LPhiHall$Told;LPhiHall$Form;I)V"⟩, 3) := ⟨⟨by decide +kernel, by decide +kernel⟩, List.mem_of_getElem? (i := 343) (by decide +kernel), List.mem_of_getElem? (i := 732) (by decide +kernel), List.mem_of_getElem? (i := 733) (by decide +kernel)⟩
theorem lw_p15 : lw_okq (⟨"PhiHall$Maker", "give", "(LPhiHall$Form;III)V"⟩, 3) := ⟨⟨by decide +kernel, by decide +kernel⟩, List.mem_of_getElem? (i := 343) (by decide +kernel), List.mem_of_getElem? (i := 742) (by decide +kernel), List.mem_of_getElem? (i := 743) (by decide +kernel)⟩
def lw_privs_1 : List (MethodName × Nat) := [(⟨"PhiHall$Told", "reckon", "()V"⟩, 13), (⟨"PhiHall$Told", "readLines", "(I)V"⟩, 13), (⟨"PhiHall$Flow", "reachedWithout", "(I)I"⟩, 5), (⟨"PhiHall$Flow", "addDominator", "(II)V"⟩, 5), (⟨"PhiHall$Flow", "firstReady", "(I)I"⟩, 5), (⟨"PhiHall$Told", "reckonWanted", "()V"⟩, 13), (⟨"PhiHall", "isTold", "(I)Z"⟩, 15), (⟨"java/lang/Throwable", "fillInStackTrace", "(I)Ljava/lang/Throwable;"⟩, 6), (⟨"PhiHall$Maker", "placePhis", "(LPhiHall$Told;)V"⟩, 3), (⟨"PhiHall$Maker", "whereJoined", "(LPhiHall$Told;I)I"⟩, 3), (⟨"PhiHall$Maker", "addValues", "(LPhiHall$Told;LPhiHall$Form;I)V"⟩, 3), (⟨"PhiHall$Maker", "addEdges", "(LPhiHall$Told;LPhiHall$Form;I)V"⟩, 3), (⟨"PhiHall$Maker", "holdAtBeginning", "(LPhiHall$Told;LPhiHall$Form;I)V"⟩, 3), (⟨"PhiHall$Maker", "hold", "(IIII)V"⟩, 3), (⟨"PhiHall$Maker", "followLines", "(LPhiHall$Told;LPhiHall$Form;I)V"⟩, 3), (⟨"PhiHall$Maker", "give", "(LPhiHall$Form;III)V"⟩, 3)]
theorem lw_r1 : ∀ q ∈ lw_privs_1, lw_okq q := List.forall_mem_cons.mpr ⟨lw_p0, List.forall_mem_cons.mpr ⟨lw_p1, List.forall_mem_cons.mpr ⟨lw_p2, List.forall_mem_cons.mpr ⟨lw_p3, List.forall_mem_cons.mpr ⟨lw_p4, List.forall_mem_cons.mpr ⟨lw_p5, List.forall_mem_cons.mpr ⟨lw_p6, List.forall_mem_cons.mpr ⟨lw_p7, List.forall_mem_cons.mpr ⟨lw_p8, List.forall_mem_cons.mpr ⟨lw_p9, List.forall_mem_cons.mpr ⟨lw_p10, List.forall_mem_cons.mpr ⟨lw_p11, List.forall_mem_cons.mpr ⟨lw_p12, List.forall_mem_cons.mpr ⟨lw_p13, List.forall_mem_cons.mpr ⟨lw_p14, List.forall_mem_cons.mpr ⟨lw_p15, fun _ h => absurd h List.not_mem_nil⟩⟩⟩⟩⟩⟩⟩⟩⟩⟩⟩⟩⟩⟩⟩⟩
theorem lw_p16 : lw_okq (⟨"PhiHall$Maker", "valueFor", "(II)I"⟩, 3) := ⟨⟨by decide +kernel, by decide +kernel⟩, List.mem_of_getElem? (i := 343) (by decide +kernel), List.mem_of_getElem? (i := 746) (by decide +kernel), List.mem_of_getElem? (i := 747) (by decide +kernel)⟩
theorem lw_p17 : lw_okq (⟨"PhiHall$Maker", "numberFor", "(II)I"⟩, 3) := ⟨⟨by decide +kernel, by decide +kernel⟩, List.mem_of_getElem? (i := 343) (by decide +kernel), List.mem_of_getElem? (i := 751) (by decide +kernel), List.mem_of_getElem? (i := 752) (by decide +kernel)⟩
theorem lw_p18 : lw_okq (⟨"PhiHall$Maker", "givePhisTheirs", "(LPhiHall$Form;)V"⟩, 3) := ⟨⟨by decide +kernel, by decide +kernel⟩, List.mem_of_getElem? (i := 343) (by decide +kernel), List.mem_of_getElem? (i := 761) (by decide +kernel), List.mem_of_getElem? (i := 762) (by decide +kernel)⟩
theorem lw_p19 : lw_okq (⟨"PhiHall$Maker", "givePhi", "(LPhiHall$Form;I)V"⟩, 3) := ⟨⟨by decide +kernel, by decide +kernel⟩, List.mem_of_getElem? (i := 343) (by decide +kernel), List.mem_of_getElem? (i := 765) (by decide +kernel), List.mem_of_getElem? (i := 766) (by decide +kernel)⟩
theorem lw_p20 : lw_okq (⟨"PhiHall", "passOver", "(LPhiHall$Form;I)I"⟩, 15) := ⟨⟨by decide +kernel, by decide +kernel⟩, List.mem_of_getElem? (i := 25) (by decide +kernel), List.mem_of_getElem? (i := 785) (by decide +kernel), List.mem_of_getElem? (i := 786) (by decide +kernel)⟩
theorem lw_p21 : lw_okq (⟨"PhiHall$Constants", "begin", "()V"⟩, 5) := ⟨⟨by decide +kernel, by decide +kernel⟩, List.mem_of_getElem? (i := 361) (by decide +kernel), List.mem_of_getElem? (i := 793) (by decide +kernel), List.mem_of_getElem? (i := 794) (by decide +kernel)⟩
theorem lw_p22 : lw_okq (⟨"PhiHall$Constants", "visit", "(LPhiHall$Form;I)V"⟩, 5) := ⟨⟨by decide +kernel, by decide +kernel⟩, List.mem_of_getElem? (i := 361) (by decide +kernel), List.mem_of_getElem? (i := 801) (by decide +kernel), List.mem_of_getElem? (i := 802) (by decide +kernel)⟩
theorem lw_p23 : lw_okq (⟨"PhiHall$Constants", "meet", "(LPhiHall$Form;II)V"⟩, 5) := ⟨⟨by decide +kernel, by decide +kernel⟩, List.mem_of_getElem? (i := 361) (by decide +kernel), List.mem_of_getElem? (i := 807) (by decide +kernel), List.mem_of_getElem? (i := 808) (by decide +kernel)⟩
theorem lw_p24 : lw_okq (⟨"PhiHall$Constants", "knownAt", "(LPhiHall$Form;I)I"⟩, 5) := ⟨⟨by decide +kernel, by decide +kernel⟩, List.mem_of_getElem? (i := 361) (by decide +kernel), List.mem_of_getElem? (i := 812) (by decide +kernel), List.mem_of_getElem? (i := 813) (by decide +kernel)⟩
theorem lw_p25 : lw_okq (⟨"PhiHall$Constants", "numberAt", "(LPhiHall$Form;I)I"⟩, 5) := ⟨⟨by decide +kernel, by decide +kernel⟩, List.mem_of_getElem? (i := 361) (by decide +kernel), List.mem_of_getElem? (i := 816) (by decide +kernel), List.mem_of_getElem? (i := 817) (by decide +kernel)⟩
theorem lw_p26 : lw_okq (⟨"PhiHall$Constants", "rise", "(III)V"⟩, 5) := ⟨⟨by decide +kernel, by decide +kernel⟩, List.mem_of_getElem? (i := 361) (by decide +kernel), List.mem_of_getElem? (i := 820) (by decide +kernel), List.mem_of_getElem? (i := 821) (by decide +kernel)⟩
theorem lw_p27 : lw_okq (⟨"PhiHall$Constants", "reckon", "(LPhiHall$Form;II)V"⟩, 5) := ⟨⟨by decide +kernel, by decide +kernel⟩, List.mem_of_getElem? (i := 361) (by decide +kernel), List.mem_of_getElem? (i := 825) (by decide +kernel), List.mem_of_getElem? (i := 826) (by decide +kernel)⟩
theorem lw_p28 : lw_okq (⟨"PhiHall$Constants", "goOn", "(LPhiHall$Form;I)V"⟩, 5) := ⟨⟨by decide +kernel, by decide +kernel⟩, List.mem_of_getElem? (i := 361) (by decide +kernel), List.mem_of_getElem? (i := 832) (by decide +kernel), List.mem_of_getElem? (i := 833) (by decide +kernel)⟩
theorem lw_p29 : lw_okq (⟨"PhiHall$Constants", "goAlong", "(LPhiHall$Form;I)V"⟩, 5) := ⟨⟨by decide +kernel, by decide +kernel⟩, List.mem_of_getElem? (i := 361) (by decide +kernel), List.mem_of_getElem? (i := 836) (by decide +kernel), List.mem_of_getElem? (i := 837) (by decide +kernel)⟩
theorem lw_p30 : lw_okq (⟨"PhiHall$Constants", "cutWays", "(LPhiHall$Form;)V"⟩, 5) := ⟨⟨by decide +kernel, by decide +kernel⟩, List.mem_of_getElem? (i := 361) (by decide +kernel), List.mem_of_getElem? (i := 840) (by decide +kernel), List.mem_of_getElem? (i := 841) (by decide +kernel)⟩
theorem lw_p31 : lw_okq (⟨"PhiHall$Form", "dropArgument", "(II)V"⟩, 19) := ⟨⟨by decide +kernel, by decide +kernel⟩, List.mem_of_getElem? (i := 221) (by decide +kernel), List.mem_of_getElem? (i := 853) (by decide +kernel), List.mem_of_getElem? (i := 854) (by decide +kernel)⟩
def lw_privs_2 : List (MethodName × Nat) := [(⟨"PhiHall$Maker", "valueFor", "(II)I"⟩, 3), (⟨"PhiHall$Maker", "numberFor", "(II)I"⟩, 3), (⟨"PhiHall$Maker", "givePhisTheirs", "(LPhiHall$Form;)V"⟩, 3), (⟨"PhiHall$Maker", "givePhi", "(LPhiHall$Form;I)V"⟩, 3), (⟨"PhiHall", "passOver", "(LPhiHall$Form;I)I"⟩, 15), (⟨"PhiHall$Constants", "begin", "()V"⟩, 5), (⟨"PhiHall$Constants", "visit", "(LPhiHall$Form;I)V"⟩, 5), (⟨"PhiHall$Constants", "meet", "(LPhiHall$Form;II)V"⟩, 5), (⟨"PhiHall$Constants", "knownAt", "(LPhiHall$Form;I)I"⟩, 5), (⟨"PhiHall$Constants", "numberAt", "(LPhiHall$Form;I)I"⟩, 5), (⟨"PhiHall$Constants", "rise", "(III)V"⟩, 5), (⟨"PhiHall$Constants", "reckon", "(LPhiHall$Form;II)V"⟩, 5), (⟨"PhiHall$Constants", "goOn", "(LPhiHall$Form;I)V"⟩, 5), (⟨"PhiHall$Constants", "goAlong", "(LPhiHall$Form;I)V"⟩, 5), (⟨"PhiHall$Constants", "cutWays", "(LPhiHall$Form;)V"⟩, 5), (⟨"PhiHall$Form", "dropArgument", "(II)V"⟩, 19)]
theorem lw_r2 : ∀ q ∈ lw_privs_2, lw_okq q := List.forall_mem_cons.mpr ⟨lw_p16, List.forall_mem_cons.mpr ⟨lw_p17, List.forall_mem_cons.mpr ⟨lw_p18, List.forall_mem_cons.mpr ⟨lw_p19, List.forall_mem_cons.mpr ⟨lw_p20, List.forall_mem_cons.mpr ⟨lw_p21, List.forall_mem_cons.mpr ⟨lw_p22, List.forall_mem_cons.mpr ⟨lw_p23, List.forall_mem_cons.mpr ⟨lw_p24, List.forall_mem_cons.mpr ⟨lw_p25, List.forall_mem_cons.mpr ⟨lw_p26, List.forall_mem_cons.mpr ⟨lw_p27, List.forall_mem_cons.mpr ⟨lw_p28, List.forall_mem_cons.mpr ⟨lw_p29, List.forall_mem_cons.mpr ⟨lw_p30, List.forall_mem_cons.mpr ⟨lw_p31, fun _ h => absurd h List.not_mem_nil⟩⟩⟩⟩⟩⟩⟩⟩⟩⟩⟩⟩⟩⟩⟩⟩
theorem lw_p32 : lw_okq (⟨"PhiHall$Constants", "loseBlocks", "(LPhiHall$Form;)V"⟩, 5) := ⟨⟨by decide +kernel, by decide +kernel⟩, List.mem_of_getElem? (i := 361) (by decide +kernel), List.mem_of_getElem? (i := 861) (by decide +kernel), List.mem_of_getElem? (i := 862) (by decide +kernel)⟩
theorem lw_p33 : lw_okq (⟨"PhiHall$Constants", "replaceNumbers", "(LPhiHall$Form;)V"⟩, 5) := ⟨⟨by decide +kernel, by decide +kernel⟩, List.mem_of_getElem? (i := 361) (by decide +kernel), List.mem_of_getElem? (i := 874) (by decide +kernel), List.mem_of_getElem? (i := 875) (by decide +kernel)⟩
theorem lw_p34 : lw_okq (⟨"PhiHall$Numbers", "readEdges", "(LPhiHall$Form;)V"⟩, 1) := ⟨⟨by decide +kernel, by decide +kernel⟩, List.mem_of_getElem? (i := 385) (by decide +kernel), List.mem_of_getElem? (i := 891) (by decide +kernel), List.mem_of_getElem? (i := 892) (by decide +kernel)⟩
theorem lw_p35 : lw_okq (⟨"PhiHall$Numbers", "visit", "(LPhiHall$Form;I)V"⟩, 1) := ⟨⟨by decide +kernel, by decide +kernel⟩, List.mem_of_getElem? (i := 385) (by decide +kernel), List.mem_of_getElem? (i := 901) (by decide +kernel), List.mem_of_getElem? (i := 902) (by decide +kernel)⟩
theorem lw_p36 : lw_okq (⟨"PhiHall$Numbers", "twinOfReckoning", "(LPhiHall$Form;II)I"⟩, 1) := ⟨⟨by decide +kernel, by decide +kernel⟩, List.mem_of_getElem? (i := 385) (by decide +kernel), List.mem_of_getElem? (i := 921) (by decide +kernel), List.mem_of_getElem? (i := 922) (by decide +kernel)⟩
theorem lw_p37 : lw_okq (⟨"PhiHall$Dead", "needArguments", "(LPhiHall$Form;I)V"⟩, 2) := ⟨⟨by decide +kernel, by decide +kernel⟩, List.mem_of_getElem? (i := 397) (by decide +kernel), List.mem_of_getElem? (i := 951) (by decide +kernel), List.mem_of_getElem? (i := 952) (by decide +kernel)⟩
theorem lw_p38 : lw_okq (⟨"PhiHall$Dead", "loseOthers", "(LPhiHall$Form;)V"⟩, 2) := ⟨⟨by decide +kernel, by decide +kernel⟩, List.mem_of_getElem? (i := 397) (by decide +kernel), List.mem_of_getElem? (i := 955) (by decide +kernel), List.mem_of_getElem? (i := 956) (by decide +kernel)⟩
theorem lw_p39 : lw_okq (⟨"PhiHall", "manyOfForm", "(I)I"⟩, 15) := ⟨⟨by decide +kernel, by decide +kernel⟩, List.mem_of_getElem? (i := 25) (by decide +kernel), List.mem_of_getElem? (i := 1001) (by decide +kernel), List.mem_of_getElem? (i := 1002) (by decide +kernel)⟩
theorem lw_p40 : lw_okq (⟨"PhiHall$Runner", "doPhis", "(LPhiHall$Form;II)V"⟩, 3) := ⟨⟨by decide +kernel, by decide +kernel⟩, List.mem_of_getElem? (i := 419) (by decide +kernel), List.mem_of_getElem? (i := 1042) (by decide +kernel), List.mem_of_getElem? (i := 1043) (by decide +kernel)⟩
theorem lw_p41 : lw_okq (⟨"PhiHall$Runner", "reckon", "(LPhiHall$Form;II)I"⟩, 3) := ⟨⟨by decide +kernel, by decide +kernel⟩, List.mem_of_getElem? (i := 419) (by decide +kernel), List.mem_of_getElem? (i := 1048) (by decide +kernel), List.mem_of_getElem? (i := 1049) (by decide +kernel)⟩
theorem lw_p42 : lw_okq (⟨"PhiHall$Runner", "doValues", "(LPhiHall$Form;ILPhiHall$Tape;)V"⟩, 3) := ⟨⟨by decide +kernel, by decide +kernel⟩, List.mem_of_getElem? (i := 419) (by decide +kernel), List.mem_of_getElem? (i := 1054) (by decide +kernel), List.mem_of_getElem? (i := 1055) (by decide +kernel)⟩
theorem lw_p43 : lw_okq (⟨"PhiHall$Tape", "finish", "(I)V"⟩, 8) := ⟨⟨by decide +kernel, by decide +kernel⟩, List.mem_of_getElem? (i := 437) (by decide +kernel), List.mem_of_getElem? (i := 1070) (by decide +kernel), List.mem_of_getElem? (i := 1071) (by decide +kernel)⟩
theorem lw_p44 : lw_okq (⟨"PhiHall", "isEnd", "(IIII)Z"⟩, 15) := ⟨⟨by decide +kernel, by decide +kernel⟩, List.mem_of_getElem? (i := 25) (by decide +kernel), List.mem_of_getElem? (i := 1143) (by decide +kernel), List.mem_of_getElem? (i := 1144) (by decide +kernel)⟩
theorem lw_p45 : lw_okq (⟨"PhiHall", "isTarget", "(I)Z"⟩, 15) := ⟨⟨by decide +kernel, by decide +kernel⟩, List.mem_of_getElem? (i := 25) (by decide +kernel), List.mem_of_getElem? (i := 1147) (by decide +kernel), List.mem_of_getElem? (i := 1148) (by decide +kernel)⟩
theorem lw_p46 : lw_okq (⟨"PhiHall$Runner", "doLines", "(LPhiHall$Told;ILPhiHall$Tape;)V"⟩, 3) := ⟨⟨by decide +kernel, by decide +kernel⟩, List.mem_of_getElem? (i := 419) (by decide +kernel), List.mem_of_getElem? (i := 1169) (by decide +kernel), List.mem_of_getElem? (i := 1170) (by decide +kernel)⟩
theorem lw_p47 : lw_okq (⟨"PhiHall$Runner", "read", "(I)I"⟩, 3) := ⟨⟨by decide +kernel, by decide +kernel⟩, List.mem_of_getElem? (i := 419) (by decide +kernel), List.mem_of_getElem? (i := 1173) (by decide +kernel), List.mem_of_getElem? (i := 1174) (by decide +kernel)⟩
def lw_privs_3 : List (MethodName × Nat) := [(⟨"PhiHall$Constants", "loseBlocks", "(LPhiHall$Form;)V"⟩, 5), (⟨"PhiHall$Constants", "replaceNumbers", "(LPhiHall$Form;)V"⟩, 5), (⟨"PhiHall$Numbers", "readEdges", "(LPhiHall$Form;)V"⟩, 1), (⟨"PhiHall$Numbers", "visit", "(LPhiHall$Form;I)V"⟩, 1), (⟨"PhiHall$Numbers", "twinOfReckoning", "(LPhiHall$Form;II)I"⟩, 1), (⟨"PhiHall$Dead", "needArguments", "(LPhiHall$Form;I)V"⟩, 2), (⟨"PhiHall$Dead", "loseOthers", "(LPhiHall$Form;)V"⟩, 2), (⟨"PhiHall", "manyOfForm", "(I)I"⟩, 15), (⟨"PhiHall$Runner", "doPhis", "(LPhiHall$Form;II)V"⟩, 3), (⟨"PhiHall$Runner", "reckon", "(LPhiHall$Form;II)I"⟩, 3), (⟨"PhiHall$Runner", "doValues", "(LPhiHall$Form;ILPhiHall$Tape;)V"⟩, 3), (⟨"PhiHall$Tape", "finish", "(I)V"⟩, 8), (⟨"PhiHall", "isEnd", "(IIII)Z"⟩, 15), (⟨"PhiHall", "isTarget", "(I)Z"⟩, 15), (⟨"PhiHall$Runner", "doLines", "(LPhiHall$Told;ILPhiHall$Tape;)V"⟩, 3), (⟨"PhiHall$Runner", "read", "(I)I"⟩, 3)]
theorem lw_r3 : ∀ q ∈ lw_privs_3, lw_okq q := List.forall_mem_cons.mpr ⟨lw_p32, List.forall_mem_cons.mpr ⟨lw_p33, List.forall_mem_cons.mpr ⟨lw_p34, List.forall_mem_cons.mpr ⟨lw_p35, List.forall_mem_cons.mpr ⟨lw_p36, List.forall_mem_cons.mpr ⟨lw_p37, List.forall_mem_cons.mpr ⟨lw_p38, List.forall_mem_cons.mpr ⟨lw_p39, List.forall_mem_cons.mpr ⟨lw_p40, List.forall_mem_cons.mpr ⟨lw_p41, List.forall_mem_cons.mpr ⟨lw_p42, List.forall_mem_cons.mpr ⟨lw_p43, List.forall_mem_cons.mpr ⟨lw_p44, List.forall_mem_cons.mpr ⟨lw_p45, List.forall_mem_cons.mpr ⟨lw_p46, List.forall_mem_cons.mpr ⟨lw_p47, fun _ h => absurd h List.not_mem_nil⟩⟩⟩⟩⟩⟩⟩⟩⟩⟩⟩⟩⟩⟩⟩⟩
theorem lw_p48 : lw_okq (⟨"PhiHall", "countRun", "()V"⟩, 15) := ⟨⟨by decide +kernel, by decide +kernel⟩, List.mem_of_getElem? (i := 25) (by decide +kernel), List.mem_of_getElem? (i := 1179) (by decide +kernel), List.mem_of_getElem? (i := 1180) (by decide +kernel)⟩
theorem lw_p49 : lw_okq (⟨"PhiHall", "mixedWithBlocks", "(J)J"⟩, 15) := ⟨⟨by decide +kernel, by decide +kernel⟩, List.mem_of_getElem? (i := 25) (by decide +kernel), List.mem_of_getElem? (i := 1232) (by decide +kernel), List.mem_of_getElem? (i := 1233) (by decide +kernel)⟩
theorem lw_p50 : lw_okq (⟨"PhiHall", "mixedWithRun", "(J)J"⟩, 15) := ⟨⟨by decide +kernel, by decide +kernel⟩, List.mem_of_getElem? (i := 25) (by decide +kernel), List.mem_of_getElem? (i := 1237) (by decide +kernel), List.mem_of_getElem? (i := 1238) (by decide +kernel)⟩
theorem lw_p51 : lw_okq (⟨"PhiHall", "mixedWithPlace", "(JI)J"⟩, 15) := ⟨⟨by decide +kernel, by decide +kernel⟩, List.mem_of_getElem? (i := 25) (by decide +kernel), List.mem_of_getElem? (i := 1244) (by decide +kernel), List.mem_of_getElem? (i := 1245) (by decide +kernel)⟩
theorem lw_p52 : lw_okq (⟨"PhiHall", "mixedWithValue", "(JI)J"⟩, 15) := ⟨⟨by decide +kernel, by decide +kernel⟩, List.mem_of_getElem? (i := 25) (by decide +kernel), List.mem_of_getElem? (i := 1269) (by decide +kernel), List.mem_of_getElem? (i := 1270) (by decide +kernel)⟩
theorem lw_p53 : lw_okq (⟨"PhiHall", "isValue", "(I)Z"⟩, 15) := ⟨⟨by decide +kernel, by decide +kernel⟩, List.mem_of_getElem? (i := 25) (by decide +kernel), List.mem_of_getElem? (i := 1277) (by decide +kernel), List.mem_of_getElem? (i := 1278) (by decide +kernel)⟩
theorem lw_p54 : lw_okq (⟨"PhiHall", "isArgument", "(II)Z"⟩, 15) := ⟨⟨by decide +kernel, by decide +kernel⟩, List.mem_of_getElem? (i := 25) (by decide +kernel), List.mem_of_getElem? (i := 1291) (by decide +kernel), List.mem_of_getElem? (i := 1292) (by decide +kernel)⟩
def lw_privs_4 : List (MethodName × Nat) := [(⟨"PhiHall", "countRun", "()V"⟩, 15), (⟨"PhiHall", "mixedWithBlocks", "(J)J"⟩, 15), (⟨"PhiHall", "mixedWithRun", "(J)J"⟩, 15), (⟨"PhiHall", "mixedWithPlace", "(JI)J"⟩, 15), (⟨"PhiHall", "mixedWithValue", "(JI)J"⟩, 15), (⟨"PhiHall", "isValue", "(I)Z"⟩, 15), (⟨"PhiHall", "isArgument", "(II)Z"⟩, 15)]
theorem lw_r4 : ∀ q ∈ lw_privs_4, lw_okq q := List.forall_mem_cons.mpr ⟨lw_p48, List.forall_mem_cons.mpr ⟨lw_p49, List.forall_mem_cons.mpr ⟨lw_p50, List.forall_mem_cons.mpr ⟨lw_p51, List.forall_mem_cons.mpr ⟨lw_p52, List.forall_mem_cons.mpr ⟨lw_p53, List.forall_mem_cons.mpr ⟨lw_p54, fun _ h => absurd h List.not_mem_nil⟩⟩⟩⟩⟩⟩⟩
def lw_privs : List (MethodName × Nat) := lw_privs_1 ++ (lw_privs_2 ++ (lw_privs_3 ++ (lw_privs_4)))
def lw_tbl : List Cond := k2_sels lw_privs ++ tables_1
theorem lw_privs_ok : ∀ q ∈ lw_privs, lw_okq q := by
  show ∀ q ∈ lw_privs_1 ++ (lw_privs_2 ++ (lw_privs_3 ++ (lw_privs_4))), lw_okq q
  exact List.forall_mem_append.mpr ⟨lw_r1, List.forall_mem_append.mpr ⟨lw_r2, List.forall_mem_append.mpr ⟨lw_r3, lw_r4⟩⟩⟩
def RX0 : String := "PhiHall$Constants"
def TX0 : u_T := fun k => match k with
  | 0 => ("PhiHall$Constants", "known", "LPhiHall$Row;", true)
  | 1 => ("PhiHall$Constants", "numbers", "LPhiHall$Row;", true)
  | 2 => ("PhiHall$Constants", "come", "I", false)
  | 3 => ("PhiHall$Constants", "along", "I", false)
  | _ => ("PhiHall$Constants", "hasRisen", "Z", false)
def tyX0 : Nat → FieldType := fun k => match k with
  | 0 => .object "PhiHall$Row"
  | 1 => .object "PhiHall$Row"
  | 2 => .int
  | 3 => .int
  | _ => .boolean
theorem nmX0 : ∀ a, a < 5 → ∀ b, b < 5 → a ≠ b → (TX0 a).2.1 ≠ (TX0 b).2.1 := by decide +kernel
theorem tyX0_ok : ∀ k, k < 5 → parseFieldDescriptor (TX0 k).2.2.1 = some (tyX0 k) := by decide +kernel
abbrev cX0_init : ByteArray := prog_2_method_1_code
def yX0_init : MethodName := ⟨RX0, "<init>", "()V"⟩
abbrev cX0_goOver : ByteArray := prog_2_method_2_code
def yX0_goOver : MethodName := ⟨RX0, "goOver", "(LPhiHall$Form;)V"⟩
abbrev cX0_begin : ByteArray := prog_2_method_3_code
def yX0_begin : MethodName := ⟨RX0, "begin", "()V"⟩
abbrev cX0_visit : ByteArray := prog_2_method_4_code
def yX0_visit : MethodName := ⟨RX0, "visit", "(LPhiHall$Form;I)V"⟩
abbrev cX0_meet : ByteArray := prog_2_method_5_code
def yX0_meet : MethodName := ⟨RX0, "meet", "(LPhiHall$Form;II)V"⟩
abbrev cX0_reckon : ByteArray := prog_2_method_6_code
def yX0_reckon : MethodName := ⟨RX0, "reckon", "(LPhiHall$Form;II)V"⟩
abbrev cX0_knownAt : ByteArray := prog_2_method_7_code
def yX0_knownAt : MethodName := ⟨RX0, "knownAt", "(LPhiHall$Form;I)I"⟩
abbrev cX0_numberAt : ByteArray := prog_2_method_8_code
def yX0_numberAt : MethodName := ⟨RX0, "numberAt", "(LPhiHall$Form;I)I"⟩
abbrev cX0_rise : ByteArray := prog_2_method_9_code
def yX0_rise : MethodName := ⟨RX0, "rise", "(III)V"⟩
abbrev cX0_goOn : ByteArray := prog_2_method_10_code
def yX0_goOn : MethodName := ⟨RX0, "goOn", "(LPhiHall$Form;I)V"⟩
abbrev cX0_goAlong : ByteArray := prog_2_method_11_code
def yX0_goAlong : MethodName := ⟨RX0, "goAlong", "(LPhiHall$Form;I)V"⟩
abbrev cX0_cutWays : ByteArray := prog_2_method_12_code
def yX0_cutWays : MethodName := ⟨RX0, "cutWays", "(LPhiHall$Form;)V"⟩
abbrev cX0_loseBlocks : ByteArray := prog_2_method_13_code
def yX0_loseBlocks : MethodName := ⟨RX0, "loseBlocks", "(LPhiHall$Form;)V"⟩
abbrev cX0_replaceNumbers : ByteArray := prog_2_method_14_code
def yX0_replaceNumbers : MethodName := ⟨RX0, "replaceNumbers", "(LPhiHall$Form;)V"⟩
def RX1 : String := "PhiHall$Dead"
def TX1 : u_T := fun k => match k with
  | 0 => ("PhiHall$Dead", "needed", "LPhiHall$Row;", true)
  | _ => ("PhiHall$Dead", "hasRisen", "Z", false)
def tyX1 : Nat → FieldType := fun k => match k with
  | 0 => .object "PhiHall$Row"
  | _ => .boolean
theorem nmX1 : ∀ a, a < 2 → ∀ b, b < 2 → a ≠ b → (TX1 a).2.1 ≠ (TX1 b).2.1 := by decide +kernel
theorem tyX1_ok : ∀ k, k < 2 → parseFieldDescriptor (TX1 k).2.2.1 = some (tyX1 k) := by decide +kernel
abbrev cX1_init : ByteArray := prog_3_method_1_code
def yX1_init : MethodName := ⟨RX1, "<init>", "()V"⟩
abbrev cX1_goOver : ByteArray := prog_3_method_2_code
def yX1_goOver : MethodName := ⟨RX1, "goOver", "(LPhiHall$Form;)V"⟩
abbrev cX1_isNeededBySelf : ByteArray := prog_3_method_3_code
def yX1_isNeededBySelf : MethodName := ⟨RX1, "isNeededBySelf", "(LPhiHall$Form;I)Z"⟩
abbrev cX1_needArguments : ByteArray := prog_3_method_4_code
def yX1_needArguments : MethodName := ⟨RX1, "needArguments", "(LPhiHall$Form;I)V"⟩
abbrev cX1_loseOthers : ByteArray := prog_3_method_5_code
def yX1_loseOthers : MethodName := ⟨RX1, "loseOthers", "(LPhiHall$Form;)V"⟩
def RX2 : String := "PhiHall$Flow"
def TX2 : u_T := fun k => match k with
  | 0 => ("PhiHall$Flow", "next", "LPhiHall$Row;", true)
  | 1 => ("PhiHall$Flow", "dominated", "LPhiHall$Row;", true)
  | 2 => ("PhiHall$Flow", "dominators", "LPhiHall$Row;", true)
  | 3 => ("PhiHall$Flow", "order", "LPhiHall$Row;", true)
  | _ => ("PhiHall$Flow", "reached", "I", false)
def tyX2 : Nat → FieldType := fun k => match k with
  | 0 => .object "PhiHall$Row"
  | 1 => .object "PhiHall$Row"
  | 2 => .object "PhiHall$Row"
  | 3 => .object "PhiHall$Row"
  | _ => .int
theorem nmX2 : ∀ a, a < 5 → ∀ b, b < 5 → a ≠ b → (TX2 a).2.1 ≠ (TX2 b).2.1 := by decide +kernel
theorem tyX2_ok : ∀ k, k < 5 → parseFieldDescriptor (TX2 k).2.2.1 = some (tyX2 k) := by decide +kernel
abbrev cX2_init : ByteArray := prog_4_method_1_code
def yX2_init : MethodName := ⟨RX2, "<init>", "()V"⟩
abbrev cX2_forget : ByteArray := prog_4_method_2_code
def yX2_forget : MethodName := ⟨RX2, "forget", "()V"⟩
abbrev cX2_lead : ByteArray := prog_4_method_3_code
def yX2_lead : MethodName := ⟨RX2, "lead", "(II)V"⟩
abbrev cX2_reckon : ByteArray := prog_4_method_4_code
def yX2_reckon : MethodName := ⟨RX2, "reckon", "()V"⟩
abbrev cX2_reachedWithout : ByteArray := prog_4_method_5_code
def yX2_reachedWithout : MethodName := ⟨RX2, "reachedWithout", "(I)I"⟩
abbrev cX2_addDominator : ByteArray := prog_4_method_6_code
def yX2_addDominator : MethodName := ⟨RX2, "addDominator", "(II)V"⟩
abbrev cX2_firstReady : ByteArray := prog_4_method_7_code
def yX2_firstReady : MethodName := ⟨RX2, "firstReady", "(I)I"⟩
abbrev cX2_frontier : ByteArray := prog_4_method_8_code
def yX2_frontier : MethodName := ⟨RX2, "frontier", "(I)I"⟩
abbrev cX2_nearestDominator : ByteArray := prog_4_method_9_code
def yX2_nearestDominator : MethodName := ⟨RX2, "nearestDominator", "(I)I"⟩
def RX3 : String := "PhiHall$Form"
def TX3 : u_T := fun k => match k with
  | 0 => ("PhiHall$Form", "kinds", "LPhiHall$Row;", true)
  | 1 => ("PhiHall$Form", "places", "LPhiHall$Row;", true)
  | 2 => ("PhiHall$Form", "variables", "LPhiHall$Row;", true)
  | 3 => ("PhiHall$Form", "arguments", "LPhiHall$Row;", true)
  | 4 => ("PhiHall$Form", "starts", "LPhiHall$Row;", true)
  | 5 => ("PhiHall$Form", "argumentValues", "LPhiHall$Row;", true)
  | 6 => ("PhiHall$Form", "argumentNumbers", "LPhiHall$Row;", true)
  | 7 => ("PhiHall$Form", "sizes", "LPhiHall$Row;", true)
  | 8 => ("PhiHall$Form", "listed", "LPhiHall$Row;", true)
  | 9 => ("PhiHall$Form", "edges", "LPhiHall$Row;", true)
  | 10 => ("PhiHall$Form", "waysTo", "LPhiHall$Row;", true)
  | 11 => ("PhiHall$Form", "endKinds", "LPhiHall$Row;", true)
  | 12 => ("PhiHall$Form", "targets", "LPhiHall$Row;", true)
  | 13 => ("PhiHall$Form", "blocks", "I", false)
  | 14 => ("PhiHall$Form", "there", "I", false)
  | 15 => ("PhiHall$Form", "values", "I", false)
  | 16 => ("PhiHall$Form", "given", "I", false)
  | 17 => ("PhiHall$Form", "passes", "I", false)
  | _ => ("PhiHall$Form", "gone", "I", false)
def tyX3 : Nat → FieldType := fun k => match k with
  | 0 => .object "PhiHall$Row"
  | 1 => .object "PhiHall$Row"
  | 2 => .object "PhiHall$Row"
  | 3 => .object "PhiHall$Row"
  | 4 => .object "PhiHall$Row"
  | 5 => .object "PhiHall$Row"
  | 6 => .object "PhiHall$Row"
  | 7 => .object "PhiHall$Row"
  | 8 => .object "PhiHall$Row"
  | 9 => .object "PhiHall$Row"
  | 10 => .object "PhiHall$Row"
  | 11 => .object "PhiHall$Row"
  | 12 => .object "PhiHall$Row"
  | 13 => .int
  | 14 => .int
  | 15 => .int
  | 16 => .int
  | 17 => .int
  | _ => .int
theorem nmX3 : ∀ a, a < 19 → ∀ b, b < 19 → a ≠ b → (TX3 a).2.1 ≠ (TX3 b).2.1 := by decide +kernel
theorem tyX3_ok : ∀ k, k < 19 → parseFieldDescriptor (TX3 k).2.2.1 = some (tyX3 k) := by decide +kernel
abbrev cX3_init : ByteArray := prog_5_method_1_code
def yX3_init : MethodName := ⟨RX3, "<init>", "()V"⟩
abbrev cX3_begin : ByteArray := prog_5_method_2_code
def yX3_begin : MethodName := ⟨RX3, "begin", "(II)V"⟩
abbrev cX3_take : ByteArray := prog_5_method_3_code
def yX3_take : MethodName := ⟨RX3, "take", "(LPhiHall$Form;)V"⟩
abbrev cX3_addValue : ByteArray := prog_5_method_4_code
def yX3_addValue : MethodName := ⟨RX3, "addValue", "(III)V"⟩
abbrev cX3_putInto : ByteArray := prog_5_method_5_code
def yX3_putInto : MethodName := ⟨RX3, "putInto", "(II)V"⟩
abbrev cX3_addArgument : ByteArray := prog_5_method_6_code
def yX3_addArgument : MethodName := ⟨RX3, "addArgument", "(III)V"⟩
abbrev cX3_addEdge : ByteArray := prog_5_method_7_code
def yX3_addEdge : MethodName := ⟨RX3, "addEdge", "(II)V"⟩
abbrev cX3_valueIn : ByteArray := prog_5_method_8_code
def yX3_valueIn : MethodName := ⟨RX3, "valueIn", "(II)I"⟩
abbrev cX3_wayTo : ByteArray := prog_5_method_9_code
def yX3_wayTo : MethodName := ⟨RX3, "wayTo", "(II)I"⟩
abbrev cX3_valueOf : ByteArray := prog_5_method_10_code
def yX3_valueOf : MethodName := ⟨RX3, "valueOf", "(II)I"⟩
abbrev cX3_numberOf : ByteArray := prog_5_method_11_code
def yX3_numberOf : MethodName := ⟨RX3, "numberOf", "(II)I"⟩
abbrev cX3_allIn : ByteArray := prog_5_method_12_code
def yX3_allIn : MethodName := ⟨RX3, "allIn", "(LPhiHall$Row;)I"⟩
abbrev cX3_allPhis : ByteArray := prog_5_method_13_code
def yX3_allPhis : MethodName := ⟨RX3, "allPhis", "()I"⟩
abbrev cX3_usesOf : ByteArray := prog_5_method_14_code
def yX3_usesOf : MethodName := ⟨RX3, "usesOf", "(I)I"⟩
abbrev cX3_edgeOf : ByteArray := prog_5_method_15_code
def yX3_edgeOf : MethodName := ⟨RX3, "edgeOf", "(II)I"⟩
abbrev cX3_replace : ByteArray := prog_5_method_16_code
def yX3_replace : MethodName := ⟨RX3, "replace", "(III)V"⟩
abbrev cX3_redirect : ByteArray := prog_5_method_17_code
def yX3_redirect : MethodName := ⟨RX3, "redirect", "(III)V"⟩
abbrev cX3_lose : ByteArray := prog_5_method_18_code
def yX3_lose : MethodName := ⟨RX3, "lose", "(I)V"⟩
abbrev cX3_loseBlock : ByteArray := prog_5_method_19_code
def yX3_loseBlock : MethodName := ⟨RX3, "loseBlock", "(I)V"⟩
abbrev cX3_sweep : ByteArray := prog_5_method_20_code
def yX3_sweep : MethodName := ⟨RX3, "sweep", "()V"⟩
abbrev cX3_dropEdge : ByteArray := prog_5_method_21_code
def yX3_dropEdge : MethodName := ⟨RX3, "dropEdge", "(I)V"⟩
abbrev cX3_dropArgument : ByteArray := prog_5_method_22_code
def yX3_dropArgument : MethodName := ⟨RX3, "dropArgument", "(II)V"⟩
abbrev cX3_changeWay : ByteArray := prog_5_method_23_code
def yX3_changeWay : MethodName := ⟨RX3, "changeWay", "(II)V"⟩
abbrev cX3_takeEnd : ByteArray := prog_5_method_24_code
def yX3_takeEnd : MethodName := ⟨RX3, "takeEnd", "(II)V"⟩
abbrev cX3_hasSameArguments : ByteArray := prog_5_method_25_code
def yX3_hasSameArguments : MethodName := ⟨RX3, "hasSameArguments", "(II)Z"⟩
abbrev cX3_hasCrossedArguments : ByteArray := prog_5_method_26_code
def yX3_hasCrossedArguments : MethodName := ⟨RX3, "hasCrossedArguments", "(II)Z"⟩
abbrev cX3_soleArgument : ByteArray := prog_5_method_27_code
def yX3_soleArgument : MethodName := ⟨RX3, "soleArgument", "(I)I"⟩
def RX4 : String := "PhiHall$Joiner"
def TX4 : u_T := fun k => match k with
  | _ => ("", "", "", false)
def tyX4 : Nat → FieldType := fun k => match k with
  | _ => .int
theorem nmX4 : ∀ a, a < 0 → ∀ b, b < 0 → a ≠ b → (TX4 a).2.1 ≠ (TX4 b).2.1 := by decide +kernel
theorem tyX4_ok : ∀ k, k < 0 → parseFieldDescriptor (TX4 k).2.2.1 = some (tyX4 k) := by decide +kernel
abbrev cX4_init : ByteArray := prog_6_method_1_code
def yX4_init : MethodName := ⟨RX4, "<init>", "()V"⟩
abbrev cX4_goOver : ByteArray := prog_6_method_2_code
def yX4_goOver : MethodName := ⟨RX4, "goOver", "(LPhiHall$Form;)V"⟩
abbrev cX4_firstToJoin : ByteArray := prog_6_method_3_code
def yX4_firstToJoin : MethodName := ⟨RX4, "firstToJoin", "(LPhiHall$Form;)I"⟩
abbrev cX4_moveValues : ByteArray := prog_6_method_4_code
def yX4_moveValues : MethodName := ⟨RX4, "moveValues", "(LPhiHall$Form;II)V"⟩
abbrev cX4_moveEnd : ByteArray := prog_6_method_5_code
def yX4_moveEnd : MethodName := ⟨RX4, "moveEnd", "(LPhiHall$Form;II)V"⟩
def RX5 : String := "PhiHall$Maker"
def TX5 : u_T := fun k => match k with
  | 0 => ("PhiHall$Maker", "heldValues", "LPhiHall$Row;", true)
  | 1 => ("PhiHall$Maker", "heldNumbers", "LPhiHall$Row;", true)
  | _ => ("PhiHall$Maker", "phis", "LPhiHall$Row;", true)
def tyX5 : Nat → FieldType := fun k => match k with
  | 0 => .object "PhiHall$Row"
  | 1 => .object "PhiHall$Row"
  | _ => .object "PhiHall$Row"
theorem nmX5 : ∀ a, a < 3 → ∀ b, b < 3 → a ≠ b → (TX5 a).2.1 ≠ (TX5 b).2.1 := by decide +kernel
theorem tyX5_ok : ∀ k, k < 3 → parseFieldDescriptor (TX5 k).2.2.1 = some (tyX5 k) := by decide +kernel
abbrev cX5_init : ByteArray := prog_7_method_1_code
def yX5_init : MethodName := ⟨RX5, "<init>", "()V"⟩
abbrev cX5_make : ByteArray := prog_7_method_2_code
def yX5_make : MethodName := ⟨RX5, "make", "(LPhiHall$Told;LPhiHall$Form;)V"⟩
abbrev cX5_placePhis : ByteArray := prog_7_method_3_code
def yX5_placePhis : MethodName := ⟨RX5, "placePhis", "(LPhiHall$Told;)V"⟩
abbrev cX5_whereJoined : ByteArray := prog_7_method_4_code
def yX5_whereJoined : MethodName := ⟨RX5, "whereJoined", "(LPhiHall$Told;I)I"⟩
abbrev cX5_addValues : ByteArray := prog_7_method_5_code
def yX5_addValues : MethodName := ⟨RX5, "addValues", "(LPhiHall$Told;LPhiHall$Form;I)V"⟩
abbrev cX5_addEdges : ByteArray := prog_7_method_6_code
def yX5_addEdges : MethodName := ⟨RX5, "addEdges", "(LPhiHall$Told;LPhiHall$Form;I)V"⟩
abbrev cX5_holdAtBeginning : ByteArray := prog_7_method_7_code
def yX5_holdAtBeginning : MethodName := ⟨RX5, "holdAtBeginning", "(LPhiHall$Told;LPhiHall$Form;I)V"⟩
abbrev cX5_hold : ByteArray := prog_7_method_8_code
def yX5_hold : MethodName := ⟨RX5, "hold", "(IIII)V"⟩
abbrev cX5_followLines : ByteArray := prog_7_method_9_code
def yX5_followLines : MethodName := ⟨RX5, "followLines", "(LPhiHall$Told;LPhiHall$Form;I)V"⟩
abbrev cX5_give : ByteArray := prog_7_method_10_code
def yX5_give : MethodName := ⟨RX5, "give", "(LPhiHall$Form;III)V"⟩
abbrev cX5_valueFor : ByteArray := prog_7_method_11_code
def yX5_valueFor : MethodName := ⟨RX5, "valueFor", "(II)I"⟩
abbrev cX5_numberFor : ByteArray := prog_7_method_12_code
def yX5_numberFor : MethodName := ⟨RX5, "numberFor", "(II)I"⟩
abbrev cX5_givePhisTheirs : ByteArray := prog_7_method_13_code
def yX5_givePhisTheirs : MethodName := ⟨RX5, "givePhisTheirs", "(LPhiHall$Form;)V"⟩
abbrev cX5_givePhi : ByteArray := prog_7_method_14_code
def yX5_givePhi : MethodName := ⟨RX5, "givePhi", "(LPhiHall$Form;I)V"⟩
def RX6 : String := "PhiHall$Numbers"
def TX6 : u_T := fun k => match k with
  | _ => ("PhiHall$Numbers", "flow", "LPhiHall$Flow;", true)
def tyX6 : Nat → FieldType := fun k => match k with
  | _ => .object "PhiHall$Flow"
theorem nmX6 : ∀ a, a < 1 → ∀ b, b < 1 → a ≠ b → (TX6 a).2.1 ≠ (TX6 b).2.1 := by decide +kernel
theorem tyX6_ok : ∀ k, k < 1 → parseFieldDescriptor (TX6 k).2.2.1 = some (tyX6 k) := by decide +kernel
abbrev cX6_init : ByteArray := prog_8_method_1_code
def yX6_init : MethodName := ⟨RX6, "<init>", "()V"⟩
abbrev cX6_goOver : ByteArray := prog_8_method_2_code
def yX6_goOver : MethodName := ⟨RX6, "goOver", "(LPhiHall$Form;)V"⟩
abbrev cX6_readEdges : ByteArray := prog_8_method_3_code
def yX6_readEdges : MethodName := ⟨RX6, "readEdges", "(LPhiHall$Form;)V"⟩
abbrev cX6_visit : ByteArray := prog_8_method_4_code
def yX6_visit : MethodName := ⟨RX6, "visit", "(LPhiHall$Form;I)V"⟩
abbrev cX6_twinOfPhi : ByteArray := prog_8_method_5_code
def yX6_twinOfPhi : MethodName := ⟨RX6, "twinOfPhi", "(LPhiHall$Form;II)I"⟩
abbrev cX6_twinOfReckoning : ByteArray := prog_8_method_6_code
def yX6_twinOfReckoning : MethodName := ⟨RX6, "twinOfReckoning", "(LPhiHall$Form;II)I"⟩
abbrev cX6_isStill : ByteArray := prog_8_method_7_code
def yX6_isStill : MethodName := ⟨RX6, "isStill", "(LPhiHall$Form;III)Z"⟩
def RX7 : String := "PhiHall$Row"
def TX7 : u_T := fun k => match k with
  | _ => ("PhiHall$Row", "numbers", "[I", true)
def tyX7 : Nat → FieldType := fun k => match k with
  | _ => .array .int
theorem nmX7 : ∀ a, a < 1 → ∀ b, b < 1 → a ≠ b → (TX7 a).2.1 ≠ (TX7 b).2.1 := by decide +kernel
theorem tyX7_ok : ∀ k, k < 1 → parseFieldDescriptor (TX7 k).2.2.1 = some (tyX7 k) := by decide +kernel
abbrev cX7_init : ByteArray := prog_9_method_1_code
def yX7_init : MethodName := ⟨RX7, "<init>", "(I)V"⟩
abbrev cX7_at : ByteArray := prog_9_method_2_code
def yX7_at : MethodName := ⟨RX7, "at", "(I)I"⟩
abbrev cX7_put : ByteArray := prog_9_method_3_code
def yX7_put : MethodName := ⟨RX7, "put", "(II)V"⟩
abbrev cX7_fill : ByteArray := prog_9_method_4_code
def yX7_fill : MethodName := ⟨RX7, "fill", "(I)V"⟩
abbrev cX7_take : ByteArray := prog_9_method_5_code
def yX7_take : MethodName := ⟨RX7, "take", "(LPhiHall$Row;)V"⟩
def RX8 : String := "PhiHall$Runner"
def TX8 : u_T := fun k => match k with
  | 0 => ("PhiHall$Runner", "variables", "LPhiHall$Row;", true)
  | 1 => ("PhiHall$Runner", "held", "LPhiHall$Row;", true)
  | _ => ("PhiHall$Runner", "fresh", "LPhiHall$Row;", true)
def tyX8 : Nat → FieldType := fun k => match k with
  | 0 => .object "PhiHall$Row"
  | 1 => .object "PhiHall$Row"
  | _ => .object "PhiHall$Row"
theorem nmX8 : ∀ a, a < 3 → ∀ b, b < 3 → a ≠ b → (TX8 a).2.1 ≠ (TX8 b).2.1 := by decide +kernel
theorem tyX8_ok : ∀ k, k < 3 → parseFieldDescriptor (TX8 k).2.2.1 = some (tyX8 k) := by decide +kernel
abbrev cX8_init : ByteArray := prog_10_method_1_code
def yX8_init : MethodName := ⟨RX8, "<init>", "()V"⟩
abbrev cX8_walkBlocks : ByteArray := prog_10_method_2_code
def yX8_walkBlocks : MethodName := ⟨RX8, "walkBlocks", "(LPhiHall$Told;IILPhiHall$Tape;)V"⟩
abbrev cX8_doLines : ByteArray := prog_10_method_3_code
def yX8_doLines : MethodName := ⟨RX8, "doLines", "(LPhiHall$Told;ILPhiHall$Tape;)V"⟩
abbrev cX8_read : ByteArray := prog_10_method_4_code
def yX8_read : MethodName := ⟨RX8, "read", "(I)I"⟩
abbrev cX8_walkForm : ByteArray := prog_10_method_5_code
def yX8_walkForm : MethodName := ⟨RX8, "walkForm", "(LPhiHall$Form;IILPhiHall$Tape;)V"⟩
abbrev cX8_doPhis : ByteArray := prog_10_method_6_code
def yX8_doPhis : MethodName := ⟨RX8, "doPhis", "(LPhiHall$Form;II)V"⟩
abbrev cX8_doValues : ByteArray := prog_10_method_7_code
def yX8_doValues : MethodName := ⟨RX8, "doValues", "(LPhiHall$Form;ILPhiHall$Tape;)V"⟩
abbrev cX8_reckon : ByteArray := prog_10_method_8_code
def yX8_reckon : MethodName := ⟨RX8, "reckon", "(LPhiHall$Form;II)I"⟩
def RX9 : String := "PhiHall$Tape"
def TX9 : u_T := fun k => match k with
  | 0 => ("PhiHall$Tape", "kept", "LPhiHall$Row;", true)
  | 1 => ("PhiHall$Tape", "cells", "LPhiHall$Row;", true)
  | 2 => ("PhiHall$Tape", "isOn", "Z", false)
  | 3 => ("PhiHall$Tape", "ended", "I", false)
  | 4 => ("PhiHall$Tape", "returned", "I", false)
  | 5 => ("PhiHall$Tape", "count", "I", false)
  | 6 => ("PhiHall$Tape", "cost", "I", false)
  | _ => ("PhiHall$Tape", "ends", "I", false)
def tyX9 : Nat → FieldType := fun k => match k with
  | 0 => .object "PhiHall$Row"
  | 1 => .object "PhiHall$Row"
  | 2 => .boolean
  | 3 => .int
  | 4 => .int
  | 5 => .int
  | 6 => .int
  | _ => .int
theorem nmX9 : ∀ a, a < 8 → ∀ b, b < 8 → a ≠ b → (TX9 a).2.1 ≠ (TX9 b).2.1 := by decide +kernel
theorem tyX9_ok : ∀ k, k < 8 → parseFieldDescriptor (TX9 k).2.2.1 = some (tyX9 k) := by decide +kernel
abbrev cX9_init : ByteArray := prog_11_method_1_code
def yX9_init : MethodName := ⟨RX9, "<init>", "(I)V"⟩
abbrev cX9_begin : ByteArray := prog_11_method_2_code
def yX9_begin : MethodName := ⟨RX9, "begin", "()V"⟩
abbrev cX9_finish : ByteArray := prog_11_method_3_code
def yX9_finish : MethodName := ⟨RX9, "finish", "(I)V"⟩
abbrev cX9_act : ByteArray := prog_11_method_4_code
def yX9_act : MethodName := ⟨RX9, "act", "(III)I"⟩
abbrev cX9_leaveBy : ByteArray := prog_11_method_5_code
def yX9_leaveBy : MethodName := ⟨RX9, "leaveBy", "(II)I"⟩
abbrev cX9_isLike : ByteArray := prog_11_method_6_code
def yX9_isLike : MethodName := ⟨RX9, "isLike", "(LPhiHall$Tape;)Z"⟩
def RX10 : String := "PhiHall$Told"
def TX10 : u_T := fun k => match k with
  | 0 => ("PhiHall$Told", "lines", "LPhiHall$Row;", true)
  | 1 => ("PhiHall$Told", "kinds", "LPhiHall$Row;", true)
  | 2 => ("PhiHall$Told", "variables", "LPhiHall$Row;", true)
  | 3 => ("PhiHall$Told", "firsts", "LPhiHall$Row;", true)
  | 4 => ("PhiHall$Told", "seconds", "LPhiHall$Row;", true)
  | 5 => ("PhiHall$Told", "endKinds", "LPhiHall$Row;", true)
  | 6 => ("PhiHall$Told", "endOperands", "LPhiHall$Row;", true)
  | 7 => ("PhiHall$Told", "targets", "LPhiHall$Row;", true)
  | 8 => ("PhiHall$Told", "usedFirst", "LPhiHall$Row;", true)
  | 9 => ("PhiHall$Told", "setIn", "LPhiHall$Row;", true)
  | 10 => ("PhiHall$Told", "wanted", "LPhiHall$Row;", true)
  | 11 => ("PhiHall$Told", "flow", "LPhiHall$Flow;", true)
  | _ => ("PhiHall$Told", "blocks", "I", false)
def tyX10 : Nat → FieldType := fun k => match k with
  | 0 => .object "PhiHall$Row"
  | 1 => .object "PhiHall$Row"
  | 2 => .object "PhiHall$Row"
  | 3 => .object "PhiHall$Row"
  | 4 => .object "PhiHall$Row"
  | 5 => .object "PhiHall$Row"
  | 6 => .object "PhiHall$Row"
  | 7 => .object "PhiHall$Row"
  | 8 => .object "PhiHall$Row"
  | 9 => .object "PhiHall$Row"
  | 10 => .object "PhiHall$Row"
  | 11 => .object "PhiHall$Flow"
  | _ => .int
theorem nmX10 : ∀ a, a < 13 → ∀ b, b < 13 → a ≠ b → (TX10 a).2.1 ≠ (TX10 b).2.1 := by decide +kernel
theorem tyX10_ok : ∀ k, k < 13 → parseFieldDescriptor (TX10 k).2.2.1 = some (tyX10 k) := by decide +kernel
abbrev cX10_init : ByteArray := prog_12_method_1_code
def yX10_init : MethodName := ⟨RX10, "<init>", "()V"⟩
abbrev cX10_addBlock : ByteArray := prog_12_method_2_code
def yX10_addBlock : MethodName := ⟨RX10, "addBlock", "()I"⟩
abbrev cX10_addLine : ByteArray := prog_12_method_3_code
def yX10_addLine : MethodName := ⟨RX10, "addLine", "(IIIII)I"⟩
abbrev cX10_cutLine : ByteArray := prog_12_method_4_code
def yX10_cutLine : MethodName := ⟨RX10, "cutLine", "(I)I"⟩
abbrev cX10_putEnd : ByteArray := prog_12_method_5_code
def yX10_putEnd : MethodName := ⟨RX10, "putEnd", "(IIIII)I"⟩
abbrev cX10_allLines : ByteArray := prog_12_method_6_code
def yX10_allLines : MethodName := ⟨RX10, "allLines", "()I"⟩
abbrev cX10_reckon : ByteArray := prog_12_method_7_code
def yX10_reckon : MethodName := ⟨RX10, "reckon", "()V"⟩
abbrev cX10_readLines : ByteArray := prog_12_method_8_code
def yX10_readLines : MethodName := ⟨RX10, "readLines", "(I)V"⟩
abbrev cX10_reckonWanted : ByteArray := prog_12_method_9_code
def yX10_reckonWanted : MethodName := ⟨RX10, "reckonWanted", "()V"⟩
def RX11 : String := "PhiHall"
def TX11 : u_T := fun k => match k with
  | 0 => ("PhiHall", "told", "LPhiHall$Told;", true)
  | 1 => ("PhiHall", "made", "LPhiHall$Form;", true)
  | 2 => ("PhiHall", "trial", "LPhiHall$Form;", true)
  | 3 => ("PhiHall", "maker", "LPhiHall$Maker;", true)
  | 4 => ("PhiHall", "constants", "LPhiHall$Constants;", true)
  | 5 => ("PhiHall", "numbers", "LPhiHall$Numbers;", true)
  | 6 => ("PhiHall", "dead", "LPhiHall$Dead;", true)
  | 7 => ("PhiHall", "joiner", "LPhiHall$Joiner;", true)
  | 8 => ("PhiHall", "runner", "LPhiHall$Runner;", true)
  | 9 => ("PhiHall", "latest", "LPhiHall$Tape;", true)
  | 10 => ("PhiHall", "trialOfBlocks", "LPhiHall$Tape;", true)
  | 11 => ("PhiHall", "trialOfForm", "LPhiHall$Tape;", true)
  | 12 => ("PhiHall", "isMade", "Z", false)
  | 13 => ("PhiHall", "runs", "I", false)
  | _ => ("PhiHall", "costs", "J", false)
def tyX11 : Nat → FieldType := fun k => match k with
  | 0 => .object "PhiHall$Told"
  | 1 => .object "PhiHall$Form"
  | 2 => .object "PhiHall$Form"
  | 3 => .object "PhiHall$Maker"
  | 4 => .object "PhiHall$Constants"
  | 5 => .object "PhiHall$Numbers"
  | 6 => .object "PhiHall$Dead"
  | 7 => .object "PhiHall$Joiner"
  | 8 => .object "PhiHall$Runner"
  | 9 => .object "PhiHall$Tape"
  | 10 => .object "PhiHall$Tape"
  | 11 => .object "PhiHall$Tape"
  | 12 => .boolean
  | 13 => .int
  | _ => .long
theorem nmX11 : ∀ a, a < 15 → ∀ b, b < 15 → a ≠ b → (TX11 a).2.1 ≠ (TX11 b).2.1 := by decide +kernel
theorem tyX11_ok : ∀ k, k < 15 → parseFieldDescriptor (TX11 k).2.2.1 = some (tyX11 k) := by decide +kernel
abbrev cX11_init : ByteArray := prog_1_method_1_code
def yX11_init : MethodName := ⟨RX11, "<init>", "()V"⟩
abbrev cX11_block : ByteArray := prog_1_method_2_code
def yX11_block : MethodName := ⟨RX11, "block", "()I"⟩
abbrev cX11_line : ByteArray := prog_1_method_3_code
def yX11_line : MethodName := ⟨RX11, "line", "(IIIII)I"⟩
abbrev cX11_cut : ByteArray := prog_1_method_4_code
def yX11_cut : MethodName := ⟨RX11, "cut", "(I)I"⟩
abbrev cX11_end : ByteArray := prog_1_method_5_code
def yX11_end : MethodName := ⟨RX11, "end", "(IIIII)I"⟩
abbrev cX11_ofBlock : ByteArray := prog_1_method_6_code
def yX11_ofBlock : MethodName := ⟨RX11, "ofBlock", "(II)I"⟩
abbrev cX11_form : ByteArray := prog_1_method_7_code
def yX11_form : MethodName := ⟨RX11, "form", "()I"⟩
abbrev cX11_pass : ByteArray := prog_1_method_8_code
def yX11_pass : MethodName := ⟨RX11, "pass", "(I)I"⟩
abbrev cX11_ofPlace : ByteArray := prog_1_method_9_code
def yX11_ofPlace : MethodName := ⟨RX11, "ofPlace", "(II)I"⟩
abbrev cX11_valueAt : ByteArray := prog_1_method_10_code
def yX11_valueAt : MethodName := ⟨RX11, "valueAt", "(II)I"⟩
abbrev cX11_edge : ByteArray := prog_1_method_11_code
def yX11_edge : MethodName := ⟨RX11, "edge", "(II)I"⟩
abbrev cX11_ofValue : ByteArray := prog_1_method_12_code
def yX11_ofValue : MethodName := ⟨RX11, "ofValue", "(II)I"⟩
abbrev cX11_argument : ByteArray := prog_1_method_13_code
def yX11_argument : MethodName := ⟨RX11, "argument", "(II)I"⟩
abbrev cX11_number : ByteArray := prog_1_method_14_code
def yX11_number : MethodName := ⟨RX11, "number", "(II)I"⟩
abbrev cX11_run : ByteArray := prog_1_method_15_code
def yX11_run : MethodName := ⟨RX11, "run", "(II)I"⟩
abbrev cX11_runForm : ByteArray := prog_1_method_16_code
def yX11_runForm : MethodName := ⟨RX11, "runForm", "(II)I"⟩
abbrev cX11_ofRun : ByteArray := prog_1_method_17_code
def yX11_ofRun : MethodName := ⟨RX11, "ofRun", "(I)I"⟩
abbrev cX11_printed : ByteArray := prog_1_method_18_code
def yX11_printed : MethodName := ⟨RX11, "printed", "(I)I"⟩
abbrev cX11_cell : ByteArray := prog_1_method_19_code
def yX11_cell : MethodName := ⟨RX11, "cell", "(I)I"⟩
abbrev cX11_many : ByteArray := prog_1_method_20_code
def yX11_many : MethodName := ⟨RX11, "many", "(I)I"⟩
abbrev cX11_wouldGo : ByteArray := prog_1_method_22_code
def yX11_wouldGo : MethodName := ⟨RX11, "wouldGo", "(I)I"⟩
abbrev cX11_wouldCost : ByteArray := prog_1_method_23_code
def yX11_wouldCost : MethodName := ⟨RX11, "wouldCost", "(III)I"⟩
abbrev cX11_untilStill : ByteArray := prog_1_method_24_code
def yX11_untilStill : MethodName := ⟨RX11, "untilStill", "()I"⟩
abbrev cX11_isAlike : ByteArray := prog_1_method_25_code
def yX11_isAlike : MethodName := ⟨RX11, "isAlike", "(II)Z"⟩
abbrev cX11_digest : ByteArray := prog_1_method_26_code
def yX11_digest : MethodName := ⟨RX11, "digest", "()J"⟩
abbrev cX11_isTold : ByteArray := prog_1_method_27_code
def yX11_isTold : MethodName := ⟨RX11, "isTold", "(I)Z"⟩
abbrev cX11_isTarget : ByteArray := prog_1_method_28_code
def yX11_isTarget : MethodName := ⟨RX11, "isTarget", "(I)Z"⟩
abbrev cX11_isOperand : ByteArray := prog_1_method_29_code
def yX11_isOperand : MethodName := ⟨RX11, "isOperand", "(I)Z"⟩
abbrev cX11_isLine : ByteArray := prog_1_method_30_code
def yX11_isLine : MethodName := ⟨RX11, "isLine", "(IIII)Z"⟩
abbrev cX11_isEnd : ByteArray := prog_1_method_31_code
def yX11_isEnd : MethodName := ⟨RX11, "isEnd", "(IIII)Z"⟩
abbrev cX11_isPass : ByteArray := prog_1_method_32_code
def yX11_isPass : MethodName := ⟨RX11, "isPass", "(I)Z"⟩
abbrev cX11_isValue : ByteArray := prog_1_method_33_code
def yX11_isValue : MethodName := ⟨RX11, "isValue", "(I)Z"⟩
abbrev cX11_isArgument : ByteArray := prog_1_method_34_code
def yX11_isArgument : MethodName := ⟨RX11, "isArgument", "(II)Z"⟩
abbrev cX11_countRun : ByteArray := prog_1_method_35_code
def yX11_countRun : MethodName := ⟨RX11, "countRun", "()V"⟩
abbrev cX11_manyOfForm : ByteArray := prog_1_method_36_code
def yX11_manyOfForm : MethodName := ⟨RX11, "manyOfForm", "(I)I"⟩
abbrev cX11_passBehind : ByteArray := prog_1_method_37_code
def yX11_passBehind : MethodName := ⟨RX11, "passBehind", "(I)I"⟩
abbrev cX11_passOver : ByteArray := prog_1_method_38_code
def yX11_passOver : MethodName := ⟨RX11, "passOver", "(LPhiHall$Form;I)I"⟩
abbrev cX11_mixed : ByteArray := prog_1_method_39_code
def yX11_mixed : MethodName := ⟨RX11, "mixed", "(JJ)J"⟩
abbrev cX11_mixedWithBlocks : ByteArray := prog_1_method_40_code
def yX11_mixedWithBlocks : MethodName := ⟨RX11, "mixedWithBlocks", "(J)J"⟩
abbrev cX11_mixedWithRun : ByteArray := prog_1_method_41_code
def yX11_mixedWithRun : MethodName := ⟨RX11, "mixedWithRun", "(J)J"⟩
abbrev cX11_mixedWithPlace : ByteArray := prog_1_method_42_code
def yX11_mixedWithPlace : MethodName := ⟨RX11, "mixedWithPlace", "(JI)J"⟩
abbrev cX11_mixedWithValue : ByteArray := prog_1_method_43_code
def yX11_mixedWithValue : MethodName := ⟨RX11, "mixedWithValue", "(JI)J"⟩
abbrev cX11_bit : ByteArray := prog_1_method_44_code
def yX11_bit : MethodName := ⟨RX11, "bit", "(I)I"⟩
abbrev cX11_has : ByteArray := prog_1_method_45_code
def yX11_has : MethodName := ⟨RX11, "has", "(II)Z"⟩
abbrev cX11_sets : ByteArray := prog_1_method_46_code
def yX11_sets : MethodName := ⟨RX11, "sets", "(I)Z"⟩
abbrev cX11_isReckoning : ByteArray := prog_1_method_47_code
def yX11_isReckoning : MethodName := ⟨RX11, "isReckoning", "(I)Z"⟩
abbrev cX11_variableOf : ByteArray := prog_1_method_48_code
def yX11_variableOf : MethodName := ⟨RX11, "variableOf", "(I)I"⟩
abbrev cX11_fromOf : ByteArray := prog_1_method_49_code
def yX11_fromOf : MethodName := ⟨RX11, "fromOf", "(I)I"⟩
abbrev cX11_reckoned : ByteArray := prog_1_method_50_code
def yX11_reckoned : MethodName := ⟨RX11, "reckoned", "(III)I"⟩
abbrev cX11_costOf : ByteArray := prog_1_method_51_code
def yX11_costOf : MethodName := ⟨RX11, "costOf", "(I)I"⟩
def RX12 : String := "PhiHallLaw$Own"
def TX12 : u_T := fun k => match k with
  | 0 => ("PhiHallLaw$Own", "lines", "[[[I", true)
  | 1 => ("PhiHallLaw$Own", "size", "[I", true)
  | 2 => ("PhiHallLaw$Own", "ends", "[[I", true)
  | _ => ("PhiHallLaw$Own", "blocks", "I", false)
def tyX12 : Nat → FieldType := fun k => match k with
  | 0 => .array (.array (.array .int))
  | 1 => .array .int
  | 2 => .array (.array .int)
  | _ => .int
theorem nmX12 : ∀ a, a < 4 → ∀ b, b < 4 → a ≠ b → (TX12 a).2.1 ≠ (TX12 b).2.1 := by decide +kernel
theorem tyX12_ok : ∀ k, k < 4 → parseFieldDescriptor (TX12 k).2.2.1 = some (tyX12 k) := by decide +kernel
abbrev cX12_init : ByteArray := prog_14_method_1_code
def yX12_init : MethodName := ⟨RX12, "<init>", "()V"⟩
abbrev cX12_isLine : ByteArray := prog_14_method_2_code
def yX12_isLine : MethodName := ⟨RX12, "isLine", "(LPhiHall;IIIII)Z"⟩
abbrev cX12_isEnd : ByteArray := prog_14_method_3_code
def yX12_isEnd : MethodName := ⟨RX12, "isEnd", "(LPhiHall;IIIII)Z"⟩
abbrev cX12_operand : ByteArray := prog_14_method_4_code
def yX12_operand : MethodName := ⟨RX12, "operand", "(I)I"⟩
abbrev cX12_isDrawn : ByteArray := prog_14_method_5_code
def yX12_isDrawn : MethodName := ⟨RX12, "isDrawn", "(LPhiHall;II)Z"⟩
abbrev cX12_isTold : ByteArray := prog_14_method_6_code
def yX12_isTold : MethodName := ⟨RX12, "isTold", "(LPhiHall;[II)Z"⟩
def RX13 : String := "PhiHallLaw$Run"
def TX13 : u_T := fun k => match k with
  | _ => ("", "", "", false)
def tyX13 : Nat → FieldType := fun k => match k with
  | _ => .int
theorem nmX13 : ∀ a, a < 0 → ∀ b, b < 0 → a ≠ b → (TX13 a).2.1 ≠ (TX13 b).2.1 := by decide +kernel
theorem tyX13_ok : ∀ k, k < 0 → parseFieldDescriptor (TX13 k).2.2.1 = some (tyX13 k) := by decide +kernel
def RX14 : String := "PhiHallModel$Argument"
def TX14 : u_T := fun k => match k with
  | _ => ("", "", "", false)
def tyX14 : Nat → FieldType := fun k => match k with
  | _ => .int
theorem nmX14 : ∀ a, a < 0 → ∀ b, b < 0 → a ≠ b → (TX14 a).2.1 ≠ (TX14 b).2.1 := by decide +kernel
theorem tyX14_ok : ∀ k, k < 0 → parseFieldDescriptor (TX14 k).2.2.1 = some (tyX14 k) := by decide +kernel
def RX15 : String := "PhiHallModel$Block"
def TX15 : u_T := fun k => match k with
  | _ => ("", "", "", false)
def tyX15 : Nat → FieldType := fun k => match k with
  | _ => .int
theorem nmX15 : ∀ a, a < 0 → ∀ b, b < 0 → a ≠ b → (TX15 a).2.1 ≠ (TX15 b).2.1 := by decide +kernel
theorem tyX15_ok : ∀ k, k < 0 → parseFieldDescriptor (TX15 k).2.2.1 = some (tyX15 k) := by decide +kernel
def RX16 : String := "PhiHallModel$Form"
def TX16 : u_T := fun k => match k with
  | _ => ("", "", "", false)
def tyX16 : Nat → FieldType := fun k => match k with
  | _ => .int
theorem nmX16 : ∀ a, a < 0 → ∀ b, b < 0 → a ≠ b → (TX16 a).2.1 ≠ (TX16 b).2.1 := by decide +kernel
theorem tyX16_ok : ∀ k, k < 0 → parseFieldDescriptor (TX16 k).2.2.1 = some (tyX16 k) := by decide +kernel
def RX17 : String := "PhiHallModel$Place"
def TX17 : u_T := fun k => match k with
  | _ => ("", "", "", false)
def tyX17 : Nat → FieldType := fun k => match k with
  | _ => .int
theorem nmX17 : ∀ a, a < 0 → ∀ b, b < 0 → a ≠ b → (TX17 a).2.1 ≠ (TX17 b).2.1 := by decide +kernel
theorem tyX17_ok : ∀ k, k < 0 → parseFieldDescriptor (TX17 k).2.2.1 = some (tyX17 k) := by decide +kernel
def RX18 : String := "PhiHallModel$Run"
def TX18 : u_T := fun k => match k with
  | _ => ("", "", "", false)
def tyX18 : Nat → FieldType := fun k => match k with
  | _ => .int
theorem nmX18 : ∀ a, a < 0 → ∀ b, b < 0 → a ≠ b → (TX18 a).2.1 ≠ (TX18 b).2.1 := by decide +kernel
theorem tyX18_ok : ∀ k, k < 0 → parseFieldDescriptor (TX18 k).2.2.1 = some (tyX18 k) := by decide +kernel
def RX19 : String := "PhiHallModel$Value"
def TX19 : u_T := fun k => match k with
  | _ => ("", "", "", false)
def tyX19 : Nat → FieldType := fun k => match k with
  | _ => .int
theorem nmX19 : ∀ a, a < 0 → ∀ b, b < 0 → a ≠ b → (TX19 a).2.1 ≠ (TX19 b).2.1 := by decide +kernel
theorem tyX19_ok : ∀ k, k < 0 → parseFieldDescriptor (TX19 k).2.2.1 = some (tyX19 k) := by decide +kernel
def RX20 : String := "PhiHallModel"
def TX20 : u_T := fun k => match k with
  | _ => ("", "", "", false)
def tyX20 : Nat → FieldType := fun k => match k with
  | _ => .int
theorem nmX20 : ∀ a, a < 0 → ∀ b, b < 0 → a ≠ b → (TX20 a).2.1 ≠ (TX20 b).2.1 := by decide +kernel
theorem tyX20_ok : ∀ k, k < 0 → parseFieldDescriptor (TX20 k).2.2.1 = some (tyX20 k) := by decide +kernel
def RJx145de : String := "java/io/Serializable"
def RJ6 : String := "java/lang/Integer"
abbrev cJ6_bitCount_0f7a4 : ByteArray := prog_27_method_49_code
def yJ6_bitCount_0f7a4 : MethodName := ⟨RJ6, "bitCount", "(I)I"⟩
def RJ9 : String := "java/lang/Math"
abbrev cJ9_floorMod_7cf53 : ByteArray := prog_28_method_50_code
def yJ9_floorMod_7cf53 : MethodName := ⟨RJ9, "floorMod", "(II)I"⟩
abbrev cJ9_min_7cf53 : ByteArray := prog_28_method_69_code
def yJ9_min_7cf53 : MethodName := ⟨RJ9, "min", "(II)I"⟩
def RJ0 : String := "java/lang/String"
def RJ10 : String := "java/lang/System"
def RJ7 : String := "java/util/Arrays"
abbrev cJ7_fill_53178 : ByteArray := prog_33_method_103_code
def yJ7_fill_53178 : MethodName := ⟨RJ7, "fill", "([II)V"⟩
def RL : String := "PhiHallLaw"
abbrev cL_below : ByteArray := method_2_code
def yL_below : MethodName := ⟨RL, "below", "(II)I"⟩
abbrev cL_cell : ByteArray := method_3_code
def yL_cell : MethodName := ⟨RL, "cell", "([II)I"⟩
abbrev cL_law : ByteArray := code
def yL_law : MethodName := ⟨RL, "law", "([I)Z"⟩
abbrev cL_isCut : ByteArray := method_5_code
def yL_isCut : MethodName := ⟨RL, "isCut", "(LPhiHall;I)Z"⟩
abbrev cL_isRunRight : ByteArray := method_6_code
def yL_isRunRight : MethodName := ⟨RL, "isRunRight", "(LPhiHall;I)Z"⟩
abbrev cL_areBlocksRight : ByteArray := method_7_code
def yL_areBlocksRight : MethodName := ⟨RL, "areBlocksRight", "(LPhiHall;I)Z"⟩
abbrev cL_reachedSet : ByteArray := method_8_code
def yL_reachedSet : MethodName := ⟨RL, "reachedSet", "(LPhiHall;I)I"⟩
abbrev cL_isFormRight : ByteArray := method_9_code
def yL_isFormRight : MethodName := ⟨RL, "isFormRight", "(LPhiHall;I)Z"⟩
abbrev vwCl : List vw_C := [(RX0, TX0, 5), (RX1, TX1, 2), (RX2, TX2, 5), (RX3, TX3, 19), (RX4, TX4, 0), (RX5, TX5, 3), (RX6, TX6, 1), (RX7, TX7, 1), (RX8, TX8, 3), (RX9, TX9, 8), (RX10, TX10, 13), (RX11, TX11, 15), (RX12, TX12, 4)]
end
section
/-! THE MINI MACHINE, part 1: its words. A cell is a tag and its contents: below 1000 an object of that class of vwCl, by its fields; 1000 an int array; 1999 the law's own script. A reference is the number of a cell; ρ gives its address. -/
abbrev mmC : Type := Nat × List Value
abbrev mmI : Type := Nat × Instr × Nat × List Nat
abbrev mmM : Type := MethodName × ByteArray × Nat × Option FieldType × Nat × Nat × List mmI
def mmv (r : Nat → Nat) : Value → Value
  | .ref i => .ref (r i)
  | v => v
def mmGet (lv : List (Option Value)) (i : Nat) : Option Value := (lv[i]?).getD none
def mmWide : Option Value → Bool
  | some (.long _) => true
  | some (.double _) => true
  | _ => false
def mmOk (lv : List (Option Value)) : Nat → Bool
  | 0 => true
  | j + 1 => !mmWide (mmGet lv j)
def mmSet1 (lv : List (Option Value)) (i : Nat) (v : Value) : Option (List (Option Value)) :=
  if decide (i < lv.length) && mmOk lv i then some (lv.set i (some v)) else none
def mmSet2 (lv : List (Option Value)) (i : Nat) (v : Value) : Option (List (Option Value)) :=
  if decide (i + 1 < lv.length) && mmOk lv i then some ((lv.set i (some v)).set (i + 1) none) else none
def mmSlots : List Value → List (Option Value)
  | [] => []
  | v :: vs => if v.category = 2 then some v :: none :: mmSlots vs else some v :: mmSlots vs
def mmEntry (n : Nat) (vs : List Value) : List (Option Value) := mmSlots vs ++ List.replicate (n - (mmSlots vs).length) none
def mmWords (st : List Value) : Nat := (st.map fun v => v.category).sum
def mmFetch : List mmI → Nat → Option (Instr × Nat × List Nat)
  | [], _ => none
  | q :: t, pc => bif Nat.beq q.1 pc then some q.2 else mmFetch t pc
/-- what a field of a kind takes: 0 int, 1 boolean, 2 long, 3 a reference -/
def mmFit : Nat → Value → Bool
  | 0, .int _ => true
  | 1, .int x => decide (x = 0) || decide (x = 1)
  | 2, .long _ => true
  | 3, .ref _ => true
  | 3, .null => true
  | _, _ => false
def mmDefs : List (List Value) := vwCl.map fun q => (List.range q.2.2).map fun k => match parseFieldDescriptor (q.2.1 k).2.2.1 with
  | some ty => defaultValue ty
  | none => .null
/-- how many cells are read only: the script -/
def mmRo : Nat := 1
abbrev mmSt : Type := Nat × List (Option Value) × List Value × List mmC
/-- an instruction that neither branches nor calls nor returns -/
def mmS (ins : Instr) (ax : List Nat) (pc : Nat) (lv : List (Option Value)) (st : List Value) (h : List mmC) : Option mmSt :=
  match ins with
  | .iconst k => some (pc + 1, lv, .int (Int32.ofInt k) :: st, h)
  | .bipush k => some (pc + 2, lv, .int (Int8.ofInt k).toInt32 :: st, h)
  | .sipush k => some (pc + 3, lv, .int (Int16.ofInt k).toInt32 :: st, h)
  | .ldc _ => match ax with
    | b :: _ => some (pc + 2, lv, .int (Int32.ofNat b) :: st, h)
    | _ => none
  | .ldc_w _ => match ax with
    | b :: _ => some (pc + 3, lv, .int (Int32.ofNat b) :: st, h)
    | _ => none
  | .ldc2_w _ => match ax with
    | b :: _ => some (pc + 3, lv, .long (Int64.ofNat b) :: st, h)
    | _ => none
  | .iload_n k => match mmGet lv k with
    | some (.int x) => some (pc + 1, lv, .int x :: st, h)
    | _ => none
  | .iload k => match mmGet lv k with
    | some (.int x) => some (pc + 2, lv, .int x :: st, h)
    | _ => none
  | .lload_n k => match mmGet lv k with
    | some (.long x) => some (pc + 1, lv, .long x :: st, h)
    | _ => none
  | .lload k => match mmGet lv k with
    | some (.long x) => some (pc + 2, lv, .long x :: st, h)
    | _ => none
  | .aload_n k => match mmGet lv k with
    | some (.ref x) => some (pc + 1, lv, .ref x :: st, h)
    | _ => none
  | .aload k => match mmGet lv k with
    | some (.ref x) => some (pc + 2, lv, .ref x :: st, h)
    | _ => none
  | .istore_n k => match st with
    | .int x :: r => (mmSet1 lv k (.int x)).map fun lv' => (pc + 1, lv', r, h)
    | _ => none
  | .istore k => match st with
    | .int x :: r => (mmSet1 lv k (.int x)).map fun lv' => (pc + 2, lv', r, h)
    | _ => none
  | .lstore_n k => match st with
    | .long x :: r => (mmSet2 lv k (.long x)).map fun lv' => (pc + 1, lv', r, h)
    | _ => none
  | .lstore k => match st with
    | .long x :: r => (mmSet2 lv k (.long x)).map fun lv' => (pc + 2, lv', r, h)
    | _ => none
  | .astore_n k => match st with
    | .ref x :: r => (mmSet1 lv k (.ref x)).map fun lv' => (pc + 1, lv', r, h)
    | _ => none
  | .astore k => match st with
    | .ref x :: r => (mmSet1 lv k (.ref x)).map fun lv' => (pc + 2, lv', r, h)
    | _ => none
  | .iinc k n => match mmGet lv k with
    | some (.int x) => (mmSet1 lv k (.int (x + Int32.ofInt n))).map fun lv' => (pc + 3, lv', st, h)
    | _ => none
  | .iadd => match st with
    | .int y :: .int x :: r => some (pc + 1, lv, .int (x + y) :: r, h)
    | _ => none
  | .isub => match st with
    | .int y :: .int x :: r => some (pc + 1, lv, .int (x - y) :: r, h)
    | _ => none
  | .imul => match st with
    | .int y :: .int x :: r => some (pc + 1, lv, .int (x * y) :: r, h)
    | _ => none
  | .iand => match st with
    | .int y :: .int x :: r => some (pc + 1, lv, .int (x &&& y) :: r, h)
    | _ => none
  | .ior => match st with
    | .int y :: .int x :: r => some (pc + 1, lv, .int (x ||| y) :: r, h)
    | _ => none
  | .ixor => match st with
    | .int y :: .int x :: r => some (pc + 1, lv, .int (x ^^^ y) :: r, h)
    | _ => none
  | .ishl => match st with
    | .int y :: .int x :: r => some (pc + 1, lv, .int (x <<< (y &&& 31)) :: r, h)
    | _ => none
  | .ishr => match st with
    | .int y :: .int x :: r => some (pc + 1, lv, .int (x >>> (y &&& 31)) :: r, h)
    | _ => none
  | .iushr => match st with
    | .int y :: .int x :: r => some (pc + 1, lv, .int (x.toUInt32 >>> (y.toUInt32 &&& Int32.toUInt32 31)).toInt32 :: r, h)
    | _ => none
  | .idiv => match st with
    | .int y :: .int x :: r => if y = 0 then none else some (pc + 1, lv, .int (x / y) :: r, h)
    | _ => none
  | .irem => match st with
    | .int y :: .int x :: r => if y = 0 then none else some (pc + 1, lv, .int (x - x / y * y) :: r, h)
    | _ => none
  | .i2l => match st with
    | .int x :: r => some (pc + 1, lv, .long x.toInt64 :: r, h)
    | _ => none
  | .ladd => match st with
    | .long y :: .long x :: r => some (pc + 1, lv, .long (x + y) :: r, h)
    | _ => none
  | .lmul => match st with
    | .long y :: .long x :: r => some (pc + 1, lv, .long (x * y) :: r, h)
    | _ => none
  | .lcmp => match st with
    | .long y :: .long x :: r => some (pc + 1, lv, .int (lg_cmp x y) :: r, h)
    | _ => none
  | .dup => match st with
    | .int x :: r => some (pc + 1, lv, .int x :: .int x :: r, h)
    | .ref x :: r => some (pc + 1, lv, .ref x :: .ref x :: r, h)
    | _ => none
  | .dup2 => match st with
    | .int y :: .ref x :: r => some (pc + 1, lv, .int y :: .ref x :: .int y :: .ref x :: r, h)
    | _ => none
  | .pop => match st with
    | .int _ :: r => some (pc + 1, lv, r, h)
    | .ref _ :: r => some (pc + 1, lv, r, h)
    | _ => none
  | .getfield _ => match st, ax with
    | .ref a :: r, ci :: k :: _ => match h[a]? with
      | some c => if c.1 = ci ∧ ci < 1000 then (c.2[k]?).map fun v => (pc + 3, lv, v :: r, h) else none
      | none => none
    | _, _ => none
  | .putfield _ => match st, ax with
    | v :: .ref a :: r, ci :: k :: tc :: _ => match h[a]? with
      | some c => if c.1 = ci ∧ ci < 1000 ∧ k < c.2.length ∧ mmFit tc v = true ∧ mmRo ≤ a then some (pc + 3, lv, r, h.set a (ci, c.2.set k v)) else none
      | none => none
    | _, _ => none
  | .iaload => match st with
    | .int j :: .ref a :: r => match h[a]? with
      | some c => if (c.1 = 1000 ∨ c.1 = 1999) ∧ ¬ j < 0 then match c.2[j.toNatClampNeg]? with
          | some (.int x) => some (pc + 1, lv, .int x :: r, h)
          | _ => none
        else none
      | none => none
    | _ => none
  | .iastore => match st with
    | .int x :: .int j :: .ref a :: r => match h[a]? with
      | some c => if c.1 = 1000 ∧ ¬ j < 0 ∧ j.toNatClampNeg < c.2.length ∧ mmRo ≤ a then some (pc + 1, lv, r, h.set a (1000, c.2.set j.toNatClampNeg (.int x))) else none
      | none => none
    | _ => none
  | .arraylength => match st with
    | .ref a :: r => match h[a]? with
      | some c => if c.1 = 1000 ∨ c.1 = 1999 then some (pc + 1, lv, .int (nI c.2.length) :: r, h) else none
      | none => none
    | _ => none
  | .newarray .int => match st with
    | .int n :: r => if ¬ n < 0 ∧ n.toNatClampNeg ≤ 100000 then some (pc + 2, lv, .ref h.length :: r, h ++ [(1000, List.replicate n.toNatClampNeg (.int 0))]) else none
    | _ => none
  | .new _ => match ax with
    | ci :: _ => match mmDefs[ci]? with
      | some fs => if ci < 1000 then some (pc + 3, lv, .ref h.length :: st, h ++ [(ci, fs)]) else none
      | none => none
    | _ => none
  | _ => none
/-- System.arraycopy over int arrays -/
def mmCpy (xs ys : List Value) (sp dp n : Nat) : List Value := ys.take dp ++ ((xs.drop sp).take n ++ ys.drop (dp + n))
def mmIsI : Value → Bool
  | .int _ => true
  | _ => false
def mmCopy (st : List Value) (h : List mmC) : Option (List Value × List mmC) :=
  match st with
  | .int n :: .int dp :: .ref b :: .int sp :: .ref a :: r => match h[a]?, h[b]? with
    | some ca, some cb => if ca.1 = 1000 ∧ cb.1 = 1000 ∧ ¬ sp < 0 ∧ ¬ dp < 0 ∧ ¬ n < 0 ∧ sp.toNatClampNeg + n.toNatClampNeg ≤ ca.2.length ∧ dp.toNatClampNeg + n.toNatClampNeg ≤ cb.2.length ∧ ca.2.all mmIsI = true ∧ mmWords r ≤ 8 ∧ mmRo ≤ b then
        some (r, h.set b (1000, mmCpy ca.2 cb.2 sp.toNatClampNeg dp.toNatClampNeg n.toNatClampNeg)) else none
    | _, _ => none
  | _ => none
/-- the arguments of a call, and what stays on the stack: 'kd y k ci ..': 0 a method of the object's class, 1 the same of a nest mate, 2 a static one, 3 a nest mate's, 4 a constructor, 5 a nest mate's; the method's number; how many arguments, the object with them; the object's class -/
def mmCall (PT : List mmM) (ax : List Nat) (st : List Value) (h : List mmC) : Option (mmM × List Value × List Value) :=
  match ax with
  | kd :: y :: k :: ci :: _ => match PT[y]? with
    | none => none
    | some M =>
      if (st.take k).length = k ∧ mmWords (st.drop k) ≤ 8 ∧ (mmSlots (st.take k).reverse).length ≤ M.2.2.1 then
        if kd = 2 ∨ kd = 3 then some (M, (st.take k).reverse, st.drop k)
        else match (st.take k).reverse with
          | .ref a :: _ => match h[a]? with
            | some c => if c.1 = ci ∧ ci < 1000 then some (M, (st.take k).reverse, st.drop k) else none
            | none => none
          | _ => none
      else none
  | _ => none
def mmIf : ClassFile.Cond → Int32 → Bool
  | .eq, x => decide (x = 0)
  | .ne, x => decide (¬ x = 0)
  | .lt, x => decide (x < 0)
  | .ge, x => decide (0 ≤ x)
  | .gt, x => decide (0 < x)
  | .le, x => decide (x ≤ 0)
def mmIc : ClassFile.Cond → Int32 → Int32 → Bool
  | .eq, x, y => decide (x = y)
  | .ne, x, y => decide (¬ x = y)
  | .lt, x, y => decide (x < y)
  | .ge, x, y => decide (y ≤ x)
  | .gt, x, y => decide (y < x)
  | .le, x, y => decide (x ≤ y)
/-- the machine: at most n steps of the method with the table t from pc on; what it answers, and the cells behind it -/
def mx (PT : List mmM) : Nat → List mmI → Nat → List (Option Value) → List Value → List mmC → Option (Option Value × List mmC)
  | 0, _, _, _, _, _ => none
  | n + 1, t, pc, lv, st, h =>
    match mmFetch t pc with
    | none => none
    | some (ins, _, ax) =>
      match ins with
      | .ifCond cd _ => match st, ax with
        | .int x :: r, tg :: _ => if mmIf cd x = true then mx PT n t tg lv r h else mx PT n t (pc + 3) lv r h
        | _, _ => none
      | .if_icmp cd _ => match st, ax with
        | .int y :: .int x :: r, tg :: _ => if mmIc cd x y = true then mx PT n t tg lv r h else mx PT n t (pc + 3) lv r h
        | _, _ => none
      | .goto _ => match ax with
        | tg :: _ => mx PT n t tg lv st h
        | _ => none
      | .tableswitch _ lo hi _ => match st, ax with
        | .int x :: r, df :: tgs => if x.toInt < lo ∨ hi < x.toInt then mx PT n t df lv r h else match tgs[(x.toInt - lo).toNat]? with
          | some tg => mx PT n t tg lv r h
          | none => none
        | _, _ => none
      | .ireturn => match st, ax with
        | [.int x], [] => some (some (.int x), h)
        | [.int x], [_] => if x = 0 ∨ x = 1 then some (some (.int x), h) else none
        | _, _ => none
      | .lreturn => match st with
        | [.long x] => some (some (.long x), h)
        | _ => none
      | .return_ => match st with
        | [] => some (none, h)
        | _ => none
      | .invokevirtual _ => match mmCall PT ax st h with
        | none => none
        | some (M, as, r) => match mx PT n M.2.2.2.2.2.2 0 (mmEntry M.2.2.1 as) [] h with
          | none => none
          | some (v, h') => mx PT n t (pc + 3) lv (v.toList ++ r) h'
      | .invokestatic _ => match ax with
        | [8, _, _] => match mmCopy st h with
          | some (r, h') => mx PT n t (pc + 3) lv r h'
          | none => none
        | _ => match mmCall PT ax st h with
          | none => none
          | some (M, as, r) => match mx PT n M.2.2.2.2.2.2 0 (mmEntry M.2.2.1 as) [] h with
            | none => none
            | some (v, h') => mx PT n t (pc + 3) lv (v.toList ++ r) h'
      | .invokespecial _ => match ax with
        | [9, _, _] => match st with
          | .ref _ :: r => if mmWords r ≤ 8 then mx PT n t (pc + 3) lv r h else none
          | _ => none
        | _ => match mmCall PT ax st h with
          | none => none
          | some (M, as, r) => match mx PT n M.2.2.2.2.2.2 0 (mmEntry M.2.2.1 as) [] h with
            | none => none
            | some (v, h') => mx PT n t (pc + 3) lv (v.toList ++ r) h'
      | _ => match mmS ins ax pc lv st h with
        | some (pc', lv', st', h') => mx PT n t pc' lv' st' h'
        | none => none
end
section
/-! THE MINI MACHINE, part 2: what its cells and locals are on the machine -/
def mmV (r : Nat → Nat) (xs : List Value) (k : Nat) : Value := mmv r (xs.getD k .null)
def mmAt (D : va_G) (cA : (Nat → ClassId) × Cell) (r : Nat → Nat) (H : Heap) (a : Nat) (c : mmC) : Prop :=
  (c.1 < 1000 → ∃ q : vw_C, vwCl[c.1]? = some q ∧ q.2.2 = c.2.length ∧ t_OB a (D.1 c.1) q.2.2 (D.2 c.1) H (mmV r c.2)) ∧
  (¬ c.1 < 1000 → c.1 ≠ 1999 → H[a]? = some (arrV (cA.1 c.1) c.2.length (mmV r c.2))) ∧
  (c.1 = 1999 → H[a]? = some cA.2 ∧ c.2.length = cA.2.slots.size ∧ ∀ j, j < c.2.length → cA.2.slots[j]? = some (mmV r c.2 j))
def mmW (D : va_G) (cA : (Nat → ClassId) × Cell) (r : Nat → Nat) (h : List mmC) (H : Heap) : Prop :=
  (∀ (i : Nat) (c : mmC), h[i]? = some c → mmAt D cA r H (r i) c) ∧ (∀ i j : Nat, i < h.length → j < h.length → r i = r j → i = j) ∧ ∀ j : Nat, h.length ≤ j → r j + h.length = H.size + j
/-- which cells a method may change: those that were there for it, and new ones -/
def mmA (r : Nat → Nat) (h : List mmC) : Nat → Prop := fun q => (∃ i : Nat, mmRo ≤ i ∧ i < h.length ∧ q = r i) ∨ r h.length ≤ q
def mmSl (h : List mmC) : Nat := (h.map fun c => c.2.length).sum
def mmLs (r : Nat → Nat) (ls : Array Slot) (lv : List (Option Value)) : Prop :=
  lv_wf ls ∧ ls.size = lv.length ∧ ∀ (i : Nat) (v : Value), mmGet lv i = some v → ls[i]? = some (.val (mmv r v))
theorem mmv_cat (r : Nat → Nat) (v : Value) : (mmv r v).category = v.category := by cases v <;> rfl
theorem mmAt.lt {D : va_G} {cA : (Nat → ClassId) × Cell} {r : Nat → Nat} {H : Heap} {a : Nat} {c : mmC} (h : mmAt D cA r H a c) : a < H.size := by
  by_cases hc : c.1 < 1000
  · obtain ⟨q, -, -, cell, h1, -⟩ := h.1 hc
    exact (Array.getElem?_eq_some_iff.mp h1).1
  · by_cases h9 : c.1 = 1999
    · exact (Array.getElem?_eq_some_iff.mp (h.2.2 h9).1).1
    · exact (Array.getElem?_eq_some_iff.mp (h.2.1 hc h9)).1
theorem mmAt.kept {D : va_G} {cA : (Nat → ClassId) × Cell} {r : Nat → Nat} {H H1 : Heap} {a : Nat} {c : mmC} (h : mmAt D cA r H a c) (hq : H1[a]? = H[a]?) : mmAt D cA r H1 a c :=
  ⟨fun hc => by obtain ⟨q, h1, h2, h3⟩ := h.1 hc; exact ⟨q, h1, h2, h3.kept hq⟩, fun hc h9 => by rw [hq]; exact h.2.1 hc h9, fun h9 => by rw [hq]; exact h.2.2 h9⟩
theorem mmW.base {D : va_G} {cA : (Nat → ClassId) × Cell} {r : Nat → Nat} {h : List mmC} {H : Heap} (w : mmW D cA r h H) : r h.length = H.size := by
  have := w.2.2 h.length (Nat.le_refl _)
  omega
theorem mmW.set {D : va_G} {cA : (Nat → ClassId) × Cell} {r : Nat → Nat} {h : List mmC} {H H1 : Heap} {i : Nat} {c' : mmC} (w : mmW D cA r h H) (hi : i < h.length) (z : H1.size = H.size) (oq : ∀ q : Nat, q ≠ r i → H1[q]? = H[q]?) (hc : mmAt D cA r H1 (r i) c') : mmW D cA r (h.set i c') H1 := by
  refine ⟨fun j c hj => ?_, fun a b ha hb => ?_, fun j hj => ?_⟩
  · by_cases hij : i = j
    · subst hij
      rw [List.getElem?_set_self hi] at hj
      cases hj
      exact hc
    · rw [List.getElem?_set_ne hij] at hj
      refine (w.1 j c hj).kept (oq _ fun e => ?_)
      exact hij (w.2.1 j i (List.getElem?_eq_some_iff.mp hj).1 hi e).symm
  · rw [List.length_set] at ha hb
    exact w.2.1 a b ha hb
  · rw [List.length_set] at hj ⊢
    rw [z]
    exact w.2.2 j hj
theorem mmW.push {D : va_G} {cA : (Nat → ClassId) × Cell} {r : Nat → Nat} {h : List mmC} {H H1 : Heap} {c : mmC} (w : mmW D cA r h H) (z : H1.size = H.size + 1) (oq : ∀ q : Nat, q < H.size → H1[q]? = H[q]?) (hc : mmAt D cA r H1 H.size c) : mmW D cA r (h ++ [c]) H1 := by
  have hb := w.base
  have hlt : ∀ i, i < h.length → r i < H.size := fun i hi => by
    obtain ⟨c0, h0⟩ : ∃ c0, h[i]? = some c0 := ⟨_, List.getElem?_eq_getElem hi⟩
    exact (w.1 i c0 h0).lt
  refine ⟨fun j c0 hj => ?_, fun a b ha hb2 e => ?_, fun j hj => ?_⟩
  · by_cases hjl : j < h.length
    · rw [List.getElem?_append_left hjl] at hj
      exact (w.1 j c0 hj).kept (oq _ (hlt j hjl))
    · have hlen := (List.getElem?_eq_some_iff.mp hj).1
      simp only [List.length_append, List.length_cons, List.length_nil] at hlen
      have hje : j = h.length := by omega
      subst hje
      rw [List.getElem?_append_right (Nat.le_refl _), Nat.sub_self] at hj
      cases hj
      rw [hb]
      exact hc
  · simp only [List.length_append, List.length_cons, List.length_nil] at ha hb2
    by_cases h1 : a < h.length <;> by_cases h2 : b < h.length
    · exact w.2.1 a b h1 h2 e
    · have : b = h.length := by omega
      subst this
      have := hlt a h1
      omega
    · have : a = h.length := by omega
      subst this
      have := hlt b h2
      omega
    · omega
  · simp only [List.length_append, List.length_cons, List.length_nil] at hj ⊢
    have := w.2.2 j (by omega)
    omega
theorem mmA.of {r : Nat → Nat} {h0 : List mmC} {n : Nat} (hb : ∀ j : Nat, h0.length ≤ j → r j + h0.length = n + j) {i : Nat} (ho : mmRo ≤ i) : mmA r h0 (r i) := by
  by_cases hi : i < h0.length
  · exact Or.inl ⟨i, ho, hi, rfl⟩
  · have h1 := hb i (by omega)
    have h2 := hb h0.length (Nat.le_refl _)
    exact Or.inr (by omega)
theorem mmSl_set {h : List mmC} {i : Nat} {c c' : mmC} (hi : h[i]? = some c) (hl : c'.2.length = c.2.length) : mmSl (h.set i c') = mmSl h := by
  induction h generalizing i with
  | nil => simp at hi
  | cons a t ih =>
    cases i with
    | zero =>
      simp at hi
      subst hi
      simp [mmSl, hl]
    | succ i =>
      simp at hi
      have := ih hi
      simp only [mmSl, List.set_cons_succ, List.map_cons, List.sum_cons] at this ⊢
      omega
theorem mmSl_push (h : List mmC) (c : mmC) : mmSl (h ++ [c]) = mmSl h + c.2.length := by simp [mmSl]
theorem mmGet_lt {lv : List (Option Value)} {i : Nat} {v : Value} (h : mmGet lv i = some v) : i < lv.length := by
  unfold mmGet at h
  by_cases hi : i < lv.length
  · exact hi
  · rw [List.getElem?_eq_none (by omega)] at h
    cases h
theorem mmGet_set {lv : List (Option Value)} {i j : Nat} {o : Option Value} : mmGet (lv.set i o) j = if i = j ∧ i < lv.length then o else mmGet lv j := by
  unfold mmGet
  rw [List.getElem?_set]
  by_cases hij : i = j
  · subst hij
    by_cases hl : i < lv.length
    · simp [hl]
    · simp [hl, List.getElem?_eq_none (Nat.not_lt.mp hl)]
  · simp [hij]
/-- the locals as the kit has them -/
def mmKit (r : Nat → Nat) (lv : List (Option Value)) : List (Nat × Value) := (List.range lv.length).filterMap fun i => (mmGet lv i).map fun v => (i, mmv r v)
theorem mmKit_mem {r : Nat → Nat} {lv : List (Option Value)} {q : Nat × Value} : q ∈ mmKit r lv ↔ ∃ v, mmGet lv q.1 = some v ∧ q.2 = mmv r v := by
  unfold mmKit
  rw [List.mem_filterMap]
  constructor
  · rintro ⟨i, -, hi⟩
    cases hv : mmGet lv i with
    | none => rw [hv] at hi; cases hi
    | some v =>
      rw [hv] at hi
      cases hi
      exact ⟨v, hv, rfl⟩
  · rintro ⟨v, h1, h2⟩
    refine ⟨q.1, List.mem_range.mpr (mmGet_lt h1), ?_⟩
    rw [h1]
    exact congrArg some (Prod.ext rfl h2.symm)
theorem mmLs.kit {r : Nat → Nat} {ls : Array Slot} {lv : List (Option Value)} (h : mmLs r ls lv) : lv_has ls lv.length (mmKit r lv) := by
  refine ⟨h.2.1, h.1, fun q hq => ?_⟩
  obtain ⟨v, h1, h2⟩ := mmKit_mem.mp hq
  rw [h2]
  exact h.2.2 _ _ h1
theorem mmLs.at {r : Nat → Nat} {ls : Array Slot} {lv : List (Option Value)} (h : mmLs r ls lv) {i : Nat} {v : Value} (hv : mmGet lv i = some v) : ls[i]? = some (.val (mmv r v)) := h.2.2 i v hv
theorem mmLs.set1 {r : Nat → Nat} {ls : Array Slot} {lv lv' : List (Option Value)} {i : Nat} {v : Value} (hs : mmSet1 lv i v = some lv')
    (h : lv_has ls lv.length ((i, mmv r v) :: (mmKit r lv).filter (fun q => !(q.1 == i) && !(q.1 + 1 == i && q.2.category == 2)))) : mmLs r ls lv' := by
  unfold mmSet1 at hs
  split at hs
  · rename_i hc
    cases hs
    rw [Bool.and_eq_true, decide_eq_true_eq] at hc
    refine ⟨h.2.1, by rw [List.length_set]; exact h.1, fun j w hw => ?_⟩
    rw [mmGet_set] at hw
    split at hw
    · rename_i hij
      cases hw
      rw [← hij.1]
      exact h.2.2 (i, mmv r v) List.mem_cons_self
    · rename_i hij
      have hne : j ≠ i := fun e => hij ⟨e.symm, hc.1⟩
      refine h.2.2 (j, mmv r w) (List.mem_cons_of_mem _ (List.mem_filter.mpr ⟨mmKit_mem.mpr ⟨w, hw, rfl⟩, ?_⟩))
      have h1 : (j == i) = false := by simp [hne]
      have h2 : (j + 1 == i && (mmv r w).category == 2) = false := by
        by_cases hj : j + 1 = i
        · subst hj
          have h3 := hc.2
          simp only [mmOk, hw] at h3
          rw [mmv_cat]
          cases w <;> simp_all [mmWide, Value.category]
        · simp [hj]
      simp [h1, h2]
  · cases hs
theorem mmLs.set2 {r : Nat → Nat} {ls : Array Slot} {lv lv' : List (Option Value)} {i : Nat} {v : Value} (hs : mmSet2 lv i v = some lv')
    (h : lv_has ls lv.length ((i, mmv r v) :: (mmKit r lv).filter (fun q => !(q.1 == i) && (!(q.1 == i + 1) && !(q.1 + 1 == i && q.2.category == 2))))) : mmLs r ls lv' := by
  unfold mmSet2 at hs
  split at hs
  · rename_i hc
    cases hs
    rw [Bool.and_eq_true, decide_eq_true_eq] at hc
    refine ⟨h.2.1, by rw [List.length_set, List.length_set]; exact h.1, fun j w hw => ?_⟩
    rw [mmGet_set] at hw
    split at hw
    · cases hw
    rename_i hij1
    have hne1 : j ≠ i + 1 := fun e => hij1 ⟨e.symm, by rw [List.length_set]; exact hc.1⟩
    rw [mmGet_set] at hw
    split at hw
    · rename_i hij
      cases hw
      rw [← hij.1]
      exact h.2.2 (i, mmv r v) List.mem_cons_self
    · rename_i hij
      have hne : j ≠ i := fun e => hij ⟨e.symm, by omega⟩
      refine h.2.2 (j, mmv r w) (List.mem_cons_of_mem _ (List.mem_filter.mpr ⟨mmKit_mem.mpr ⟨w, hw, rfl⟩, ?_⟩))
      have h1 : (j == i) = false := by simp [hne]
      have h2 : (j == i + 1) = false := by simp [hne1]
      have h3 : (j + 1 == i && (mmv r w).category == 2) = false := by
        by_cases hj : j + 1 = i
        · subst hj
          have h3 := hc.2
          simp only [mmOk, hw] at h3
          rw [mmv_cat]
          cases w <;> simp_all [mmWide, Value.category]
        · simp [hj]
      simp [h1, h2, h3]
  · cases hs
theorem mmSet1_lt {lv lv' : List (Option Value)} {i : Nat} {v : Value} (hs : mmSet1 lv i v = some lv') : i < lv.length := by
  unfold mmSet1 at hs
  split at hs
  · rename_i hc
    rw [Bool.and_eq_true, decide_eq_true_eq] at hc
    exact hc.1
  · cases hs
theorem mmSet2_lt {lv lv' : List (Option Value)} {i : Nat} {v : Value} (hs : mmSet2 lv i v = some lv') : i + 1 < lv.length := by
  unfold mmSet2 at hs
  split at hs
  · rename_i hc
    rw [Bool.and_eq_true, decide_eq_true_eq] at hc
    exact hc.1
  · cases hs
/-- the locals at a method's entry -/
theorem mmSlots_mem (vs : List Value) : ∀ (b i : Nat) (v : Value), mmGet (mmSlots vs) i = some v → (b + i, v) ∈ lv_args b vs := by
  induction vs with
  | nil => intro b i v h; simp [mmSlots, mmGet] at h
  | cons a t ih =>
    intro b i v h
    unfold mmSlots at h
    unfold lv_args
    split at h
    · rename_i hc
      rw [if_pos hc]
      match i, h with
      | 0, h => simp [mmGet] at h; rw [h]; exact List.mem_cons_self
      | 1, h => simp [mmGet] at h
      | i + 2, h =>
        have := ih (b + 2) i v (by simpa [mmGet] using h)
        refine List.mem_cons_of_mem _ ?_
        rwa [show b + (i + 2) = b + 2 + i by omega]
    · rename_i hc
      rw [if_neg hc]
      match i, h with
      | 0, h => simp [mmGet] at h; rw [h]; exact List.mem_cons_self
      | i + 1, h =>
        have := ih (b + 1) i v (by simpa [mmGet] using h)
        refine List.mem_cons_of_mem _ ?_
        rwa [show b + (i + 1) = b + 1 + i by omega]
theorem mmSlots_map (r : Nat → Nat) (vs : List Value) : mmSlots (vs.map (mmv r)) = (mmSlots vs).map (Option.map (mmv r)) := by
  induction vs with
  | nil => rfl
  | cons a t ih =>
    rw [List.map_cons]
    unfold mmSlots
    rw [mmv_cat]
    split
    · simp [ih]
    · simp [ih]
theorem mmSlots_len (vs : List Value) : (mmSlots vs).length = (lg_sl vs).length := by
  induction vs with
  | nil => rfl
  | cons a t ih =>
    unfold mmSlots lg_sl
    rw [List.flatMap_cons]
    split
    · simp [ih, lg_sl]
    · simp [ih, lg_sl]
theorem mmEntry_ls (r : Nat → Nat) {n : Nat} {vs : List Value} (hn : (mmSlots vs).length ≤ n) :
    mmLs r ((lg_sl (vs.map (mmv r)) ++ List.replicate (n - (lg_sl (vs.map (mmv r))).length) Slot.unset).toArray) (mmEntry n vs) := by
  have hl : (lg_sl (vs.map (mmv r))).length = (mmSlots vs).length := by rw [← mmSlots_len, mmSlots_map, List.length_map]
  have he := lv_entry (vs.map (mmv r)) (n := n) (by rw [hl]; exact hn)
  refine ⟨he.2.1, by rw [he.1]; simp [mmEntry]; omega, fun i v hv => ?_⟩
  have h1 : mmGet (mmSlots vs) i = some v := by
    unfold mmEntry mmGet at hv
    unfold mmGet
    by_cases hi : i < (mmSlots vs).length
    · rwa [List.getElem?_append_left hi] at hv
    · rw [List.getElem?_append_right (by omega), List.getElem?_replicate] at hv
      split at hv <;> cases hv
  have h2 : mmGet (mmSlots (vs.map (mmv r))) i = some (mmv r v) := by
    rw [mmSlots_map]
    unfold mmGet at h1 ⊢
    rw [List.getElem?_map]
    cases hg : (mmSlots vs)[i]? with
    | none => rw [hg] at h1; cases h1
    | some o => rw [hg] at h1; simp at h1; rw [h1]; rfl
  have h3 := mmSlots_mem (vs.map (mmv r)) 0 i _ h2
  rw [Nat.zero_add] at h3
  exact he.2.2 _ h3
end
section
/-! THE MINI MACHINE, part 3: a simple instruction of it is one of the machine -/
def mmGood : List Jvm.Cond := lw_tbl.filter goodWord
def mmIsNest : Jvm.Cond → Bool
  | .fieldLinkNest _ _ _ _ _ _ => true
  | .methodLinkNest _ _ _ _ => true
  | _ => false
def mmNest : List Jvm.Cond := lw_tbl.filter mmIsNest
def mmTys : List (Nat × FieldType) := [(1000, .int)]
def mmK (D : va_G) (cA : (Nat → ClassId) × Cell) (U : State) : Prop := (∀ (c : Nat) (q : vw_C), vwCl[c]? = some q → u_Kn U q.1 q.2.1 q.2.2 (D.1 c) (D.2 c)) ∧ (∀ (t : Nat) (ty : FieldType), (t, ty) ∈ mmTys → ArrOfT U (cA.1 t) ty ∧ va_RA U (cA.1 t) ty) ∧ (∀ w ∈ mmNest, va_Nw w U) ∧ U.isArrayOf cA.2 .int ∧ cA.2.vm ≠ .unknown
theorem mmNest_tab {w : Jvm.Cond} (h : w ∈ mmNest) : mmIsNest w = true := (List.mem_filter.mp h).2
theorem mmK.warm {D : va_G} {cA : (Nat → ClassId) × Cell} {s U : State} (hW : s.WarmedH U.vm) (h : mmK D cA s) : mmK D cA U := by
  refine ⟨fun c q hq => u_Kn_moved hW.alike (h.1 c q hq), fun t ty ht => ⟨arrOfT_moved hW.alike (h.2.1 t ty ht).1, (h.2.1 t ty ht).2.moved hW.alike⟩, fun w hw => ?_, State.isArrayOf_alike hW.alike h.2.2.2.1, h.2.2.2.2⟩
  have h1 := h.2.2.1 w hw
  have h2 := mmNest_tab hw
  cases w <;> first | exact va_Nw.warmF hW h1 | exact va_Nw.warmM hW h1 | cases h2
theorem mmK.same {D : va_G} {cA : (Nat → ClassId) × Cell} {u U : State} (e : u.vm = U.vm) (h : mmK D cA u) : mmK D cA U := by
  have ha : u.vm.Alike U.vm := by rw [e]; exact Vm.Alike.refl _
  refine ⟨fun c q hq => u_Kn_moved ha (h.1 c q hq), fun t ty ht => ⟨arrOfT_moved ha (h.2.1 t ty ht).1, (h.2.1 t ty ht).2.moved ha⟩, fun w hw => ?_, State.isArrayOf_alike ha h.2.2.2.1, h.2.2.2.2⟩
  have h2 := mmNest_tab hw
  refine va_Nw.same ?_ e (h.2.2.1 w hw)
  cases w <;> first | rfl | cases h2
def mmLayB (q : vw_C) : Bool := (u_ws q.1 q.2.1 q.2.2).all (fun w => decide (w ∈ mmGood)) && (List.range q.2.2).all (fun k => (parseFieldDescriptor (q.2.1 k).2.2.1).isSome && (List.range q.2.2).all (fun j => j == k || (q.2.1 k).2.1 != (q.2.1 j).2.1))
set_option maxRecDepth 100000 in
theorem mmLay_ok : vwCl.all mmLayB = true := by decide +kernel
theorem mmLay {ci : Nat} {q : vw_C} (h : vwCl[ci]? = some q) : (∀ w ∈ u_ws q.1 q.2.1 q.2.2, w ∈ mmGood) ∧ (∀ k, k < q.2.2 → ∃ ty, parseFieldDescriptor (q.2.1 k).2.2.1 = some ty) ∧ ∀ a, a < q.2.2 → ∀ b, b < q.2.2 → a ≠ b → (q.2.1 a).2.1 ≠ (q.2.1 b).2.1 := by
  have h1 := List.all_eq_true.mp mmLay_ok q (List.mem_of_getElem? h)
  unfold mmLayB at h1
  rw [Bool.and_eq_true, List.all_eq_true, List.all_eq_true] at h1
  refine ⟨fun w hw => of_decide_eq_true (h1.1 w hw), fun k hk => ?_, fun a ha b hb hab => ?_⟩
  · have h2 := h1.2 k (List.mem_range.mpr hk)
    rw [Bool.and_eq_true] at h2
    exact Option.isSome_iff_exists.mp h2.1
  · have h2 := h1.2 a (List.mem_range.mpr ha)
    rw [Bool.and_eq_true, List.all_eq_true] at h2
    have h3 := h2.2 b (List.mem_range.mpr hb)
    simp only [Bool.or_eq_true, beq_iff_eq, bne_iff_ne] at h3
    rcases h3 with h3 | h3
    · exact absurd h3.symm hab
    · exact h3
def mmLen : Instr → Nat
  | .bipush _ | .newarray _ | .iload _ | .istore _ | .lload _ | .lstore _ | .aload _ | .astore _ | .ldc _ => 2
  | .sipush _ | .ldc_w _ | .ldc2_w _ | .iinc _ _ | .getfield _ | .putfield _ | .new _ | .ifCond _ _ | .if_icmp _ _ | .goto _ | .invokevirtual _ | .invokestatic _ | .invokespecial _ => 3
  | .multianewarray _ _ => 4
  | _ => 1
/-- the method's own field, or a nest mate's -/
def mmOkF (M : mmM) (i ci k : Nat) (nest : Bool) : Prop := ∃ q, vwCl[ci]? = some q ∧ k < q.2.2 ∧
  (Cond.fieldLink M.1.cls i (q.2.1 k).1 (q.2.1 k).2.1 (q.2.1 k).2.2.1 ∈ mmGood ∨ nest = true ∧ ∃ host, Cond.fieldLinkNest M.1.cls i (q.2.1 k).1 (q.2.1 k).2.1 (q.2.1 k).2.2.1 host ∈ mmNest)
def mmTc : Nat → FieldType → Bool
  | 0, .int => true
  | 1, .boolean => true
  | 2, .long => true
  | 3, .object _ => true
  | 3, .array _ => true
  | _, _ => false
def mmOkP (M : mmM) (i ci k tc : Nat) : Prop := ∃ q ty, vwCl[ci]? = some q ∧ k < q.2.2 ∧ parseFieldDescriptor (q.2.1 k).2.2.1 = some ty ∧ mmTc tc ty = true ∧
  ((q.2.1 k).2.2.2 = true ∧ M.1.name = "<init>" ∧ (q.2.1 k).1 = M.1.cls ∧ Cond.fieldLink M.1.cls i (q.2.1 k).1 (q.2.1 k).2.1 (q.2.1 k).2.2.1 ∈ mmGood ∨
   (q.2.1 k).2.2.2 = false ∧ (Cond.fieldLink M.1.cls i (q.2.1 k).1 (q.2.1 k).2.1 (q.2.1 k).2.2.1 ∈ mmGood ∨ ∃ host, Cond.fieldLinkNest M.1.cls i (q.2.1 k).1 (q.2.1 k).2.1 (q.2.1 k).2.2.1 host ∈ mmNest))
def mmOkS (M : mmM) (ins : Instr) (ax : List Nat) : Prop := match ins with
  | .ldc i => ∀ b t, ax = b :: t → Cond.constant M.1.cls i (Int32.ofNat b) ∈ mmGood
  | .ldc_w i => ∀ b t, ax = b :: t → Cond.constant M.1.cls i (Int32.ofNat b) ∈ mmGood
  | .ldc2_w i => ∀ b t, ax = b :: t → Cond.constantLong M.1.cls i (Int64.ofNat b) ∈ mmGood
  | .getfield i => ∀ ci k t, ax = ci :: k :: t → mmOkF M i ci k true
  | .putfield i => ∀ ci k tc t, ax = ci :: k :: tc :: t → mmOkP M i ci k tc
  | .new i => ∀ ci t, ax = ci :: t → ∃ q, vwCl[ci]? = some q ∧ Cond.classLink M.1.cls i q.1 ∈ mmGood ∧ Cond.instantiable q.1 q.2.2 ∈ mmGood ∧ Cond.initialized q.1 ∈ mmGood
  | .newarray .int => Cond.arrayClass .int ∈ mmGood
  | _ => True
theorem mmTc_narrow {tc : Nat} {ty : FieldType} {v : Value} {r : Nat → Nat} (h1 : mmTc tc ty = true) (h2 : mmFit tc v = true) : narrow ty (mmv r v) = mmv r v ∧ fits ty (mmv r v) = true := by
  rcases tc with _ | _ | _ | _ | tc <;> cases ty <;> first
    | (simp [mmTc] at h1; done)
    | (cases v <;> first
        | (simp [mmFit] at h2; done)
        | exact ⟨rfl, rfl⟩
        | (simp only [mmFit, Bool.or_eq_true, decide_eq_true_eq] at h2; rcases h2 with rfl | rfl <;> (simp only [mmv]; decide)))
theorem mm_arrV {cI : ClassId} {N : Nat} {f g : Nat → Value} (h : ∀ k, k < N → f k = g k) : arrV cI N f = arrV cI N g := by
  unfold arrV
  have e : (fun j : Fin N => f j.val) = fun j => g j.val := funext fun j => h j.val j.isLt
  rw [e]
theorem mmKit_of {r : Nat → Nat} {lv : List (Option Value)} {i : Nat} {v : Value} (h : mmGet lv i = some v) : ∃ k : Nat, (mmKit r lv)[k]? = some (i, mmv r v) := List.getElem?_of_mem (mmKit_mem.mpr ⟨v, h, rfl⟩)
theorem mm_pushlen {h h0 : List mmC} (c : mmC) (hle : h0.length ≤ h.length) : (h ++ [c]).length - h0.length = (h.length - h0.length) + 1 := by simp; omega
theorem mm_pushsl {h h0 : List mmC} (c : mmC) (hsl : mmSl h0 ≤ mmSl h) : mmSl (h ++ [c]) - mmSl h0 = (mmSl h - mmSl h0) + c.2.length := by rw [mmSl_push]; omega
section MMS
variable {p : Program} {l : Launch} {e : Env} {R : Room} {s : State} {m : MethodId} {args : Array Value} {below : List Frame} {meth : Method} {c : Code} {Q : State → Prop}
variable {D : va_G} {cA : (Nat → ClassId) × Cell} {r : Nat → Nat} {M : mmM} {h0 : List mmC}
/-- what holds inside a method -/
def mmCtx (D : va_G) (cA : (Nat → ClassId) × Cell) (p : Program) (s : State) (m : MethodId) (args : Array Value) (meth : Method) (c : Code) (M : mmM) : Prop :=
  p.tables.exec = Jvm.exec ∧ c.code = M.2.1 ∧ c.maxLocals = M.2.2.1 ∧ meth.sig.returnType = M.2.2.2.1 ∧ meth.locks = false ∧ s.vm.findClass M.1.cls = some m.cls ∧ (∀ w ∈ mmGood, w.before args s = true) ∧ mmK D cA s ∧ (M.1.name = "<init>" → meth.name = "<init>")
theorem mm_getf {i ci k pc a : Nat} {v : Value} {st : List Value} {ls : Array Slot} {h : List mmC} {H : Heap} {locs : List Loc} {cells slots : Nat} {cl : mmC} (C : mmCtx D cA p s m args meth c M) (hok : mmOkF M i ci k true) (hdg : decode M.2.1 pc = .ok (.getfield i, 3)) (hW : mmW D cA r h H) (ha : h[a]? = some cl) (hci : cl.1 = ci ∧ ci < 1000) (hv : cl.2[k]? = some v)
    (kk : W p l e R s m args below meth c H locs cells slots Q (F0 m (pc + 3) ls (mmv r v :: st))) : W p l e R s m args below meth c H locs cells slots Q (F0 m pc ls (.ref (r a) :: st)) := by
  obtain ⟨hx, hb, -, -, -, hown, hts, hK, -⟩ := C
  obtain ⟨q, g1, g2, g3⟩ := hok
  obtain ⟨rfl, hlt⟩ := hci
  obtain ⟨q', f1, f2, cell, q1, q2, q3, q4⟩ := (hW.1 a cl ha).1 hlt
  cases g1.symm.trans f1
  obtain ⟨hS, hfc, kC, hkC, hkind⟩ := hK.1 _ _ g1
  obtain ⟨cf, kf, fi, f, hi, hsl⟩ := hS k g2
  have hst := (u_facts hfc hkC (u_lays hts (mmLay g1).1 g2) hi).1
  have hval : cell.slots[f.slot]? = some (mmv r v) := by
    rw [hsl, q4 k g2]
    simp [mmV, List.getD, hv]
  rcases g3 with g3 | ⟨-, host, g3⟩
  · exact W.getf hx hb hown (hts _ g3) hi hst q1 (by rw [q3]; exact fun z => by cases z) hval rfl rfl hdg kk
  · exact va_Wgetf hx hb hown (va_Nw.use rfl (hK.2.2.1 _ g3)) hi hst q1 (by rw [q3]; exact fun z => by cases z) hval rfl rfl hdg kk
theorem mmV_set {r : Nat → Nat} {fs : List Value} {k : Nat} (hk : k < fs.length) (v : Value) (j : Nat) : updV (mmV r fs) k (mmv r v) j = mmV r (fs.set k v) j := by
  unfold updV mmV
  by_cases hj : j = k
  · subst hj
    simp [List.getD, List.getElem?_set_self hk]
  · rw [if_neg hj]
    simp [List.getD, List.getElem?_set_ne (Ne.symm hj)]
theorem mm_putf {i ci k tc pc a : Nat} {v : Value} {st : List Value} {ls : Array Slot} {h : List mmC} {H : Heap} {locs : List Loc} {cells slots : Nat} {cl : mmC} (C : mmCtx D cA p s m args meth c M) (hok : mmOkP M i ci k tc) (hdg : decode M.2.1 pc = .ok (.putfield i, 3)) (hW : mmW D cA r h H) (hS0 : va_S (mmA r h0) s.heap H locs) (hb0 : ∀ j : Nat, h0.length ≤ j → r j + h0.length = s.heap.size + j) (ha : h[a]? = some cl) (hci : cl.1 = ci ∧ ci < 1000 ∧ k < cl.2.length ∧ mmFit tc v = true ∧ mmRo ≤ a)
    (kk : ∀ (H' : Heap) (locs' : List Loc), mmW D cA r (h.set a (ci, cl.2.set k v)) H' → va_S (mmA r h0) s.heap H' locs' → W p l e R s m args below meth c H' locs' cells slots Q (F0 m (pc + 3) ls st)) : W p l e R s m args below meth c H locs cells slots Q (F0 m pc ls (mmv r v :: .ref (r a) :: st)) := by
  obtain ⟨hx, hb, -, -, -, hown, hts, hK, hnm⟩ := C
  obtain ⟨q, ty, g1, g2, g3, g4, g5⟩ := hok
  obtain ⟨rfl, hlt, hkl, hft, hro⟩ := hci
  obtain ⟨q', f1, f2, cell, q1, q2, q3, q4⟩ := (hW.1 a cl ha).1 hlt
  cases g1.symm.trans f1
  obtain ⟨hS, hfc, kC, hkC, hkind⟩ := hK.1 _ _ g1
  obtain ⟨cf, kf, fi, f, hi, hsl⟩ := hS k g2
  obtain ⟨hn, hf⟩ := mmTc_narrow (r := r) g4 hft
  have hst := (u_facts hfc hkC (u_lays hts (mmLay g1).1 g2) hi).1
  have hap : ∀ x y, x < q.2.2 → y < q.2.2 → x ≠ y → (D.2 cl.1) x ≠ (D.2 cl.1) y := by
    intro x y hx hy hne
    obtain ⟨_, _, _, fa, hia, ea⟩ := hS x hx
    obtain ⟨_, _, _, fb, hib, eb⟩ := hS y hy
    rw [← ea, ← eb]
    refine u_apart (u_lays hts (mmLay g1).1 hx) (u_lays hts (mmLay g1).1 hy) hia hib ?_
    obtain ⟨tx, htx⟩ := (mmLay g1).2.1 x hx
    obtain ⟨ty', hty'⟩ := (mmLay g1).2.1 y hy
    rw [(State.fieldFound?_type hia htx).1, (State.fieldFound?_type hib hty').1]
    exact (mmLay g1).2.2 x hx y hy hne
  have hai : a < h.length := (List.getElem?_eq_some_iff.mp ha).1
  have fin : ∀ H' : Heap, H'[r a]? = some (cell.setSlot f.slot (mmv r v)) → H'.size = H.size → (∀ x : Nat, x ≠ r a → H'[x]? = H[x]?) → W p l e R s m args below meth c H' (locs ++ [⟨r a, f.slot⟩]) cells slots Q (F0 m (pc + 3) ls st) := by
    intro H' e1 e2 e3
    refine kk H' _ (hW.set hai e2 e3 ⟨fun _ => ⟨q, g1, by rw [f2]; simp, ?_⟩, fun hh => absurd hlt hh, fun hh => absurd hlt (by show ¬ cl.1 < 1000; have h9 : cl.1 = 1999 := hh; omega)⟩) (hS0.put e2 e3 (mmA.of hb0 hro))
    rw [hsl] at e1
    exact t_OB.to (V := updV (mmV r cl.2) k (mmv r v)) ⟨_, e1, q2, q3, t_set q4 hap g2 (mmv r v)⟩ (fun j _ => mmV_set hkl v j)
  have hslot : f.slot < cell.slots.size := by rw [hsl]; exact k2_hasslot (q4 k g2)
  have hlay := hts _ ((mmLay g1).1 _ (u_in_lay g2))
  unfold u_lay at hlay
  rcases g5 with ⟨k1, k2, k3, k4⟩ | ⟨k1, k2⟩
  · rw [if_pos k1] at hlay
    have hcf : m.cls = cf := by
      obtain ⟨_, _, c', _, _, _, -, -, hf', -, -, -, hown2, -⟩ := Cond.laysFinal_spec hlay
      have e1 : c' = cf := by have := hi.symm.trans hf'; simp at this; exact this.1.symm
      rw [k3] at hown2
      rw [← e1]; exact Option.some.inj (hown.symm.trans hown2)
    have h6 := u_fits hfc hkC hkind (Or.inr hlay) hi g3 hn hf
    exact W.putFinK hx hb hown (hts _ k4) hi hst hcf (hnm k2) (by rw [q2]; exact h6) q1 q3 hslot rfl rfl hdg fin
  · rw [if_neg (by rw [k1]; decide)] at hlay
    have h6 := u_store hfc hkC hkind hlay hi g3 hn hf
    rcases k2 with k2 | ⟨host, k2⟩
    · exact W.putK hx hb (f := f) ⟨hown, hts _ k2, ⟨_, _, _, hi⟩, hst⟩ (by rw [q2]; exact h6) q1 q3 hslot rfl rfl hdg fin
    · exact va_WputK hx hb (f := f) hown (va_Nw.use rfl (hK.2.2.1 _ k2)) hi hst (by rw [q2]; exact h6) q1 q3 hslot rfl rfl hdg fin
theorem mm_int {D : va_G} {cA : (Nat → ClassId) × Cell} {s : State} (hK : mmK D cA s) : ArrOfT s (cA.1 1000) .int ∧ va_RA s (cA.1 1000) .int := hK.2.1 1000 .int List.mem_cons_self
theorem mm_iald {pc a : Nat} {j x : Int32} {st : List Value} {ls : Array Slot} {h : List mmC} {H : Heap} {locs : List Loc} {cells slots : Nat} {cl : mmC} (C : mmCtx D cA p s m args meth c M) (hdg : decode M.2.1 pc = .ok (.iaload, 1)) (hW : mmW D cA r h H) (ha : h[a]? = some cl) (hci : (cl.1 = 1000 ∨ cl.1 = 1999) ∧ ¬ j < 0) (hv : cl.2[j.toNatClampNeg]? = some (.int x))
    (kk : W p l e R s m args below meth c H locs cells slots Q (F0 m (pc + 1) ls (.int x :: st))) : W p l e R s m args below meth c H locs cells slots Q (F0 m pc ls (.int j :: .ref (r a) :: st)) := by
  obtain ⟨hx, hb, -, -, -, hown, hts, hK, hnm⟩ := C
  have hlt : j.toNatClampNeg < cl.2.length := (List.getElem?_eq_some_iff.mp hv).1
  have hmv : mmV r cl.2 j.toNatClampNeg = .int x := by simp [mmV, List.getD, hv, mmv]
  rcases hci with ⟨h1 | h1, h2⟩
  · have hc := (hW.1 a cl ha).2.1 (by rw [h1]; decide) (by rw [h1]; decide)
    rw [h1] at hc
    refine W.iald hx hb hc ((mm_int hK).1 _ _) (fun z => by cases z) (fun z => ?_) (v := .int x) ?_ rfl rfl hdg kk
    · rw [arrV_size] at z
      rcases z with z | z
      · exact h2 z
      · omega
    · rw [arrV_read _ _ hlt, hmv]
  · obtain ⟨hc, hz, hs⟩ := (hW.1 a cl ha).2.2 h1
    refine W.iald hx hb hc hK.2.2.2.1 hK.2.2.2.2 (fun z => ?_) (v := .int x) ?_ rfl rfl hdg kk
    · rw [← hz] at z
      rcases z with z | z
      · exact h2 z
      · omega
    · rw [hs _ hlt, hmv]
theorem mm_iast {pc a : Nat} {j x : Int32} {st : List Value} {ls : Array Slot} {h : List mmC} {H : Heap} {locs : List Loc} {cells slots : Nat} {cl : mmC} (C : mmCtx D cA p s m args meth c M) (hdg : decode M.2.1 pc = .ok (.iastore, 1)) (hW : mmW D cA r h H) (hS0 : va_S (mmA r h0) s.heap H locs) (hb0 : ∀ j : Nat, h0.length ≤ j → r j + h0.length = s.heap.size + j) (ha : h[a]? = some cl) (hci : cl.1 = 1000 ∧ ¬ j < 0 ∧ j.toNatClampNeg < cl.2.length ∧ mmRo ≤ a)
    (kk : ∀ (H' : Heap) (locs' : List Loc), mmW D cA r (h.set a (1000, cl.2.set j.toNatClampNeg (.int x))) H' → va_S (mmA r h0) s.heap H' locs' → W p l e R s m args below meth c H' locs' cells slots Q (F0 m (pc + 1) ls st)) : W p l e R s m args below meth c H locs cells slots Q (F0 m pc ls (.int x :: .int j :: .ref (r a) :: st)) := by
  obtain ⟨hx, hb, -, -, -, hown, hts, hK, hnm⟩ := C
  have hc := (hW.1 a cl ha).2.1 (by rw [hci.1]; decide) (by rw [hci.1]; decide)
  rw [hci.1] at hc
  have hai : a < h.length := (List.getElem?_eq_some_iff.mp ha).1
  refine W.iast hx hb hc ((mm_int hK).1 _ _) (fun z => by cases z) (fun z => ?_) rfl rfl hdg (fun H' e1 e2 e3 => ?_)
  · rw [arrV_size] at z
    rcases z with z | z
    · exact hci.2.1 z
    · omega
  · refine kk H' _ (hW.set hai e2 e3 ⟨fun hh => absurd hh (Nat.lt_irrefl 1000), fun _ _ => ?_, fun hh => absurd hh (by show ¬ (1000 : Nat) = 1999; decide)⟩) (hS0.put e2 e3 (mmA.of hb0 hci.2.2.2))
    rw [e1, arrV_store]
    refine congrArg some ?_
    rw [List.length_set]
    exact congrArg (arrV (cA.1 1000) cl.2.length) (funext fun k => mmV_set hci.2.2.1 (.int x) k)
theorem mm_alen {pc a : Nat} {st : List Value} {ls : Array Slot} {h : List mmC} {H : Heap} {locs : List Loc} {cells slots : Nat} {cl : mmC} (C : mmCtx D cA p s m args meth c M) (hdg : decode M.2.1 pc = .ok (.arraylength, 1)) (hW : mmW D cA r h H) (ha : h[a]? = some cl) (hci : cl.1 = 1000 ∨ cl.1 = 1999)
    (kk : W p l e R s m args below meth c H locs cells slots Q (F0 m (pc + 1) ls (.int (nI cl.2.length) :: st))) : W p l e R s m args below meth c H locs cells slots Q (F0 m pc ls (.ref (r a) :: st)) := by
  obtain ⟨hx, hb, -, -, -, hown, hts, hK, hnm⟩ := C
  rcases hci with h1 | h1
  · have hc := (hW.1 a cl ha).2.1 (by rw [h1]; decide) (by rw [h1]; decide)
    rw [h1] at hc
    exact W.alen hx hb hc ((mm_int hK).1 _ _) (n := nI cl.2.length) (by rw [arrV_size]; rfl) rfl rfl hdg kk
  · obtain ⟨hc, hz, hs⟩ := (hW.1 a cl ha).2.2 h1
    exact W.alen hx hb hc hK.2.2.2.1 (n := nI cl.2.length) (by rw [hz]; rfl) rfl rfl hdg kk
theorem mm_newa {pc : Nat} {n : Int32} {st : List Value} {ls : Array Slot} {h : List mmC} {H : Heap} {locs : List Loc} {cells slots : Nat} (C : mmCtx D cA p s m args meth c M) (hok : Cond.arrayClass .int ∈ mmGood) (hdg : decode M.2.1 pc = .ok (.newarray .int, 2)) (hW : mmW D cA r h H) (hS0 : va_S (mmA r h0) s.heap H locs) (hn : ¬ n < 0 ∧ n.toNatClampNeg ≤ 100000) (hcells : cells + 1 ≤ R.cells) (hslots : slots + n.toNatClampNeg ≤ R.slots)
    (kk : ∀ (H' : Heap), mmW D cA r (h ++ [(1000, List.replicate n.toNatClampNeg (.int 0))]) H' → va_S (mmA r h0) s.heap H' locs → W p l e R s m args below meth c H' locs (cells + 1) (slots + n.toNatClampNeg) Q (F0 m (pc + 2) ls (.ref (r h.length) :: st))) : W p l e R s m args below meth c H locs cells slots Q (F0 m pc ls (.int n :: st)) := by
  obtain ⟨hx, hb, -, -, -, hown, hts, hK, hnm⟩ := C
  refine W.newa (atype := .int) hx hb (hts _ hok) rfl hdg rfl hn.1 (Nat.le_trans (Nat.mul_le_mul_right _ hn.2) (by decide)) hcells hslots (fun cI kI comp h1 h2 h3 => ?_)
  have hcc : cI = cA.1 1000 := Option.some.inj (h1.symm.trans (mm_int hK).2)
  have z : (H.push ({ cls := cI, slots := Array.replicate n.toNatClampNeg (defaultValue (newarray.typeOf .int)), vm := .none } : Cell)).size = H.size + 1 := by simp
  have oq : ∀ q : Nat, q < H.size → (H.push ({ cls := cI, slots := Array.replicate n.toNatClampNeg (defaultValue (newarray.typeOf .int)), vm := .none } : Cell))[q]? = H[q]? := fun q hq => by
    rw [Array.getElem?_push, if_neg (Nat.ne_of_lt hq)]
  have hk := kk _ (hW.push (c := (1000, List.replicate n.toNatClampNeg (.int 0))) z oq ⟨fun hh => absurd hh (Nat.lt_irrefl 1000), fun _ _ => ?_, fun hh => absurd hh (by show ¬ (1000 : Nat) = 1999; decide)⟩) ⟨by rw [z]; exact Nat.le_succ_of_le hS0.1, fun q h1 h2 => by rw [oq q (Nat.lt_of_lt_of_le h1 hS0.1)]; exact hS0.2.1 q h1 h2, hS0.2.2⟩
  · rw [hW.base] at hk
    exact hk
  · rw [hcc, arrV_new, Array.getElem?_push, if_pos rfl]
    refine congrArg some ?_
    show arrV (cA.1 1000) _ _ = arrV (cA.1 1000) (List.replicate n.toNatClampNeg (Value.int 0)).length _
    rw [List.length_replicate]
    refine mm_arrV fun k hk2 => ?_
    unfold mmV
    simp [List.getD, List.getElem?_replicate, hk2, mmv, defaultValue, newarray.typeOf]
theorem mmv_def (r : Nat → Nat) (ty : FieldType) : mmv r (defaultValue ty) = defaultValue ty := by cases ty <;> rfl
theorem mm_new {i ci pc : Nat} {fs : List Value} {st : List Value} {ls : Array Slot} {h : List mmC} {H : Heap} {locs : List Loc} {cells slots : Nat} (C : mmCtx D cA p s m args meth c M) (hok : ∃ q, vwCl[ci]? = some q ∧ Cond.classLink M.1.cls i q.1 ∈ mmGood ∧ Cond.instantiable q.1 q.2.2 ∈ mmGood ∧ Cond.initialized q.1 ∈ mmGood) (hdg : decode M.2.1 pc = .ok (.new i, 3)) (hW : mmW D cA r h H) (hS0 : va_S (mmA r h0) s.heap H locs) (hfs : mmDefs[ci]? = some fs) (hci : ci < 1000) (hcells : cells + 1 ≤ R.cells) (hslots : slots + fs.length ≤ R.slots)
    (kk : ∀ (H' : Heap), mmW D cA r (h ++ [(ci, fs)]) H' → va_S (mmA r h0) s.heap H' locs → W p l e R s m args below meth c H' locs (cells + 1) (slots + fs.length) Q (F0 m (pc + 3) ls (.ref (r h.length) :: st))) : W p l e R s m args below meth c H locs cells slots Q (F0 m pc ls st) := by
  obtain ⟨hx, hb, -, -, -, hown, hts, hK, hnm⟩ := C
  obtain ⟨q, g1, g2, g3, g4⟩ := hok
  have hfe : fs = (List.range q.2.2).map fun k => match parseFieldDescriptor (q.2.1 k).2.2.1 with
      | some ty => defaultValue ty
      | none => .null := by
    unfold mmDefs at hfs
    rw [List.getElem?_map, g1] at hfs
    exact (Option.some.inj hfs).symm
  have hlen : fs.length = q.2.2 := by rw [hfe]; simp
  have hKn := hK.1 _ _ g1
  rw [hlen] at kk hslots
  refine W.newcK hx hb hown (hts _ g2) (hts _ g3) (hts _ g4) rfl hdg hcells hslots hKn.2.1 rfl (fun H' kC hkC e1 z oq => ?_)
  have ho := u_born (o := H.size) (H := H') (fun k => (parseFieldDescriptor (q.2.1 k).2.2.1).getD .int) hts (mmLay g1).1 hKn hkC e1 (fun k hk => by
    obtain ⟨ty, hty⟩ := (mmLay g1).2.1 k hk
    rw [hty]; rfl)
  have hk := kk H' (hW.push (c := (ci, fs)) z oq ⟨fun _ => ⟨q, g1, hlen.symm, ?_⟩, fun hh => absurd hci hh, fun hh => absurd hci (by have h9 : ci = 1999 := hh; omega)⟩) ⟨by rw [z]; exact Nat.le_succ_of_le hS0.1, fun x h1 h2 => by rw [oq x (Nat.lt_of_lt_of_le h1 hS0.1)]; exact hS0.2.1 x h1 h2, hS0.2.2⟩
  · rw [hW.base] at hk
    exact hk
  · refine ho.to fun k hk => ?_
    obtain ⟨ty, hty⟩ := (mmLay g1).2.1 k hk
    have hfk : fs.getD k .null = defaultValue ty := by
      rw [hfe]
      simp [List.getD, hk, hty]
    unfold mmV
    rw [hfk, mmv_def]
    simp [hty]
/-- a simple instruction -/
theorem mmS_sound {ins : Instr} {ax : List Nat} {pc pc' : Nat} {lv lv' : List (Option Value)} {st st' : List Value} {h h' : List mmC} {ls : Array Slot} {H : Heap} {locs : List Loc} (C : mmCtx D cA p s m args meth c M) (hok : mmOkS M ins ax) (hdg : decode M.2.1 pc = .ok (ins, mmLen ins)) (hs : mmS ins ax pc lv st h = some (pc', lv', st', h')) (hL : mmLs r ls lv) (hW : mmW D cA r h H) (hS : va_S (mmA r h0) s.heap H locs) (hb0 : ∀ j : Nat, h0.length ≤ j → r j + h0.length = s.heap.size + j) (hle : h0.length ≤ h.length) (hsl : mmSl h0 ≤ mmSl h) (hcells : h'.length - h0.length ≤ R.cells) (hslots : mmSl h' - mmSl h0 ≤ R.slots)
    (kk : ∀ (ls' : Array Slot) (H' : Heap) (locs' : List Loc), mmLs r ls' lv' → mmW D cA r h' H' → va_S (mmA r h0) s.heap H' locs' → h.length ≤ h'.length → mmSl h ≤ mmSl h' → W p l e R s m args below meth c H' locs' (h'.length - h0.length) (mmSl h' - mmSl h0) Q (F0 m pc' ls' (st'.map (mmv r)))) :
    W p l e R s m args below meth c H locs (h.length - h0.length) (mmSl h - mmSl h0) Q (F0 m pc ls (st.map (mmv r))) := by
  have hx := C.1
  have hb := C.2.1
  have hown := C.2.2.2.2.2.1
  have hts := C.2.2.2.2.2.2.1
  unfold mmS at hs
  split at hs
  · cases hs
    exact lv_iconst hx hb hdg rfl (kk ls H locs hL hW hS (Nat.le_refl _) (Nat.le_refl _))
  · cases hs
    exact lv_bipush hx hb hdg rfl (kk ls H locs hL hW hS (Nat.le_refl _) (Nat.le_refl _))
  · cases hs
    exact lv_sipush hx hb hdg rfl (kk ls H locs hL hW hS (Nat.le_refl _) (Nat.le_refl _))
  · split at hs
    · cases hs
      exact lv_ldc hx hb hown (hts _ (hok _ _ rfl)) hdg (kk ls H locs hL hW hS (Nat.le_refl _) (Nat.le_refl _))
    · cases hs
  · split at hs
    · cases hs
      exact lv_ldcw hx hb hown (hts _ (hok _ _ rfl)) hdg (kk ls H locs hL hW hS (Nat.le_refl _) (Nat.le_refl _))
    · cases hs
  · split at hs
    · cases hs
      exact lv_ldc2 hx hb hown (hts _ (hok _ _ rfl)) hdg (kk ls H locs hL hW hS (Nat.le_refl _) (Nat.le_refl _))
    · cases hs
  · split at hs
    · rename_i hv
      cases hs
      exact lv_iload_n hx hb hdg rfl (hL.at hv) (kk ls H locs hL hW hS (Nat.le_refl _) (Nat.le_refl _))
    · cases hs
  · split at hs
    · rename_i hv
      cases hs
      exact lv_iload hx hb hdg (hL.at hv) (kk ls H locs hL hW hS (Nat.le_refl _) (Nat.le_refl _))
    · cases hs
  · split at hs
    · rename_i hv
      cases hs
      exact lv_lload_n hx hb hdg rfl (hL.at hv) (kk ls H locs hL hW hS (Nat.le_refl _) (Nat.le_refl _))
    · cases hs
  · split at hs
    · rename_i hv
      cases hs
      exact lv_lload hx hb hdg (hL.at hv) (kk ls H locs hL hW hS (Nat.le_refl _) (Nat.le_refl _))
    · cases hs
  · split at hs
    · rename_i hv
      cases hs
      exact lv_aload_n hx hb hdg rfl (hL.at hv) (kk ls H locs hL hW hS (Nat.le_refl _) (Nat.le_refl _))
    · cases hs
  · split at hs
    · rename_i hv
      cases hs
      exact lv_aload hx hb hdg (hL.at hv) (kk ls H locs hL hW hS (Nat.le_refl _) (Nat.le_refl _))
    · cases hs
  · split at hs
    · obtain ⟨lv2, hv, he⟩ := Option.map_eq_some_iff.mp hs
      cases he
      exact lv_istore_n hx hb hdg rfl hL.kit (mmSet1_lt hv) rfl (fun ls' hl => kk ls' H locs (mmLs.set1 hv hl) hW hS (Nat.le_refl _) (Nat.le_refl _))
    · cases hs
  · split at hs
    · obtain ⟨lv2, hv, he⟩ := Option.map_eq_some_iff.mp hs
      cases he
      exact lv_istore hx hb hdg hL.kit (mmSet1_lt hv) rfl (fun ls' hl => kk ls' H locs (mmLs.set1 hv hl) hW hS (Nat.le_refl _) (Nat.le_refl _))
    · cases hs
  · split at hs
    · obtain ⟨lv2, hv, he⟩ := Option.map_eq_some_iff.mp hs
      cases he
      exact lv_lstore_n hx hb hdg rfl hL.kit (mmSet2_lt hv) rfl (fun ls' hl => kk ls' H locs (mmLs.set2 hv hl) hW hS (Nat.le_refl _) (Nat.le_refl _))
    · cases hs
  · split at hs
    · obtain ⟨lv2, hv, he⟩ := Option.map_eq_some_iff.mp hs
      cases he
      exact lv_lstore hx hb hdg hL.kit (mmSet2_lt hv) rfl (fun ls' hl => kk ls' H locs (mmLs.set2 hv hl) hW hS (Nat.le_refl _) (Nat.le_refl _))
    · cases hs
  · split at hs
    · obtain ⟨lv2, hv, he⟩ := Option.map_eq_some_iff.mp hs
      cases he
      exact lv_astore_n hx hb hdg rfl hL.kit (mmSet1_lt hv) rfl (fun ls' hl => kk ls' H locs (mmLs.set1 hv hl) hW hS (Nat.le_refl _) (Nat.le_refl _))
    · cases hs
  · split at hs
    · obtain ⟨lv2, hv, he⟩ := Option.map_eq_some_iff.mp hs
      cases he
      exact lv_astore hx hb hdg hL.kit (mmSet1_lt hv) rfl (fun ls' hl => kk ls' H locs (mmLs.set1 hv hl) hW hS (Nat.le_refl _) (Nat.le_refl _))
    · cases hs
  · split at hs
    · rename_i hg
      obtain ⟨lv2, hv, he⟩ := Option.map_eq_some_iff.mp hs
      cases he
      obtain ⟨k0, hk0⟩ := mmKit_of (r := r) hg
      exact lv_iinc hx hb hdg hL.kit hk0 rfl (mmSet1_lt hv) rfl (fun ls' hl => kk ls' H locs (mmLs.set1 hv hl) hW hS (Nat.le_refl _) (Nat.le_refl _))
    · cases hs
  · split at hs
    · cases hs
      exact lv_iadd hx hb hdg (kk ls H locs hL hW hS (Nat.le_refl _) (Nat.le_refl _))
    · cases hs
  · split at hs
    · cases hs
      exact lv_isub hx hb hdg (kk ls H locs hL hW hS (Nat.le_refl _) (Nat.le_refl _))
    · cases hs
  · split at hs
    · cases hs
      exact lv_imul hx hb hdg (kk ls H locs hL hW hS (Nat.le_refl _) (Nat.le_refl _))
    · cases hs
  · split at hs
    · cases hs
      exact lv_iand hx hb hdg (kk ls H locs hL hW hS (Nat.le_refl _) (Nat.le_refl _))
    · cases hs
  · split at hs
    · cases hs
      exact lv_ior hx hb hdg (kk ls H locs hL hW hS (Nat.le_refl _) (Nat.le_refl _))
    · cases hs
  · split at hs
    · cases hs
      exact lv_ixor hx hb hdg (kk ls H locs hL hW hS (Nat.le_refl _) (Nat.le_refl _))
    · cases hs
  · split at hs
    · cases hs
      exact lv_ishl hx hb hdg (kk ls H locs hL hW hS (Nat.le_refl _) (Nat.le_refl _))
    · cases hs
  · split at hs
    · cases hs
      exact lv_ishr hx hb hdg (kk ls H locs hL hW hS (Nat.le_refl _) (Nat.le_refl _))
    · cases hs
  · split at hs
    · cases hs
      exact lv_iushr hx hb hdg rfl (kk ls H locs hL hW hS (Nat.le_refl _) (Nat.le_refl _))
    · cases hs
  · split at hs
    · split at hs
      · cases hs
      · rename_i hne
        cases hs
        exact lv_idiv hx hb hdg hne (kk ls H locs hL hW hS (Nat.le_refl _) (Nat.le_refl _))
    · cases hs
  · split at hs
    · split at hs
      · cases hs
      · rename_i hne
        cases hs
        exact lv_irem hx hb hdg hne (kk ls H locs hL hW hS (Nat.le_refl _) (Nat.le_refl _))
    · cases hs
  · split at hs
    · cases hs
      exact lv_i2l hx hb hdg rfl (kk ls H locs hL hW hS (Nat.le_refl _) (Nat.le_refl _))
    · cases hs
  · split at hs
    · cases hs
      exact lv_ladd hx hb hdg (kk ls H locs hL hW hS (Nat.le_refl _) (Nat.le_refl _))
    · cases hs
  · split at hs
    · cases hs
      exact lv_lmul hx hb hdg (kk ls H locs hL hW hS (Nat.le_refl _) (Nat.le_refl _))
    · cases hs
  · split at hs
    · cases hs
      exact W.lcmp hx hb hdg (kk ls H locs hL hW hS (Nat.le_refl _) (Nat.le_refl _))
    · cases hs
  · split at hs
    · cases hs
      exact lv_dup hx hb hdg rfl (kk ls H locs hL hW hS (Nat.le_refl _) (Nat.le_refl _))
    · cases hs
      exact lv_dup hx hb hdg rfl (kk ls H locs hL hW hS (Nat.le_refl _) (Nat.le_refl _))
    · cases hs
  · split at hs
    · cases hs
      exact lv_dup2_11 hx hb hdg rfl rfl (kk ls H locs hL hW hS (Nat.le_refl _) (Nat.le_refl _))
    · cases hs
  · split at hs
    · cases hs
      exact lv_pop hx hb hdg rfl (kk ls H locs hL hW hS (Nat.le_refl _) (Nat.le_refl _))
    · cases hs
      exact lv_pop hx hb hdg rfl (kk ls H locs hL hW hS (Nat.le_refl _) (Nat.le_refl _))
    · cases hs
  · split at hs
    · split at hs
      · rename_i ha
        split at hs
        · rename_i hci
          obtain ⟨v, hv, he⟩ := Option.map_eq_some_iff.mp hs
          cases he
          exact mm_getf C (hok _ _ _ rfl) hdg hW ha hci hv (kk ls H locs hL hW hS (Nat.le_refl _) (Nat.le_refl _))
        · cases hs
      · cases hs
    · cases hs
  · split at hs
    · split at hs
      · rename_i ha
        split at hs
        · rename_i hci
          cases hs
          refine mm_putf C (hok _ _ _ _ rfl) hdg hW hS hb0 ha hci (fun H' locs' w1 w2 => ?_)
          have := kk ls H' locs' hL w1 w2 (by rw [List.length_set]; exact Nat.le_refl _) (by rw [mmSl_set ha (by rw [List.length_set])]; exact Nat.le_refl _)
          rw [List.length_set, mmSl_set ha (by rw [List.length_set])] at this
          exact this
        · cases hs
      · cases hs
    · cases hs
  · split at hs
    · split at hs
      · rename_i ha
        split at hs
        · rename_i hci
          split at hs
          · rename_i hv
            cases hs
            exact mm_iald C hdg hW ha hci hv (kk ls H locs hL hW hS (Nat.le_refl _) (Nat.le_refl _))
          · cases hs
        · cases hs
      · cases hs
    · cases hs
  · split at hs
    · split at hs
      · rename_i ha
        split at hs
        · rename_i hci
          cases hs
          refine mm_iast C hdg hW hS hb0 ha hci (fun H' locs' w1 w2 => ?_)
          have := kk ls H' locs' hL w1 w2 (by rw [List.length_set]; exact Nat.le_refl _) (by rw [mmSl_set ha (by rw [List.length_set])]; exact Nat.le_refl _)
          rw [List.length_set, mmSl_set ha (by rw [List.length_set])] at this
          exact this
        · cases hs
      · cases hs
    · cases hs
  · split at hs
    · split at hs
      · rename_i ha
        split at hs
        · rename_i hci
          cases hs
          exact mm_alen C hdg hW ha hci (kk ls H locs hL hW hS (Nat.le_refl _) (Nat.le_refl _))
        · cases hs
      · cases hs
    · cases hs
  · split at hs
    · split at hs
      · rename_i hn
        cases hs
        rw [mm_pushlen _ hle] at hcells
        rw [mm_pushsl _ hsl, List.length_replicate] at hslots
        refine mm_newa C hok hdg hW hS hn hcells hslots (fun H' w1 w2 => ?_)
        have := kk ls H' locs hL w1 w2 (by simp) (by rw [mmSl_push]; exact Nat.le_add_right _ _)
        rw [mm_pushlen _ hle, mm_pushsl _ hsl, List.length_replicate] at this
        exact this
      · cases hs
    · cases hs
  · split at hs
    · split at hs
      · rename_i hfs
        split at hs
        · rename_i hci
          cases hs
          rw [mm_pushlen _ hle] at hcells
          rw [mm_pushsl _ hsl] at hslots
          refine mm_new C (hok _ _ rfl) hdg hW hS hfs hci hcells hslots (fun H' w1 w2 => ?_)
          have := kk ls H' locs hL w1 w2 (by simp) (by rw [mmSl_push]; exact Nat.le_add_right _ _)
          rw [mm_pushlen _ hle, mm_pushsl _ hsl] at this
          exact this
        · cases hs
      · cases hs
    · cases hs
  · cases hs
end MMS
end
section
/-! THE MINI MACHINE, part 4: branches, calls, returns: a run of it is a contract of the machine -/
theorem mmS_mono {ins : Instr} {ax : List Nat} {pc pc' : Nat} {lv lv' : List (Option Value)} {st st' : List Value} {h h' : List mmC} (hs : mmS ins ax pc lv st h = some (pc', lv', st', h')) : h.length ≤ h'.length ∧ mmSl h ≤ mmSl h' ∧ lv'.length = lv.length := by
  have a1 : ∀ {i : Nat} {v : Value} {w : List (Option Value)}, mmSet1 lv i v = some w → w.length = lv.length := fun {i v w} hh => by
    unfold mmSet1 at hh
    split at hh
    · cases hh; rw [List.length_set]
    · cases hh
  have a2 : ∀ {i : Nat} {v : Value} {w : List (Option Value)}, mmSet2 lv i v = some w → w.length = lv.length := fun {i v w} hh => by
    unfold mmSet2 at hh
    split at hh
    · cases hh; rw [List.length_set, List.length_set]
    · cases hh
  unfold mmS at hs
  split at hs <;> (try split at hs) <;> (try split at hs) <;> (try split at hs) <;> (try split at hs) <;> first
    | (cases hs; done)
    | (cases hs; exact ⟨Nat.le_refl _, Nat.le_refl _, rfl⟩)
    | (obtain ⟨w, hv, he⟩ := Option.map_eq_some_iff.mp hs; cases he; exact ⟨Nat.le_refl _, Nat.le_refl _, a1 hv⟩)
    | (obtain ⟨w, hv, he⟩ := Option.map_eq_some_iff.mp hs; cases he; exact ⟨Nat.le_refl _, Nat.le_refl _, a2 hv⟩)
    | (obtain ⟨w, hv, he⟩ := Option.map_eq_some_iff.mp hs; cases he; exact ⟨Nat.le_refl _, Nat.le_refl _, rfl⟩)
    | (rename_i ha _; cases hs; exact ⟨by rw [List.length_set]; exact Nat.le_refl _, by rw [mmSl_set ha (by rw [List.length_set])]; exact Nat.le_refl _, rfl⟩)
    | (cases hs; exact ⟨by simp, by rw [mmSl_push]; exact Nat.le_add_right _ _, rfl⟩)
theorem mmCpy_len {xs ys : List Value} {sp dp n : Nat} (h1 : sp + n ≤ xs.length) (h2 : dp + n ≤ ys.length) : (mmCpy xs ys sp dp n).length = ys.length := by
  unfold mmCpy
  simp only [List.length_append, List.length_take, List.length_drop]
  omega
theorem mmCopy_spec {st rr : List Value} {h h' : List mmC} (hc : mmCopy st h = some (rr, h')) : ∃ (n dp sp : Int32) (a b : Nat) (ca cb : mmC), st = .int n :: .int dp :: .ref b :: .int sp :: .ref a :: rr ∧ h[a]? = some ca ∧ h[b]? = some cb ∧ ca.1 = 1000 ∧ cb.1 = 1000 ∧ ¬ sp < 0 ∧ ¬ dp < 0 ∧ ¬ n < 0 ∧ sp.toNatClampNeg + n.toNatClampNeg ≤ ca.2.length ∧ dp.toNatClampNeg + n.toNatClampNeg ≤ cb.2.length ∧ ca.2.all mmIsI = true ∧ mmWords rr ≤ 8 ∧ mmRo ≤ b ∧ h' = h.set b (1000, mmCpy ca.2 cb.2 sp.toNatClampNeg dp.toNatClampNeg n.toNatClampNeg) := by
  unfold mmCopy at hc
  split at hc
  · split at hc
    · rename_i ca cb h1 h2
      split at hc
      · rename_i hcc
        cases hc
        exact ⟨_, _, _, _, _, ca, cb, rfl, h1, h2, hcc.1, hcc.2.1, hcc.2.2.1, hcc.2.2.2.1, hcc.2.2.2.2.1, hcc.2.2.2.2.2.1, hcc.2.2.2.2.2.2.1, hcc.2.2.2.2.2.2.2.1, hcc.2.2.2.2.2.2.2.2.1, hcc.2.2.2.2.2.2.2.2.2, rfl⟩
      · cases hc
    · cases hc
  · cases hc
theorem mmCopy_mono {st rr : List Value} {h h' : List mmC} (hc : mmCopy st h = some (rr, h')) : h'.length = h.length ∧ mmSl h' = mmSl h := by
  obtain ⟨n, dp, sp, a, b, ca, cb, -, h1, h2, -, -, -, -, -, h3, h4, -, -, -, rfl⟩ := mmCopy_spec hc
  exact ⟨List.length_set, mmSl_set h2 (mmCpy_len h3 h4)⟩
theorem mx_mono (PT : List mmM) : ∀ (n : Nat) {t : List mmI} {pc : Nat} {lv : List (Option Value)} {st : List Value} {h hE : List mmC} {v : Option Value}, mx PT n t pc lv st h = some (v, hE) → h.length ≤ hE.length ∧ mmSl h ≤ mmSl hE := by
  intro n
  induction n with
  | zero => intro t pc lv st h hE v hm; unfold mx at hm; cases hm
  | succ n ih =>
    intro t pc lv st h hE v hm
    have call : ∀ {M : mmM} {as rr : List Value} {pc' : Nat}, (match mx PT n M.2.2.2.2.2.2 0 (mmEntry M.2.2.1 as) [] h with
          | none => none
          | some (v, h') => mx PT n t pc' lv (v.toList ++ rr) h') = some (v, hE) → h.length ≤ hE.length ∧ mmSl h ≤ mmSl hE := by
      intro M as rr pc' hh
      split at hh
      · cases hh
      · rename_i h1
        have e1 := ih h1
        have e2 := ih hh
        exact ⟨Nat.le_trans e1.1 e2.1, Nat.le_trans e1.2 e2.2⟩
    unfold mx at hm
    split at hm
    · cases hm
    split at hm
    · split at hm
      · split at hm <;> exact ih hm
      · cases hm
    · split at hm
      · split at hm <;> exact ih hm
      · cases hm
    · split at hm
      · exact ih hm
      · cases hm
    · split at hm
      · split at hm
        · exact ih hm
        · split at hm
          · exact ih hm
          · cases hm
      · cases hm
    · split at hm
      · cases hm; exact ⟨Nat.le_refl _, Nat.le_refl _⟩
      · split at hm <;> cases hm
        exact ⟨Nat.le_refl _, Nat.le_refl _⟩
      · cases hm
    · split at hm <;> cases hm
      exact ⟨Nat.le_refl _, Nat.le_refl _⟩
    · split at hm <;> cases hm
      exact ⟨Nat.le_refl _, Nat.le_refl _⟩
    · split at hm
      · cases hm
      · exact call hm
    · split at hm
      · split at hm
        · rename_i hcp
          have e1 := mmCopy_mono hcp
          have e2 := ih hm
          exact ⟨by rw [← e1.1]; exact e2.1, by rw [← e1.2]; exact e2.2⟩
        · cases hm
      · split at hm
        · cases hm
        · exact call hm
    · split at hm
      · split at hm
        · split at hm
          · exact ih hm
          · cases hm
        · cases hm
      · split at hm
        · cases hm
        · exact call hm
    · split at hm
      · rename_i hs
        have e1 := mmS_mono hs
        have e2 := ih hm
        exact ⟨Nat.le_trans e1.1 e2.1, Nat.le_trans e1.2.1 e2.2⟩
      · cases hm
/-- what a call's words are -/
def mmOkC (M : mmM) (i kd k ci : Nat) (M' : mmM) : Prop :=
  (M'.1.cls ≠ "java/lang/invoke/MethodHandle" ∧ M'.1.cls ≠ "java/lang/invoke/VarHandle") ∧
  M'.2.2.2.2.1 + 1 ≤ M.2.2.2.2.1 ∧ 8 + (M'.2.2.1 + 11) + M'.2.2.2.2.2.1 ≤ M.2.2.2.2.2.1 ∧
  Cond.code M'.1 M'.2.1 M'.2.2.1 M'.2.2.2.1 ∈ mmGood ∧ Cond.initialized M'.1.cls ∈ mmGood ∧
  ((kd = 0 ∨ kd = 1) ∧ (parseMethodDescriptor M'.1.desc).map (fun d => d.parameters.length + 1) = some k ∧ Cond.instanceMethod M'.1 ∈ mmGood ∧ Cond.selects M'.1.cls M'.1 M'.1 ∈ mmGood ∧ (∃ q, vwCl[ci]? = some q ∧ q.1 = M'.1.cls) ∨
   (kd = 2 ∨ kd = 3) ∧ (parseMethodDescriptor M'.1.desc).map (fun d => d.parameters.length) = some k ∧ Cond.static M'.1 ∈ mmGood ∨
   (kd = 4 ∨ kd = 5) ∧ (parseMethodDescriptor M'.1.desc).map (fun d => d.parameters.length + 1) = some k ∧ Cond.instanceMethod M'.1 ∈ mmGood ∧ M'.1.name = "<init>" ∧ M'.2.2.2.1 = none) ∧
  ((kd = 0 ∨ kd = 2 ∨ kd = 4) ∧ Cond.methodLink M.1.cls i M'.1 ∈ mmGood ∨ (kd = 1 ∨ kd = 3 ∨ kd = 5) ∧ ∃ host, Cond.methodLinkNest M.1.cls i M'.1 host ∈ mmNest)
def mmOkI (PT : List mmM) (M : mmM) (pc : Nat) (ins : Instr) (ax : List Nat) : Prop := match ins with
  | .ifCond _ off => ∀ tg t, ax = tg :: t → (pc : Int) + off = (tg : Int)
  | .if_icmp _ off => ∀ tg t, ax = tg :: t → (pc : Int) + off = (tg : Int)
  | .goto off => ∀ tg t, ax = tg :: t → (pc : Int) + off = (tg : Int)
  | .tableswitch dflt _ _ offs => ∀ df tgs, ax = df :: tgs → (pc : Int) + dflt = (df : Int) ∧ ∀ (j tg : Nat), tgs[j]? = some tg → ∃ off, offs[j]? = some off ∧ (pc : Int) + off = (tg : Int)
  | .ireturn => (ax = [] → M.2.2.2.1 = some .int) ∧ (ax ≠ [] → M.2.2.2.1 = some .boolean)
  | .lreturn => M.2.2.2.1 = some .long
  | .return_ => M.2.2.2.1 = none
  | .invokevirtual i => ∀ kd y k ci t, ax = kd :: y :: k :: ci :: t → (kd = 0 ∨ kd = 1) ∧ ∀ M', PT[y]? = some M' → mmOkC M i kd k ci M'
  | .invokestatic i => (∀ a b, ax = [8, a, b] → 1 ≤ M.2.2.2.2.1 ∧ 8 + (nativeFrameWords "java/lang/System" "arraycopy" 5 + 11) ≤ M.2.2.2.2.2.1 ∧ Cond.methodLink M.1.cls i arraycopyName ∈ mmGood ∧ Cond.native arraycopyName ∈ mmGood ∧ Cond.static arraycopyName ∈ mmGood ∧ Cond.initialized "java/lang/System" ∈ mmGood) ∧
      ∀ kd y k ci t, ax = kd :: y :: k :: ci :: t → (kd = 2 ∨ kd = 3) ∧ ∀ M', PT[y]? = some M' → mmOkC M i kd k ci M'
  | .invokespecial i => (∀ a b, ax = [9, a, b] → 1 ≤ M.2.2.2.2.1 ∧ 20 ≤ M.2.2.2.2.2.1 ∧ Cond.methodLink M.1.cls i objectInit ∈ mmGood ∧ Cond.instanceMethod objectInit ∈ mmGood ∧ Cond.code objectInit ⟨#[0xb1]⟩ 1 none ∈ mmGood) ∧
      ∀ kd y k ci t, ax = kd :: y :: k :: ci :: t → (kd = 4 ∨ kd = 5) ∧ ∀ M', PT[y]? = some M' → mmOkC M i kd k ci M'
  | _ => mmOkS M ins ax
def mmIsSw : Instr → Bool
  | .tableswitch _ _ _ _ => true
  | _ => false
def mmOkM (PT : List mmM) (M : mmM) : Prop := plainFor M.1 = true ∧ ∀ (pc : Nat) (ins : Instr) (len : Nat) (ax : List Nat), mmFetch M.2.2.2.2.2.2 pc = some (ins, len, ax) → decode M.2.1 pc = .ok (ins, len) ∧ (mmIsSw ins = true ∨ len = mmLen ins) ∧ mmOkI PT M pc ins ax
def mmOkT (PT : List mmM) : Prop := ∀ (y : Nat) (M : mmM), PT[y]? = some M → mmOkM PT M
def mmPc (D : va_G) (cA : (Nat → ClassId) × Cell) (r : Nat → Nat) (h : List mmC) (as : List Value) : Array Value → State → Prop := fun v U => v = (as.map (mmv r)).toArray ∧ mmW D cA r h U.heap ∧ mmK D cA U
def mmQc (D : va_G) (cA : (Nat → ClassId) × Cell) (r : Nat → Nat) (h : List mmC) (v : Option Value) (h' : List mmC) : Array Value → State → Outcome → State → Prop := fun _ st o t => o = .returned (v.map (mmv r)) ∧ mmW D cA r h' t.heap ∧ va_F (mmA r h) st t
def mmRm (M : mmM) (h h' : List mmC) : Room := { frames := M.2.2.2.2.1, cells := h'.length - h.length, slots := mmSl h' - mmSl h, locals := M.2.2.2.2.2.1 }
def mmWs (M : mmM) : List Jvm.Cond := Cond.code M.1 M.2.1 M.2.2.1 M.2.2.2.1 :: mmGood
theorem mmPc_blind (D : va_G) (cA : (Nat → ClassId) × Cell) (r : Nat → Nat) (h : List mmC) (as : List Value) : FrameBlind (mmPc D cA r h as) := fun a U g mk q => ⟨q.1, q.2.1, mmK.same (u := U) (U := U.calling g mk a) rfl q.2.2⟩
def mmRetOk (ret : Option FieldType) (v : Option Value) : Prop :=
  (∃ x : Int32, v = some (.int x) ∧ (ret = some .int ∨ ret = some .boolean ∧ (x = 0 ∨ x = 1))) ∨ (∃ x : Int64, v = some (.long x) ∧ ret = some .long) ∨ v = none ∧ ret = none
def mmRet : Option Value → Instr
  | none => .return_
  | some (.long _) => .lreturn
  | _ => .ireturn
/-- a contract out of a walk, of a method that no native row replaces -/
theorem mmOfW {l : Launch} {y : MethodName} {ws ws' : List Cond} {rm : Room} {Pc : Array Value → State → Prop} {Qc : Array Value → State → Outcome → State → Prop} {mc ms : Nat} {free : Addr → Prop} {cc : ByteArray} {maxL : Nat} {ret : Option FieldType}
    (hy : plainFor y = true) (hw : ws = Cond.code y cc maxL ret :: ws')
    (body : ∀ p e s m args below meth c s₁, BodyLoose p l y (headSpec ws rm) cc maxL ret e s m args below meth c s₁ → c.maxLocals = maxL → Pc args s →
      W p l e (headSpec ws rm).room s m args below meth c s.heap [] 0 0 (MQ below Qc args s mc ms free) (entryFrame m args maxL)) : Met l y ws rm Pc Qc mc ms free := by
  refine MetFree.of_bodySF (code := cc) (maxLocals := maxL) (ret := ret) hy ?_ ?_
  · intro args s m h hn
    obtain ⟨meth, c, h1, h2, h3, h4, h5, h6, -, -⟩ := Cond.code_spec hn (atoms_spec (ws := ws) h _ (by rw [hw]; exact List.mem_cons_self))
    exact ⟨meth, c, h1, h2, h3, h4, h5, h6⟩
  · intro p e s m args below meth c s₁ B hml hP _
    have hh0 : s₁.heap = s.heap := by rw [B.state]; rfl
    obtain ⟨t, a1, o, b1, b2, b3⟩ := body p e s m args below meth c s₁ B hml hP s₁ hh0 (Stand.of_body B)
    exact ⟨t, o, a1, b1, b2, ⟨b3.1, b3.2⟩⟩
section MMX
variable {l : Launch} {D : va_G} {cA : (Nat → ClassId) × Cell} {r : Nat → Nat} {PT : List mmM}
/-- a run of the mini machine gives the machine's, from any point of a method on -/
def mmRun (l : Launch) (D : va_G) (cA : (Nat → ClassId) × Cell) (r : Nat → Nat) (PT : List mmM) (n : Nat) : Prop :=
  ∀ {p : Program} {e : Env} {R : Room} {s : State} {m : MethodId} {args : Array Value} {below : List Frame} {meth : Method} {c : Code} {Q : State → Prop} {M : mmM} {h0 hE : List mmC} {v : Option Value},
    mmOkM PT M → mmCtx D cA p s m args meth c M → M.2.2.2.2.1 ≤ R.frames → M.2.2.2.2.2.1 ≤ R.locals → hE.length - h0.length ≤ R.cells → mmSl hE - mmSl h0 ≤ R.slots → (∀ j : Nat, h0.length ≤ j → r j + h0.length = s.heap.size + j) →
    (∀ (pc : Nat) (ls : Array Slot) (H : Heap) (locs : List Loc), decode M.2.1 pc = .ok (mmRet v, 1) → mmRetOk M.2.2.2.1 v → mmW D cA r hE H → va_S (mmA r h0) s.heap H locs → W p l e R s m args below meth c H locs (hE.length - h0.length) (mmSl hE - mmSl h0) Q (F0 m pc ls (v.toList.map (mmv r)))) →
    ∀ {pc : Nat} {lv : List (Option Value)} {st : List Value} {h : List mmC} {ls : Array Slot} {H : Heap} {locs : List Loc}, mx PT n M.2.2.2.2.2.2 pc lv st h = some (v, hE) → lv.length = M.2.2.1 → mmLs r ls lv → mmW D cA r h H → va_S (mmA r h0) s.heap H locs → h0.length ≤ h.length → mmSl h0 ≤ mmSl h →
      W p l e R s m args below meth c H locs (h.length - h0.length) (mmSl h - mmSl h0) Q (F0 m pc ls (st.map (mmv r)))
/-- a method's contract out of a run -/
theorem mmMet {n : Nat} (ih : mmRun l D cA r PT n) {M : mmM} (hM : mmOkM PT M) {as : List Value} {h hE : List mmC} {v : Option Value} (hr : mx PT n M.2.2.2.2.2.2 0 (mmEntry M.2.2.1 as) [] h = some (v, hE)) (hl : (mmSlots as).length ≤ M.2.2.1) :
    Met l M.1 (mmWs M) (mmRm M h hE) (mmPc D cA r h as) (mmQc D cA r h v hE) (hE.length - h.length) (mmSl hE - mmSl h) (mmA r h) := by
  refine mmOfW (cc := M.2.1) (maxL := M.2.2.1) (ret := M.2.2.2.1) hM.1 rfl ?_
  intro p e s m args below meth c s₁ B hml hv
  obtain ⟨rfl, hW, hK⟩ := hv
  have hts : ∀ w ∈ mmWs M, w.before (as.map (mmv r)).toArray s = true := atoms_spec (ws := mmWs M) B.pre
  have hlocks : meth.locks = false := B.notSynchronized
  have C : mmCtx D cA p s m (as.map (mmv r)).toArray meth c M := ⟨B.exec, B.bytes, hml, B.returns, hlocks, findClass_of_methodNamed B.named, fun w hw => hts w (List.mem_cons_of_mem _ hw), hK, fun hh => (name_of_methodNamed B.named B.method).1.trans hh⟩
  rw [lg_entry_eq]
  have hK0 := ih (R := (headSpec (mmWs M) (mmRm M h hE)).room) (e := e) (below := below) (Q := MQ below (mmQc D cA r h v hE) (as.map (mmv r)).toArray s (hE.length - h.length) (mmSl hE - mmSl h) (mmA r h)) (h0 := h) hM C (Nat.le_refl _) (Nat.le_refl _) (Nat.le_refl _) (Nat.le_refl _) hW.2.2 (fun pc ls H locs hdg hok hWE hS => ?_) hr (by simp [mmEntry]; omega) (mmEntry_ls r hl) hW va_S.rf (Nat.le_refl _) (Nat.le_refl _)
  · rw [Nat.sub_self, Nat.sub_self] at hK0
    exact hK0
  · have hq : ∀ t : State, t.heap = H → s.WarmedH t.vm → mmQc D cA r h v hE (as.map (mmv r)).toArray s (.returned (v.map (mmv r))) t := fun t ht _ => ⟨rfl, by rw [ht]; exact hWE, hS.F ht⟩
    rcases hok with ⟨x, rfl, h1 | ⟨h1, h2⟩⟩ | ⟨x, rfl, h1⟩ | ⟨rfl, h1⟩
    · exact W.iret (v := x) B.exec B.bytes (B.returns.trans h1) hq hS.2.2 hdg hlocks
    · refine W.zret (v := x) B.exec B.bytes (B.returns.trans h1) ?_ hq hS.2.2 hdg hlocks
      rcases h2 with rfl | rfl <;> decide
    · exact W.lret (v := x) B.exec B.bytes (B.returns.trans h1) hq hS.2.2 hdg hlocks
    · exact W.vret B.exec B.bytes (B.returns.trans h1) hq hS.2.2 hdg hlocks
end MMX
end
section
/-! THE MINI MACHINE, part 5: every run of it is the machine's -/
section MMY
variable {l : Launch} {D : va_G} {cA : (Nat → ClassId) × Cell} {r : Nat → Nat} {PT : List mmM}
variable {p : Program} {e : Env} {R : Room} {s : State} {m : MethodId} {args : Array Value} {below : List Frame} {meth : Method} {c : Code} {Q : State → Prop} {M : mmM} {h0 : List mmC}
theorem mm_after {h h1 : List mmC} {v : Option Value} {pc mc ms cells slots : Nat} {ls : Array Slot} {st0 rest : List Value} {H : Heap} {locs : List Loc} {a : Array Value} (hW : mmW D cA r h H) (hS : va_S (mmA r h0) s.heap H locs) (hb0 : ∀ j : Nat, h0.length ≤ j → r j + h0.length = s.heap.size + j)
    (hr : va_Run p l e R s m args below meth c H locs cells slots mc ms (F0 m pc ls st0) rest (mmQc D cA r h v h1 a) (mmA r h))
    (kk : ∀ (H' : Heap) (locs' : List Loc), mmW D cA r h1 H' → va_S (mmA r h0) s.heap H' locs' → W p l e R s m args below meth c H' locs' (cells + mc) (slots + ms) Q (F0 m (pc + 3) ls ((v.map (mmv r)).toList ++ rest))) : W p l e R s m args below meth c H locs cells slots Q (F0 m pc ls st0) := by
  intro T hT X
  obtain ⟨v', st₀, t, T', L, e0, X', hL, e1, e2, ⟨hv, hw, hz, hk⟩, st⟩ := hr T hT X
  cases hv
  rw [e0] at hz hk
  have hA : ∀ q, mmA r h q → mmA r h0 q := by
    intro q hq
    rcases hq with ⟨i, ho, hi, rfl⟩ | hq
    · exact mmA.of hb0 ho
    · have h2 := hb0 h0.length (Nat.le_refl _)
      rw [hW.base] at hq
      exact Or.inr (Nat.le_trans (by have := hS.1; omega) hq)
  have hS' : va_S (mmA r h0) s.heap T'.heap (locs ++ L) := ⟨Nat.le_trans hS.1 (by rw [e1]; exact hz), fun q h1 h2 => by rw [e1, hk q (Nat.lt_of_lt_of_le h1 hS.1) (fun z => h2 (hA q z))]; exact hS.2.1 q h1 h2, fun q hq => by
    rcases List.mem_append.mp hq with h | h
    · exact hS.2.2 q h
    · exact hA _ (hL q h)⟩
  obtain ⟨t2, a1, b1⟩ := kk T'.heap (locs ++ L) (by rw [e1]; exact hw) hS' T' rfl X'
  exact ⟨t2, st t2 a1, b1⟩
theorem mm_stk (r : Nat → Nat) (st : List Value) (k : Nat) : st.map (mmv r) = ((st.take k).reverse.map (mmv r)).reverse ++ (st.drop k).map (mmv r) := by
  rw [← List.map_reverse, List.reverse_reverse, ← List.map_append, List.take_append_drop]
theorem mm_wds (r : Nat → Nat) (st : List Value) : (List.map (fun v => v.category) (st.map (mmv r))).sum = mmWords st := by
  unfold mmWords
  rw [List.map_map]
  refine congrArg List.sum (List.map_congr_left fun v _ => ?_)
  exact mmv_cat r v
theorem mm_pay (C : mmCtx D cA p s m args meth c M) {M' : mmM} (hc : Cond.code M'.1 M'.2.1 M'.2.2.1 M'.2.2.2.1 ∈ mmGood) : ∀ w ∈ mmWs M', ∀ (a' : Array Value) (U : State), s.WarmedH U.vm → w.before a' U = true := by
  refine pay_in (big := mmGood) C.2.2.2.2.2.2.1 fun w hw => ?_
  have hg : w ∈ mmGood := by
    rcases List.mem_cons.mp hw with h | h
    · rw [h]; exact hc
    · exact h
  exact ⟨hg, good_of_word (List.mem_filter.mp hg).2⟩
theorem mmCall_spec {kd y k ci : Nat} {t : List Nat} {st as rr : List Value} {h : List mmC} {M' : mmM} (hc : mmCall PT (kd :: y :: k :: ci :: t) st h = some (M', as, rr)) : PT[y]? = some M' ∧ as = (st.take k).reverse ∧ rr = st.drop k ∧ (st.take k).length = k ∧ mmWords rr ≤ 8 ∧ (mmSlots as).length ≤ M'.2.2.1 ∧ (¬ (kd = 2 ∨ kd = 3) → ∃ (a : Nat) (as0 : List Value) (co : mmC), as = .ref a :: as0 ∧ h[a]? = some co ∧ co.1 = ci ∧ ci < 1000) := by
  unfold mmCall at hc
  dsimp only at hc
  split at hc
  · cases hc
  · rename_i Mx hy
    split at hc
    · rename_i hcc
      split at hc
      · rename_i hkd
        cases hc
        exact ⟨hy, rfl, rfl, hcc.1, hcc.2.1, hcc.2.2, fun z => absurd hkd z⟩
      · split at hc
        · rename_i a0 as0 has
          split at hc
          · rename_i co hco
            split at hc
            · rename_i hci
              cases hc
              exact ⟨hy, rfl, rfl, hcc.1, hcc.2.1, hcc.2.2, fun _ => ⟨a0, as0, co, has, hco, hci.1, hci.2⟩⟩
            · cases hc
          · cases hc
        · cases hc
    · cases hc
theorem mm_addsub {a b c : Nat} (h1 : a ≤ b) (h2 : b ≤ c) : b - a + (c - b) = c - a := by omega
/-- a call -/
theorem mm_call {n : Nat} (ih : mmRun l D cA r PT n) {i kd y k ci pc : Nat} {t : List Nat} {ins : Instr} {M' : mmM} {as rr st : List Value} {h h1 : List mmC} {v : Option Value} {lv : List (Option Value)} {ls : Array Slot} {H : Heap} {locs : List Loc} (hPT : mmOkT PT) (C : mmCtx D cA p s m args meth c M) (hRf : M.2.2.2.2.1 ≤ R.frames) (hRl : M.2.2.2.2.2.1 ≤ R.locals)
    (hk : ins = .invokevirtual i ∧ (kd = 0 ∨ kd = 1) ∨ ins = .invokestatic i ∧ (kd = 2 ∨ kd = 3) ∨ ins = .invokespecial i ∧ (kd = 4 ∨ kd = 5)) (hok : ∀ M', PT[y]? = some M' → mmOkC M i kd k ci M') (hdg : decode M.2.1 pc = .ok (ins, 3))
    (hc : mmCall PT (kd :: y :: k :: ci :: t) st h = some (M', as, rr)) (hr : mx PT n M'.2.2.2.2.2.2 0 (mmEntry M'.2.2.1 as) [] h = some (v, h1)) (hlen : lv.length = M.2.2.1) (hL : mmLs r ls lv) (hW : mmW D cA r h H) (hS : va_S (mmA r h0) s.heap H locs) (hb0 : ∀ j : Nat, h0.length ≤ j → r j + h0.length = s.heap.size + j) (hle : h0.length ≤ h.length) (hsl : mmSl h0 ≤ mmSl h)
    (hcells : h1.length - h0.length ≤ R.cells) (hslots : mmSl h1 - mmSl h0 ≤ R.slots)
    (kk : ∀ (H' : Heap) (locs' : List Loc), mmW D cA r h1 H' → va_S (mmA r h0) s.heap H' locs' → W p l e R s m args below meth c H' locs' (h1.length - h0.length) (mmSl h1 - mmSl h0) Q (F0 m (pc + 3) ls ((v.toList ++ rr).map (mmv r)))) :
    W p l e R s m args below meth c H locs (h.length - h0.length) (mmSl h - mmSl h0) Q (F0 m pc ls (st.map (mmv r))) := by
  have hmono := mx_mono PT n hr
  obtain ⟨hy, has, hrr, hck, hcw, hcl, hrecv⟩ := mmCall_spec hc
  have hret : ∀ (H' : Heap) (locs' : List Loc), mmW D cA r h1 H' → va_S (mmA r h0) s.heap H' locs' → W p l e R s m args below meth c H' locs' (h.length - h0.length + (h1.length - h.length)) (mmSl h - mmSl h0 + (mmSl h1 - mmSl h)) Q (F0 m (pc + 3) ls ((v.map (mmv r)).toList ++ rr.map (mmv r))) := by
    intro H' locs' w1 w2
    have e1 : h.length - h0.length + (h1.length - h.length) = h1.length - h0.length := mm_addsub hle hmono.1
    have e2 : mmSl h - mmSl h0 + (mmSl h1 - mmSl h) = mmSl h1 - mmSl h0 := mm_addsub hsl hmono.2
    have e3 : (v.map (mmv r)).toList ++ rr.map (mmv r) = (v.toList ++ rr).map (mmv r) := by cases v <;> simp
    rw [e1, e2, e3]
    exact kk H' locs' w1 w2
  have hf : (h.length - h0.length) + (h1.length - h.length) ≤ R.cells ∧ (mmSl h - mmSl h0) + (mmSl h1 - mmSl h) ≤ R.slots := ⟨by rw [mm_addsub hle hmono.1]; exact hcells, by rw [mm_addsub hsl hmono.2]; exact hslots⟩
  have hsz : ls.size = M.2.2.1 := hL.2.1.trans hlen
  have hM' := hPT y M' hy
  obtain ⟨g1, g2, g3, g4, g5, g6, g7⟩ := hok M' hy
  have hts := C.2.2.2.2.2.2.1
  have hK := C.2.2.2.2.2.2.2.1
  have S : CallFix p m c M.2.1 M.2.2.1 s args mmGood M.1.cls := ⟨C.1, C.2.1, C.2.2.1, C.2.2.2.2.2.1, hts⟩
  have hlw : ∀ g : JFrame, g.monitorRoom = 0 → 2 * g.monitorRoom + ((rr.map (mmv r)).map fun v => v.category).sum ≤ 8 := by
    intro g hg
    rw [mm_wds, hg]
    omega
  have hMet := mmMet ih hM' hr hcl
  have hst : st.map (mmv r) = (as.map (mmv r)).reverse ++ rr.map (mmv r) := by rw [has, hrr]; exact mm_stk r st k
  have hal : as.length = k := by rw [has]; simpa using hck
  have hfr : (mmRm M' h h1).frames + 1 ≤ R.frames := Nat.le_trans g2 hRf
  have hlo : 8 + (M'.2.2.1 + 11) + (mmRm M' h h1).locals ≤ R.locals := Nat.le_trans g3 hRl
  have hpay := mm_pay C g4
  have hb2 : va_S (mmA r h0) s.heap H locs := hS
  rcases hk with ⟨rfl, hkd⟩ | ⟨rfl, hkd⟩ | ⟨rfl, hkd⟩
  · -- a method of the object's class
    rcases g6 with ⟨-, gd, gi, gs, q, gq, gc⟩ | ⟨gk, -⟩ | ⟨gk, -⟩
    · obtain ⟨a, as0, co, rfl, hco, rfl, hci⟩ := hrecv (by omega)
      have hn : ∀ sig, parseMethodDescriptor M'.1.desc = some sig → as0.length = sig.parameters.length := by
        intro sig hs
        rw [hs] at gd
        simp at gd hal
        omega
      obtain ⟨q', f1, f2, cell, q1, q2, q3, q4⟩ := (hW.1 a co hco).1 hci
      have hp : PreV s H M'.1.cls (r a) (mmPc D cA r h (.ref a :: as0)) (as0.map (mmv r)) := ⟨mmPc_blind _ _ _ _ _, ⟨cell, q1, by rw [q3]; rfl, by rw [← gc, q2]; exact (hK.1 _ _ gq).2.1⟩, fun U hU hWm => ⟨rfl, by rw [hU]; exact hW, hK.warm hWm⟩⟩
      have hstk : (F0 m pc ls (st.map (mmv r))).stack = (as0.map (mmv r)).reverse ++ .ref (r a) :: rr.map (mmv r) := by
        show st.map (mmv r) = _
        rw [hst]
        simp [mmv]
      rcases g7 with ⟨-, gl⟩ | ⟨-, host, gl⟩
      · exact mm_after hW hS hb0 (va_runV (n := as0.length) S hMet ⟨⟨rfl, rfl, hfr, hlo, hpay, List.mem_cons_self, hts _ g4, hts _ g5, g1, hn, hts _ gl⟩, hts _ gi, hts _ gs⟩ hp rfl (by simp) hsz hstk (hlw _ rfl) hdg hf) hret
      · exact mm_after hW hS hb0 (va_runVN (n := as0.length) S hMet ⟨⟨⟨rfl, rfl, hfr, hlo, hpay, List.mem_cons_self⟩, hts _ g4, hts _ g5, g1, hn, va_Nw.use rfl (hK.2.2.1 _ gl)⟩, hts _ gi, hts _ gs⟩ hp rfl (by simp) hsz hstk (hlw _ rfl) hdg hf) hret
    · omega
    · omega
  · -- a static one
    rcases g6 with ⟨gk, -⟩ | ⟨-, gd, gs⟩ | ⟨gk, -⟩
    · omega
    · have hn : ∀ sig, parseMethodDescriptor M'.1.desc = some sig → as.length = sig.parameters.length := by
        intro sig hs
        rw [hs] at gd
        simp at gd
        omega
      have hp : PreS s H (mmPc D cA r h as) (as.map (mmv r)) := ⟨mmPc_blind _ _ _ _ _, fun U hU hWm => ⟨rfl, by rw [hU]; exact hW, hK.warm hWm⟩⟩
      rcases g7 with ⟨-, gl⟩ | ⟨-, host, gl⟩
      · exact mm_after hW hS hb0 (va_runS (n := as.length) S hMet ⟨⟨rfl, rfl, hfr, hlo, hpay, List.mem_cons_self, hts _ g4, hts _ g5, g1, hn, hts _ gl⟩, hts _ gs⟩ hp rfl (by simp) hsz hst (hlw _ rfl) hdg hf) hret
      · exact mm_after hW hS hb0 (va_runSN (n := as.length) S hMet ⟨⟨⟨rfl, rfl, hfr, hlo, hpay, List.mem_cons_self⟩, hts _ g4, hts _ g5, g1, hn, va_Nw.use rfl (hK.2.2.1 _ gl)⟩, hts _ gs, trivial⟩ hp rfl (by simp) hsz hst (hlw _ rfl) hdg hf) hret
    · omega
  · -- a constructor
    rcases g6 with ⟨gk, -⟩ | ⟨gk, -⟩ | ⟨-, gd, gi, gm, gr⟩
    · omega
    · omega
    · obtain ⟨a, as0, co, rfl, hco, rfl, hci⟩ := hrecv (by omega)
      have hn : ∀ sig, parseMethodDescriptor M'.1.desc = some sig → as0.length = sig.parameters.length := by
        intro sig hs
        rw [hs] at gd
        simp at gd hal
        omega
      have hp : PreS s H (mmPc D cA r h (.ref a :: as0)) (.ref (r a) :: as0.map (mmv r)) := ⟨mmPc_blind _ _ _ _ _, fun U hU hWm => ⟨rfl, by rw [hU]; exact hW, hK.warm hWm⟩⟩
      have hstk : (F0 m pc ls (st.map (mmv r))).stack = (as0.map (mmv r)).reverse ++ .ref (r a) :: rr.map (mmv r) := by
        show st.map (mmv r) = _
        rw [hst]
        simp [mmv]
      have hcd : Cond.code M'.1 M'.2.1 M'.2.2.1 none ∈ mmWs M' := by rw [← gr]; exact List.mem_cons_self
      have hcd2 : (Cond.code M'.1 M'.2.1 M'.2.2.1 none).before args s = true := by rw [← gr]; exact hts _ g4
      rcases g7 with ⟨-, gl⟩ | ⟨-, host, gl⟩
      · exact mm_after hW hS hb0 (va_runI (n := as0.length) S hMet ⟨⟨rfl, rfl, hfr, hlo, hpay, hcd, hcd2, hts _ g5, g1, hn, hts _ gl⟩, gm, hts _ gi⟩ hp rfl (by simp) hsz hstk (hlw _ rfl) hdg hf) hret
      · exact mm_after hW hS hb0 (va_runIN (n := as0.length) S hMet ⟨⟨⟨rfl, rfl, hfr, hlo, hpay, hcd⟩, hcd2, hts _ g5, g1, hn, va_Nw.use rfl (hK.2.2.1 _ gl)⟩, gm, hts _ gi⟩ hp rfl (by simp) hsz hstk (hlw _ rfl) hdg hf) hret
/-- what a copy leaves -/
theorem mmV_cpy {xs ys : List Value} {sp dp n : Nat} (h1 : sp + n ≤ xs.length) (h2 : dp + n ≤ ys.length) (k : Nat) (hk : k < ys.length) : va_cpy (mmV r xs) (mmV r ys) sp dp n k = mmV r (mmCpy xs ys sp dp n) k := by
  unfold va_cpy mmCpy mmV
  have ht : (ys.take dp).length = dp := by rw [List.length_take]; omega
  by_cases hd : k < dp
  · rw [if_neg (by omega)]
    rw [List.getD_eq_getElem?_getD, List.getD_eq_getElem?_getD, List.getElem?_append_left (by omega), List.getElem?_take, if_pos hd]
  · have hm : ((xs.drop sp).take n).length = n := by rw [List.length_take, List.length_drop]; omega
    by_cases hn : k < dp + n
    · rw [if_pos ⟨by omega, hn⟩]
      rw [List.getD_eq_getElem?_getD, List.getD_eq_getElem?_getD, List.getElem?_append_right (by omega), ht, List.getElem?_append_left (by omega), List.getElem?_take, if_pos (by omega), List.getElem?_drop]
    · rw [if_neg (by omega)]
      rw [List.getD_eq_getElem?_getD, List.getD_eq_getElem?_getD, List.getElem?_append_right (by omega), ht, List.getElem?_append_right (by omega), hm, List.getElem?_drop, show dp + n + (k - dp - n) = k by omega]
theorem mm_nn (z : Int32) (hz : ¬ z < 0) : z.toInt = (z.toNatClampNeg : Int) := by
  have hz0 : (0 : Int) ≤ z.toInt := by
    have := Int32.not_lt.mp hz
    simpa using Int32.le_iff_toInt_le.mp this
  show z.toInt = ((z.toInt.toNat : Nat) : Int)
  omega
theorem mm_copy {i pc : Nat} {st rr : List Value} {h h' : List mmC} {ls : Array Slot} {H : Heap} {locs : List Loc} {cells slots : Nat} (C : mmCtx D cA p s m args meth c M) (hml : ls.size = M.2.2.1) (z1 : 1 ≤ R.frames) (z2 : 8 + (nativeFrameWords "java/lang/System" "arraycopy" 5 + 11) ≤ R.locals) (z3 : Cond.methodLink M.1.cls i arraycopyName ∈ mmGood) (z4 : Cond.native arraycopyName ∈ mmGood) (z5 : Cond.static arraycopyName ∈ mmGood) (z6 : Cond.initialized "java/lang/System" ∈ mmGood) (hdg : decode M.2.1 pc = .ok (.invokestatic i, 3)) (hW : mmW D cA r h H) (hS : va_S (mmA r h0) s.heap H locs) (hb0 : ∀ j : Nat, h0.length ≤ j → r j + h0.length = s.heap.size + j)
    (hc : mmCopy st h = some (rr, h')) (kk : ∀ (H' : Heap) (locs' : List Loc), mmW D cA r h' H' → va_S (mmA r h0) s.heap H' locs' → W p l e R s m args below meth c H' locs' cells slots Q (F0 m (pc + 3) ls (rr.map (mmv r)))) : W p l e R s m args below meth c H locs cells slots Q (F0 m pc ls (st.map (mmv r))) := by
  obtain ⟨n, dp, sp, a, b, ca, cb, rfl, ha, hb', t1, t2, g1, g2, g3, g4, g5, g6, g7, g8, rfl⟩ := mmCopy_spec hc
  have hts := C.2.2.2.2.2.2.1
  have hK := C.2.2.2.2.2.2.2.1
  have hca := (hW.1 a ca ha).2.1 (by rw [t1]; decide) (by rw [t1]; decide)
  have hcb := (hW.1 b cb hb').2.1 (by rw [t2]; decide) (by rw [t2]; decide)
  rw [t1] at hca
  rw [t2] at hcb
  have hai := mm_int hK
  intro T hT X
  obtain ⟨-, k0, hk0, cm0, hkk0⟩ := hai.1 ca.2.length (mmV r ca.2)
  obtain ⟨-, k1, hk1, cm1, hkk1⟩ := hai.1 cb.2.length (mmV r cb.2)
  obtain ⟨vm', X', step⟩ := X.arraycopy C.1 C.2.2.2.2.2.1 (hts _ z3) (hts _ z4) (hts _ z5) (hts _ z6) (src := r a) (dst := r b) (cs := arrV (cA.1 1000) ca.2.length (mmV r ca.2)) (cd := arrV (cA.1 1000) cb.2.length (mmV r cb.2)) (srcPos := sp) (destPos := dp) (n := n) (by rw [hT]; exact hca) (by rw [hT]; exact hcb)
    (fun _ h => by cases h) (fun _ h => by cases h) (fun h => by cases h) (fun h => by cases h) hk0 hk1 hkk0 hkk1 (by simp [refKind]) g1 g2 g3
    (by rw [mm_nn sp g1, mm_nn n g3, arrV_size]; omega)
    (by rw [mm_nn dp g2, mm_nn n g3, arrV_size]; omega)
    (fun vm₁ _ i hi => by
      have e : (arrV (cA.1 1000) ca.2.length (mmV r ca.2)).slots.getD (sp.toNatClampNeg + i) .null = mmV r ca.2 (sp.toNatClampNeg + i) := by
        rw [Array.getD_eq_getD_getElem?, arrV_read _ _ (by omega)]
        rfl
      obtain ⟨x, hx⟩ : ∃ x, mmV r ca.2 (sp.toNatClampNeg + i) = .int x := by
        have hlt : sp.toNatClampNeg + i < ca.2.length := by omega
        have hm := List.all_eq_true.mp g6 _ (List.getElem_mem hlt)
        unfold mmV
        rw [List.getD_eq_getElem?_getD, List.getElem?_eq_getElem hlt]
        generalize ca.2[sp.toNatClampNeg + i] = w at hm ⊢
        cases w <;> first | exact ⟨_, rfl⟩ | cases hm
      refine ⟨?_, ?_⟩
      · rw [e, hx]
        rfl
      · rw [e, hx]
        exact trivial)
    (g := F0 m pc ls (.int n :: .int dp :: .ref (r b) :: .int sp :: .ref (r a) :: rr.map (mmv r))) rfl (by rw [C.2.2.1]; exact hml) (rest := rr.map (mmv r)) rfl (by rw [C.2.1]; exact hdg) z1 (by rw [mm_wds]; show 2 * 0 + _ + _ ≤ _; omega)
  have e1 : copied (arrV (cA.1 1000) ca.2.length (mmV r ca.2)) (arrV (cA.1 1000) cb.2.length (mmV r cb.2)) sp dp n = arrV (cA.1 1000) cb.2.length (va_cpy (mmV r ca.2) (mmV r cb.2) sp.toNatClampNeg dp.toNatClampNeg n.toNatClampNeg) := va_copied (fun z => z) (cA.1 1000) (cA.1 1000) (mmV r ca.2) (mmV r cb.2) g4
  rw [e1] at X' step
  have hl : r b < H.size := (Array.getElem?_eq_some_iff.mp hcb).1
  have hbl : b < h.length := (List.getElem?_eq_some_iff.mp hb').1
  generalize hcell : arrV (cA.1 1000) cb.2.length (va_cpy (mmV r ca.2) (mmV r cb.2) sp.toNatClampNeg dp.toNatClampNeg n.toNatClampNeg) = cell at X' step
  have hheap : ((T.setVm vm').setCell (r b) cell).heap = H.setIfInBounds (r b) cell := by rw [← hT]; rfl
  have oq : ∀ q : Nat, q ≠ r b → (H.setIfInBounds (r b) cell)[q]? = H[q]? := fun q hq => by simp [Array.getElem?_setIfInBounds, Ne.symm hq]
  have hz : (H.setIfInBounds (r b) cell).size = H.size := by simp
  have hself : (H.setIfInBounds (r b) cell)[r b]? = some cell := by simp [Array.getElem?_setIfInBounds, hl]
  have hW' : mmW D cA r (h.set b (1000, mmCpy ca.2 cb.2 sp.toNatClampNeg dp.toNatClampNeg n.toNatClampNeg)) (H.setIfInBounds (r b) cell) := by
    refine hW.set hbl hz oq ⟨fun hh => absurd hh (Nat.lt_irrefl 1000), fun _ _ => ?_, fun hh => absurd hh (by show ¬ (1000 : Nat) = 1999; decide)⟩
    rw [hself, ← hcell]
    refine congrArg some ?_
    show arrV _ _ _ = arrV (cA.1 1000) (mmCpy ca.2 cb.2 sp.toNatClampNeg dp.toNatClampNeg n.toNatClampNeg).length _
    rw [mmCpy_len g4 g5]
    exact mm_arrV fun k hk => mmV_cpy g4 g5 k hk
  obtain ⟨t, a1, b1⟩ := kk _ _ hW' ⟨by rw [hz]; exact hS.1, fun q g1 g2 => by rw [oq q (fun e => g2 (by rw [e]; exact mmA.of hb0 g8))]; exact hS.2.1 q g1 g2, fun q hq => by
      rcases List.mem_append.mp hq with h | h
      · exact hS.2.2 q h
      · obtain ⟨z, -, hz⟩ := List.mem_map.mp h
        rw [← hz]
        exact mmA.of hb0 g8⟩ _ hheap X'
  exact ⟨t, step t a1, b1⟩
end MMY
end
section
/-! THE MINI MACHINE, part 6: the theorem: any number of steps -/
section MMZ
variable {l : Launch} {D : va_G} {cA : (Nat → ClassId) × Cell} {r : Nat → Nat} {PT : List mmM}
set_option maxHeartbeats 4000000 in
theorem mx_sound (hPT : mmOkT PT) : ∀ n, mmRun l D cA r PT n := by
  intro n
  induction n with
  | zero =>
    intro p e R s m args below meth c Q M h0 hE v hM C hRf hRl hcE hsE hb0 hEnd pc lv st h ls H locs hm
    unfold mx at hm
    cases hm
  | succ n ih =>
    intro p e R s m args below meth c Q M h0 hE v hM C hRf hRl hcE hsE hb0 hEnd pc lv st h ls H locs hm hlen hL hW hS hle hsl
    have hx := C.1
    have hb := C.2.1
    have hown := C.2.2.2.2.2.1
    have hts := C.2.2.2.2.2.2.1
    unfold mx at hm
    split at hm
    · cases hm
    rename_i ins len ax hf
    obtain ⟨hdg, hsw, hok⟩ := hM.2 pc ins len ax hf
    have go : ∀ {pc' : Nat} {st' : List Value}, mx PT n M.2.2.2.2.2.2 pc' lv st' h = some (v, hE) → W p l e R s m args below meth c H locs (h.length - h0.length) (mmSl h - mmSl h0) Q (F0 m pc' ls (st'.map (mmv r))) := fun hh => ih hM C hRf hRl hcE hsE hb0 hEnd hh hlen hL hW hS hle hsl
    have call : ∀ {i kd y k ci : Nat} {t : List Nat} {ins : Instr} {M' : mmM} {as rr : List Value}, (ins = .invokevirtual i ∧ (kd = 0 ∨ kd = 1) ∨ ins = .invokestatic i ∧ (kd = 2 ∨ kd = 3) ∨ ins = .invokespecial i ∧ (kd = 4 ∨ kd = 5)) → (∀ M', PT[y]? = some M' → mmOkC M i kd k ci M') → decode M.2.1 pc = .ok (ins, 3) → mmCall PT (kd :: y :: k :: ci :: t) st h = some (M', as, rr) →
        (match mx PT n M'.2.2.2.2.2.2 0 (mmEntry M'.2.2.1 as) [] h with
          | none => none
          | some (v, h') => mx PT n M.2.2.2.2.2.2 (pc + 3) lv (v.toList ++ rr) h') = some (v, hE) → W p l e R s m args below meth c H locs (h.length - h0.length) (mmSl h - mmSl h0) Q (F0 m pc ls (st.map (mmv r))) := by
      intro i kd y k ci t ins M' as rr hk hokc hd hc hh
      split at hh
      · cases hh
      · rename_i v1 h1 hr
        have m1 := mx_mono PT n hr
        have m2 := mx_mono PT n hh
        exact mm_call ih hPT C hRf hRl hk hokc hd hc hr hlen hL hW hS hb0 hle hsl (Nat.le_trans (Nat.sub_le_sub_right m2.1 _) hcE) (Nat.le_trans (Nat.sub_le_sub_right m2.2 _) hsE) (fun H' locs' w1 w2 => ih hM C hRf hRl hcE hsE hb0 hEnd hh hlen hL w1 w2 (Nat.le_trans hle m1.1) (Nat.le_trans hsl m1.2))
    split at hm
    · -- if
      rename_i cd off
      have hd : decode M.2.1 pc = .ok (.ifCond cd off, 3) := hsw.elim (fun z => by cases z) (fun z => by rw [z] at hdg; exact hdg)
      split at hm
      · rename_i x rr tg t
        have ht := hok _ _ rfl
        cases cd with
        | eq => exact lv_if_eq hx hb hd ht (fun z => go (by rw [if_pos (by simpa [mmIf] using z)] at hm; exact hm)) (fun z => go (by rw [if_neg (by simpa [mmIf] using z)] at hm; exact hm))
        | ne => exact lv_if_ne hx hb hd ht (fun z => go (by rw [if_pos (by simpa [mmIf] using z)] at hm; exact hm)) (fun z => go (by rw [if_neg (by simpa [mmIf] using z)] at hm; exact hm))
        | lt => exact lv_if_lt hx hb hd ht (fun z => go (by rw [if_pos (by simpa [mmIf] using z)] at hm; exact hm)) (fun z => go (by rw [if_neg (by simpa [mmIf] using z)] at hm; exact hm))
        | ge => exact lv_if_ge hx hb hd ht (fun z => go (by rw [if_pos (by simpa [mmIf] using z)] at hm; exact hm)) (fun z => go (by rw [if_neg (by simpa [mmIf] using z)] at hm; exact hm))
        | gt => exact lv_if_gt hx hb hd ht (fun z => go (by rw [if_pos (by simpa [mmIf] using z)] at hm; exact hm)) (fun z => go (by rw [if_neg (by simpa [mmIf] using z)] at hm; exact hm))
        | le => exact lv_if_le hx hb hd ht (fun z => go (by rw [if_pos (by simpa [mmIf] using z)] at hm; exact hm)) (fun z => go (by rw [if_neg (by simpa [mmIf] using z)] at hm; exact hm))
      · cases hm
    · -- if_icmp
      rename_i cd off
      have hd : decode M.2.1 pc = .ok (.if_icmp cd off, 3) := hsw.elim (fun z => by cases z) (fun z => by rw [z] at hdg; exact hdg)
      split at hm
      · rename_i y x rr tg t
        have ht := hok _ _ rfl
        cases cd with
        | eq => exact lv_icmp_eq hx hb hd ht (fun z => go (by rw [if_pos (by simpa [mmIc] using z)] at hm; exact hm)) (fun z => go (by rw [if_neg (by simpa [mmIc] using z)] at hm; exact hm))
        | ne => exact lv_icmp_ne hx hb hd ht (fun z => go (by rw [if_pos (by simpa [mmIc] using z)] at hm; exact hm)) (fun z => go (by rw [if_neg (by simpa [mmIc] using z)] at hm; exact hm))
        | lt => exact lv_icmp_lt hx hb hd ht (fun z => go (by rw [if_pos (by simpa [mmIc] using z)] at hm; exact hm)) (fun z => go (by rw [if_neg (by simpa [mmIc] using z)] at hm; exact hm))
        | ge => exact lv_icmp_ge hx hb hd ht (fun z => go (by rw [if_pos (by simpa [mmIc] using z)] at hm; exact hm)) (fun z => go (by rw [if_neg (by simpa [mmIc] using z)] at hm; exact hm))
        | gt => exact lv_icmp_gt hx hb hd ht (fun z => go (by rw [if_pos (by simpa [mmIc] using z)] at hm; exact hm)) (fun z => go (by rw [if_neg (by simpa [mmIc] using z)] at hm; exact hm))
        | le => exact lv_icmp_le hx hb hd ht (fun z => go (by rw [if_pos (by simpa [mmIc] using z)] at hm; exact hm)) (fun z => go (by rw [if_neg (by simpa [mmIc] using z)] at hm; exact hm))
      · cases hm
    · -- goto
      rename_i off
      have hd : decode M.2.1 pc = .ok (.goto off, 3) := hsw.elim (fun z => by cases z) (fun z => by rw [z] at hdg; exact hdg)
      split at hm
      · exact lv_goto hx hb hd (hok _ _ rfl) (go hm)
      · cases hm
    · -- tableswitch
      rename_i dflt lo hi offs
      split at hm
      · rename_i x rr df tgs
        obtain ⟨hdf, htg⟩ := hok _ _ rfl
        split at hm
        · rename_i hout
          exact lv_tableOut hx hb hdg hout hdf (go hm)
        · rename_i hin
          split at hm
          · rename_i tg htgs
            obtain ⟨off, ho1, ho2⟩ := htg _ _ htgs
            exact lv_tableIn hx hb hdg (fun z => hin (Or.inl z)) (fun z => hin (Or.inr z)) ho1 ho2 (go hm)
          · cases hm
      · cases hm
    · -- ireturn
      have hd : decode M.2.1 pc = .ok (.ireturn, 1) := hsw.elim (fun z => by cases z) (fun z => by rw [z] at hdg; exact hdg)
      split at hm
      · rename_i x
        cases hm
        exact hEnd pc ls H locs hd (Or.inl ⟨x, rfl, Or.inl (hok.1 rfl)⟩) hW hS
      · rename_i x a
        split at hm
        · rename_i hx01
          cases hm
          exact hEnd pc ls H locs hd (Or.inl ⟨x, rfl, Or.inr ⟨hok.2 (by simp), hx01⟩⟩) hW hS
        · cases hm
      · cases hm
    · -- lreturn
      have hd : decode M.2.1 pc = .ok (.lreturn, 1) := hsw.elim (fun z => by cases z) (fun z => by rw [z] at hdg; exact hdg)
      split at hm
      · rename_i x
        cases hm
        exact hEnd pc ls H locs hd (Or.inr (Or.inl ⟨x, rfl, hok⟩)) hW hS
      · cases hm
    · -- return
      have hd : decode M.2.1 pc = .ok (.return_, 1) := hsw.elim (fun z => by cases z) (fun z => by rw [z] at hdg; exact hdg)
      split at hm
      · cases hm
        exact hEnd pc ls H locs hd (Or.inr (Or.inr ⟨rfl, hok⟩)) hW hS
      · cases hm
    · -- invokevirtual
      rename_i i
      have hd : decode M.2.1 pc = .ok (.invokevirtual i, 3) := hsw.elim (fun z => by cases z) (fun z => by rw [z] at hdg; exact hdg)
      split at hm
      · cases hm
      · rename_i M' as rr hc
        match ax, hok, hc with
        | kd :: y :: k :: ci :: t, hok, hc =>
          obtain ⟨hkd, hokc⟩ := hok _ _ _ _ _ rfl
          exact call (Or.inl ⟨rfl, hkd⟩) hokc hd hc hm
        | [], hok, hc => cases hc
        | [_], hok, hc => cases hc
        | [_, _], hok, hc => cases hc
        | [_, _, _], hok, hc => cases hc
    · -- invokestatic
      rename_i i
      have hd : decode M.2.1 pc = .ok (.invokestatic i, 3) := hsw.elim (fun z => by cases z) (fun z => by rw [z] at hdg; exact hdg)
      split at hm
      · rename_i a b
        split at hm
        · rename_i rr h' hcp
          obtain ⟨z1, z2, z3, z4, z5, z6⟩ := hok.1 _ _ rfl
          have e1 := mmCopy_mono hcp
          refine mm_copy C (hL.2.1.trans hlen) (Nat.le_trans z1 hRf) (Nat.le_trans z2 hRl) z3 z4 z5 z6 hd hW hS hb0 hcp (fun H' locs' w1 w2 => ?_)
          have := ih hM C hRf hRl hcE hsE hb0 hEnd hm hlen hL w1 w2 (by rw [e1.1]; exact hle) (by rw [e1.2]; exact hsl)
          rw [e1.1, e1.2] at this
          exact this
        · cases hm
      · split at hm
        · cases hm
        · rename_i M' as rr hc
          match ax, hok, hc with
          | kd :: y :: k :: ci :: t, hok, hc =>
            obtain ⟨hkd, hokc⟩ := hok.2 _ _ _ _ _ rfl
            exact call (Or.inr (Or.inl ⟨rfl, hkd⟩)) hokc hd hc hm
          | [], hok, hc => cases hc
          | [_], hok, hc => cases hc
          | [_, _], hok, hc => cases hc
          | [_, _, _], hok, hc => cases hc
    · -- invokespecial
      rename_i i
      have hd : decode M.2.1 pc = .ok (.invokespecial i, 3) := hsw.elim (fun z => by cases z) (fun z => by rw [z] at hdg; exact hdg)
      split at hm
      · rename_i a b
        split at hm
        · rename_i q rr
          split at hm
          · rename_i hwd
            obtain ⟨z1, z2, z3, z4, z5⟩ := hok.1 _ _ rfl
            refine W.objInit hx hb hown (hts _ z3) (hts _ z4) (hts _ z5) rfl (by rw [C.2.2.1]; exact hL.2.1.trans hlen) rfl hd (Nat.le_trans z1 hRf) ?_ (go hm)
            rw [mm_wds]
            show 2 * 0 + _ + 12 ≤ _
            omega
          · cases hm
        · cases hm
      · split at hm
        · cases hm
        · rename_i M' as rr hc
          match ax, hok, hc with
          | kd :: y :: k :: ci :: t, hok, hc =>
            obtain ⟨hkd, hokc⟩ := hok.2 _ _ _ _ _ rfl
            exact call (Or.inr (Or.inr ⟨rfl, hkd⟩)) hokc hd hc hm
          | [], hok, hc => cases hc
          | [_], hok, hc => cases hc
          | [_, _], hok, hc => cases hc
          | [_, _, _], hok, hc => cases hc
    · -- a simple one
      split at hm
      · rename_i pc' lv' st' h' hs
        have m1 := mmS_mono hs
        have m2 := mx_mono PT n hm
        have hd : decode M.2.1 pc = .ok (ins, mmLen ins) := by
          rcases hsw with h | h
          · cases ins <;> first | (cases h; done) | (unfold mmS at hs; cases hs)
          · rw [h] at hdg; exact hdg
        have hoks : mmOkS M ins ax := by
          cases ins <;> first | exact hok | trivial
        exact mmS_sound C hoks hd hs hL hW hS hb0 hle hsl (Nat.le_trans (Nat.sub_le_sub_right m2.1 _) hcE) (Nat.le_trans (Nat.sub_le_sub_right m2.2 _) hsE) (fun ls' H' locs' w1 w2 w3 w4 w5 => ih hM C hRf hRl hcE hsE hb0 hEnd hm (m1.2.2.trans hlen) w1 w2 w3 (Nat.le_trans hle w4) (Nat.le_trans hsl w5))
      · cases hm
end MMZ
end
section
/-! THE MINI MACHINE, part 7: its tables are checked by computing -/
def mmIn (p : Nat) (w : Jvm.Cond) : Bool := decide (lw_tbl[p]? = some w) && goodWord w
theorem mmIn_ok {p : Nat} {w : Jvm.Cond} (h : mmIn p w = true) : w ∈ mmGood := by
  unfold mmIn at h
  rw [Bool.and_eq_true, decide_eq_true_eq] at h
  exact List.mem_filter.mpr ⟨List.mem_of_getElem? h.1, h.2⟩
def mmInF (p : Nat) (own : String) (i : Nat) (O f d : String) : Bool := match lw_tbl[p]? with
  | some (.fieldLink a b c e g) => decide (a = own ∧ b = i ∧ c = O ∧ e = f ∧ g = d) && goodWord (.fieldLink own i O f d)
  | some (.fieldLinkNest a b c e g _) => decide (a = own ∧ b = i ∧ c = O ∧ e = f ∧ g = d)
  | _ => false
theorem mmInF_ok {p : Nat} {own : String} {i : Nat} {O f d : String} (h : mmInF p own i O f d = true) : Cond.fieldLink own i O f d ∈ mmGood ∨ ∃ host, Cond.fieldLinkNest own i O f d host ∈ mmNest := by
  unfold mmInF at h
  split at h
  · rename_i hp
    rw [Bool.and_eq_true, decide_eq_true_eq] at h
    obtain ⟨⟨rfl, rfl, rfl, rfl, rfl⟩, h2⟩ := h
    exact Or.inl (List.mem_filter.mpr ⟨List.mem_of_getElem? hp, h2⟩)
  · rename_i hp
    rw [decide_eq_true_eq] at h
    obtain ⟨rfl, rfl, rfl, rfl, rfl⟩ := h
    exact Or.inr ⟨_, List.mem_filter.mpr ⟨List.mem_of_getElem? hp, rfl⟩⟩
  · cases h
def mmInM (p : Nat) (own : String) (i : Nat) (y : MethodName) (nest : Bool) : Bool := match lw_tbl[p]? with
  | some (.methodLink a b c) => !nest && decide (a = own ∧ b = i ∧ c = y) && goodWord (.methodLink own i y)
  | some (.methodLinkNest a b c _) => nest && decide (a = own ∧ b = i ∧ c = y)
  | _ => false
theorem mmInM_ok {p : Nat} {own : String} {i : Nat} {y : MethodName} {nest : Bool} (h : mmInM p own i y nest = true) : nest = false ∧ Cond.methodLink own i y ∈ mmGood ∨ nest = true ∧ ∃ host, Cond.methodLinkNest own i y host ∈ mmNest := by
  unfold mmInM at h
  split at h
  · rename_i hp
    rw [Bool.and_eq_true, Bool.and_eq_true, decide_eq_true_eq] at h
    obtain ⟨⟨h0, rfl, rfl, rfl⟩, h2⟩ := h
    exact Or.inl ⟨by simpa using h0, List.mem_filter.mpr ⟨List.mem_of_getElem? hp, h2⟩⟩
  · rename_i hp
    rw [Bool.and_eq_true, decide_eq_true_eq] at h
    obtain ⟨h0, rfl, rfl, rfl⟩ := h
    exact Or.inr ⟨h0, _, List.mem_filter.mpr ⟨List.mem_of_getElem? hp, rfl⟩⟩
  · cases h
/-- a call's words, by their places: of the link, the code, the class, the kind of method, the selection -/
def mmChkC (PT : List mmM) (M : mmM) (i : Nat) (vi : Nat) (ax : List Nat) : Bool := match ax with
  | kd :: y :: k :: ci :: pl :: pc :: pi :: pm :: ps :: _ => match PT[y]? with
    | none => false
    | some M' =>
      (kd == vi || kd == vi + 1) &&
      decide (M'.1.cls ≠ "java/lang/invoke/MethodHandle" ∧ M'.1.cls ≠ "java/lang/invoke/VarHandle") && decide (M'.2.2.2.2.1 + 1 ≤ M.2.2.2.2.1) && decide (8 + (M'.2.2.1 + 11) + M'.2.2.2.2.2.1 ≤ M.2.2.2.2.2.1) &&
      mmIn pc (.code M'.1 M'.2.1 M'.2.2.1 M'.2.2.2.1) && mmIn pi (.initialized M'.1.cls) &&
      mmInM pl M.1.cls i M'.1 (kd == vi + 1) &&
      (match vi with
        | 0 => decide ((parseMethodDescriptor M'.1.desc).map (fun d => d.parameters.length + 1) = some k) && mmIn pm (.instanceMethod M'.1) && mmIn ps (.selects M'.1.cls M'.1 M'.1) && decide ((vwCl[ci]?).map (·.1) = some M'.1.cls)
        | 2 => decide ((parseMethodDescriptor M'.1.desc).map (fun d => d.parameters.length) = some k) && mmIn pm (.static M'.1)
        | 4 => decide ((parseMethodDescriptor M'.1.desc).map (fun d => d.parameters.length + 1) = some k) && mmIn pm (.instanceMethod M'.1) && decide (M'.1.name = "<init>") && decide (M'.2.2.2.1 = none)
        | _ => false)
  | _ => match ax with
    | [] => true
    | [_] => true
    | [_, _] => true
    | [_, _, _] => true
    | _ => false
theorem mmChkC_ok {PT : List mmM} {M : mmM} {i vi : Nat} {ax : List Nat} (h : mmChkC PT M i vi ax = true) : ∀ kd y k ci t, ax = kd :: y :: k :: ci :: t → (kd = vi ∨ kd = vi + 1) ∧ ∀ M', PT[y]? = some M' → mmOkC M i kd k ci M' := by
  rintro kd y k ci t rfl
  unfold mmChkC at h
  split at h
  · rename_i kd y k ci pl pc pi pm ps t' he
    cases he
    split at h
    · cases h
    · rename_i M' hy
      simp only [Bool.and_eq_true, Bool.or_eq_true, beq_iff_eq, decide_eq_true_eq] at h
      obtain ⟨⟨⟨⟨⟨⟨⟨h1, h2⟩, h3⟩, h4⟩, h5⟩, h6⟩, h7⟩, h8⟩ := h
      refine ⟨h1, fun M2 hy2 => ?_⟩
      cases hy.symm.trans hy2
      have e7 := mmInM_ok h7
      have hl : (kd = vi ∧ Cond.methodLink M.1.cls i M'.1 ∈ mmGood) ∨ (kd = vi + 1 ∧ ∃ host, Cond.methodLinkNest M.1.cls i M'.1 host ∈ mmNest) := by
        rcases e7 with ⟨e, q⟩ | ⟨e, q⟩
        · rw [beq_eq_false_iff_ne] at e
          exact Or.inl ⟨h1.resolve_right e, q⟩
        · rw [beq_iff_eq] at e
          exact Or.inr ⟨e, q⟩
      split at h8
      · simp only [Bool.and_eq_true, decide_eq_true_eq] at h8
        obtain ⟨⟨⟨g1, g2⟩, g3⟩, g4⟩ := h8
        obtain ⟨q, q1, q2⟩ := Option.map_eq_some_iff.mp g4
        refine ⟨h2, h3, h4, mmIn_ok h5, mmIn_ok h6, Or.inl ⟨h1, g1, mmIn_ok g2, mmIn_ok g3, q, q1, q2⟩, ?_⟩
        rcases hl with ⟨e, q⟩ | ⟨e, q⟩
        · exact Or.inl ⟨Or.inl e, q⟩
        · exact Or.inr ⟨Or.inl e, q⟩
      · simp only [Bool.and_eq_true, decide_eq_true_eq] at h8
        obtain ⟨g1, g2⟩ := h8
        refine ⟨h2, h3, h4, mmIn_ok h5, mmIn_ok h6, Or.inr (Or.inl ⟨h1, g1, mmIn_ok g2⟩), ?_⟩
        rcases hl with ⟨e, q⟩ | ⟨e, q⟩
        · exact Or.inl ⟨Or.inr (Or.inl e), q⟩
        · exact Or.inr ⟨Or.inr (Or.inl e), q⟩
      · simp only [Bool.and_eq_true, decide_eq_true_eq] at h8
        obtain ⟨⟨⟨g1, g2⟩, g3⟩, g4⟩ := h8
        refine ⟨h2, h3, h4, mmIn_ok h5, mmIn_ok h6, Or.inr (Or.inr ⟨h1, g1, mmIn_ok g2, g3, g4⟩), ?_⟩
        rcases hl with ⟨e, q⟩ | ⟨e, q⟩
        · exact Or.inl ⟨Or.inr (Or.inr e), q⟩
        · exact Or.inr ⟨Or.inr (Or.inr e), q⟩
      · cases h8
  · split at h
    · rename_i he; cases he
    · rename_i he; cases he
    · rename_i he; cases he
    · rename_i he; cases he
    · cases h
def mmChkI (PT : List mmM) (M : mmM) (pc : Nat) (ins : Instr) (ax : List Nat) : Bool := match ins with
  | .ifCond _ off => match ax with
    | tg :: _ => decide ((pc : Int) + off = (tg : Int))
    | _ => true
  | .if_icmp _ off => match ax with
    | tg :: _ => decide ((pc : Int) + off = (tg : Int))
    | _ => true
  | .goto off => match ax with
    | tg :: _ => decide ((pc : Int) + off = (tg : Int))
    | _ => true
  | .tableswitch dflt _ _ offs => match ax with
    | df :: tgs => decide ((pc : Int) + dflt = (df : Int)) && decide (tgs.map (fun (tg : Nat) => (tg : Int)) = offs.toList.map fun o => (pc : Int) + o)
    | _ => true
  | .ireturn => match ax with
    | [] => decide (M.2.2.2.1 = some .int)
    | _ => decide (M.2.2.2.1 = some .boolean)
  | .lreturn => decide (M.2.2.2.1 = some .long)
  | .return_ => decide (M.2.2.2.1 = none)
  | .invokevirtual i => mmChkC PT M i 0 ax
  | .invokestatic i => mmChkC PT M i 2 ax && (match ax with
    | [8, p, _] => decide (1 ≤ M.2.2.2.2.1) && decide (8 + (nativeFrameWords "java/lang/System" "arraycopy" 5 + 11) ≤ M.2.2.2.2.2.1) && mmIn p (.methodLink M.1.cls i arraycopyName) && decide (Cond.native arraycopyName ∈ mmGood) && decide (Cond.static arraycopyName ∈ mmGood) && decide (Cond.initialized "java/lang/System" ∈ mmGood)
    | _ => true)
  | .invokespecial i => mmChkC PT M i 4 ax && (match ax with
    | [9, p, _] => decide (1 ≤ M.2.2.2.2.1) && decide (20 ≤ M.2.2.2.2.2.1) && mmIn p (.methodLink M.1.cls i objectInit) && decide (Cond.instanceMethod objectInit ∈ mmGood) && decide (Cond.code objectInit ⟨#[0xb1]⟩ 1 none ∈ mmGood)
    | _ => true)
  | .ldc i => match ax with
    | b :: p :: _ => mmIn p (.constant M.1.cls i (Int32.ofNat b))
    | [] => true
    | _ => false
  | .ldc_w i => match ax with
    | b :: p :: _ => mmIn p (.constant M.1.cls i (Int32.ofNat b))
    | [] => true
    | _ => false
  | .ldc2_w i => match ax with
    | b :: p :: _ => mmIn p (.constantLong M.1.cls i (Int64.ofNat b))
    | [] => true
    | _ => false
  | .getfield i => match ax with
    | ci :: k :: p :: _ => match vwCl[ci]? with
      | some q => decide (k < q.2.2) && mmInF p M.1.cls i (q.2.1 k).1 (q.2.1 k).2.1 (q.2.1 k).2.2.1
      | none => false
    | [] => true
    | _ => false
  | .putfield i => match ax with
    | ci :: k :: tc :: p :: _ => match vwCl[ci]? with
      | some q => decide (k < q.2.2) && (match parseFieldDescriptor (q.2.1 k).2.2.1 with
          | some ty => mmTc tc ty
          | none => false) && (if (q.2.1 k).2.2.2 = true then decide (M.1.name = "<init>") && decide ((q.2.1 k).1 = M.1.cls) && mmIn p (.fieldLink M.1.cls i (q.2.1 k).1 (q.2.1 k).2.1 (q.2.1 k).2.2.1) else mmInF p M.1.cls i (q.2.1 k).1 (q.2.1 k).2.1 (q.2.1 k).2.2.1)
      | none => false
    | [] => true
    | _ => false
  | .new i => match ax with
    | ci :: p1 :: p2 :: p3 :: _ => match vwCl[ci]? with
      | some q => mmIn p1 (.classLink M.1.cls i q.1) && mmIn p2 (.instantiable q.1 q.2.2) && mmIn p3 (.initialized q.1)
      | none => false
    | [] => true
    | _ => false
  | .newarray .int => match ax with
    | p :: _ => mmIn p (.arrayClass .int)
    | _ => false
  | _ => true
theorem mmChkI_ok {PT : List mmM} {M : mmM} {pc : Nat} {ins : Instr} {ax : List Nat} (h : mmChkI PT M pc ins ax = true) : mmOkI PT M pc ins ax := by
  cases ins
  case ifCond => rintro tg t rfl; exact of_decide_eq_true h
  case if_icmp => rintro tg t rfl; exact of_decide_eq_true h
  case goto => rintro tg t rfl; exact of_decide_eq_true h
  case tableswitch =>
    rintro df tgs rfl
    simp only [mmChkI, Bool.and_eq_true, decide_eq_true_eq] at h
    refine ⟨h.1, fun j tg hj => ?_⟩
    have h2 := congrArg (fun l => l[j]?) h.2
    simp only [List.getElem?_map, hj, Option.map_some] at h2
    obtain ⟨o, h3, h4⟩ := Option.map_eq_some_iff.mp h2.symm
    exact ⟨o, by rw [← Array.getElem?_toList]; exact h3, h4⟩
  case ireturn =>
    refine ⟨fun e => ?_, fun e => ?_⟩
    · subst e; exact of_decide_eq_true h
    · cases ax with
      | nil => exact absurd rfl e
      | cons a t => exact of_decide_eq_true h
  case lreturn => exact of_decide_eq_true (p := M.2.2.2.1 = some .long) h
  case return_ => exact of_decide_eq_true (p := M.2.2.2.1 = none) h
  case invokevirtual => exact mmChkC_ok h
  case invokestatic =>
    simp only [mmChkI, Bool.and_eq_true] at h
    refine ⟨?_, mmChkC_ok h.1⟩
    rintro a b rfl
    have h2 := h.2
    simp only [Bool.and_eq_true, decide_eq_true_eq] at h2
    obtain ⟨⟨⟨⟨⟨g1, g2⟩, g3⟩, g4⟩, g5⟩, g6⟩ := h2
    exact ⟨g1, g2, mmIn_ok g3, g4, g5, g6⟩
  case invokespecial =>
    simp only [mmChkI, Bool.and_eq_true] at h
    refine ⟨?_, mmChkC_ok h.1⟩
    rintro a b rfl
    have h2 := h.2
    simp only [Bool.and_eq_true, decide_eq_true_eq] at h2
    obtain ⟨⟨⟨⟨g1, g2⟩, g3⟩, g4⟩, g5⟩ := h2
    exact ⟨g1, g2, mmIn_ok g3, g4, g5⟩
  case ldc =>
    rintro b t rfl
    cases t with
    | nil => cases h
    | cons p t => exact mmIn_ok h
  case ldc_w =>
    rintro b t rfl
    cases t with
    | nil => cases h
    | cons p t => exact mmIn_ok h
  case ldc2_w =>
    rintro b t rfl
    cases t with
    | nil => cases h
    | cons p t => exact mmIn_ok h
  case getfield =>
    rintro ci k t rfl
    cases t with
    | nil => cases h
    | cons p t =>
      simp only [mmChkI] at h
      split at h
      · rename_i q hq
        rw [Bool.and_eq_true, decide_eq_true_eq] at h
        refine ⟨q, hq, h.1, ?_⟩
        rcases mmInF_ok h.2 with g | g
        · exact Or.inl g
        · exact Or.inr ⟨rfl, g⟩
      · cases h
  case putfield =>
    rintro ci k tc t rfl
    cases t with
    | nil => cases h
    | cons p t =>
      simp only [mmChkI] at h
      split at h
      · rename_i q hq
        rw [Bool.and_eq_true, Bool.and_eq_true, decide_eq_true_eq] at h
        obtain ⟨⟨h1, h2⟩, h3⟩ := h
        split at h2
        · rename_i ty hty
          refine ⟨q, ty, hq, h1, hty, h2, ?_⟩
          split at h3
          · rename_i hf
            rw [Bool.and_eq_true, Bool.and_eq_true, decide_eq_true_eq, decide_eq_true_eq] at h3
            exact Or.inl ⟨hf, h3.1.1, h3.1.2, mmIn_ok h3.2⟩
          · rename_i hf
            exact Or.inr ⟨by simpa using hf, mmInF_ok h3⟩
        · cases h2
      · cases h
  case new =>
    rintro ci t rfl
    cases t with
    | nil => cases h
    | cons p1 t => cases t with
      | nil => cases h
      | cons p2 t => cases t with
        | nil => cases h
        | cons p3 t =>
          simp only [mmChkI] at h
          split at h
          · rename_i q hq
            rw [Bool.and_eq_true, Bool.and_eq_true] at h
            exact ⟨q, hq, mmIn_ok h.1.1, mmIn_ok h.1.2, mmIn_ok h.2⟩
          · cases h
  case newarray ty =>
    cases ty <;> first | trivial | skip
    cases ax with
    | nil => cases h
    | cons p t => exact mmIn_ok h
  all_goals trivial
def mmChk (PT : List mmM) (M : mmM) : Bool := plainFor M.1 && M.2.2.2.2.2.2.all fun q => decide (decode M.2.1 q.1 = .ok (q.2.1, q.2.2.1)) && (mmIsSw q.2.1 || q.2.2.1 == mmLen q.2.1) && mmChkI PT M q.1 q.2.1 q.2.2.2
theorem mmFetch_mem {t : List mmI} {pc : Nat} {x : Instr × Nat × List Nat} (h : mmFetch t pc = some x) : (pc, x) ∈ t := by
  induction t with
  | nil => cases h
  | cons q t ih =>
    unfold mmFetch at h
    cases hb : Nat.beq q.1 pc with
    | true =>
      rw [hb] at h
      have he := Nat.eq_of_beq_eq_true hb
      have : q = (pc, x) := Prod.ext he (Option.some.inj h)
      rw [this]
      exact List.mem_cons_self
    | false =>
      rw [hb] at h
      exact List.mem_cons_of_mem _ (ih h)
theorem mmChk_ok {PT : List mmM} {M : mmM} (h : mmChk PT M = true) : mmOkM PT M := by
  unfold mmChk at h
  rw [Bool.and_eq_true, List.all_eq_true] at h
  refine ⟨h.1, fun pc ins len ax hf => ?_⟩
  have h2 := h.2 _ (mmFetch_mem hf)
  simp only [Bool.and_eq_true, decide_eq_true_eq, Bool.or_eq_true, beq_iff_eq] at h2
  exact ⟨h2.1.1, h2.1.2, mmChkI_ok h2.2⟩
end
