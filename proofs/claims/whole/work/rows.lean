section
-- ===== PART A: goes FIRST, ahead of the names: the tables' words, and 'selects' of the private methods out of them =====
/-- a private method of a class that the tables say can be made, by its rows of tables_1 -/
def lw_okq (q : MethodName × Nat) : Prop := (q.1.cls ≠ "java/lang/invoke/MethodHandle" ∧ q.1.cls ≠ "java/lang/invoke/VarHandle") ∧ Cond.instantiable q.1.cls q.2 ∈ tables_1 ∧ Cond.privateMethod q.1 ∈ tables_1 ∧ Cond.instanceMethod q.1 ∈ tables_1
theorem lw_p0 : lw_okq (⟨"WalkingTown", "found", "(I)I"⟩, 15) := ⟨⟨by decide +kernel, by decide +kernel⟩, List.mem_of_getElem? (i := 16) (by decide +kernel), List.mem_of_getElem? (i := 316) (by decide +kernel), List.mem_of_getElem? (i := 317) (by decide +kernel)⟩
theorem lw_p1 : lw_okq (⟨"WalkingTown", "textOf", "(I)LWalkingTown$Text;"⟩, 15) := ⟨⟨by decide +kernel, by decide +kernel⟩, List.mem_of_getElem? (i := 16) (by decide +kernel), List.mem_of_getElem? (i := 342) (by decide +kernel), List.mem_of_getElem? (i := 343) (by decide +kernel)⟩
theorem lw_p2 : lw_okq (⟨"WalkingTown", "readAgain", "(I)V"⟩, 15) := ⟨⟨by decide +kernel, by decide +kernel⟩, List.mem_of_getElem? (i := 16) (by decide +kernel), List.mem_of_getElem? (i := 350) (by decide +kernel), List.mem_of_getElem? (i := 351) (by decide +kernel)⟩
theorem lw_p3 : lw_okq (⟨"WalkingTown$Town", "readParts", "(LWalkingTown$Text;)I"⟩, 5) := ⟨⟨by decide +kernel, by decide +kernel⟩, List.mem_of_getElem? (i := 41) (by decide +kernel), List.mem_of_getElem? (i := 358) (by decide +kernel), List.mem_of_getElem? (i := 359) (by decide +kernel)⟩
theorem lw_p4 : lw_okq (⟨"WalkingTown$Town", "readPart", "(LWalkingTown$Text;I)I"⟩, 5) := ⟨⟨by decide +kernel, by decide +kernel⟩, List.mem_of_getElem? (i := 41) (by decide +kernel), List.mem_of_getElem? (i := 362) (by decide +kernel), List.mem_of_getElem? (i := 363) (by decide +kernel)⟩
theorem lw_p5 : lw_okq (⟨"WalkingTown$Town", "isTaken", "(II)Z"⟩, 5) := ⟨⟨by decide +kernel, by decide +kernel⟩, List.mem_of_getElem? (i := 41) (by decide +kernel), List.mem_of_getElem? (i := 379) (by decide +kernel), List.mem_of_getElem? (i := 380) (by decide +kernel)⟩
theorem lw_p6 : lw_okq (⟨"WalkingTown$Told", "readParts", "(LWalkingTown$Text;I)I"⟩, 4) := ⟨⟨by decide +kernel, by decide +kernel⟩, List.mem_of_getElem? (i := 74) (by decide +kernel), List.mem_of_getElem? (i := 387) (by decide +kernel), List.mem_of_getElem? (i := 388) (by decide +kernel)⟩
theorem lw_p7 : lw_okq (⟨"WalkingTown$Told", "readPart", "(LWalkingTown$Text;II)I"⟩, 4) := ⟨⟨by decide +kernel, by decide +kernel⟩, List.mem_of_getElem? (i := 74) (by decide +kernel), List.mem_of_getElem? (i := 391) (by decide +kernel), List.mem_of_getElem? (i := 392) (by decide +kernel)⟩
theorem lw_p8 : lw_okq (⟨"WalkingTown", "isHouse", "(I)Z"⟩, 15) := ⟨⟨by decide +kernel, by decide +kernel⟩, List.mem_of_getElem? (i := 16) (by decide +kernel), List.mem_of_getElem? (i := 410) (by decide +kernel), List.mem_of_getElem? (i := 411) (by decide +kernel)⟩
theorem lw_p9 : lw_okq (⟨"WalkingTown", "whyWrong", "(III)I"⟩, 15) := ⟨⟨by decide +kernel, by decide +kernel⟩, List.mem_of_getElem? (i := 16) (by decide +kernel), List.mem_of_getElem? (i := 428) (by decide +kernel), List.mem_of_getElem? (i := 429) (by decide +kernel)⟩
theorem lw_p10 : lw_okq (⟨"WalkingTown", "fewestHands", "(LWalkingTown$Walk;I)I"⟩, 15) := ⟨⟨by decide +kernel, by decide +kernel⟩, List.mem_of_getElem? (i := 16) (by decide +kernel), List.mem_of_getElem? (i := 471) (by decide +kernel), List.mem_of_getElem? (i := 472) (by decide +kernel)⟩
theorem lw_p11 : lw_okq (⟨"WalkingTown", "keepsAhead", "(LWalkingTown$Walk;III)Z"⟩, 15) := ⟨⟨by decide +kernel, by decide +kernel⟩, List.mem_of_getElem? (i := 16) (by decide +kernel), List.mem_of_getElem? (i := 479) (by decide +kernel), List.mem_of_getElem? (i := 480) (by decide +kernel)⟩
theorem lw_p12 : lw_okq (⟨"WalkingTown", "wellsMet", "(I)I"⟩, 15) := ⟨⟨by decide +kernel, by decide +kernel⟩, List.mem_of_getElem? (i := 16) (by decide +kernel), List.mem_of_getElem? (i := 530) (by decide +kernel), List.mem_of_getElem? (i := 531) (by decide +kernel)⟩
theorem lw_p13 : lw_okq (⟨"WalkingTown", "withHouse", "(JI)J"⟩, 15) := ⟨⟨by decide +kernel, by decide +kernel⟩, List.mem_of_getElem? (i := 16) (by decide +kernel), List.mem_of_getElem? (i := 670) (by decide +kernel), List.mem_of_getElem? (i := 671) (by decide +kernel)⟩
theorem lw_p14 : lw_okq (⟨"WalkingTown", "withWeek", "(JI)J"⟩, 15) := ⟨⟨by decide +kernel, by decide +kernel⟩, List.mem_of_getElem? (i := 16) (by decide +kernel), List.mem_of_getElem? (i := 679) (by decide +kernel), List.mem_of_getElem? (i := 680) (by decide +kernel)⟩
theorem lw_p15 : lw_okq (⟨"WalkingTownModel", "meets", "(I)I"⟩, 33) := ⟨⟨by decide +kernel, by decide +kernel⟩, List.mem_of_getElem? (i := 692) (by decide +kernel), List.mem_of_getElem? (i := 816) (by decide +kernel), List.mem_of_getElem? (i := 817) (by decide +kernel)⟩
def lw_privs_1 : List (MethodName × Nat) := [(⟨"WalkingTown", "found", "(I)I"⟩, 15), (⟨"WalkingTown", "textOf", "(I)LWalkingTown$Text;"⟩, 15), (⟨"WalkingTown", "readAgain", "(I)V"⟩, 15), (⟨"WalkingTown$Town", "readParts", "(LWalkingTown$Text;)I"⟩, 5), (⟨"WalkingTown$Town", "readPart", "(LWalkingTown$Text;I)I"⟩, 5), (⟨"WalkingTown$Town", "isTaken", "(II)Z"⟩, 5), (⟨"WalkingTown$Told", "readParts", "(LWalkingTown$Text;I)I"⟩, 4), (⟨"WalkingTown$Told", "readPart", "(LWalkingTown$Text;II)I"⟩, 4), (⟨"WalkingTown", "isHouse", "(I)Z"⟩, 15), (⟨"WalkingTown", "whyWrong", "(III)I"⟩, 15), (⟨"WalkingTown", "fewestHands", "(LWalkingTown$Walk;I)I"⟩, 15), (⟨"WalkingTown", "keepsAhead", "(LWalkingTown$Walk;III)Z"⟩, 15), (⟨"WalkingTown", "wellsMet", "(I)I"⟩, 15), (⟨"WalkingTown", "withHouse", "(JI)J"⟩, 15), (⟨"WalkingTown", "withWeek", "(JI)J"⟩, 15), (⟨"WalkingTownModel", "meets", "(I)I"⟩, 33)]
theorem lw_r1 : ∀ q ∈ lw_privs_1, lw_okq q := List.forall_mem_cons.mpr ⟨lw_p0, List.forall_mem_cons.mpr ⟨lw_p1, List.forall_mem_cons.mpr ⟨lw_p2, List.forall_mem_cons.mpr ⟨lw_p3, List.forall_mem_cons.mpr ⟨lw_p4, List.forall_mem_cons.mpr ⟨lw_p5, List.forall_mem_cons.mpr ⟨lw_p6, List.forall_mem_cons.mpr ⟨lw_p7, List.forall_mem_cons.mpr ⟨lw_p8, List.forall_mem_cons.mpr ⟨lw_p9, List.forall_mem_cons.mpr ⟨lw_p10, List.forall_mem_cons.mpr ⟨lw_p11, List.forall_mem_cons.mpr ⟨lw_p12, List.forall_mem_cons.mpr ⟨lw_p13, List.forall_mem_cons.mpr ⟨lw_p14, List.forall_mem_cons.mpr ⟨lw_p15, fun _ h => absurd h List.not_mem_nil⟩⟩⟩⟩⟩⟩⟩⟩⟩⟩⟩⟩⟩⟩⟩⟩
theorem lw_p16 : lw_okq (⟨"WalkingTownModel", "footOf", "(I)I"⟩, 33) := ⟨⟨by decide +kernel, by decide +kernel⟩, List.mem_of_getElem? (i := 692) (by decide +kernel), List.mem_of_getElem? (i := 828) (by decide +kernel), List.mem_of_getElem? (i := 829) (by decide +kernel)⟩
theorem lw_p17 : lw_okq (⟨"WalkingTownModel", "faultOf", "(I)I"⟩, 33) := ⟨⟨by decide +kernel, by decide +kernel⟩, List.mem_of_getElem? (i := 692) (by decide +kernel), List.mem_of_getElem? (i := 844) (by decide +kernel), List.mem_of_getElem? (i := 845) (by decide +kernel)⟩
theorem lw_p18 : lw_okq (⟨"WalkingTownModel", "townFault", "()I"⟩, 33) := ⟨⟨by decide +kernel, by decide +kernel⟩, List.mem_of_getElem? (i := 692) (by decide +kernel), List.mem_of_getElem? (i := 848) (by decide +kernel), List.mem_of_getElem? (i := 849) (by decide +kernel)⟩
theorem lw_p19 : lw_okq (⟨"WalkingTownModel", "byteAt", "(II)I"⟩, 33) := ⟨⟨by decide +kernel, by decide +kernel⟩, List.mem_of_getElem? (i := 692) (by decide +kernel), List.mem_of_getElem? (i := 852) (by decide +kernel), List.mem_of_getElem? (i := 853) (by decide +kernel)⟩
theorem lw_p20 : lw_okq (⟨"WalkingTownModel", "figureAt", "(II)I"⟩, 33) := ⟨⟨by decide +kernel, by decide +kernel⟩, List.mem_of_getElem? (i := 692) (by decide +kernel), List.mem_of_getElem? (i := 856) (by decide +kernel), List.mem_of_getElem? (i := 857) (by decide +kernel)⟩
theorem lw_p21 : lw_okq (⟨"WalkingTownModel", "movesFault", "()I"⟩, 33) := ⟨⟨by decide +kernel, by decide +kernel⟩, List.mem_of_getElem? (i := 692) (by decide +kernel), List.mem_of_getElem? (i := 860) (by decide +kernel), List.mem_of_getElem? (i := 861) (by decide +kernel)⟩
theorem lw_p22 : lw_okq (⟨"WalkingTownModel", "isHouse", "(I)Z"⟩, 33) := ⟨⟨by decide +kernel, by decide +kernel⟩, List.mem_of_getElem? (i := 692) (by decide +kernel), List.mem_of_getElem? (i := 868) (by decide +kernel), List.mem_of_getElem? (i := 869) (by decide +kernel)⟩
theorem lw_p23 : lw_okq (⟨"WalkingTownModel", "housesNow", "()I"⟩, 33) := ⟨⟨by decide +kernel, by decide +kernel⟩, List.mem_of_getElem? (i := 692) (by decide +kernel), List.mem_of_getElem? (i := 872) (by decide +kernel), List.mem_of_getElem? (i := 873) (by decide +kernel)⟩
theorem lw_p24 : lw_okq (⟨"WalkingTownModel", "houseOf", "(II)I"⟩, 33) := ⟨⟨by decide +kernel, by decide +kernel⟩, List.mem_of_getElem? (i := 692) (by decide +kernel), List.mem_of_getElem? (i := 876) (by decide +kernel), List.mem_of_getElem? (i := 877) (by decide +kernel)⟩
theorem lw_p25 : lw_okq (⟨"WalkingTownModel", "handsOf", "(II)I"⟩, 33) := ⟨⟨by decide +kernel, by decide +kernel⟩, List.mem_of_getElem? (i := 692) (by decide +kernel), List.mem_of_getElem? (i := 884) (by decide +kernel), List.mem_of_getElem? (i := 885) (by decide +kernel)⟩
theorem lw_p26 : lw_okq (⟨"WalkingTownModel", "judgedOf", "(I)I"⟩, 33) := ⟨⟨by decide +kernel, by decide +kernel⟩, List.mem_of_getElem? (i := 692) (by decide +kernel), List.mem_of_getElem? (i := 892) (by decide +kernel), List.mem_of_getElem? (i := 893) (by decide +kernel)⟩
theorem lw_p27 : lw_okq (⟨"WalkingTownModel", "judges", "()V"⟩, 33) := ⟨⟨by decide +kernel, by decide +kernel⟩, List.mem_of_getElem? (i := 692) (by decide +kernel), List.mem_of_getElem? (i := 896) (by decide +kernel), List.mem_of_getElem? (i := 897) (by decide +kernel)⟩
theorem lw_p28 : lw_okq (⟨"WalkingTownModel", "begins", "()V"⟩, 33) := ⟨⟨by decide +kernel, by decide +kernel⟩, List.mem_of_getElem? (i := 692) (by decide +kernel), List.mem_of_getElem? (i := 900) (by decide +kernel), List.mem_of_getElem? (i := 901) (by decide +kernel)⟩
theorem lw_p29 : lw_okq (⟨"WalkingTownModel", "goes", "(I)Z"⟩, 33) := ⟨⟨by decide +kernel, by decide +kernel⟩, List.mem_of_getElem? (i := 692) (by decide +kernel), List.mem_of_getElem? (i := 904) (by decide +kernel), List.mem_of_getElem? (i := 905) (by decide +kernel)⟩
theorem lw_p30 : lw_okq (⟨"WalkingTownModel", "endsOf", "(I)I"⟩, 33) := ⟨⟨by decide +kernel, by decide +kernel⟩, List.mem_of_getElem? (i := 692) (by decide +kernel), List.mem_of_getElem? (i := 912) (by decide +kernel), List.mem_of_getElem? (i := 913) (by decide +kernel)⟩
theorem lw_p31 : lw_okq (⟨"WalkingTownModel", "queueOf", "(II)I"⟩, 33) := ⟨⟨by decide +kernel, by decide +kernel⟩, List.mem_of_getElem? (i := 692) (by decide +kernel), List.mem_of_getElem? (i := 920) (by decide +kernel), List.mem_of_getElem? (i := 921) (by decide +kernel)⟩
def lw_privs_2 : List (MethodName × Nat) := [(⟨"WalkingTownModel", "footOf", "(I)I"⟩, 33), (⟨"WalkingTownModel", "faultOf", "(I)I"⟩, 33), (⟨"WalkingTownModel", "townFault", "()I"⟩, 33), (⟨"WalkingTownModel", "byteAt", "(II)I"⟩, 33), (⟨"WalkingTownModel", "figureAt", "(II)I"⟩, 33), (⟨"WalkingTownModel", "movesFault", "()I"⟩, 33), (⟨"WalkingTownModel", "isHouse", "(I)Z"⟩, 33), (⟨"WalkingTownModel", "housesNow", "()I"⟩, 33), (⟨"WalkingTownModel", "houseOf", "(II)I"⟩, 33), (⟨"WalkingTownModel", "handsOf", "(II)I"⟩, 33), (⟨"WalkingTownModel", "judgedOf", "(I)I"⟩, 33), (⟨"WalkingTownModel", "judges", "()V"⟩, 33), (⟨"WalkingTownModel", "begins", "()V"⟩, 33), (⟨"WalkingTownModel", "goes", "(I)Z"⟩, 33), (⟨"WalkingTownModel", "endsOf", "(I)I"⟩, 33), (⟨"WalkingTownModel", "queueOf", "(II)I"⟩, 33)]
theorem lw_r2 : ∀ q ∈ lw_privs_2, lw_okq q := List.forall_mem_cons.mpr ⟨lw_p16, List.forall_mem_cons.mpr ⟨lw_p17, List.forall_mem_cons.mpr ⟨lw_p18, List.forall_mem_cons.mpr ⟨lw_p19, List.forall_mem_cons.mpr ⟨lw_p20, List.forall_mem_cons.mpr ⟨lw_p21, List.forall_mem_cons.mpr ⟨lw_p22, List.forall_mem_cons.mpr ⟨lw_p23, List.forall_mem_cons.mpr ⟨lw_p24, List.forall_mem_cons.mpr ⟨lw_p25, List.forall_mem_cons.mpr ⟨lw_p26, List.forall_mem_cons.mpr ⟨lw_p27, List.forall_mem_cons.mpr ⟨lw_p28, List.forall_mem_cons.mpr ⟨lw_p29, List.forall_mem_cons.mpr ⟨lw_p30, List.forall_mem_cons.mpr ⟨lw_p31, fun _ h => absurd h List.not_mem_nil⟩⟩⟩⟩⟩⟩⟩⟩⟩⟩⟩⟩⟩⟩⟩⟩
theorem lw_p32 : lw_okq (⟨"WalkingTownModel", "queues", "(I)V"⟩, 33) := ⟨⟨by decide +kernel, by decide +kernel⟩, List.mem_of_getElem? (i := 692) (by decide +kernel), List.mem_of_getElem? (i := 924) (by decide +kernel), List.mem_of_getElem? (i := 925) (by decide +kernel)⟩
theorem lw_p33 : lw_okq (⟨"WalkingTownModel", "nextOne", "()I"⟩, 33) := ⟨⟨by decide +kernel, by decide +kernel⟩, List.mem_of_getElem? (i := 692) (by decide +kernel), List.mem_of_getElem? (i := 928) (by decide +kernel), List.mem_of_getElem? (i := 929) (by decide +kernel)⟩
theorem lw_p34 : lw_okq (⟨"WalkingTownModel", "needsOf", "(I)I"⟩, 33) := ⟨⟨by decide +kernel, by decide +kernel⟩, List.mem_of_getElem? (i := 692) (by decide +kernel), List.mem_of_getElem? (i := 936) (by decide +kernel), List.mem_of_getElem? (i := 937) (by decide +kernel)⟩
theorem lw_p35 : lw_okq (⟨"WalkingTownModel", "needsBy", "(I)I"⟩, 33) := ⟨⟨by decide +kernel, by decide +kernel⟩, List.mem_of_getElem? (i := 692) (by decide +kernel), List.mem_of_getElem? (i := 940) (by decide +kernel), List.mem_of_getElem? (i := 941) (by decide +kernel)⟩
theorem lw_p36 : lw_okq (⟨"WalkingTownModel", "fewestOf", "(I)I"⟩, 33) := ⟨⟨by decide +kernel, by decide +kernel⟩, List.mem_of_getElem? (i := 692) (by decide +kernel), List.mem_of_getElem? (i := 948) (by decide +kernel), List.mem_of_getElem? (i := 949) (by decide +kernel)⟩
theorem lw_p37 : lw_okq (⟨"WalkingTownModel", "fewestBy", "(I)I"⟩, 33) := ⟨⟨by decide +kernel, by decide +kernel⟩, List.mem_of_getElem? (i := 692) (by decide +kernel), List.mem_of_getElem? (i := 952) (by decide +kernel), List.mem_of_getElem? (i := 953) (by decide +kernel)⟩
theorem lw_p38 : lw_okq (⟨"WalkingTownModel", "areEnough", "(III)Z"⟩, 33) := ⟨⟨by decide +kernel, by decide +kernel⟩, List.mem_of_getElem? (i := 692) (by decide +kernel), List.mem_of_getElem? (i := 956) (by decide +kernel), List.mem_of_getElem? (i := 957) (by decide +kernel)⟩
theorem lw_p39 : lw_okq (⟨"WalkingTownModel", "turnOf", "(II)I"⟩, 33) := ⟨⟨by decide +kernel, by decide +kernel⟩, List.mem_of_getElem? (i := 692) (by decide +kernel), List.mem_of_getElem? (i := 964) (by decide +kernel), List.mem_of_getElem? (i := 965) (by decide +kernel)⟩
theorem lw_p40 : lw_okq (⟨"WalkingTownModel", "brokenOf", "(II)I"⟩, 33) := ⟨⟨by decide +kernel, by decide +kernel⟩, List.mem_of_getElem? (i := 692) (by decide +kernel), List.mem_of_getElem? (i := 976) (by decide +kernel), List.mem_of_getElem? (i := 977) (by decide +kernel)⟩
theorem lw_p41 : lw_okq (⟨"WalkingTownModel", "brokenNow", "()I"⟩, 33) := ⟨⟨by decide +kernel, by decide +kernel⟩, List.mem_of_getElem? (i := 692) (by decide +kernel), List.mem_of_getElem? (i := 980) (by decide +kernel), List.mem_of_getElem? (i := 981) (by decide +kernel)⟩
theorem lw_p42 : lw_okq (⟨"WalkingTownModel", "metOf", "(I)I"⟩, 33) := ⟨⟨by decide +kernel, by decide +kernel⟩, List.mem_of_getElem? (i := 692) (by decide +kernel), List.mem_of_getElem? (i := 998) (by decide +kernel), List.mem_of_getElem? (i := 999) (by decide +kernel)⟩
theorem lw_p43 : lw_okq (⟨"WalkingTownModel", "dryOf", "(I)I"⟩, 33) := ⟨⟨by decide +kernel, by decide +kernel⟩, List.mem_of_getElem? (i := 692) (by decide +kernel), List.mem_of_getElem? (i := 1006) (by decide +kernel), List.mem_of_getElem? (i := 1007) (by decide +kernel)⟩
theorem lw_p44 : lw_okq (⟨"WalkingTownModel", "soldOf", "(III)I"⟩, 33) := ⟨⟨by decide +kernel, by decide +kernel⟩, List.mem_of_getElem? (i := 692) (by decide +kernel), List.mem_of_getElem? (i := 1014) (by decide +kernel), List.mem_of_getElem? (i := 1015) (by decide +kernel)⟩
theorem lw_p45 : lw_okq (⟨"WalkingTownModel", "changes", "(II)V"⟩, 33) := ⟨⟨by decide +kernel, by decide +kernel⟩, List.mem_of_getElem? (i := 692) (by decide +kernel), List.mem_of_getElem? (i := 1018) (by decide +kernel), List.mem_of_getElem? (i := 1019) (by decide +kernel)⟩
theorem lw_p46 : lw_okq (⟨"WalkingTownModel", "owesOf", "(II)I"⟩, 33) := ⟨⟨by decide +kernel, by decide +kernel⟩, List.mem_of_getElem? (i := 692) (by decide +kernel), List.mem_of_getElem? (i := 1030) (by decide +kernel), List.mem_of_getElem? (i := 1031) (by decide +kernel)⟩
theorem lw_p47 : lw_okq (⟨"WalkingTownModel", "lostOf", "(I)I"⟩, 33) := ⟨⟨by decide +kernel, by decide +kernel⟩, List.mem_of_getElem? (i := 692) (by decide +kernel), List.mem_of_getElem? (i := 1038) (by decide +kernel), List.mem_of_getElem? (i := 1039) (by decide +kernel)⟩
def lw_privs_3 : List (MethodName × Nat) := [(⟨"WalkingTownModel", "queues", "(I)V"⟩, 33), (⟨"WalkingTownModel", "nextOne", "()I"⟩, 33), (⟨"WalkingTownModel", "needsOf", "(I)I"⟩, 33), (⟨"WalkingTownModel", "needsBy", "(I)I"⟩, 33), (⟨"WalkingTownModel", "fewestOf", "(I)I"⟩, 33), (⟨"WalkingTownModel", "fewestBy", "(I)I"⟩, 33), (⟨"WalkingTownModel", "areEnough", "(III)Z"⟩, 33), (⟨"WalkingTownModel", "turnOf", "(II)I"⟩, 33), (⟨"WalkingTownModel", "brokenOf", "(II)I"⟩, 33), (⟨"WalkingTownModel", "brokenNow", "()I"⟩, 33), (⟨"WalkingTownModel", "metOf", "(I)I"⟩, 33), (⟨"WalkingTownModel", "dryOf", "(I)I"⟩, 33), (⟨"WalkingTownModel", "soldOf", "(III)I"⟩, 33), (⟨"WalkingTownModel", "changes", "(II)V"⟩, 33), (⟨"WalkingTownModel", "owesOf", "(II)I"⟩, 33), (⟨"WalkingTownModel", "lostOf", "(I)I"⟩, 33)]
theorem lw_r3 : ∀ q ∈ lw_privs_3, lw_okq q := List.forall_mem_cons.mpr ⟨lw_p32, List.forall_mem_cons.mpr ⟨lw_p33, List.forall_mem_cons.mpr ⟨lw_p34, List.forall_mem_cons.mpr ⟨lw_p35, List.forall_mem_cons.mpr ⟨lw_p36, List.forall_mem_cons.mpr ⟨lw_p37, List.forall_mem_cons.mpr ⟨lw_p38, List.forall_mem_cons.mpr ⟨lw_p39, List.forall_mem_cons.mpr ⟨lw_p40, List.forall_mem_cons.mpr ⟨lw_p41, List.forall_mem_cons.mpr ⟨lw_p42, List.forall_mem_cons.mpr ⟨lw_p43, List.forall_mem_cons.mpr ⟨lw_p44, List.forall_mem_cons.mpr ⟨lw_p45, List.forall_mem_cons.mpr ⟨lw_p46, List.forall_mem_cons.mpr ⟨lw_p47, fun _ h => absurd h List.not_mem_nil⟩⟩⟩⟩⟩⟩⟩⟩⟩⟩⟩⟩⟩⟩⟩⟩
theorem lw_p48 : lw_okq (⟨"WalkingTownModel", "lacks", "(III)I"⟩, 33) := ⟨⟨by decide +kernel, by decide +kernel⟩, List.mem_of_getElem? (i := 692) (by decide +kernel), List.mem_of_getElem? (i := 1073) (by decide +kernel), List.mem_of_getElem? (i := 1074) (by decide +kernel)⟩
theorem lw_p49 : lw_okq (⟨"WalkingTownModel", "keep", "(III)V"⟩, 33) := ⟨⟨by decide +kernel, by decide +kernel⟩, List.mem_of_getElem? (i := 692) (by decide +kernel), List.mem_of_getElem? (i := 1077) (by decide +kernel), List.mem_of_getElem? (i := 1078) (by decide +kernel)⟩
theorem lw_p50 : lw_okq (⟨"WalkingTownModel", "movesNow", "()I"⟩, 33) := ⟨⟨by decide +kernel, by decide +kernel⟩, List.mem_of_getElem? (i := 692) (by decide +kernel), List.mem_of_getElem? (i := 1098) (by decide +kernel), List.mem_of_getElem? (i := 1099) (by decide +kernel)⟩
def lw_privs_4 : List (MethodName × Nat) := [(⟨"WalkingTownModel", "lacks", "(III)I"⟩, 33), (⟨"WalkingTownModel", "keep", "(III)V"⟩, 33), (⟨"WalkingTownModel", "movesNow", "()I"⟩, 33)]
theorem lw_r4 : ∀ q ∈ lw_privs_4, lw_okq q := List.forall_mem_cons.mpr ⟨lw_p48, List.forall_mem_cons.mpr ⟨lw_p49, List.forall_mem_cons.mpr ⟨lw_p50, fun _ h => absurd h List.not_mem_nil⟩⟩⟩
def lw_privs : List (MethodName × Nat) := lw_privs_1 ++ (lw_privs_2 ++ (lw_privs_3 ++ (lw_privs_4)))
def lw_tbl : List Cond := k2_sels lw_privs ++ tables_1
theorem lw_privs_ok : ∀ q ∈ lw_privs, lw_okq q := by
  show ∀ q ∈ lw_privs_1 ++ (lw_privs_2 ++ (lw_privs_3 ++ (lw_privs_4))), lw_okq q
  exact List.forall_mem_append.mpr ⟨lw_r1, List.forall_mem_append.mpr ⟨lw_r2, List.forall_mem_append.mpr ⟨lw_r3, lw_r4⟩⟩⟩
-- ===== end of PART A; then your names; then what follows =====
/-! THE CLAIM OUT OF ONE WALK OF THE LAW'S BODY. Your part is whole_start (and what it stands on); all else here is the same for every law, but numbers. -/
def R_law : String := "WalkingTownLaw"
def lw_P (b : Addr) (xs : List Int32) (args : Array Value) (s : State) : Prop := args = #[.ref b] ∧ s.IntsAt b xs ∧ xs.length ≤ 3072 ∧ (Jvm.Cond.and given_1 narrow_1).before args s = true
def lw_Q (_ : Array Value) (s : State) (o : Outcome) (t : State) : Prop := o = .returned (some (.int 1)) ∧ Framed s o t [] 600000 7302250
def lw_Z (below : List Frame) (a : Array Value) (s : State) : State → Prop := fun t => ∃ o, t.status = .running ∧ Ended t below o ∧ lw_Q a s o t
/-- the law's own end, with 1 on the stack, nothing written that was there before, its room as the claim has it -/
theorem lw_ret {p : Program} {l : Launch} {e : Env} {s : State} {m : MethodId} {below : List Frame} {meth : Method} {c : Code} {b : Nat} (hx : p.tables.exec = Jvm.exec) (hb : c.code = code) (hr : meth.sig.returnType = ret) (hlocks : meth.locks = false) {pc : Nat} {H : Heap} {ls : Array Slot} (hdg : decode code pc = .ok (.ireturn, 1)) : W p l e room_1 s m #[Value.ref b] below meth c H [] 600000 7302250 (lw_Z below #[Value.ref b] s) (F0 m pc ls [.int 1]) := by
  intro T hT X
  obtain ⟨fs, hret, hrun, hended, hW, hframe⟩ := X.leave (v := some (.int 1)) (hlocks := hlocks) (fun h => by rw [hr] at h; cases h)
  have hmeth' : T.vm.method? m = some meth := X.method'
  refine ⟨T.setFrames fs, ?_, .returned (some (.int 1)), hrun, hended, rfl, ⟨_, rfl⟩, hW, hframe⟩
  jvm_step X.here [X.here.top, hx, hb, hdg, hmeth', hr, ret, narrow_b1]
  (try refine ⟨rfl, ?_⟩); (try refine ⟨rfl, ?_⟩)
  first | (intro acts; rw [hret _ acts rfl rfl rfl]) | rw [hret _ _ rfl rfl rfl]
  exact Steps.refl _
/-- what holds at the law's entry: the machine, the code, the tables' words (any of lw_tbl by 'hts w (by decide +kernel)'), the script of L ints xs at the cell b, what the Statement gives of the start (any of its parts by flat_of_before) -/
def lw_At (p : Program) (s : State) (m : MethodId) (meth : Method) (c : Code) (b L : Nat) (xs : Nat → Int32) : Prop :=
  p.tables.exec = Jvm.exec ∧ c.code = code ∧ meth.sig.returnType = ret ∧ c.maxLocals = 4 ∧ s.vm.findClass R_law = some m.cls ∧ (∀ w ∈ lw_tbl, w.before #[Value.ref b] s = true) ∧ va_X b L xs s s.heap ∧ b < s.heap.size ∧ meth.locks = false ∧ (Jvm.Cond.and given_1 narrow_1).before #[Value.ref b] s = true
end
section
def RX0 : String := "WalkingTown$Marks"
def TX0 : u_T := fun k => match k with
  | 0 => ("WalkingTown$Marks", "columns", "[I", true)
  | 1 => ("WalkingTown$Marks", "rows", "[I", true)
  | 2 => ("WalkingTown$Marks", "amounts", "[I", true)
  | _ => ("WalkingTown$Marks", "size", "I", false)
def tyX0 : Nat → FieldType := fun k => match k with
  | 0 => .array .int
  | 1 => .array .int
  | 2 => .array .int
  | _ => .int
theorem nmX0 : ∀ a, a < 4 → ∀ b, b < 4 → a ≠ b → (TX0 a).2.1 ≠ (TX0 b).2.1 := by decide +kernel
theorem tyX0_ok : ∀ k, k < 4 → parseFieldDescriptor (TX0 k).2.2.1 = some (tyX0 k) := by decide +kernel
abbrev cX0_init : ByteArray := prog_2_method_1_code
def yX0_init : MethodName := ⟨RX0, "<init>", "(I)V"⟩
abbrev cX0_add : ByteArray := prog_2_method_2_code
def yX0_add : MethodName := ⟨RX0, "add", "(III)Z"⟩
abbrev cX0_inRows : ByteArray := prog_2_method_3_code
def yX0_inRows : MethodName := ⟨RX0, "inRows", "(II)I"⟩
abbrev cX0_amountOn : ByteArray := prog_2_method_4_code
def yX0_amountOn : MethodName := ⟨RX0, "amountOn", "(II)I"⟩
abbrev cX0_amountBelow : ByteArray := prog_2_method_5_code
def yX0_amountBelow : MethodName := ⟨RX0, "amountBelow", "(I)I"⟩
def RX1 : String := "WalkingTown$Pairs"
def TX1 : u_T := fun k => match k with
  | 0 => ("WalkingTown$Pairs", "ones", "[I", true)
  | 1 => ("WalkingTown$Pairs", "others", "[I", true)
  | _ => ("WalkingTown$Pairs", "size", "I", false)
def tyX1 : Nat → FieldType := fun k => match k with
  | 0 => .array .int
  | 1 => .array .int
  | _ => .int
theorem nmX1 : ∀ a, a < 3 → ∀ b, b < 3 → a ≠ b → (TX1 a).2.1 ≠ (TX1 b).2.1 := by decide +kernel
theorem tyX1_ok : ∀ k, k < 3 → parseFieldDescriptor (TX1 k).2.2.1 = some (tyX1 k) := by decide +kernel
abbrev cX1_init : ByteArray := prog_3_method_1_code
def yX1_init : MethodName := ⟨RX1, "<init>", "()V"⟩
abbrev cX1_add : ByteArray := prog_3_method_2_code
def yX1_add : MethodName := ⟨RX1, "add", "(II)Z"⟩
abbrev cX1_apart : ByteArray := prog_3_method_3_code
def yX1_apart : MethodName := ⟨RX1, "apart", "(LWalkingTown$Town;[I)I"⟩
def RX2 : String := "WalkingTown$Sand"
def TX2 : u_T := fun k => match k with
  | 0 => ("WalkingTown$Sand", "winds", "[I", true)
  | 1 => ("WalkingTown$Sand", "ways", "[J", true)
  | _ => ("WalkingTown$Sand", "begin", "I", false)
def tyX2 : Nat → FieldType := fun k => match k with
  | 0 => .array .int
  | 1 => .array .long
  | _ => .int
theorem nmX2 : ∀ a, a < 3 → ∀ b, b < 3 → a ≠ b → (TX2 a).2.1 ≠ (TX2 b).2.1 := by decide +kernel
theorem tyX2_ok : ∀ k, k < 3 → parseFieldDescriptor (TX2 k).2.2.1 = some (tyX2 k) := by decide +kernel
abbrev cX2_init : ByteArray := prog_4_method_1_code
def yX2_init : MethodName := ⟨RX2, "<init>", "()V"⟩
abbrev cX2_footIn : ByteArray := prog_4_method_2_code
def yX2_footIn : MethodName := ⟨RX2, "footIn", "(I)I"⟩
abbrev cX2_spread : ByteArray := prog_4_method_3_code
def yX2_spread : MethodName := ⟨RX2, "spread", "(II)V"⟩
abbrev cX2_waysOver : ByteArray := prog_4_method_4_code
def yX2_waysOver : MethodName := ⟨RX2, "waysOver", "(I)J"⟩
def RX3 : String := "WalkingTown$Sheet"
def TX3 : u_T := fun k => match k with
  | 0 => ("WalkingTown$Sheet", "items", "[I", true)
  | 1 => ("WalkingTown$Sheet", "isLost", "Z", false)
  | 2 => ("WalkingTown$Sheet", "form", "I", false)
  | _ => ("WalkingTown$Sheet", "size", "I", false)
def tyX3 : Nat → FieldType := fun k => match k with
  | 0 => .array .int
  | 1 => .boolean
  | 2 => .int
  | _ => .int
theorem nmX3 : ∀ a, a < 4 → ∀ b, b < 4 → a ≠ b → (TX3 a).2.1 ≠ (TX3 b).2.1 := by decide +kernel
theorem tyX3_ok : ∀ k, k < 4 → parseFieldDescriptor (TX3 k).2.2.1 = some (tyX3 k) := by decide +kernel
abbrev cX3_init : ByteArray := prog_5_method_1_code
def yX3_init : MethodName := ⟨RX3, "<init>", "()V"⟩
abbrev cX3_renew : ByteArray := prog_5_method_2_code
def yX3_renew : MethodName := ⟨RX3, "renew", "(II)V"⟩
abbrev cX3_amissAt : ByteArray := prog_5_method_3_code
def yX3_amissAt : MethodName := ⟨RX3, "amissAt", "(II)I"⟩
abbrev cX3_hasRange : ByteArray := prog_5_method_4_code
def yX3_hasRange : MethodName := ⟨RX3, "hasRange", "(II)Z"⟩
abbrev cX3_keep : ByteArray := prog_5_method_5_code
def yX3_keep : MethodName := ⟨RX3, "keep", "(II)V"⟩
def RX4 : String := "WalkingTown$Stand"
def TX4 : u_T := fun k => match k with
  | 0 => ("WalkingTown$Stand", "rows", "[I", true)
  | 1 => ("WalkingTown$Stand", "moved", "[I", true)
  | _ => ("WalkingTown$Stand", "size", "I", false)
def tyX4 : Nat → FieldType := fun k => match k with
  | 0 => .array .int
  | 1 => .array .int
  | _ => .int
theorem nmX4 : ∀ a, a < 3 → ∀ b, b < 3 → a ≠ b → (TX4 a).2.1 ≠ (TX4 b).2.1 := by decide +kernel
theorem tyX4_ok : ∀ k, k < 3 → parseFieldDescriptor (TX4 k).2.2.1 = some (tyX4 k) := by decide +kernel
abbrev cX4_init : ByteArray := prog_6_method_1_code
def yX4_init : MethodName := ⟨RX4, "<init>", "()V"⟩
abbrev cX4_begin : ByteArray := prog_6_method_2_code
def yX4_begin : MethodName := ⟨RX4, "begin", "(LWalkingTown$Town;)V"⟩
abbrev cX4_move : ByteArray := prog_6_method_3_code
def yX4_move : MethodName := ⟨RX4, "move", "(LWalkingTown$Town;I)I"⟩
abbrev cX4_hindmost : ByteArray := prog_6_method_4_code
def yX4_hindmost : MethodName := ⟨RX4, "hindmost", "()I"⟩
abbrev cX4_greatestRow : ByteArray := prog_6_method_5_code
def yX4_greatestRow : MethodName := ⟨RX4, "greatestRow", "()I"⟩
abbrev cX4_isCovered : ByteArray := prog_6_method_6_code
def yX4_isCovered : MethodName := ⟨RX4, "isCovered", "(I)Z"⟩
def RX5 : String := "WalkingTown$Text"
def TX5 : u_T := fun k => match k with
  | 0 => ("WalkingTown$Text", "bytes", "[I", true)
  | _ => ("WalkingTown$Text", "length", "I", false)
def tyX5 : Nat → FieldType := fun k => match k with
  | 0 => .array .int
  | _ => .int
theorem nmX5 : ∀ a, a < 2 → ∀ b, b < 2 → a ≠ b → (TX5 a).2.1 ≠ (TX5 b).2.1 := by decide +kernel
theorem tyX5_ok : ∀ k, k < 2 → parseFieldDescriptor (TX5 k).2.2.1 = some (tyX5 k) := by decide +kernel
abbrev cX5_init : ByteArray := prog_7_method_1_code
def yX5_init : MethodName := ⟨RX5, "<init>", "()V"⟩
abbrev cX5_append : ByteArray := prog_7_method_2_code
def yX5_append : MethodName := ⟨RX5, "append", "(I)V"⟩
abbrev cX5_byteAt : ByteArray := prog_7_method_3_code
def yX5_byteAt : MethodName := ⟨RX5, "byteAt", "(I)I"⟩
abbrev cX5_figureAt : ByteArray := prog_7_method_4_code
def yX5_figureAt : MethodName := ⟨RX5, "figureAt", "(I)I"⟩
def RX6 : String := "WalkingTown$Told"
def TX6 : u_T := fun k => match k with
  | 0 => ("WalkingTown$Told", "weeks", "[I", true)
  | 1 => ("WalkingTown$Told", "houses", "[I", true)
  | 2 => ("WalkingTown$Told", "size", "I", false)
  | _ => ("WalkingTown$Told", "firstFault", "I", false)
def tyX6 : Nat → FieldType := fun k => match k with
  | 0 => .array .int
  | 1 => .array .int
  | 2 => .int
  | _ => .int
theorem nmX6 : ∀ a, a < 4 → ∀ b, b < 4 → a ≠ b → (TX6 a).2.1 ≠ (TX6 b).2.1 := by decide +kernel
theorem tyX6_ok : ∀ k, k < 4 → parseFieldDescriptor (TX6 k).2.2.1 = some (tyX6 k) := by decide +kernel
abbrev cX6_init : ByteArray := prog_8_method_1_code
def yX6_init : MethodName := ⟨RX6, "<init>", "()V"⟩
abbrev cX6_readFrom : ByteArray := prog_8_method_2_code
def yX6_readFrom : MethodName := ⟨RX6, "readFrom", "(LWalkingTown$Text;I)V"⟩
abbrev cX6_readParts : ByteArray := prog_8_method_3_code
def yX6_readParts : MethodName := ⟨RX6, "readParts", "(LWalkingTown$Text;I)I"⟩
abbrev cX6_readPart : ByteArray := prog_8_method_4_code
def yX6_readPart : MethodName := ⟨RX6, "readPart", "(LWalkingTown$Text;II)I"⟩
abbrev cX6_endOfWeek : ByteArray := prog_8_method_5_code
def yX6_endOfWeek : MethodName := ⟨RX6, "endOfWeek", "(II)I"⟩
def RX7 : String := "WalkingTown$Town"
def TX7 : u_T := fun k => match k with
  | 0 => ("WalkingTown$Town", "kinds", "[I", true)
  | 1 => ("WalkingTown$Town", "columns", "[I", true)
  | 2 => ("WalkingTown$Town", "rows", "[I", true)
  | 3 => ("WalkingTown$Town", "size", "I", false)
  | _ => ("WalkingTown$Town", "firstFault", "I", false)
def tyX7 : Nat → FieldType := fun k => match k with
  | 0 => .array .int
  | 1 => .array .int
  | 2 => .array .int
  | 3 => .int
  | _ => .int
theorem nmX7 : ∀ a, a < 5 → ∀ b, b < 5 → a ≠ b → (TX7 a).2.1 ≠ (TX7 b).2.1 := by decide +kernel
theorem tyX7_ok : ∀ k, k < 5 → parseFieldDescriptor (TX7 k).2.2.1 = some (tyX7 k) := by decide +kernel
abbrev cX7_init : ByteArray := prog_9_method_1_code
def yX7_init : MethodName := ⟨RX7, "<init>", "()V"⟩
abbrev cX7_readFrom : ByteArray := prog_9_method_2_code
def yX7_readFrom : MethodName := ⟨RX7, "readFrom", "(LWalkingTown$Text;)V"⟩
abbrev cX7_readParts : ByteArray := prog_9_method_3_code
def yX7_readParts : MethodName := ⟨RX7, "readParts", "(LWalkingTown$Text;)I"⟩
abbrev cX7_readPart : ByteArray := prog_9_method_4_code
def yX7_readPart : MethodName := ⟨RX7, "readPart", "(LWalkingTown$Text;I)I"⟩
abbrev cX7_kindOf : ByteArray := prog_9_method_5_code
def yX7_kindOf : MethodName := ⟨RX7, "kindOf", "(I)I"⟩
abbrev cX7_isTaken : ByteArray := prog_9_method_6_code
def yX7_isTaken : MethodName := ⟨RX7, "isTaken", "(II)Z"⟩
abbrev cX7_swapOf : ByteArray := prog_9_method_7_code
def yX7_swapOf : MethodName := ⟨RX7, "swapOf", "(LWalkingTown$Town;II)V"⟩
abbrev cX7_handsFor : ByteArray := prog_9_method_8_code
def yX7_handsFor : MethodName := ⟨RX7, "handsFor", "(II)I"⟩
def RX8 : String := "WalkingTown$Walk"
def TX8 : u_T := fun k => match k with
  | 0 => ("WalkingTown$Walk", "movers", "[I", true)
  | 1 => ("WalkingTown$Walk", "targets", "[I", true)
  | 2 => ("WalkingTown$Walk", "hands", "[I", true)
  | 3 => ("WalkingTown$Walk", "least", "[I", true)
  | 4 => ("WalkingTown$Walk", "greatest", "[I", true)
  | 5 => ("WalkingTown$Walk", "stand", "LWalkingTown$Stand;", true)
  | _ => ("WalkingTown$Walk", "size", "I", false)
def tyX8 : Nat → FieldType := fun k => match k with
  | 0 => .array .int
  | 1 => .array .int
  | 2 => .array .int
  | 3 => .array .int
  | 4 => .array .int
  | 5 => .object "WalkingTown$Stand"
  | _ => .int
theorem nmX8 : ∀ a, a < 7 → ∀ b, b < 7 → a ≠ b → (TX8 a).2.1 ≠ (TX8 b).2.1 := by decide +kernel
theorem tyX8_ok : ∀ k, k < 7 → parseFieldDescriptor (TX8 k).2.2.1 = some (tyX8 k) := by decide +kernel
abbrev cX8_init : ByteArray := prog_10_method_1_code
def yX8_init : MethodName := ⟨RX8, "<init>", "()V"⟩
abbrev cX8_plan : ByteArray := prog_10_method_2_code
def yX8_plan : MethodName := ⟨RX8, "plan", "(LWalkingTown$Town;)V"⟩
abbrev cX8_nextBehind : ByteArray := prog_10_method_3_code
def yX8_nextBehind : MethodName := ⟨RX8, "nextBehind", "(I)I"⟩
abbrev cX8_rowBehind : ByteArray := prog_10_method_4_code
def yX8_rowBehind : MethodName := ⟨RX8, "rowBehind", "(LWalkingTown$Town;II)I"⟩
abbrev cX8_step : ByteArray := prog_10_method_5_code
def yX8_step : MethodName := ⟨RX8, "step", "(I[I)V"⟩
abbrev cX8_movesAheadOf : ByteArray := prog_10_method_6_code
def yX8_movesAheadOf : MethodName := ⟨RX8, "movesAheadOf", "(I)I"⟩
abbrev cX8_dueAheadOf : ByteArray := prog_10_method_7_code
def yX8_dueAheadOf : MethodName := ⟨RX8, "dueAheadOf", "(III)I"⟩
abbrev cX8_madeInWeek : ByteArray := prog_10_method_8_code
def yX8_madeInWeek : MethodName := ⟨RX8, "madeInWeek", "(III)I"⟩
abbrev cX8_handsForFirst : ByteArray := prog_10_method_9_code
def yX8_handsForFirst : MethodName := ⟨RX8, "handsForFirst", "(I)I"⟩
def RX9 : String := "WalkingTown"
def TX9 : u_T := fun k => match k with
  | 0 => ("WalkingTown", "townText", "LWalkingTown$Text;", true)
  | 1 => ("WalkingTown", "movesText", "LWalkingTown$Text;", true)
  | 2 => ("WalkingTown", "town", "LWalkingTown$Town;", true)
  | 3 => ("WalkingTown", "told", "LWalkingTown$Told;", true)
  | 4 => ("WalkingTown", "walk", "LWalkingTown$Walk;", true)
  | 5 => ("WalkingTown", "swappedTown", "LWalkingTown$Town;", true)
  | 6 => ("WalkingTown", "swappedWalk", "LWalkingTown$Walk;", true)
  | 7 => ("WalkingTown", "stand", "LWalkingTown$Stand;", true)
  | 8 => ("WalkingTown", "sand", "LWalkingTown$Sand;", true)
  | 9 => ("WalkingTown", "pairs", "LWalkingTown$Pairs;", true)
  | 10 => ("WalkingTown", "wells", "LWalkingTown$Marks;", true)
  | 11 => ("WalkingTown", "debts", "LWalkingTown$Marks;", true)
  | 12 => ("WalkingTown", "sheets", "[LWalkingTown$Sheet;", true)
  | 13 => ("WalkingTown", "hands", "I", false)
  | _ => ("WalkingTown", "finding", "I", false)
def tyX9 : Nat → FieldType := fun k => match k with
  | 0 => .object "WalkingTown$Text"
  | 1 => .object "WalkingTown$Text"
  | 2 => .object "WalkingTown$Town"
  | 3 => .object "WalkingTown$Told"
  | 4 => .object "WalkingTown$Walk"
  | 5 => .object "WalkingTown$Town"
  | 6 => .object "WalkingTown$Walk"
  | 7 => .object "WalkingTown$Stand"
  | 8 => .object "WalkingTown$Sand"
  | 9 => .object "WalkingTown$Pairs"
  | 10 => .object "WalkingTown$Marks"
  | 11 => .object "WalkingTown$Marks"
  | 12 => .array (.object "WalkingTown$Sheet")
  | 13 => .int
  | _ => .int
theorem nmX9 : ∀ a, a < 15 → ∀ b, b < 15 → a ≠ b → (TX9 a).2.1 ≠ (TX9 b).2.1 := by decide +kernel
theorem tyX9_ok : ∀ k, k < 15 → parseFieldDescriptor (TX9 k).2.2.1 = some (tyX9 k) := by decide +kernel
abbrev cX9_init : ByteArray := prog_1_method_1_code
def yX9_init : MethodName := ⟨RX9, "<init>", "()V"⟩
abbrev cX9_wind : ByteArray := prog_1_method_2_code
def yX9_wind : MethodName := ⟨RX9, "wind", "(II)I"⟩
abbrev cX9_read : ByteArray := prog_1_method_3_code
def yX9_read : MethodName := ⟨RX9, "read", "(I)I"⟩
abbrev cX9_set : ByteArray := prog_1_method_4_code
def yX9_set : MethodName := ⟨RX9, "set", "(II)I"⟩
abbrev cX9_foot : ByteArray := prog_1_method_5_code
def yX9_foot : MethodName := ⟨RX9, "foot", "(I)I"⟩
abbrev cX9_type : ByteArray := prog_1_method_6_code
def yX9_type : MethodName := ⟨RX9, "type", "(II)I"⟩
abbrev cX9_wipe : ByteArray := prog_1_method_7_code
def yX9_wipe : MethodName := ⟨RX9, "wipe", "(I)I"⟩
abbrev cX9_fault : ByteArray := prog_1_method_8_code
def yX9_fault : MethodName := ⟨RX9, "fault", "(I)I"⟩
abbrev cX9_house : ByteArray := prog_1_method_9_code
def yX9_house : MethodName := ⟨RX9, "house", "(II)I"⟩
abbrev cX9_takes : ByteArray := prog_1_method_10_code
def yX9_takes : MethodName := ⟨RX9, "takes", "(II)I"⟩
abbrev cX9_judged : ByteArray := prog_1_method_11_code
def yX9_judged : MethodName := ⟨RX9, "judged", "(I)I"⟩
abbrev cX9_ends : ByteArray := prog_1_method_12_code
def yX9_ends : MethodName := ⟨RX9, "ends", "(I)I"⟩
abbrev cX9_queue : ByteArray := prog_1_method_13_code
def yX9_queue : MethodName := ⟨RX9, "queue", "(II)I"⟩
abbrev cX9_needs : ByteArray := prog_1_method_14_code
def yX9_needs : MethodName := ⟨RX9, "needs", "(I)I"⟩
abbrev cX9_fewest : ByteArray := prog_1_method_15_code
def yX9_fewest : MethodName := ⟨RX9, "fewest", "(I)I"⟩
abbrev cX9_turn : ByteArray := prog_1_method_16_code
def yX9_turn : MethodName := ⟨RX9, "turn", "(II)I"⟩
abbrev cX9_owed : ByteArray := prog_1_method_17_code
def yX9_owed : MethodName := ⟨RX9, "owed", "(II)I"⟩
abbrev cX9_broken : ByteArray := prog_1_method_18_code
def yX9_broken : MethodName := ⟨RX9, "broken", "(II)I"⟩
abbrev cX9_well : ByteArray := prog_1_method_19_code
def yX9_well : MethodName := ⟨RX9, "well", "(II)I"⟩
abbrev cX9_met : ByteArray := prog_1_method_20_code
def yX9_met : MethodName := ⟨RX9, "met", "(I)I"⟩
abbrev cX9_dry : ByteArray := prog_1_method_21_code
def yX9_dry : MethodName := ⟨RX9, "dry", "(I)I"⟩
abbrev cX9_sold : ByteArray := prog_1_method_22_code
def yX9_sold : MethodName := ⟨RX9, "sold", "(III)I"⟩
abbrev cX9_debt : ByteArray := prog_1_method_23_code
def yX9_debt : MethodName := ⟨RX9, "debt", "(III)I"⟩
abbrev cX9_owes : ByteArray := prog_1_method_24_code
def yX9_owes : MethodName := ⟨RX9, "owes", "(II)I"⟩
abbrev cX9_lost : ByteArray := prog_1_method_25_code
def yX9_lost : MethodName := ⟨RX9, "lost", "(I)I"⟩
abbrev cX9_church : ByteArray := prog_1_method_26_code
def yX9_church : MethodName := ⟨RX9, "church", "(III)I"⟩
abbrev cX9_likely : ByteArray := prog_1_method_27_code
def yX9_likely : MethodName := ⟨RX9, "likely", "(IIII)J"⟩
abbrev cX9_stone : ByteArray := prog_1_method_28_code
def yX9_stone : MethodName := ⟨RX9, "stone", "(IIIII)I"⟩
abbrev cX9_sheet : ByteArray := prog_1_method_29_code
def yX9_sheet : MethodName := ⟨RX9, "sheet", "(III)I"⟩
abbrev cX9_lose : ByteArray := prog_1_method_30_code
def yX9_lose : MethodName := ⟨RX9, "lose", "(I)I"⟩
abbrev cX9_put : ByteArray := prog_1_method_31_code
def yX9_put : MethodName := ⟨RX9, "put", "(IIII)I"⟩
abbrev cX9_get : ByteArray := prog_1_method_32_code
def yX9_get : MethodName := ⟨RX9, "get", "(III)I"⟩
abbrev cX9_copy : ByteArray := prog_1_method_33_code
def yX9_copy : MethodName := ⟨RX9, "copy", "(IIIII)I"⟩
abbrev cX9_write : ByteArray := prog_1_method_34_code
def yX9_write : MethodName := ⟨RX9, "write", "(II)I"⟩
abbrev cX9_count : ByteArray := prog_1_method_35_code
def yX9_count : MethodName := ⟨RX9, "count", "(I)I"⟩
abbrev cX9_digest : ByteArray := prog_1_method_36_code
def yX9_digest : MethodName := ⟨RX9, "digest", "()J"⟩
abbrev cX9_withHouse : ByteArray := prog_1_method_37_code
def yX9_withHouse : MethodName := ⟨RX9, "withHouse", "(JI)J"⟩
abbrev cX9_withWeek : ByteArray := prog_1_method_38_code
def yX9_withWeek : MethodName := ⟨RX9, "withWeek", "(JI)J"⟩
abbrev cX9_mixed : ByteArray := prog_1_method_39_code
def yX9_mixed : MethodName := ⟨RX9, "mixed", "(JJ)J"⟩
abbrev cX9_isWithin : ByteArray := prog_1_method_40_code
def yX9_isWithin : MethodName := ⟨RX9, "isWithin", "(II)Z"⟩
abbrev cX9_isWeek : ByteArray := prog_1_method_41_code
def yX9_isWeek : MethodName := ⟨RX9, "isWeek", "(I)Z"⟩
abbrev cX9_isText : ByteArray := prog_1_method_42_code
def yX9_isText : MethodName := ⟨RX9, "isText", "(I)Z"⟩
abbrev cX9_isSheet : ByteArray := prog_1_method_43_code
def yX9_isSheet : MethodName := ⟨RX9, "isSheet", "(I)Z"⟩
abbrev cX9_isForm : ByteArray := prog_1_method_44_code
def yX9_isForm : MethodName := ⟨RX9, "isForm", "(I)Z"⟩
abbrev cX9_isPlot : ByteArray := prog_1_method_45_code
def yX9_isPlot : MethodName := ⟨RX9, "isPlot", "(II)Z"⟩
abbrev cX9_isHouse : ByteArray := prog_1_method_46_code
def yX9_isHouse : MethodName := ⟨RX9, "isHouse", "(I)Z"⟩
abbrev cX9_textOf : ByteArray := prog_1_method_47_code
def yX9_textOf : MethodName := ⟨RX9, "textOf", "(I)LWalkingTown$Text;"⟩
abbrev cX9_found : ByteArray := prog_1_method_48_code
def yX9_found : MethodName := ⟨RX9, "found", "(I)I"⟩
abbrev cX9_readAgain : ByteArray := prog_1_method_49_code
def yX9_readAgain : MethodName := ⟨RX9, "readAgain", "(I)V"⟩
abbrev cX9_whyWrong : ByteArray := prog_1_method_50_code
def yX9_whyWrong : MethodName := ⟨RX9, "whyWrong", "(III)I"⟩
abbrev cX9_fewestHands : ByteArray := prog_1_method_51_code
def yX9_fewestHands : MethodName := ⟨RX9, "fewestHands", "(LWalkingTown$Walk;I)I"⟩
abbrev cX9_keepsAhead : ByteArray := prog_1_method_52_code
def yX9_keepsAhead : MethodName := ⟨RX9, "keepsAhead", "(LWalkingTown$Walk;III)Z"⟩
abbrev cX9_wellsMet : ByteArray := prog_1_method_53_code
def yX9_wellsMet : MethodName := ⟨RX9, "wellsMet", "(I)I"⟩
abbrev cX9_roundedUp : ByteArray := prog_1_method_54_code
def yX9_roundedUp : MethodName := ⟨RX9, "roundedUp", "(II)I"⟩
abbrev cX9_commonDivisor : ByteArray := prog_1_method_55_code
def yX9_commonDivisor : MethodName := ⟨RX9, "commonDivisor", "(JJ)J"⟩
def RX10 : String := "WalkingTownModel"
def TX10 : u_T := fun k => match k with
  | 0 => ("WalkingTownModel", "winds", "[I", true)
  | 1 => ("WalkingTownModel", "setting", "[I", true)
  | 2 => ("WalkingTownModel", "typed", "[I", true)
  | 3 => ("WalkingTownModel", "texts", "[I", true)
  | 4 => ("WalkingTownModel", "houses", "I", false)
  | 5 => ("WalkingTownModel", "kinds", "[I", true)
  | 6 => ("WalkingTownModel", "columns", "[I", true)
  | 7 => ("WalkingTownModel", "rows", "[I", true)
  | 8 => ("WalkingTownModel", "moves", "I", false)
  | 9 => ("WalkingTownModel", "moveWeek", "[I", true)
  | 10 => ("WalkingTownModel", "moveHouse", "[I", true)
  | 11 => ("WalkingTownModel", "now", "[I", true)
  | 12 => ("WalkingTownModel", "made", "[I", true)
  | 13 => ("WalkingTownModel", "judgedWeek", "I", false)
  | 14 => ("WalkingTownModel", "judgedWhy", "I", false)
  | 15 => ("WalkingTownModel", "handsAt", "[I", true)
  | 16 => ("WalkingTownModel", "dues", "[I", true)
  | 17 => ("WalkingTownModel", "turns", "[I", true)
  | 18 => ("WalkingTownModel", "owedMany", "I", false)
  | 19 => ("WalkingTownModel", "owedOne", "[I", true)
  | 20 => ("WalkingTownModel", "owedTwo", "[I", true)
  | 21 => ("WalkingTownModel", "wells", "I", false)
  | 22 => ("WalkingTownModel", "wellRow", "[I", true)
  | 23 => ("WalkingTownModel", "debts", "I", false)
  | 24 => ("WalkingTownModel", "debtPlot", "[I", true)
  | 25 => ("WalkingTownModel", "debtAmount", "[I", true)
  | 26 => ("WalkingTownModel", "ways", "[J", true)
  | 27 => ("WalkingTownModel", "isThere", "[Z", true)
  | 28 => ("WalkingTownModel", "forms", "[I", true)
  | 29 => ("WalkingTownModel", "sizes", "[I", true)
  | 30 => ("WalkingTownModel", "items", "[I", true)
  | 31 => ("WalkingTownModel", "moved", "[I", true)
  | _ => ("WalkingTownModel", "finding", "I", false)
def tyX10 : Nat → FieldType := fun k => match k with
  | 0 => .array .int
  | 1 => .array .int
  | 2 => .array .int
  | 3 => .array .int
  | 4 => .int
  | 5 => .array .int
  | 6 => .array .int
  | 7 => .array .int
  | 8 => .int
  | 9 => .array .int
  | 10 => .array .int
  | 11 => .array .int
  | 12 => .array .int
  | 13 => .int
  | 14 => .int
  | 15 => .array .int
  | 16 => .array .int
  | 17 => .array .int
  | 18 => .int
  | 19 => .array .int
  | 20 => .array .int
  | 21 => .int
  | 22 => .array .int
  | 23 => .int
  | 24 => .array .int
  | 25 => .array .int
  | 26 => .array .long
  | 27 => .array .boolean
  | 28 => .array .int
  | 29 => .array .int
  | 30 => .array .int
  | 31 => .array .int
  | _ => .int
theorem nmX10 : ∀ a, a < 33 → ∀ b, b < 33 → a ≠ b → (TX10 a).2.1 ≠ (TX10 b).2.1 := by decide +kernel
theorem tyX10_ok : ∀ k, k < 33 → parseFieldDescriptor (TX10 k).2.2.1 = some (tyX10 k) := by decide +kernel
abbrev cX10_init : ByteArray := prog_12_method_1_code
def yX10_init : MethodName := ⟨RX10, "<init>", "()V"⟩
abbrev cX10_in : ByteArray := prog_12_method_3_code
def yX10_in : MethodName := ⟨RX10, "in", "(III)Z"⟩
abbrev cX10_amount : ByteArray := prog_12_method_4_code
def yX10_amount : MethodName := ⟨RX10, "amount", "(I)I"⟩
abbrev cX10_no : ByteArray := prog_12_method_5_code
def yX10_no : MethodName := ⟨RX10, "no", "(I)J"⟩
abbrev cX10_lowest : ByteArray := prog_12_method_6_code
def yX10_lowest : MethodName := ⟨RX10, "lowest", "(JJI)J"⟩
abbrev cX10_isWeek : ByteArray := prog_12_method_7_code
def yX10_isWeek : MethodName := ⟨RX10, "isWeek", "(I)Z"⟩
abbrev cX10_wind : ByteArray := prog_12_method_8_code
def yX10_wind : MethodName := ⟨RX10, "wind", "(II)I"⟩
abbrev cX10_read : ByteArray := prog_12_method_9_code
def yX10_read : MethodName := ⟨RX10, "read", "(I)I"⟩
abbrev cX10_set : ByteArray := prog_12_method_10_code
def yX10_set : MethodName := ⟨RX10, "set", "(II)I"⟩
abbrev cX10_footOf : ByteArray := prog_12_method_11_code
def yX10_footOf : MethodName := ⟨RX10, "footOf", "(I)I"⟩
abbrev cX10_foot : ByteArray := prog_12_method_12_code
def yX10_foot : MethodName := ⟨RX10, "foot", "(I)I"⟩
abbrev cX10_type : ByteArray := prog_12_method_13_code
def yX10_type : MethodName := ⟨RX10, "type", "(II)I"⟩
abbrev cX10_wipe : ByteArray := prog_12_method_14_code
def yX10_wipe : MethodName := ⟨RX10, "wipe", "(I)I"⟩
abbrev cX10_byteAt : ByteArray := prog_12_method_15_code
def yX10_byteAt : MethodName := ⟨RX10, "byteAt", "(II)I"⟩
abbrev cX10_figureAt : ByteArray := prog_12_method_16_code
def yX10_figureAt : MethodName := ⟨RX10, "figureAt", "(II)I"⟩
abbrev cX10_townFault : ByteArray := prog_12_method_17_code
def yX10_townFault : MethodName := ⟨RX10, "townFault", "()I"⟩
abbrev cX10_movesFault : ByteArray := prog_12_method_18_code
def yX10_movesFault : MethodName := ⟨RX10, "movesFault", "()I"⟩
abbrev cX10_faultOf : ByteArray := prog_12_method_19_code
def yX10_faultOf : MethodName := ⟨RX10, "faultOf", "(I)I"⟩
abbrev cX10_fault : ByteArray := prog_12_method_20_code
def yX10_fault : MethodName := ⟨RX10, "fault", "(I)I"⟩
abbrev cX10_housesNow : ByteArray := prog_12_method_21_code
def yX10_housesNow : MethodName := ⟨RX10, "housesNow", "()I"⟩
abbrev cX10_isHouse : ByteArray := prog_12_method_22_code
def yX10_isHouse : MethodName := ⟨RX10, "isHouse", "(I)Z"⟩
abbrev cX10_houseOf : ByteArray := prog_12_method_23_code
def yX10_houseOf : MethodName := ⟨RX10, "houseOf", "(II)I"⟩
abbrev cX10_house : ByteArray := prog_12_method_24_code
def yX10_house : MethodName := ⟨RX10, "house", "(II)I"⟩
abbrev cX10_handsOf : ByteArray := prog_12_method_25_code
def yX10_handsOf : MethodName := ⟨RX10, "handsOf", "(II)I"⟩
abbrev cX10_takes : ByteArray := prog_12_method_26_code
def yX10_takes : MethodName := ⟨RX10, "takes", "(II)I"⟩
abbrev cX10_begins : ByteArray := prog_12_method_27_code
def yX10_begins : MethodName := ⟨RX10, "begins", "()V"⟩
abbrev cX10_goes : ByteArray := prog_12_method_28_code
def yX10_goes : MethodName := ⟨RX10, "goes", "(I)Z"⟩
abbrev cX10_judges : ByteArray := prog_12_method_29_code
def yX10_judges : MethodName := ⟨RX10, "judges", "()V"⟩
abbrev cX10_judgedOf : ByteArray := prog_12_method_30_code
def yX10_judgedOf : MethodName := ⟨RX10, "judgedOf", "(I)I"⟩
abbrev cX10_judged : ByteArray := prog_12_method_31_code
def yX10_judged : MethodName := ⟨RX10, "judged", "(I)I"⟩
abbrev cX10_endsOf : ByteArray := prog_12_method_32_code
def yX10_endsOf : MethodName := ⟨RX10, "endsOf", "(I)I"⟩
abbrev cX10_ends : ByteArray := prog_12_method_33_code
def yX10_ends : MethodName := ⟨RX10, "ends", "(I)I"⟩
abbrev cX10_nextOne : ByteArray := prog_12_method_34_code
def yX10_nextOne : MethodName := ⟨RX10, "nextOne", "()I"⟩
abbrev cX10_queues : ByteArray := prog_12_method_35_code
def yX10_queues : MethodName := ⟨RX10, "queues", "(I)V"⟩
abbrev cX10_queueOf : ByteArray := prog_12_method_36_code
def yX10_queueOf : MethodName := ⟨RX10, "queueOf", "(II)I"⟩
abbrev cX10_queue : ByteArray := prog_12_method_37_code
def yX10_queue : MethodName := ⟨RX10, "queue", "(II)I"⟩
abbrev cX10_needsBy : ByteArray := prog_12_method_38_code
def yX10_needsBy : MethodName := ⟨RX10, "needsBy", "(I)I"⟩
abbrev cX10_needsOf : ByteArray := prog_12_method_39_code
def yX10_needsOf : MethodName := ⟨RX10, "needsOf", "(I)I"⟩
abbrev cX10_needs : ByteArray := prog_12_method_40_code
def yX10_needs : MethodName := ⟨RX10, "needs", "(I)I"⟩
abbrev cX10_areEnough : ByteArray := prog_12_method_41_code
def yX10_areEnough : MethodName := ⟨RX10, "areEnough", "(III)Z"⟩
abbrev cX10_fewestBy : ByteArray := prog_12_method_42_code
def yX10_fewestBy : MethodName := ⟨RX10, "fewestBy", "(I)I"⟩
abbrev cX10_fewestOf : ByteArray := prog_12_method_43_code
def yX10_fewestOf : MethodName := ⟨RX10, "fewestOf", "(I)I"⟩
abbrev cX10_fewest : ByteArray := prog_12_method_44_code
def yX10_fewest : MethodName := ⟨RX10, "fewest", "(I)I"⟩
abbrev cX10_turnOf : ByteArray := prog_12_method_45_code
def yX10_turnOf : MethodName := ⟨RX10, "turnOf", "(II)I"⟩
abbrev cX10_turn : ByteArray := prog_12_method_46_code
def yX10_turn : MethodName := ⟨RX10, "turn", "(II)I"⟩
abbrev cX10_owed : ByteArray := prog_12_method_47_code
def yX10_owed : MethodName := ⟨RX10, "owed", "(II)I"⟩
abbrev cX10_brokenNow : ByteArray := prog_12_method_48_code
def yX10_brokenNow : MethodName := ⟨RX10, "brokenNow", "()I"⟩
abbrev cX10_brokenOf : ByteArray := prog_12_method_49_code
def yX10_brokenOf : MethodName := ⟨RX10, "brokenOf", "(II)I"⟩
abbrev cX10_broken : ByteArray := prog_12_method_50_code
def yX10_broken : MethodName := ⟨RX10, "broken", "(II)I"⟩
abbrev cX10_isPlot : ByteArray := prog_12_method_51_code
def yX10_isPlot : MethodName := ⟨RX10, "isPlot", "(II)Z"⟩
abbrev cX10_well : ByteArray := prog_12_method_52_code
def yX10_well : MethodName := ⟨RX10, "well", "(II)I"⟩
abbrev cX10_metOf : ByteArray := prog_12_method_53_code
def yX10_metOf : MethodName := ⟨RX10, "metOf", "(I)I"⟩
abbrev cX10_met : ByteArray := prog_12_method_54_code
def yX10_met : MethodName := ⟨RX10, "met", "(I)I"⟩
abbrev cX10_dryOf : ByteArray := prog_12_method_55_code
def yX10_dryOf : MethodName := ⟨RX10, "dryOf", "(I)I"⟩
abbrev cX10_dry : ByteArray := prog_12_method_56_code
def yX10_dry : MethodName := ⟨RX10, "dry", "(I)I"⟩
abbrev cX10_changes : ByteArray := prog_12_method_57_code
def yX10_changes : MethodName := ⟨RX10, "changes", "(II)V"⟩
abbrev cX10_soldOf : ByteArray := prog_12_method_58_code
def yX10_soldOf : MethodName := ⟨RX10, "soldOf", "(III)I"⟩
abbrev cX10_sold : ByteArray := prog_12_method_59_code
def yX10_sold : MethodName := ⟨RX10, "sold", "(III)I"⟩
abbrev cX10_debt : ByteArray := prog_12_method_60_code
def yX10_debt : MethodName := ⟨RX10, "debt", "(III)I"⟩
abbrev cX10_owesOf : ByteArray := prog_12_method_61_code
def yX10_owesOf : MethodName := ⟨RX10, "owesOf", "(II)I"⟩
abbrev cX10_owes : ByteArray := prog_12_method_62_code
def yX10_owes : MethodName := ⟨RX10, "owes", "(II)I"⟩
abbrev cX10_lostOf : ByteArray := prog_12_method_63_code
def yX10_lostOf : MethodName := ⟨RX10, "lostOf", "(I)I"⟩
abbrev cX10_lost : ByteArray := prog_12_method_64_code
def yX10_lost : MethodName := ⟨RX10, "lost", "(I)I"⟩
abbrev cX10_church : ByteArray := prog_12_method_65_code
def yX10_church : MethodName := ⟨RX10, "church", "(III)I"⟩
abbrev cX10_likely : ByteArray := prog_12_method_66_code
def yX10_likely : MethodName := ⟨RX10, "likely", "(IIII)J"⟩
abbrev cX10_stone : ByteArray := prog_12_method_67_code
def yX10_stone : MethodName := ⟨RX10, "stone", "(IIIII)I"⟩
abbrev cX10_meets : ByteArray := prog_12_method_68_code
def yX10_meets : MethodName := ⟨RX10, "meets", "(I)I"⟩
abbrev cX10_isSheet : ByteArray := prog_12_method_69_code
def yX10_isSheet : MethodName := ⟨RX10, "isSheet", "(I)Z"⟩
abbrev cX10_sheet : ByteArray := prog_12_method_70_code
def yX10_sheet : MethodName := ⟨RX10, "sheet", "(III)I"⟩
abbrev cX10_lose : ByteArray := prog_12_method_71_code
def yX10_lose : MethodName := ⟨RX10, "lose", "(I)I"⟩
abbrev cX10_lacks : ByteArray := prog_12_method_72_code
def yX10_lacks : MethodName := ⟨RX10, "lacks", "(III)I"⟩
abbrev cX10_keep : ByteArray := prog_12_method_73_code
def yX10_keep : MethodName := ⟨RX10, "keep", "(III)V"⟩
abbrev cX10_put : ByteArray := prog_12_method_74_code
def yX10_put : MethodName := ⟨RX10, "put", "(IIII)I"⟩
abbrev cX10_get : ByteArray := prog_12_method_75_code
def yX10_get : MethodName := ⟨RX10, "get", "(III)I"⟩
abbrev cX10_copy : ByteArray := prog_12_method_76_code
def yX10_copy : MethodName := ⟨RX10, "copy", "(IIIII)I"⟩
abbrev cX10_write : ByteArray := prog_12_method_77_code
def yX10_write : MethodName := ⟨RX10, "write", "(II)I"⟩
abbrev cX10_movesNow : ByteArray := prog_12_method_78_code
def yX10_movesNow : MethodName := ⟨RX10, "movesNow", "()I"⟩
abbrev cX10_count : ByteArray := prog_12_method_79_code
def yX10_count : MethodName := ⟨RX10, "count", "(I)I"⟩
abbrev cX10_digest : ByteArray := prog_12_method_80_code
def yX10_digest : MethodName := ⟨RX10, "digest", "()J"⟩
def RJ9 : String := "java/lang/Math"
def TJ9 : u_T := fun k => match k with
  | _ => ("", "", "", false)
def tyJ9 : Nat → FieldType := fun k => match k with
  | _ => .int
theorem nmJ9 : ∀ a, a < 0 → ∀ b, b < 0 → a ≠ b → (TJ9 a).2.1 ≠ (TJ9 b).2.1 := by decide +kernel
theorem tyJ9_ok : ∀ k, k < 0 → parseFieldDescriptor (TJ9 k).2.2.1 = some (tyJ9 k) := by decide +kernel
abbrev cJ9_abs_0f7a4 : ByteArray := prog_13_method_59_code
def yJ9_abs_0f7a4 : MethodName := ⟨RJ9, "abs", "(I)I"⟩
abbrev cJ9_max_7cf53 : ByteArray := prog_13_method_65_code
def yJ9_max_7cf53 : MethodName := ⟨RJ9, "max", "(II)I"⟩
abbrev cJ9_max_f86c9 : ByteArray := prog_13_method_66_code
def yJ9_max_f86c9 : MethodName := ⟨RJ9, "max", "(JJ)J"⟩
abbrev cJ9_min_7cf53 : ByteArray := prog_13_method_69_code
def yJ9_min_7cf53 : MethodName := ⟨RJ9, "min", "(II)I"⟩
def RJ10 : String := "java/lang/System"
def TJ10 : u_T := fun k => match k with
  | _ => ("", "", "", false)
def tyJ10 : Nat → FieldType := fun k => match k with
  | _ => .int
theorem nmJ10 : ∀ a, a < 0 → ∀ b, b < 0 → a ≠ b → (TJ10 a).2.1 ≠ (TJ10 b).2.1 := by decide +kernel
theorem tyJ10_ok : ∀ k, k < 0 → parseFieldDescriptor (TJ10 k).2.2.1 = some (tyJ10 k) := by decide +kernel
def RJ7 : String := "java/util/Arrays"
def TJ7 : u_T := fun k => match k with
  | _ => ("", "", "", false)
def tyJ7 : Nat → FieldType := fun k => match k with
  | _ => .int
theorem nmJ7 : ∀ a, a < 0 → ∀ b, b < 0 → a ≠ b → (TJ7 a).2.1 ≠ (TJ7 b).2.1 := by decide +kernel
theorem tyJ7_ok : ∀ k, k < 0 → parseFieldDescriptor (TJ7 k).2.2.1 = some (tyJ7 k) := by decide +kernel
abbrev cJ7_fill_d0a16 : ByteArray := prog_15_method_101_code
def yJ7_fill_d0a16 : MethodName := ⟨RJ7, "fill", "([JJ)V"⟩
abbrev cJ7_fill_53178 : ByteArray := prog_15_method_103_code
def yJ7_fill_53178 : MethodName := ⟨RJ7, "fill", "([II)V"⟩
def RL : String := "WalkingTownLaw"
abbrev cL_law : ByteArray := code
def yL_law : MethodName := ⟨RL, "law", "([I)Z"⟩
abbrev vwCl : List vw_C := [(RX0, TX0, 4), (RX1, TX1, 3), (RX2, TX2, 3), (RX3, TX3, 4), (RX4, TX4, 3), (RX5, TX5, 2), (RX6, TX6, 4), (RX7, TX7, 5), (RX8, TX8, 7), (RX9, TX9, 15), (RX10, TX10, 33)]
end
section
theorem dX0_init_0 : decode cX0_init 0 = .ok (.aload_n 0, 1) := by decide +kernel
theorem dX0_init_1 : decode cX0_init 1 = .ok (.invokespecial 1, 3) := by decide +kernel
theorem dX0_init_4 : decode cX0_init 4 = .ok (.aload_n 0, 1) := by decide +kernel
theorem dX0_init_5 : decode cX0_init 5 = .ok (.iconst 0, 1) := by decide +kernel
theorem dX0_init_6 : decode cX0_init 6 = .ok (.putfield 7, 3) := by decide +kernel
theorem dX0_init_9 : decode cX0_init 9 = .ok (.iconst 0, 1) := by decide +kernel
theorem dX0_init_10 : decode cX0_init 10 = .ok (.iload_n 1, 1) := by decide +kernel
theorem dX0_init_11 : decode cX0_init 11 = .ok (.invokestatic 13, 3) := by decide +kernel
theorem dX0_init_14 : decode cX0_init 14 = .ok (.istore_n 2, 1) := by decide +kernel
theorem dX0_init_15 : decode cX0_init 15 = .ok (.aload_n 0, 1) := by decide +kernel
theorem dX0_init_16 : decode cX0_init 16 = .ok (.iload_n 2, 1) := by decide +kernel
theorem dX0_init_17 : decode cX0_init 17 = .ok (.newarray .int, 2) := by decide +kernel
theorem dX0_init_19 : decode cX0_init 19 = .ok (.putfield 19, 3) := by decide +kernel
theorem dX0_init_22 : decode cX0_init 22 = .ok (.aload_n 0, 1) := by decide +kernel
theorem dX0_init_23 : decode cX0_init 23 = .ok (.iload_n 2, 1) := by decide +kernel
theorem dX0_init_24 : decode cX0_init 24 = .ok (.newarray .int, 2) := by decide +kernel
theorem dX0_init_26 : decode cX0_init 26 = .ok (.putfield 23, 3) := by decide +kernel
theorem dX0_init_29 : decode cX0_init 29 = .ok (.aload_n 0, 1) := by decide +kernel
theorem dX0_init_30 : decode cX0_init 30 = .ok (.iload_n 2, 1) := by decide +kernel
theorem dX0_init_31 : decode cX0_init 31 = .ok (.newarray .int, 2) := by decide +kernel
theorem dX0_init_33 : decode cX0_init 33 = .ok (.putfield 26, 3) := by decide +kernel
theorem dX0_init_36 : decode cX0_init 36 = .ok (.return_, 1) := by decide +kernel
theorem dX0_add_0 : decode cX0_add 0 = .ok (.aload_n 0, 1) := by decide +kernel
theorem dX0_add_1 : decode cX0_add 1 = .ok (.getfield 7, 3) := by decide +kernel
theorem dX0_add_4 : decode cX0_add 4 = .ok (.aload_n 0, 1) := by decide +kernel
theorem dX0_add_5 : decode cX0_add 5 = .ok (.getfield 23, 3) := by decide +kernel
theorem dX0_add_8 : decode cX0_add 8 = .ok (.arraylength, 1) := by decide +kernel
theorem dX0_add_9 : decode cX0_add 9 = .ok (.if_icmp .lt 5, 3) := by decide +kernel
theorem dX0_add_12 : decode cX0_add 12 = .ok (.iconst 0, 1) := by decide +kernel
theorem dX0_add_13 : decode cX0_add 13 = .ok (.ireturn, 1) := by decide +kernel
theorem dX0_add_14 : decode cX0_add 14 = .ok (.aload_n 0, 1) := by decide +kernel
theorem dX0_add_15 : decode cX0_add 15 = .ok (.getfield 19, 3) := by decide +kernel
theorem dX0_add_18 : decode cX0_add 18 = .ok (.aload_n 0, 1) := by decide +kernel
theorem dX0_add_19 : decode cX0_add 19 = .ok (.getfield 7, 3) := by decide +kernel
theorem dX0_add_22 : decode cX0_add 22 = .ok (.iload_n 1, 1) := by decide +kernel
theorem dX0_add_23 : decode cX0_add 23 = .ok (.iastore, 1) := by decide +kernel
theorem dX0_add_24 : decode cX0_add 24 = .ok (.aload_n 0, 1) := by decide +kernel
theorem dX0_add_25 : decode cX0_add 25 = .ok (.getfield 23, 3) := by decide +kernel
theorem dX0_add_28 : decode cX0_add 28 = .ok (.aload_n 0, 1) := by decide +kernel
theorem dX0_add_29 : decode cX0_add 29 = .ok (.getfield 7, 3) := by decide +kernel
theorem dX0_add_32 : decode cX0_add 32 = .ok (.iload_n 2, 1) := by decide +kernel
theorem dX0_add_33 : decode cX0_add 33 = .ok (.iastore, 1) := by decide +kernel
theorem dX0_add_34 : decode cX0_add 34 = .ok (.aload_n 0, 1) := by decide +kernel
theorem dX0_add_35 : decode cX0_add 35 = .ok (.getfield 26, 3) := by decide +kernel
theorem dX0_add_38 : decode cX0_add 38 = .ok (.aload_n 0, 1) := by decide +kernel
theorem dX0_add_39 : decode cX0_add 39 = .ok (.getfield 7, 3) := by decide +kernel
theorem dX0_add_42 : decode cX0_add 42 = .ok (.iload_n 3, 1) := by decide +kernel
theorem dX0_add_43 : decode cX0_add 43 = .ok (.iastore, 1) := by decide +kernel
theorem dX0_add_44 : decode cX0_add 44 = .ok (.aload_n 0, 1) := by decide +kernel
theorem dX0_add_45 : decode cX0_add 45 = .ok (.dup, 1) := by decide +kernel
theorem dX0_add_46 : decode cX0_add 46 = .ok (.getfield 7, 3) := by decide +kernel
theorem dX0_add_49 : decode cX0_add 49 = .ok (.iconst 1, 1) := by decide +kernel
theorem dX0_add_50 : decode cX0_add 50 = .ok (.iadd, 1) := by decide +kernel
theorem dX0_add_51 : decode cX0_add 51 = .ok (.putfield 7, 3) := by decide +kernel
theorem dX0_add_54 : decode cX0_add 54 = .ok (.iconst 1, 1) := by decide +kernel
theorem dX0_add_55 : decode cX0_add 55 = .ok (.ireturn, 1) := by decide +kernel
theorem dX0_inRows_0 : decode cX0_inRows 0 = .ok (.iconst 0, 1) := by decide +kernel
theorem dX0_inRows_1 : decode cX0_inRows 1 = .ok (.istore_n 3, 1) := by decide +kernel
theorem dX0_inRows_2 : decode cX0_inRows 2 = .ok (.iconst 0, 1) := by decide +kernel
theorem dX0_inRows_3 : decode cX0_inRows 3 = .ok (.istore 4, 2) := by decide +kernel
theorem dX0_inRows_5 : decode cX0_inRows 5 = .ok (.iload 4, 2) := by decide +kernel
theorem dX0_inRows_7 : decode cX0_inRows 7 = .ok (.aload_n 0, 1) := by decide +kernel
theorem dX0_inRows_8 : decode cX0_inRows 8 = .ok (.getfield 7, 3) := by decide +kernel
theorem dX0_inRows_11 : decode cX0_inRows 11 = .ok (.if_icmp .ge 39, 3) := by decide +kernel
theorem dX0_inRows_14 : decode cX0_inRows 14 = .ok (.iload_n 3, 1) := by decide +kernel
theorem dX0_inRows_15 : decode cX0_inRows 15 = .ok (.aload_n 0, 1) := by decide +kernel
theorem dX0_inRows_16 : decode cX0_inRows 16 = .ok (.getfield 23, 3) := by decide +kernel
theorem dX0_inRows_19 : decode cX0_inRows 19 = .ok (.iload 4, 2) := by decide +kernel
theorem dX0_inRows_21 : decode cX0_inRows 21 = .ok (.iaload, 1) := by decide +kernel
theorem dX0_inRows_22 : decode cX0_inRows 22 = .ok (.iload_n 1, 1) := by decide +kernel
theorem dX0_inRows_23 : decode cX0_inRows 23 = .ok (.if_icmp .lt 18, 3) := by decide +kernel
theorem dX0_inRows_26 : decode cX0_inRows 26 = .ok (.aload_n 0, 1) := by decide +kernel
theorem dX0_inRows_27 : decode cX0_inRows 27 = .ok (.getfield 23, 3) := by decide +kernel
theorem dX0_inRows_30 : decode cX0_inRows 30 = .ok (.iload 4, 2) := by decide +kernel
theorem dX0_inRows_32 : decode cX0_inRows 32 = .ok (.iaload, 1) := by decide +kernel
theorem dX0_inRows_33 : decode cX0_inRows 33 = .ok (.iload_n 2, 1) := by decide +kernel
theorem dX0_inRows_34 : decode cX0_inRows 34 = .ok (.if_icmp .gt 7, 3) := by decide +kernel
theorem dX0_inRows_37 : decode cX0_inRows 37 = .ok (.iconst 1, 1) := by decide +kernel
theorem dX0_inRows_38 : decode cX0_inRows 38 = .ok (.goto 4, 3) := by decide +kernel
theorem dX0_inRows_41 : decode cX0_inRows 41 = .ok (.iconst 0, 1) := by decide +kernel
theorem dX0_inRows_42 : decode cX0_inRows 42 = .ok (.iadd, 1) := by decide +kernel
theorem dX0_inRows_43 : decode cX0_inRows 43 = .ok (.istore_n 3, 1) := by decide +kernel
theorem dX0_inRows_44 : decode cX0_inRows 44 = .ok (.iinc 4 1, 3) := by decide +kernel
theorem dX0_inRows_47 : decode cX0_inRows 47 = .ok (.goto (-42), 3) := by decide +kernel
theorem dX0_inRows_50 : decode cX0_inRows 50 = .ok (.iload_n 3, 1) := by decide +kernel
theorem dX0_inRows_51 : decode cX0_inRows 51 = .ok (.ireturn, 1) := by decide +kernel
theorem dX0_amountOn_0 : decode cX0_amountOn 0 = .ok (.iconst 0, 1) := by decide +kernel
theorem dX0_amountOn_1 : decode cX0_amountOn 1 = .ok (.istore_n 3, 1) := by decide +kernel
theorem dX0_amountOn_2 : decode cX0_amountOn 2 = .ok (.iconst 0, 1) := by decide +kernel
theorem dX0_amountOn_3 : decode cX0_amountOn 3 = .ok (.istore 4, 2) := by decide +kernel
theorem dX0_amountOn_5 : decode cX0_amountOn 5 = .ok (.iload 4, 2) := by decide +kernel
theorem dX0_amountOn_7 : decode cX0_amountOn 7 = .ok (.aload_n 0, 1) := by decide +kernel
theorem dX0_amountOn_8 : decode cX0_amountOn 8 = .ok (.getfield 7, 3) := by decide +kernel
theorem dX0_amountOn_11 : decode cX0_amountOn 11 = .ok (.if_icmp .ge 45, 3) := by decide +kernel
theorem dX0_amountOn_14 : decode cX0_amountOn 14 = .ok (.iload_n 3, 1) := by decide +kernel
theorem dX0_amountOn_15 : decode cX0_amountOn 15 = .ok (.aload_n 0, 1) := by decide +kernel
theorem dX0_amountOn_16 : decode cX0_amountOn 16 = .ok (.getfield 19, 3) := by decide +kernel
theorem dX0_amountOn_19 : decode cX0_amountOn 19 = .ok (.iload 4, 2) := by decide +kernel
theorem dX0_amountOn_21 : decode cX0_amountOn 21 = .ok (.iaload, 1) := by decide +kernel
theorem dX0_amountOn_22 : decode cX0_amountOn 22 = .ok (.iload_n 1, 1) := by decide +kernel
theorem dX0_amountOn_23 : decode cX0_amountOn 23 = .ok (.if_icmp .ne 24, 3) := by decide +kernel
theorem dX0_amountOn_26 : decode cX0_amountOn 26 = .ok (.aload_n 0, 1) := by decide +kernel
theorem dX0_amountOn_27 : decode cX0_amountOn 27 = .ok (.getfield 23, 3) := by decide +kernel
theorem dX0_amountOn_30 : decode cX0_amountOn 30 = .ok (.iload 4, 2) := by decide +kernel
theorem dX0_amountOn_32 : decode cX0_amountOn 32 = .ok (.iaload, 1) := by decide +kernel
theorem dX0_amountOn_33 : decode cX0_amountOn 33 = .ok (.iload_n 2, 1) := by decide +kernel
theorem dX0_amountOn_34 : decode cX0_amountOn 34 = .ok (.if_icmp .ne 13, 3) := by decide +kernel
theorem dX0_amountOn_37 : decode cX0_amountOn 37 = .ok (.aload_n 0, 1) := by decide +kernel
theorem dX0_amountOn_38 : decode cX0_amountOn 38 = .ok (.getfield 26, 3) := by decide +kernel
theorem dX0_amountOn_41 : decode cX0_amountOn 41 = .ok (.iload 4, 2) := by decide +kernel
theorem dX0_amountOn_43 : decode cX0_amountOn 43 = .ok (.iaload, 1) := by decide +kernel
theorem dX0_amountOn_44 : decode cX0_amountOn 44 = .ok (.goto 4, 3) := by decide +kernel
theorem dX0_amountOn_47 : decode cX0_amountOn 47 = .ok (.iconst 0, 1) := by decide +kernel
theorem dX0_amountOn_48 : decode cX0_amountOn 48 = .ok (.iadd, 1) := by decide +kernel
theorem dX0_amountOn_49 : decode cX0_amountOn 49 = .ok (.istore_n 3, 1) := by decide +kernel
theorem dX0_amountOn_50 : decode cX0_amountOn 50 = .ok (.iinc 4 1, 3) := by decide +kernel
theorem dX0_amountOn_53 : decode cX0_amountOn 53 = .ok (.goto (-48), 3) := by decide +kernel
theorem dX0_amountOn_56 : decode cX0_amountOn 56 = .ok (.iload_n 3, 1) := by decide +kernel
theorem dX0_amountOn_57 : decode cX0_amountOn 57 = .ok (.ireturn, 1) := by decide +kernel
theorem dX0_amountBelow_0 : decode cX0_amountBelow 0 = .ok (.iconst 0, 1) := by decide +kernel
theorem dX0_amountBelow_1 : decode cX0_amountBelow 1 = .ok (.istore_n 2, 1) := by decide +kernel
theorem dX0_amountBelow_2 : decode cX0_amountBelow 2 = .ok (.iconst 0, 1) := by decide +kernel
theorem dX0_amountBelow_3 : decode cX0_amountBelow 3 = .ok (.istore_n 3, 1) := by decide +kernel
theorem dX0_amountBelow_4 : decode cX0_amountBelow 4 = .ok (.iload_n 3, 1) := by decide +kernel
theorem dX0_amountBelow_5 : decode cX0_amountBelow 5 = .ok (.aload_n 0, 1) := by decide +kernel
theorem dX0_amountBelow_6 : decode cX0_amountBelow 6 = .ok (.getfield 7, 3) := by decide +kernel
theorem dX0_amountBelow_9 : decode cX0_amountBelow 9 = .ok (.if_icmp .ge 32, 3) := by decide +kernel
theorem dX0_amountBelow_12 : decode cX0_amountBelow 12 = .ok (.iload_n 2, 1) := by decide +kernel
theorem dX0_amountBelow_13 : decode cX0_amountBelow 13 = .ok (.aload_n 0, 1) := by decide +kernel
theorem dX0_amountBelow_14 : decode cX0_amountBelow 14 = .ok (.getfield 23, 3) := by decide +kernel
theorem dX0_amountBelow_17 : decode cX0_amountBelow 17 = .ok (.iload_n 3, 1) := by decide +kernel
theorem dX0_amountBelow_18 : decode cX0_amountBelow 18 = .ok (.iaload, 1) := by decide +kernel
theorem dX0_amountBelow_19 : decode cX0_amountBelow 19 = .ok (.iload_n 1, 1) := by decide +kernel
theorem dX0_amountBelow_20 : decode cX0_amountBelow 20 = .ok (.if_icmp .ge 12, 3) := by decide +kernel
theorem dX0_amountBelow_23 : decode cX0_amountBelow 23 = .ok (.aload_n 0, 1) := by decide +kernel
theorem dX0_amountBelow_24 : decode cX0_amountBelow 24 = .ok (.getfield 26, 3) := by decide +kernel
theorem dX0_amountBelow_27 : decode cX0_amountBelow 27 = .ok (.iload_n 3, 1) := by decide +kernel
theorem dX0_amountBelow_28 : decode cX0_amountBelow 28 = .ok (.iaload, 1) := by decide +kernel
theorem dX0_amountBelow_29 : decode cX0_amountBelow 29 = .ok (.goto 4, 3) := by decide +kernel
theorem dX0_amountBelow_32 : decode cX0_amountBelow 32 = .ok (.iconst 0, 1) := by decide +kernel
theorem dX0_amountBelow_33 : decode cX0_amountBelow 33 = .ok (.iadd, 1) := by decide +kernel
theorem dX0_amountBelow_34 : decode cX0_amountBelow 34 = .ok (.istore_n 2, 1) := by decide +kernel
theorem dX0_amountBelow_35 : decode cX0_amountBelow 35 = .ok (.iinc 3 1, 3) := by decide +kernel
theorem dX0_amountBelow_38 : decode cX0_amountBelow 38 = .ok (.goto (-34), 3) := by decide +kernel
theorem dX0_amountBelow_41 : decode cX0_amountBelow 41 = .ok (.iload_n 2, 1) := by decide +kernel
theorem dX0_amountBelow_42 : decode cX0_amountBelow 42 = .ok (.ireturn, 1) := by decide +kernel
theorem dX1_init_0 : decode cX1_init 0 = .ok (.aload_n 0, 1) := by decide +kernel
theorem dX1_init_1 : decode cX1_init 1 = .ok (.invokespecial 3, 3) := by decide +kernel
theorem dX1_init_4 : decode cX1_init 4 = .ok (.aload_n 0, 1) := by decide +kernel
theorem dX1_init_5 : decode cX1_init 5 = .ok (.bipush 10, 2) := by decide +kernel
theorem dX1_init_7 : decode cX1_init 7 = .ok (.newarray .int, 2) := by decide +kernel
theorem dX1_init_9 : decode cX1_init 9 = .ok (.putfield 9, 3) := by decide +kernel
theorem dX1_init_12 : decode cX1_init 12 = .ok (.aload_n 0, 1) := by decide +kernel
theorem dX1_init_13 : decode cX1_init 13 = .ok (.bipush 10, 2) := by decide +kernel
theorem dX1_init_15 : decode cX1_init 15 = .ok (.newarray .int, 2) := by decide +kernel
theorem dX1_init_17 : decode cX1_init 17 = .ok (.putfield 15, 3) := by decide +kernel
theorem dX1_init_20 : decode cX1_init 20 = .ok (.aload_n 0, 1) := by decide +kernel
theorem dX1_init_21 : decode cX1_init 21 = .ok (.iconst 0, 1) := by decide +kernel
theorem dX1_init_22 : decode cX1_init 22 = .ok (.putfield 18, 3) := by decide +kernel
theorem dX1_init_25 : decode cX1_init 25 = .ok (.return_, 1) := by decide +kernel
theorem dX1_add_0 : decode cX1_add 0 = .ok (.aload_n 0, 1) := by decide +kernel
theorem dX1_add_1 : decode cX1_add 1 = .ok (.getfield 18, 3) := by decide +kernel
theorem dX1_add_4 : decode cX1_add 4 = .ok (.bipush 10, 2) := by decide +kernel
theorem dX1_add_6 : decode cX1_add 6 = .ok (.if_icmp .lt 5, 3) := by decide +kernel
theorem dX1_add_9 : decode cX1_add 9 = .ok (.iconst 0, 1) := by decide +kernel
theorem dX1_add_10 : decode cX1_add 10 = .ok (.ireturn, 1) := by decide +kernel
theorem dX1_add_11 : decode cX1_add 11 = .ok (.aload_n 0, 1) := by decide +kernel
theorem dX1_add_12 : decode cX1_add 12 = .ok (.getfield 9, 3) := by decide +kernel
theorem dX1_add_15 : decode cX1_add 15 = .ok (.aload_n 0, 1) := by decide +kernel
theorem dX1_add_16 : decode cX1_add 16 = .ok (.getfield 18, 3) := by decide +kernel
theorem dX1_add_19 : decode cX1_add 19 = .ok (.iload_n 1, 1) := by decide +kernel
theorem dX1_add_20 : decode cX1_add 20 = .ok (.iastore, 1) := by decide +kernel
theorem dX1_add_21 : decode cX1_add 21 = .ok (.aload_n 0, 1) := by decide +kernel
theorem dX1_add_22 : decode cX1_add 22 = .ok (.getfield 15, 3) := by decide +kernel
theorem dX1_add_25 : decode cX1_add 25 = .ok (.aload_n 0, 1) := by decide +kernel
theorem dX1_add_26 : decode cX1_add 26 = .ok (.getfield 18, 3) := by decide +kernel
theorem dX1_add_29 : decode cX1_add 29 = .ok (.iload_n 2, 1) := by decide +kernel
theorem dX1_add_30 : decode cX1_add 30 = .ok (.iastore, 1) := by decide +kernel
theorem dX1_add_31 : decode cX1_add 31 = .ok (.aload_n 0, 1) := by decide +kernel
theorem dX1_add_32 : decode cX1_add 32 = .ok (.dup, 1) := by decide +kernel
theorem dX1_add_33 : decode cX1_add 33 = .ok (.getfield 18, 3) := by decide +kernel
theorem dX1_add_36 : decode cX1_add 36 = .ok (.iconst 1, 1) := by decide +kernel
theorem dX1_add_37 : decode cX1_add 37 = .ok (.iadd, 1) := by decide +kernel
theorem dX1_add_38 : decode cX1_add 38 = .ok (.putfield 18, 3) := by decide +kernel
theorem dX1_add_41 : decode cX1_add 41 = .ok (.iconst 1, 1) := by decide +kernel
theorem dX1_add_42 : decode cX1_add 42 = .ok (.ireturn, 1) := by decide +kernel
theorem dX1_apart_0 : decode cX1_apart 0 = .ok (.iconst 0, 1) := by decide +kernel
theorem dX1_apart_1 : decode cX1_apart 1 = .ok (.istore_n 3, 1) := by decide +kernel
theorem dX1_apart_2 : decode cX1_apart 2 = .ok (.iconst 0, 1) := by decide +kernel
theorem dX1_apart_3 : decode cX1_apart 3 = .ok (.istore 4, 2) := by decide +kernel
theorem dX1_apart_5 : decode cX1_apart 5 = .ok (.iload 4, 2) := by decide +kernel
theorem dX1_apart_7 : decode cX1_apart 7 = .ok (.aload_n 0, 1) := by decide +kernel
theorem dX1_apart_8 : decode cX1_apart 8 = .ok (.getfield 18, 3) := by decide +kernel
theorem dX1_apart_11 : decode cX1_apart 11 = .ok (.if_icmp .ge 96, 3) := by decide +kernel
theorem dX1_apart_14 : decode cX1_apart 14 = .ok (.aload_n 0, 1) := by decide +kernel
theorem dX1_apart_15 : decode cX1_apart 15 = .ok (.getfield 9, 3) := by decide +kernel
theorem dX1_apart_18 : decode cX1_apart 18 = .ok (.iload 4, 2) := by decide +kernel
theorem dX1_apart_20 : decode cX1_apart 20 = .ok (.iaload, 1) := by decide +kernel
theorem dX1_apart_21 : decode cX1_apart 21 = .ok (.istore 5, 2) := by decide +kernel
theorem dX1_apart_23 : decode cX1_apart 23 = .ok (.aload_n 0, 1) := by decide +kernel
theorem dX1_apart_24 : decode cX1_apart 24 = .ok (.getfield 15, 3) := by decide +kernel
theorem dX1_apart_27 : decode cX1_apart 27 = .ok (.iload 4, 2) := by decide +kernel
theorem dX1_apart_29 : decode cX1_apart 29 = .ok (.iaload, 1) := by decide +kernel
theorem dX1_apart_30 : decode cX1_apart 30 = .ok (.istore 6, 2) := by decide +kernel
theorem dX1_apart_32 : decode cX1_apart 32 = .ok (.iload 5, 2) := by decide +kernel
theorem dX1_apart_34 : decode cX1_apart 34 = .ok (.aload_n 1, 1) := by decide +kernel
theorem dX1_apart_35 : decode cX1_apart 35 = .ok (.getfield 22, 3) := by decide +kernel
theorem dX1_apart_38 : decode cX1_apart 38 = .ok (.if_icmp .ge 63, 3) := by decide +kernel
theorem dX1_apart_41 : decode cX1_apart 41 = .ok (.iload 6, 2) := by decide +kernel
theorem dX1_apart_43 : decode cX1_apart 43 = .ok (.aload_n 1, 1) := by decide +kernel
theorem dX1_apart_44 : decode cX1_apart 44 = .ok (.getfield 22, 3) := by decide +kernel
theorem dX1_apart_47 : decode cX1_apart 47 = .ok (.if_icmp .ge 54, 3) := by decide +kernel
theorem dX1_apart_50 : decode cX1_apart 50 = .ok (.aload_n 1, 1) := by decide +kernel
theorem dX1_apart_51 : decode cX1_apart 51 = .ok (.getfield 25, 3) := by decide +kernel
theorem dX1_apart_54 : decode cX1_apart 54 = .ok (.iload 5, 2) := by decide +kernel
theorem dX1_apart_56 : decode cX1_apart 56 = .ok (.iaload, 1) := by decide +kernel
theorem dX1_apart_57 : decode cX1_apart 57 = .ok (.aload_n 1, 1) := by decide +kernel
theorem dX1_apart_58 : decode cX1_apart 58 = .ok (.getfield 25, 3) := by decide +kernel
theorem dX1_apart_61 : decode cX1_apart 61 = .ok (.iload 6, 2) := by decide +kernel
theorem dX1_apart_63 : decode cX1_apart 63 = .ok (.iaload, 1) := by decide +kernel
theorem dX1_apart_64 : decode cX1_apart 64 = .ok (.isub, 1) := by decide +kernel
theorem dX1_apart_65 : decode cX1_apart 65 = .ok (.invokestatic 28, 3) := by decide +kernel
theorem dX1_apart_68 : decode cX1_apart 68 = .ok (.istore 7, 2) := by decide +kernel
theorem dX1_apart_70 : decode cX1_apart 70 = .ok (.aload_n 2, 1) := by decide +kernel
theorem dX1_apart_71 : decode cX1_apart 71 = .ok (.iload 5, 2) := by decide +kernel
theorem dX1_apart_73 : decode cX1_apart 73 = .ok (.iaload, 1) := by decide +kernel
theorem dX1_apart_74 : decode cX1_apart 74 = .ok (.aload_n 2, 1) := by decide +kernel
theorem dX1_apart_75 : decode cX1_apart 75 = .ok (.iload 6, 2) := by decide +kernel
theorem dX1_apart_77 : decode cX1_apart 77 = .ok (.iaload, 1) := by decide +kernel
theorem dX1_apart_78 : decode cX1_apart 78 = .ok (.isub, 1) := by decide +kernel
theorem dX1_apart_79 : decode cX1_apart 79 = .ok (.invokestatic 28, 3) := by decide +kernel
theorem dX1_apart_82 : decode cX1_apart 82 = .ok (.istore 8, 2) := by decide +kernel
theorem dX1_apart_84 : decode cX1_apart 84 = .ok (.iload_n 3, 1) := by decide +kernel
theorem dX1_apart_85 : decode cX1_apart 85 = .ok (.iload 7, 2) := by decide +kernel
theorem dX1_apart_87 : decode cX1_apart 87 = .ok (.iload 8, 2) := by decide +kernel
theorem dX1_apart_89 : decode cX1_apart 89 = .ok (.iadd, 1) := by decide +kernel
theorem dX1_apart_90 : decode cX1_apart 90 = .ok (.iconst 1, 1) := by decide +kernel
theorem dX1_apart_91 : decode cX1_apart 91 = .ok (.if_icmp .ne 7, 3) := by decide +kernel
theorem dX1_apart_94 : decode cX1_apart 94 = .ok (.iconst 0, 1) := by decide +kernel
theorem dX1_apart_95 : decode cX1_apart 95 = .ok (.goto 4, 3) := by decide +kernel
theorem dX1_apart_98 : decode cX1_apart 98 = .ok (.iconst 1, 1) := by decide +kernel
theorem dX1_apart_99 : decode cX1_apart 99 = .ok (.iadd, 1) := by decide +kernel
theorem dX1_apart_100 : decode cX1_apart 100 = .ok (.istore_n 3, 1) := by decide +kernel
theorem dX1_apart_101 : decode cX1_apart 101 = .ok (.iinc 4 1, 3) := by decide +kernel
theorem dX1_apart_104 : decode cX1_apart 104 = .ok (.goto (-99), 3) := by decide +kernel
theorem dX1_apart_107 : decode cX1_apart 107 = .ok (.iload_n 3, 1) := by decide +kernel
theorem dX1_apart_108 : decode cX1_apart 108 = .ok (.ireturn, 1) := by decide +kernel
theorem dX2_init_0 : decode cX2_init 0 = .ok (.aload_n 0, 1) := by decide +kernel
theorem dX2_init_1 : decode cX2_init 1 = .ok (.invokespecial 3, 3) := by decide +kernel
theorem dX2_init_4 : decode cX2_init 4 = .ok (.aload_n 0, 1) := by decide +kernel
theorem dX2_init_5 : decode cX2_init 5 = .ok (.bipush 52, 2) := by decide +kernel
theorem dX2_init_7 : decode cX2_init 7 = .ok (.newarray .int, 2) := by decide +kernel
theorem dX2_init_9 : decode cX2_init 9 = .ok (.putfield 9, 3) := by decide +kernel
theorem dX2_init_12 : decode cX2_init 12 = .ok (.aload_n 0, 1) := by decide +kernel
theorem dX2_init_13 : decode cX2_init 13 = .ok (.bipush 82, 2) := by decide +kernel
theorem dX2_init_15 : decode cX2_init 15 = .ok (.newarray .long, 2) := by decide +kernel
theorem dX2_init_17 : decode cX2_init 17 = .ok (.putfield 15, 3) := by decide +kernel
theorem dX2_init_20 : decode cX2_init 20 = .ok (.aload_n 0, 1) := by decide +kernel
theorem dX2_init_21 : decode cX2_init 21 = .ok (.iconst 0, 1) := by decide +kernel
theorem dX2_init_22 : decode cX2_init 22 = .ok (.putfield 19, 3) := by decide +kernel
theorem dX2_init_25 : decode cX2_init 25 = .ok (.return_, 1) := by decide +kernel
theorem dX2_footIn_0 : decode cX2_footIn 0 = .ok (.aload_n 0, 1) := by decide +kernel
theorem dX2_footIn_1 : decode cX2_footIn 1 = .ok (.getfield 19, 3) := by decide +kernel
theorem dX2_footIn_4 : decode cX2_footIn 4 = .ok (.istore_n 2, 1) := by decide +kernel
theorem dX2_footIn_5 : decode cX2_footIn 5 = .ok (.iconst 0, 1) := by decide +kernel
theorem dX2_footIn_6 : decode cX2_footIn 6 = .ok (.istore_n 3, 1) := by decide +kernel
theorem dX2_footIn_7 : decode cX2_footIn 7 = .ok (.iload_n 3, 1) := by decide +kernel
theorem dX2_footIn_8 : decode cX2_footIn 8 = .ok (.iload_n 1, 1) := by decide +kernel
theorem dX2_footIn_9 : decode cX2_footIn 9 = .ok (.if_icmp .gt 18, 3) := by decide +kernel
theorem dX2_footIn_12 : decode cX2_footIn 12 = .ok (.iload_n 2, 1) := by decide +kernel
theorem dX2_footIn_13 : decode cX2_footIn 13 = .ok (.aload_n 0, 1) := by decide +kernel
theorem dX2_footIn_14 : decode cX2_footIn 14 = .ok (.getfield 9, 3) := by decide +kernel
theorem dX2_footIn_17 : decode cX2_footIn 17 = .ok (.iload_n 3, 1) := by decide +kernel
theorem dX2_footIn_18 : decode cX2_footIn 18 = .ok (.iaload, 1) := by decide +kernel
theorem dX2_footIn_19 : decode cX2_footIn 19 = .ok (.iadd, 1) := by decide +kernel
theorem dX2_footIn_20 : decode cX2_footIn 20 = .ok (.istore_n 2, 1) := by decide +kernel
theorem dX2_footIn_21 : decode cX2_footIn 21 = .ok (.iinc 3 1, 3) := by decide +kernel
theorem dX2_footIn_24 : decode cX2_footIn 24 = .ok (.goto (-17), 3) := by decide +kernel
theorem dX2_footIn_27 : decode cX2_footIn 27 = .ok (.iload_n 2, 1) := by decide +kernel
theorem dX2_footIn_28 : decode cX2_footIn 28 = .ok (.ireturn, 1) := by decide +kernel
theorem dX2_spread_0 : decode cX2_spread 0 = .ok (.aload_n 0, 1) := by decide +kernel
theorem dX2_spread_1 : decode cX2_spread 1 = .ok (.getfield 15, 3) := by decide +kernel
theorem dX2_spread_4 : decode cX2_spread 4 = .ok (.lconst 0, 1) := by decide +kernel
theorem dX2_spread_5 : decode cX2_spread 5 = .ok (.invokestatic 23, 3) := by decide +kernel
theorem dX2_spread_8 : decode cX2_spread 8 = .ok (.aload_n 0, 1) := by decide +kernel
theorem dX2_spread_9 : decode cX2_spread 9 = .ok (.getfield 15, 3) := by decide +kernel
theorem dX2_spread_12 : decode cX2_spread 12 = .ok (.iconst 0, 1) := by decide +kernel
theorem dX2_spread_13 : decode cX2_spread 13 = .ok (.lconst 1, 1) := by decide +kernel
theorem dX2_spread_14 : decode cX2_spread 14 = .ok (.lastore, 1) := by decide +kernel
theorem dX2_spread_15 : decode cX2_spread 15 = .ok (.iconst 0, 1) := by decide +kernel
theorem dX2_spread_16 : decode cX2_spread 16 = .ok (.istore_n 3, 1) := by decide +kernel
theorem dX2_spread_17 : decode cX2_spread 17 = .ok (.iload_n 3, 1) := by decide +kernel
theorem dX2_spread_18 : decode cX2_spread 18 = .ok (.iload_n 2, 1) := by decide +kernel
theorem dX2_spread_19 : decode cX2_spread 19 = .ok (.if_icmp .ge 70, 3) := by decide +kernel
theorem dX2_spread_22 : decode cX2_spread 22 = .ok (.bipush 81, 2) := by decide +kernel
theorem dX2_spread_24 : decode cX2_spread 24 = .ok (.istore 4, 2) := by decide +kernel
theorem dX2_spread_26 : decode cX2_spread 26 = .ok (.iload 4, 2) := by decide +kernel
theorem dX2_spread_28 : decode cX2_spread 28 = .ok (.ifCond .le 55, 3) := by decide +kernel
theorem dX2_spread_31 : decode cX2_spread 31 = .ok (.iconst 0, 1) := by decide +kernel
theorem dX2_spread_32 : decode cX2_spread 32 = .ok (.iload 4, 2) := by decide +kernel
theorem dX2_spread_34 : decode cX2_spread 34 = .ok (.iload_n 1, 1) := by decide +kernel
theorem dX2_spread_35 : decode cX2_spread 35 = .ok (.isub, 1) := by decide +kernel
theorem dX2_spread_36 : decode cX2_spread 36 = .ok (.invokestatic 29, 3) := by decide +kernel
theorem dX2_spread_39 : decode cX2_spread 39 = .ok (.istore 5, 2) := by decide +kernel
theorem dX2_spread_41 : decode cX2_spread 41 = .ok (.iload 4, 2) := by decide +kernel
theorem dX2_spread_43 : decode cX2_spread 43 = .ok (.iconst 1, 1) := by decide +kernel
theorem dX2_spread_44 : decode cX2_spread 44 = .ok (.isub, 1) := by decide +kernel
theorem dX2_spread_45 : decode cX2_spread 45 = .ok (.istore 6, 2) := by decide +kernel
theorem dX2_spread_47 : decode cX2_spread 47 = .ok (.iload 6, 2) := by decide +kernel
theorem dX2_spread_49 : decode cX2_spread 49 = .ok (.iload 5, 2) := by decide +kernel
theorem dX2_spread_51 : decode cX2_spread 51 = .ok (.if_icmp .lt 26, 3) := by decide +kernel
theorem dX2_spread_54 : decode cX2_spread 54 = .ok (.aload_n 0, 1) := by decide +kernel
theorem dX2_spread_55 : decode cX2_spread 55 = .ok (.getfield 15, 3) := by decide +kernel
theorem dX2_spread_58 : decode cX2_spread 58 = .ok (.iload 4, 2) := by decide +kernel
theorem dX2_spread_60 : decode cX2_spread 60 = .ok (.dup2, 1) := by decide +kernel
theorem dX2_spread_61 : decode cX2_spread 61 = .ok (.laload, 1) := by decide +kernel
theorem dX2_spread_62 : decode cX2_spread 62 = .ok (.aload_n 0, 1) := by decide +kernel
theorem dX2_spread_63 : decode cX2_spread 63 = .ok (.getfield 15, 3) := by decide +kernel
theorem dX2_spread_66 : decode cX2_spread 66 = .ok (.iload 6, 2) := by decide +kernel
theorem dX2_spread_68 : decode cX2_spread 68 = .ok (.laload, 1) := by decide +kernel
theorem dX2_spread_69 : decode cX2_spread 69 = .ok (.ladd, 1) := by decide +kernel
theorem dX2_spread_70 : decode cX2_spread 70 = .ok (.lastore, 1) := by decide +kernel
theorem dX2_spread_71 : decode cX2_spread 71 = .ok (.iinc 6 (-1), 3) := by decide +kernel
theorem dX2_spread_74 : decode cX2_spread 74 = .ok (.goto (-27), 3) := by decide +kernel
theorem dX2_spread_77 : decode cX2_spread 77 = .ok (.iinc 4 (-1), 3) := by decide +kernel
theorem dX2_spread_80 : decode cX2_spread 80 = .ok (.goto (-54), 3) := by decide +kernel
theorem dX2_spread_83 : decode cX2_spread 83 = .ok (.iinc 3 1, 3) := by decide +kernel
theorem dX2_spread_86 : decode cX2_spread 86 = .ok (.goto (-69), 3) := by decide +kernel
theorem dX2_spread_89 : decode cX2_spread 89 = .ok (.return_, 1) := by decide +kernel
theorem dX2_waysOver_0 : decode cX2_waysOver 0 = .ok (.lconst 0, 1) := by decide +kernel
theorem dX2_waysOver_1 : decode cX2_waysOver 1 = .ok (.lstore_n 2, 1) := by decide +kernel
theorem dX2_waysOver_2 : decode cX2_waysOver 2 = .ok (.iconst 0, 1) := by decide +kernel
theorem dX2_waysOver_3 : decode cX2_waysOver 3 = .ok (.istore 4, 2) := by decide +kernel
theorem dX2_waysOver_5 : decode cX2_waysOver 5 = .ok (.iload 4, 2) := by decide +kernel
theorem dX2_waysOver_7 : decode cX2_waysOver 7 = .ok (.bipush 82, 2) := by decide +kernel
theorem dX2_waysOver_9 : decode cX2_waysOver 9 = .ok (.if_icmp .ge 30, 3) := by decide +kernel
theorem dX2_waysOver_12 : decode cX2_waysOver 12 = .ok (.aload_n 0, 1) := by decide +kernel
theorem dX2_waysOver_13 : decode cX2_waysOver 13 = .ok (.getfield 19, 3) := by decide +kernel
theorem dX2_waysOver_16 : decode cX2_waysOver 16 = .ok (.iload 4, 2) := by decide +kernel
theorem dX2_waysOver_18 : decode cX2_waysOver 18 = .ok (.iadd, 1) := by decide +kernel
theorem dX2_waysOver_19 : decode cX2_waysOver 19 = .ok (.iload_n 1, 1) := by decide +kernel
theorem dX2_waysOver_20 : decode cX2_waysOver 20 = .ok (.if_icmp .le 13, 3) := by decide +kernel
theorem dX2_waysOver_23 : decode cX2_waysOver 23 = .ok (.lload_n 2, 1) := by decide +kernel
theorem dX2_waysOver_24 : decode cX2_waysOver 24 = .ok (.aload_n 0, 1) := by decide +kernel
theorem dX2_waysOver_25 : decode cX2_waysOver 25 = .ok (.getfield 15, 3) := by decide +kernel
theorem dX2_waysOver_28 : decode cX2_waysOver 28 = .ok (.iload 4, 2) := by decide +kernel
theorem dX2_waysOver_30 : decode cX2_waysOver 30 = .ok (.laload, 1) := by decide +kernel
theorem dX2_waysOver_31 : decode cX2_waysOver 31 = .ok (.ladd, 1) := by decide +kernel
theorem dX2_waysOver_32 : decode cX2_waysOver 32 = .ok (.lstore_n 2, 1) := by decide +kernel
theorem dX2_waysOver_33 : decode cX2_waysOver 33 = .ok (.iinc 4 1, 3) := by decide +kernel
theorem dX2_waysOver_36 : decode cX2_waysOver 36 = .ok (.goto (-31), 3) := by decide +kernel
theorem dX2_waysOver_39 : decode cX2_waysOver 39 = .ok (.lload_n 2, 1) := by decide +kernel
theorem dX2_waysOver_40 : decode cX2_waysOver 40 = .ok (.lreturn, 1) := by decide +kernel
theorem dX3_init_0 : decode cX3_init 0 = .ok (.aload_n 0, 1) := by decide +kernel
theorem dX3_init_1 : decode cX3_init 1 = .ok (.invokespecial 3, 3) := by decide +kernel
theorem dX3_init_4 : decode cX3_init 4 = .ok (.aload_n 0, 1) := by decide +kernel
theorem dX3_init_5 : decode cX3_init 5 = .ok (.bipush 60, 2) := by decide +kernel
theorem dX3_init_7 : decode cX3_init 7 = .ok (.newarray .int, 2) := by decide +kernel
theorem dX3_init_9 : decode cX3_init 9 = .ok (.putfield 9, 3) := by decide +kernel
theorem dX3_init_12 : decode cX3_init 12 = .ok (.aload_n 0, 1) := by decide +kernel
theorem dX3_init_13 : decode cX3_init 13 = .ok (.iconst 1, 1) := by decide +kernel
theorem dX3_init_14 : decode cX3_init 14 = .ok (.putfield 15, 3) := by decide +kernel
theorem dX3_init_17 : decode cX3_init 17 = .ok (.aload_n 0, 1) := by decide +kernel
theorem dX3_init_18 : decode cX3_init 18 = .ok (.iconst 0, 1) := by decide +kernel
theorem dX3_init_19 : decode cX3_init 19 = .ok (.putfield 19, 3) := by decide +kernel
theorem dX3_init_22 : decode cX3_init 22 = .ok (.aload_n 0, 1) := by decide +kernel
theorem dX3_init_23 : decode cX3_init 23 = .ok (.iconst 0, 1) := by decide +kernel
theorem dX3_init_24 : decode cX3_init 24 = .ok (.putfield 23, 3) := by decide +kernel
theorem dX3_init_27 : decode cX3_init 27 = .ok (.return_, 1) := by decide +kernel
theorem dX3_renew_0 : decode cX3_renew 0 = .ok (.aload_n 0, 1) := by decide +kernel
theorem dX3_renew_1 : decode cX3_renew 1 = .ok (.getfield 9, 3) := by decide +kernel
theorem dX3_renew_4 : decode cX3_renew 4 = .ok (.iconst 0, 1) := by decide +kernel
theorem dX3_renew_5 : decode cX3_renew 5 = .ok (.invokestatic 26, 3) := by decide +kernel
theorem dX3_renew_8 : decode cX3_renew 8 = .ok (.aload_n 0, 1) := by decide +kernel
theorem dX3_renew_9 : decode cX3_renew 9 = .ok (.iconst 0, 1) := by decide +kernel
theorem dX3_renew_10 : decode cX3_renew 10 = .ok (.putfield 15, 3) := by decide +kernel
theorem dX3_renew_13 : decode cX3_renew 13 = .ok (.aload_n 0, 1) := by decide +kernel
theorem dX3_renew_14 : decode cX3_renew 14 = .ok (.iload_n 1, 1) := by decide +kernel
theorem dX3_renew_15 : decode cX3_renew 15 = .ok (.putfield 19, 3) := by decide +kernel
theorem dX3_renew_18 : decode cX3_renew 18 = .ok (.aload_n 0, 1) := by decide +kernel
theorem dX3_renew_19 : decode cX3_renew 19 = .ok (.iload_n 2, 1) := by decide +kernel
theorem dX3_renew_20 : decode cX3_renew 20 = .ok (.putfield 23, 3) := by decide +kernel
theorem dX3_renew_23 : decode cX3_renew 23 = .ok (.return_, 1) := by decide +kernel
theorem dX3_amissAt_0 : decode cX3_amissAt 0 = .ok (.aload_n 0, 1) := by decide +kernel
theorem dX3_amissAt_1 : decode cX3_amissAt 1 = .ok (.getfield 15, 3) := by decide +kernel
theorem dX3_amissAt_4 : decode cX3_amissAt 4 = .ok (.ifCond .eq 5, 3) := by decide +kernel
theorem dX3_amissAt_7 : decode cX3_amissAt 7 = .ok (.iconst 1, 1) := by decide +kernel
theorem dX3_amissAt_8 : decode cX3_amissAt 8 = .ok (.ireturn, 1) := by decide +kernel
theorem dX3_amissAt_9 : decode cX3_amissAt 9 = .ok (.iload_n 1, 1) := by decide +kernel
theorem dX3_amissAt_10 : decode cX3_amissAt 10 = .ok (.aload_n 0, 1) := by decide +kernel
theorem dX3_amissAt_11 : decode cX3_amissAt 11 = .ok (.getfield 19, 3) := by decide +kernel
theorem dX3_amissAt_14 : decode cX3_amissAt 14 = .ok (.if_icmp .eq 5, 3) := by decide +kernel
theorem dX3_amissAt_17 : decode cX3_amissAt 17 = .ok (.iconst 3, 1) := by decide +kernel
theorem dX3_amissAt_18 : decode cX3_amissAt 18 = .ok (.ireturn, 1) := by decide +kernel
theorem dX3_amissAt_19 : decode cX3_amissAt 19 = .ok (.iload_n 2, 1) := by decide +kernel
theorem dX3_amissAt_20 : decode cX3_amissAt 20 = .ok (.ifCond .lt 11, 3) := by decide +kernel
theorem dX3_amissAt_23 : decode cX3_amissAt 23 = .ok (.iload_n 2, 1) := by decide +kernel
theorem dX3_amissAt_24 : decode cX3_amissAt 24 = .ok (.aload_n 0, 1) := by decide +kernel
theorem dX3_amissAt_25 : decode cX3_amissAt 25 = .ok (.getfield 23, 3) := by decide +kernel
theorem dX3_amissAt_28 : decode cX3_amissAt 28 = .ok (.if_icmp .lt 7, 3) := by decide +kernel
theorem dX3_amissAt_31 : decode cX3_amissAt 31 = .ok (.iconst 2, 1) := by decide +kernel
theorem dX3_amissAt_32 : decode cX3_amissAt 32 = .ok (.goto 4, 3) := by decide +kernel
theorem dX3_amissAt_35 : decode cX3_amissAt 35 = .ok (.iconst 0, 1) := by decide +kernel
theorem dX3_amissAt_36 : decode cX3_amissAt 36 = .ok (.ireturn, 1) := by decide +kernel
theorem dX3_hasRange_0 : decode cX3_hasRange 0 = .ok (.iload_n 1, 1) := by decide +kernel
theorem dX3_hasRange_1 : decode cX3_hasRange 1 = .ok (.ifCond .lt 29, 3) := by decide +kernel
theorem dX3_hasRange_4 : decode cX3_hasRange 4 = .ok (.iload_n 2, 1) := by decide +kernel
theorem dX3_hasRange_5 : decode cX3_hasRange 5 = .ok (.ifCond .lt 25, 3) := by decide +kernel
theorem dX3_hasRange_8 : decode cX3_hasRange 8 = .ok (.iload_n 1, 1) := by decide +kernel
theorem dX3_hasRange_9 : decode cX3_hasRange 9 = .ok (.aload_n 0, 1) := by decide +kernel
theorem dX3_hasRange_10 : decode cX3_hasRange 10 = .ok (.getfield 23, 3) := by decide +kernel
theorem dX3_hasRange_13 : decode cX3_hasRange 13 = .ok (.if_icmp .gt 17, 3) := by decide +kernel
theorem dX3_hasRange_16 : decode cX3_hasRange 16 = .ok (.iload_n 2, 1) := by decide +kernel
theorem dX3_hasRange_17 : decode cX3_hasRange 17 = .ok (.aload_n 0, 1) := by decide +kernel
theorem dX3_hasRange_18 : decode cX3_hasRange 18 = .ok (.getfield 23, 3) := by decide +kernel
theorem dX3_hasRange_21 : decode cX3_hasRange 21 = .ok (.iload_n 1, 1) := by decide +kernel
theorem dX3_hasRange_22 : decode cX3_hasRange 22 = .ok (.isub, 1) := by decide +kernel
theorem dX3_hasRange_23 : decode cX3_hasRange 23 = .ok (.if_icmp .gt 7, 3) := by decide +kernel
theorem dX3_hasRange_26 : decode cX3_hasRange 26 = .ok (.iconst 1, 1) := by decide +kernel
theorem dX3_hasRange_27 : decode cX3_hasRange 27 = .ok (.goto 4, 3) := by decide +kernel
theorem dX3_hasRange_30 : decode cX3_hasRange 30 = .ok (.iconst 0, 1) := by decide +kernel
theorem dX3_hasRange_31 : decode cX3_hasRange 31 = .ok (.ireturn, 1) := by decide +kernel
theorem dX3_keep_0 : decode cX3_keep 0 = .ok (.aload_n 0, 1) := by decide +kernel
theorem dX3_keep_1 : decode cX3_keep 1 = .ok (.getfield 9, 3) := by decide +kernel
theorem dX3_keep_4 : decode cX3_keep 4 = .ok (.iload_n 1, 1) := by decide +kernel
theorem dX3_keep_5 : decode cX3_keep 5 = .ok (.aload_n 0, 1) := by decide +kernel
theorem dX3_keep_6 : decode cX3_keep 6 = .ok (.getfield 19, 3) := by decide +kernel
theorem dX3_keep_9 : decode cX3_keep 9 = .ok (.ifCond .ne 8, 3) := by decide +kernel
theorem dX3_keep_12 : decode cX3_keep 12 = .ok (.iload_n 2, 1) := by decide +kernel
theorem dX3_keep_13 : decode cX3_keep 13 = .ok (.i2b, 1) := by decide +kernel
theorem dX3_keep_14 : decode cX3_keep 14 = .ok (.goto 17, 3) := by decide +kernel
theorem dX3_keep_17 : decode cX3_keep 17 = .ok (.aload_n 0, 1) := by decide +kernel
theorem dX3_keep_18 : decode cX3_keep 18 = .ok (.getfield 19, 3) := by decide +kernel
theorem dX3_keep_21 : decode cX3_keep 21 = .ok (.iconst 1, 1) := by decide +kernel
theorem dX3_keep_22 : decode cX3_keep 22 = .ok (.if_icmp .ne 8, 3) := by decide +kernel
theorem dX3_keep_25 : decode cX3_keep 25 = .ok (.iload_n 2, 1) := by decide +kernel
theorem dX3_keep_26 : decode cX3_keep 26 = .ok (.i2s, 1) := by decide +kernel
theorem dX3_keep_27 : decode cX3_keep 27 = .ok (.goto 4, 3) := by decide +kernel
theorem dX3_keep_30 : decode cX3_keep 30 = .ok (.iload_n 2, 1) := by decide +kernel
theorem dX3_keep_31 : decode cX3_keep 31 = .ok (.iastore, 1) := by decide +kernel
theorem dX3_keep_32 : decode cX3_keep 32 = .ok (.return_, 1) := by decide +kernel
theorem dX4_init_0 : decode cX4_init 0 = .ok (.aload_n 0, 1) := by decide +kernel
theorem dX4_init_1 : decode cX4_init 1 = .ok (.invokespecial 3, 3) := by decide +kernel
theorem dX4_init_4 : decode cX4_init 4 = .ok (.aload_n 0, 1) := by decide +kernel
theorem dX4_init_5 : decode cX4_init 5 = .ok (.bipush 10, 2) := by decide +kernel
theorem dX4_init_7 : decode cX4_init 7 = .ok (.newarray .int, 2) := by decide +kernel
theorem dX4_init_9 : decode cX4_init 9 = .ok (.putfield 9, 3) := by decide +kernel
theorem dX4_init_12 : decode cX4_init 12 = .ok (.aload_n 0, 1) := by decide +kernel
theorem dX4_init_13 : decode cX4_init 13 = .ok (.bipush 10, 2) := by decide +kernel
theorem dX4_init_15 : decode cX4_init 15 = .ok (.newarray .int, 2) := by decide +kernel
theorem dX4_init_17 : decode cX4_init 17 = .ok (.putfield 15, 3) := by decide +kernel
theorem dX4_init_20 : decode cX4_init 20 = .ok (.aload_n 0, 1) := by decide +kernel
theorem dX4_init_21 : decode cX4_init 21 = .ok (.iconst 0, 1) := by decide +kernel
theorem dX4_init_22 : decode cX4_init 22 = .ok (.putfield 18, 3) := by decide +kernel
theorem dX4_init_25 : decode cX4_init 25 = .ok (.return_, 1) := by decide +kernel
theorem dX4_begin_0 : decode cX4_begin 0 = .ok (.aload_n 0, 1) := by decide +kernel
theorem dX4_begin_1 : decode cX4_begin 1 = .ok (.aload_n 1, 1) := by decide +kernel
theorem dX4_begin_2 : decode cX4_begin 2 = .ok (.getfield 22, 3) := by decide +kernel
theorem dX4_begin_5 : decode cX4_begin 5 = .ok (.putfield 18, 3) := by decide +kernel
theorem dX4_begin_8 : decode cX4_begin 8 = .ok (.iconst 0, 1) := by decide +kernel
theorem dX4_begin_9 : decode cX4_begin 9 = .ok (.istore_n 2, 1) := by decide +kernel
theorem dX4_begin_10 : decode cX4_begin 10 = .ok (.iload_n 2, 1) := by decide +kernel
theorem dX4_begin_11 : decode cX4_begin 11 = .ok (.aload_n 0, 1) := by decide +kernel
theorem dX4_begin_12 : decode cX4_begin 12 = .ok (.getfield 18, 3) := by decide +kernel
theorem dX4_begin_15 : decode cX4_begin 15 = .ok (.if_icmp .ge 28, 3) := by decide +kernel
theorem dX4_begin_18 : decode cX4_begin 18 = .ok (.aload_n 0, 1) := by decide +kernel
theorem dX4_begin_19 : decode cX4_begin 19 = .ok (.getfield 9, 3) := by decide +kernel
theorem dX4_begin_22 : decode cX4_begin 22 = .ok (.iload_n 2, 1) := by decide +kernel
theorem dX4_begin_23 : decode cX4_begin 23 = .ok (.aload_n 1, 1) := by decide +kernel
theorem dX4_begin_24 : decode cX4_begin 24 = .ok (.getfield 25, 3) := by decide +kernel
theorem dX4_begin_27 : decode cX4_begin 27 = .ok (.iload_n 2, 1) := by decide +kernel
theorem dX4_begin_28 : decode cX4_begin 28 = .ok (.iaload, 1) := by decide +kernel
theorem dX4_begin_29 : decode cX4_begin 29 = .ok (.iastore, 1) := by decide +kernel
theorem dX4_begin_30 : decode cX4_begin 30 = .ok (.aload_n 0, 1) := by decide +kernel
theorem dX4_begin_31 : decode cX4_begin 31 = .ok (.getfield 15, 3) := by decide +kernel
theorem dX4_begin_34 : decode cX4_begin 34 = .ok (.iload_n 2, 1) := by decide +kernel
theorem dX4_begin_35 : decode cX4_begin 35 = .ok (.iconst 0, 1) := by decide +kernel
theorem dX4_begin_36 : decode cX4_begin 36 = .ok (.iastore, 1) := by decide +kernel
theorem dX4_begin_37 : decode cX4_begin 37 = .ok (.iinc 2 1, 3) := by decide +kernel
theorem dX4_begin_40 : decode cX4_begin 40 = .ok (.goto (-30), 3) := by decide +kernel
theorem dX4_begin_43 : decode cX4_begin 43 = .ok (.return_, 1) := by decide +kernel
theorem dX4_move_0 : decode cX4_move 0 = .ok (.aload_n 0, 1) := by decide +kernel
theorem dX4_move_1 : decode cX4_move 1 = .ok (.getfield 9, 3) := by decide +kernel
theorem dX4_move_4 : decode cX4_move 4 = .ok (.iload_n 2, 1) := by decide +kernel
theorem dX4_move_5 : decode cX4_move 5 = .ok (.iaload, 1) := by decide +kernel
theorem dX4_move_6 : decode cX4_move 6 = .ok (.istore_n 3, 1) := by decide +kernel
theorem dX4_move_7 : decode cX4_move 7 = .ok (.iconst 0, 1) := by decide +kernel
theorem dX4_move_8 : decode cX4_move 8 = .ok (.istore 4, 2) := by decide +kernel
theorem dX4_move_10 : decode cX4_move 10 = .ok (.iload 4, 2) := by decide +kernel
theorem dX4_move_12 : decode cX4_move 12 = .ok (.aload_n 0, 1) := by decide +kernel
theorem dX4_move_13 : decode cX4_move 13 = .ok (.getfield 18, 3) := by decide +kernel
theorem dX4_move_16 : decode cX4_move 16 = .ok (.if_icmp .ge 37, 3) := by decide +kernel
theorem dX4_move_19 : decode cX4_move 19 = .ok (.aload_n 1, 1) := by decide +kernel
theorem dX4_move_20 : decode cX4_move 20 = .ok (.getfield 26, 3) := by decide +kernel
theorem dX4_move_23 : decode cX4_move 23 = .ok (.iload 4, 2) := by decide +kernel
theorem dX4_move_25 : decode cX4_move 25 = .ok (.iaload, 1) := by decide +kernel
theorem dX4_move_26 : decode cX4_move 26 = .ok (.aload_n 1, 1) := by decide +kernel
theorem dX4_move_27 : decode cX4_move 27 = .ok (.getfield 26, 3) := by decide +kernel
theorem dX4_move_30 : decode cX4_move 30 = .ok (.iload_n 2, 1) := by decide +kernel
theorem dX4_move_31 : decode cX4_move 31 = .ok (.iaload, 1) := by decide +kernel
theorem dX4_move_32 : decode cX4_move 32 = .ok (.if_icmp .ne 15, 3) := by decide +kernel
theorem dX4_move_35 : decode cX4_move 35 = .ok (.iload_n 3, 1) := by decide +kernel
theorem dX4_move_36 : decode cX4_move 36 = .ok (.aload_n 0, 1) := by decide +kernel
theorem dX4_move_37 : decode cX4_move 37 = .ok (.getfield 9, 3) := by decide +kernel
theorem dX4_move_40 : decode cX4_move 40 = .ok (.iload 4, 2) := by decide +kernel
theorem dX4_move_42 : decode cX4_move 42 = .ok (.iaload, 1) := by decide +kernel
theorem dX4_move_43 : decode cX4_move 43 = .ok (.invokestatic 29, 3) := by decide +kernel
theorem dX4_move_46 : decode cX4_move 46 = .ok (.istore_n 3, 1) := by decide +kernel
theorem dX4_move_47 : decode cX4_move 47 = .ok (.iinc 4 1, 3) := by decide +kernel
theorem dX4_move_50 : decode cX4_move 50 = .ok (.goto (-40), 3) := by decide +kernel
theorem dX4_move_53 : decode cX4_move 53 = .ok (.iload_n 3, 1) := by decide +kernel
theorem dX4_move_54 : decode cX4_move 54 = .ok (.bipush 99, 2) := by decide +kernel
theorem dX4_move_56 : decode cX4_move 56 = .ok (.if_icmp .lt 6, 3) := by decide +kernel
theorem dX4_move_59 : decode cX4_move 59 = .ok (.bipush (-3), 2) := by decide +kernel
theorem dX4_move_61 : decode cX4_move 61 = .ok (.ireturn, 1) := by decide +kernel
theorem dX4_move_62 : decode cX4_move 62 = .ok (.aload_n 1, 1) := by decide +kernel
theorem dX4_move_63 : decode cX4_move 63 = .ok (.iload_n 2, 1) := by decide +kernel
theorem dX4_move_64 : decode cX4_move 64 = .ok (.aload_n 0, 1) := by decide +kernel
theorem dX4_move_65 : decode cX4_move 65 = .ok (.getfield 15, 3) := by decide +kernel
theorem dX4_move_68 : decode cX4_move 68 = .ok (.iload_n 2, 1) := by decide +kernel
theorem dX4_move_69 : decode cX4_move 69 = .ok (.iaload, 1) := by decide +kernel
theorem dX4_move_70 : decode cX4_move 70 = .ok (.invokevirtual 35, 3) := by decide +kernel
theorem dX4_move_73 : decode cX4_move 73 = .ok (.istore 4, 2) := by decide +kernel
theorem dX4_move_75 : decode cX4_move 75 = .ok (.aload_n 0, 1) := by decide +kernel
theorem dX4_move_76 : decode cX4_move 76 = .ok (.getfield 9, 3) := by decide +kernel
theorem dX4_move_79 : decode cX4_move 79 = .ok (.iload_n 2, 1) := by decide +kernel
theorem dX4_move_80 : decode cX4_move 80 = .ok (.iload_n 3, 1) := by decide +kernel
theorem dX4_move_81 : decode cX4_move 81 = .ok (.iconst 1, 1) := by decide +kernel
theorem dX4_move_82 : decode cX4_move 82 = .ok (.iadd, 1) := by decide +kernel
theorem dX4_move_83 : decode cX4_move 83 = .ok (.iastore, 1) := by decide +kernel
theorem dX4_move_84 : decode cX4_move 84 = .ok (.aload_n 0, 1) := by decide +kernel
theorem dX4_move_85 : decode cX4_move 85 = .ok (.getfield 15, 3) := by decide +kernel
theorem dX4_move_88 : decode cX4_move 88 = .ok (.iload_n 2, 1) := by decide +kernel
theorem dX4_move_89 : decode cX4_move 89 = .ok (.dup2, 1) := by decide +kernel
theorem dX4_move_90 : decode cX4_move 90 = .ok (.iaload, 1) := by decide +kernel
theorem dX4_move_91 : decode cX4_move 91 = .ok (.iconst 1, 1) := by decide +kernel
theorem dX4_move_92 : decode cX4_move 92 = .ok (.iadd, 1) := by decide +kernel
theorem dX4_move_93 : decode cX4_move 93 = .ok (.iastore, 1) := by decide +kernel
theorem dX4_move_94 : decode cX4_move 94 = .ok (.iload 4, 2) := by decide +kernel
theorem dX4_move_96 : decode cX4_move 96 = .ok (.ireturn, 1) := by decide +kernel
theorem dX4_hindmost_0 : decode cX4_hindmost 0 = .ok (.iconst (-1), 1) := by decide +kernel
theorem dX4_hindmost_1 : decode cX4_hindmost 1 = .ok (.istore_n 1, 1) := by decide +kernel
theorem dX4_hindmost_2 : decode cX4_hindmost 2 = .ok (.iconst 0, 1) := by decide +kernel
theorem dX4_hindmost_3 : decode cX4_hindmost 3 = .ok (.istore_n 2, 1) := by decide +kernel
theorem dX4_hindmost_4 : decode cX4_hindmost 4 = .ok (.iload_n 2, 1) := by decide +kernel
theorem dX4_hindmost_5 : decode cX4_hindmost 5 = .ok (.aload_n 0, 1) := by decide +kernel
theorem dX4_hindmost_6 : decode cX4_hindmost 6 = .ok (.getfield 18, 3) := by decide +kernel
theorem dX4_hindmost_9 : decode cX4_hindmost 9 = .ok (.if_icmp .ge 31, 3) := by decide +kernel
theorem dX4_hindmost_12 : decode cX4_hindmost 12 = .ok (.iload_n 1, 1) := by decide +kernel
theorem dX4_hindmost_13 : decode cX4_hindmost 13 = .ok (.iconst (-1), 1) := by decide +kernel
theorem dX4_hindmost_14 : decode cX4_hindmost 14 = .ok (.if_icmp .eq 18, 3) := by decide +kernel
theorem dX4_hindmost_17 : decode cX4_hindmost 17 = .ok (.aload_n 0, 1) := by decide +kernel
theorem dX4_hindmost_18 : decode cX4_hindmost 18 = .ok (.getfield 9, 3) := by decide +kernel
theorem dX4_hindmost_21 : decode cX4_hindmost 21 = .ok (.iload_n 2, 1) := by decide +kernel
theorem dX4_hindmost_22 : decode cX4_hindmost 22 = .ok (.iaload, 1) := by decide +kernel
theorem dX4_hindmost_23 : decode cX4_hindmost 23 = .ok (.aload_n 0, 1) := by decide +kernel
theorem dX4_hindmost_24 : decode cX4_hindmost 24 = .ok (.getfield 9, 3) := by decide +kernel
theorem dX4_hindmost_27 : decode cX4_hindmost 27 = .ok (.iload_n 1, 1) := by decide +kernel
theorem dX4_hindmost_28 : decode cX4_hindmost 28 = .ok (.iaload, 1) := by decide +kernel
theorem dX4_hindmost_29 : decode cX4_hindmost 29 = .ok (.if_icmp .ge 5, 3) := by decide +kernel
theorem dX4_hindmost_32 : decode cX4_hindmost 32 = .ok (.iload_n 2, 1) := by decide +kernel
theorem dX4_hindmost_33 : decode cX4_hindmost 33 = .ok (.istore_n 1, 1) := by decide +kernel
theorem dX4_hindmost_34 : decode cX4_hindmost 34 = .ok (.iinc 2 1, 3) := by decide +kernel
theorem dX4_hindmost_37 : decode cX4_hindmost 37 = .ok (.goto (-33), 3) := by decide +kernel
theorem dX4_hindmost_40 : decode cX4_hindmost 40 = .ok (.iload_n 1, 1) := by decide +kernel
theorem dX4_hindmost_41 : decode cX4_hindmost 41 = .ok (.ireturn, 1) := by decide +kernel
theorem dX4_greatestRow_0 : decode cX4_greatestRow 0 = .ok (.iconst (-1), 1) := by decide +kernel
theorem dX4_greatestRow_1 : decode cX4_greatestRow 1 = .ok (.istore_n 1, 1) := by decide +kernel
theorem dX4_greatestRow_2 : decode cX4_greatestRow 2 = .ok (.iconst 0, 1) := by decide +kernel
theorem dX4_greatestRow_3 : decode cX4_greatestRow 3 = .ok (.istore_n 2, 1) := by decide +kernel
theorem dX4_greatestRow_4 : decode cX4_greatestRow 4 = .ok (.iload_n 2, 1) := by decide +kernel
theorem dX4_greatestRow_5 : decode cX4_greatestRow 5 = .ok (.aload_n 0, 1) := by decide +kernel
theorem dX4_greatestRow_6 : decode cX4_greatestRow 6 = .ok (.getfield 18, 3) := by decide +kernel
theorem dX4_greatestRow_9 : decode cX4_greatestRow 9 = .ok (.if_icmp .ge 20, 3) := by decide +kernel
theorem dX4_greatestRow_12 : decode cX4_greatestRow 12 = .ok (.iload_n 1, 1) := by decide +kernel
theorem dX4_greatestRow_13 : decode cX4_greatestRow 13 = .ok (.aload_n 0, 1) := by decide +kernel
theorem dX4_greatestRow_14 : decode cX4_greatestRow 14 = .ok (.getfield 9, 3) := by decide +kernel
theorem dX4_greatestRow_17 : decode cX4_greatestRow 17 = .ok (.iload_n 2, 1) := by decide +kernel
theorem dX4_greatestRow_18 : decode cX4_greatestRow 18 = .ok (.iaload, 1) := by decide +kernel
theorem dX4_greatestRow_19 : decode cX4_greatestRow 19 = .ok (.invokestatic 29, 3) := by decide +kernel
theorem dX4_greatestRow_22 : decode cX4_greatestRow 22 = .ok (.istore_n 1, 1) := by decide +kernel
theorem dX4_greatestRow_23 : decode cX4_greatestRow 23 = .ok (.iinc 2 1, 3) := by decide +kernel
theorem dX4_greatestRow_26 : decode cX4_greatestRow 26 = .ok (.goto (-22), 3) := by decide +kernel
theorem dX4_greatestRow_29 : decode cX4_greatestRow 29 = .ok (.iload_n 1, 1) := by decide +kernel
theorem dX4_greatestRow_30 : decode cX4_greatestRow 30 = .ok (.ireturn, 1) := by decide +kernel
theorem dX4_isCovered_0 : decode cX4_isCovered 0 = .ok (.aload_n 0, 1) := by decide +kernel
theorem dX4_isCovered_1 : decode cX4_isCovered 1 = .ok (.invokevirtual 38, 3) := by decide +kernel
theorem dX4_isCovered_4 : decode cX4_isCovered 4 = .ok (.istore_n 2, 1) := by decide +kernel
theorem dX4_isCovered_5 : decode cX4_isCovered 5 = .ok (.iload_n 2, 1) := by decide +kernel
theorem dX4_isCovered_6 : decode cX4_isCovered 6 = .ok (.iconst (-1), 1) := by decide +kernel
theorem dX4_isCovered_7 : decode cX4_isCovered 7 = .ok (.if_icmp .eq 17, 3) := by decide +kernel
theorem dX4_isCovered_10 : decode cX4_isCovered 10 = .ok (.aload_n 0, 1) := by decide +kernel
theorem dX4_isCovered_11 : decode cX4_isCovered 11 = .ok (.getfield 9, 3) := by decide +kernel
theorem dX4_isCovered_14 : decode cX4_isCovered 14 = .ok (.iload_n 2, 1) := by decide +kernel
theorem dX4_isCovered_15 : decode cX4_isCovered 15 = .ok (.iaload, 1) := by decide +kernel
theorem dX4_isCovered_16 : decode cX4_isCovered 16 = .ok (.iload_n 1, 1) := by decide +kernel
theorem dX4_isCovered_17 : decode cX4_isCovered 17 = .ok (.if_icmp .ge 7, 3) := by decide +kernel
theorem dX4_isCovered_20 : decode cX4_isCovered 20 = .ok (.iconst 1, 1) := by decide +kernel
theorem dX4_isCovered_21 : decode cX4_isCovered 21 = .ok (.goto 4, 3) := by decide +kernel
theorem dX4_isCovered_24 : decode cX4_isCovered 24 = .ok (.iconst 0, 1) := by decide +kernel
theorem dX4_isCovered_25 : decode cX4_isCovered 25 = .ok (.ireturn, 1) := by decide +kernel
theorem dX5_init_0 : decode cX5_init 0 = .ok (.aload_n 0, 1) := by decide +kernel
theorem dX5_init_1 : decode cX5_init 1 = .ok (.invokespecial 3, 3) := by decide +kernel
theorem dX5_init_4 : decode cX5_init 4 = .ok (.aload_n 0, 1) := by decide +kernel
theorem dX5_init_5 : decode cX5_init 5 = .ok (.bipush 60, 2) := by decide +kernel
theorem dX5_init_7 : decode cX5_init 7 = .ok (.newarray .int, 2) := by decide +kernel
theorem dX5_init_9 : decode cX5_init 9 = .ok (.putfield 9, 3) := by decide +kernel
theorem dX5_init_12 : decode cX5_init 12 = .ok (.aload_n 0, 1) := by decide +kernel
theorem dX5_init_13 : decode cX5_init 13 = .ok (.iconst 0, 1) := by decide +kernel
theorem dX5_init_14 : decode cX5_init 14 = .ok (.putfield 15, 3) := by decide +kernel
theorem dX5_init_17 : decode cX5_init 17 = .ok (.return_, 1) := by decide +kernel
theorem dX5_append_0 : decode cX5_append 0 = .ok (.aload_n 0, 1) := by decide +kernel
theorem dX5_append_1 : decode cX5_append 1 = .ok (.getfield 15, 3) := by decide +kernel
theorem dX5_append_4 : decode cX5_append 4 = .ok (.bipush 60, 2) := by decide +kernel
theorem dX5_append_6 : decode cX5_append 6 = .ok (.if_icmp .ge 23, 3) := by decide +kernel
theorem dX5_append_9 : decode cX5_append 9 = .ok (.aload_n 0, 1) := by decide +kernel
theorem dX5_append_10 : decode cX5_append 10 = .ok (.getfield 9, 3) := by decide +kernel
theorem dX5_append_13 : decode cX5_append 13 = .ok (.aload_n 0, 1) := by decide +kernel
theorem dX5_append_14 : decode cX5_append 14 = .ok (.getfield 15, 3) := by decide +kernel
theorem dX5_append_17 : decode cX5_append 17 = .ok (.iload_n 1, 1) := by decide +kernel
theorem dX5_append_18 : decode cX5_append 18 = .ok (.iastore, 1) := by decide +kernel
theorem dX5_append_19 : decode cX5_append 19 = .ok (.aload_n 0, 1) := by decide +kernel
theorem dX5_append_20 : decode cX5_append 20 = .ok (.dup, 1) := by decide +kernel
theorem dX5_append_21 : decode cX5_append 21 = .ok (.getfield 15, 3) := by decide +kernel
theorem dX5_append_24 : decode cX5_append 24 = .ok (.iconst 1, 1) := by decide +kernel
theorem dX5_append_25 : decode cX5_append 25 = .ok (.iadd, 1) := by decide +kernel
theorem dX5_append_26 : decode cX5_append 26 = .ok (.putfield 15, 3) := by decide +kernel
theorem dX5_append_29 : decode cX5_append 29 = .ok (.return_, 1) := by decide +kernel
theorem dX5_byteAt_0 : decode cX5_byteAt 0 = .ok (.iload_n 1, 1) := by decide +kernel
theorem dX5_byteAt_1 : decode cX5_byteAt 1 = .ok (.ifCond .lt 20, 3) := by decide +kernel
theorem dX5_byteAt_4 : decode cX5_byteAt 4 = .ok (.iload_n 1, 1) := by decide +kernel
theorem dX5_byteAt_5 : decode cX5_byteAt 5 = .ok (.aload_n 0, 1) := by decide +kernel
theorem dX5_byteAt_6 : decode cX5_byteAt 6 = .ok (.getfield 15, 3) := by decide +kernel
theorem dX5_byteAt_9 : decode cX5_byteAt 9 = .ok (.if_icmp .ge 12, 3) := by decide +kernel
theorem dX5_byteAt_12 : decode cX5_byteAt 12 = .ok (.aload_n 0, 1) := by decide +kernel
theorem dX5_byteAt_13 : decode cX5_byteAt 13 = .ok (.getfield 9, 3) := by decide +kernel
theorem dX5_byteAt_16 : decode cX5_byteAt 16 = .ok (.iload_n 1, 1) := by decide +kernel
theorem dX5_byteAt_17 : decode cX5_byteAt 17 = .ok (.iaload, 1) := by decide +kernel
theorem dX5_byteAt_18 : decode cX5_byteAt 18 = .ok (.goto 4, 3) := by decide +kernel
theorem dX5_byteAt_21 : decode cX5_byteAt 21 = .ok (.iconst (-1), 1) := by decide +kernel
theorem dX5_byteAt_22 : decode cX5_byteAt 22 = .ok (.ireturn, 1) := by decide +kernel
theorem dX5_figureAt_0 : decode cX5_figureAt 0 = .ok (.aload_n 0, 1) := by decide +kernel
theorem dX5_figureAt_1 : decode cX5_figureAt 1 = .ok (.iload_n 1, 1) := by decide +kernel
theorem dX5_figureAt_2 : decode cX5_figureAt 2 = .ok (.invokevirtual 19, 3) := by decide +kernel
theorem dX5_figureAt_5 : decode cX5_figureAt 5 = .ok (.istore_n 2, 1) := by decide +kernel
theorem dX5_figureAt_6 : decode cX5_figureAt 6 = .ok (.iload_n 2, 1) := by decide +kernel
theorem dX5_figureAt_7 : decode cX5_figureAt 7 = .ok (.bipush 48, 2) := by decide +kernel
theorem dX5_figureAt_9 : decode cX5_figureAt 9 = .ok (.if_icmp .lt 16, 3) := by decide +kernel
theorem dX5_figureAt_12 : decode cX5_figureAt 12 = .ok (.iload_n 2, 1) := by decide +kernel
theorem dX5_figureAt_13 : decode cX5_figureAt 13 = .ok (.bipush 57, 2) := by decide +kernel
theorem dX5_figureAt_15 : decode cX5_figureAt 15 = .ok (.if_icmp .gt 10, 3) := by decide +kernel
theorem dX5_figureAt_18 : decode cX5_figureAt 18 = .ok (.iload_n 2, 1) := by decide +kernel
theorem dX5_figureAt_19 : decode cX5_figureAt 19 = .ok (.bipush 48, 2) := by decide +kernel
theorem dX5_figureAt_21 : decode cX5_figureAt 21 = .ok (.isub, 1) := by decide +kernel
theorem dX5_figureAt_22 : decode cX5_figureAt 22 = .ok (.goto 4, 3) := by decide +kernel
theorem dX5_figureAt_25 : decode cX5_figureAt 25 = .ok (.iconst (-1), 1) := by decide +kernel
theorem dX5_figureAt_26 : decode cX5_figureAt 26 = .ok (.ireturn, 1) := by decide +kernel
theorem dX6_init_0 : decode cX6_init 0 = .ok (.aload_n 0, 1) := by decide +kernel
theorem dX6_init_1 : decode cX6_init 1 = .ok (.invokespecial 3, 3) := by decide +kernel
theorem dX6_init_4 : decode cX6_init 4 = .ok (.aload_n 0, 1) := by decide +kernel
theorem dX6_init_5 : decode cX6_init 5 = .ok (.bipush 15, 2) := by decide +kernel
theorem dX6_init_7 : decode cX6_init 7 = .ok (.newarray .int, 2) := by decide +kernel
theorem dX6_init_9 : decode cX6_init 9 = .ok (.putfield 11, 3) := by decide +kernel
theorem dX6_init_12 : decode cX6_init 12 = .ok (.aload_n 0, 1) := by decide +kernel
theorem dX6_init_13 : decode cX6_init 13 = .ok (.bipush 15, 2) := by decide +kernel
theorem dX6_init_15 : decode cX6_init 15 = .ok (.newarray .int, 2) := by decide +kernel
theorem dX6_init_17 : decode cX6_init 17 = .ok (.putfield 15, 3) := by decide +kernel
theorem dX6_init_20 : decode cX6_init 20 = .ok (.aload_n 0, 1) := by decide +kernel
theorem dX6_init_21 : decode cX6_init 21 = .ok (.iconst 0, 1) := by decide +kernel
theorem dX6_init_22 : decode cX6_init 22 = .ok (.putfield 18, 3) := by decide +kernel
theorem dX6_init_25 : decode cX6_init 25 = .ok (.aload_n 0, 1) := by decide +kernel
theorem dX6_init_26 : decode cX6_init 26 = .ok (.iconst (-1), 1) := by decide +kernel
theorem dX6_init_27 : decode cX6_init 27 = .ok (.putfield 22, 3) := by decide +kernel
theorem dX6_init_30 : decode cX6_init 30 = .ok (.return_, 1) := by decide +kernel
theorem dX6_readFrom_0 : decode cX6_readFrom 0 = .ok (.aload_n 0, 1) := by decide +kernel
theorem dX6_readFrom_1 : decode cX6_readFrom 1 = .ok (.iconst 0, 1) := by decide +kernel
theorem dX6_readFrom_2 : decode cX6_readFrom 2 = .ok (.putfield 18, 3) := by decide +kernel
theorem dX6_readFrom_5 : decode cX6_readFrom 5 = .ok (.aload_n 0, 1) := by decide +kernel
theorem dX6_readFrom_6 : decode cX6_readFrom 6 = .ok (.aload_n 1, 1) := by decide +kernel
theorem dX6_readFrom_7 : decode cX6_readFrom 7 = .ok (.getfield 25, 3) := by decide +kernel
theorem dX6_readFrom_10 : decode cX6_readFrom 10 = .ok (.ifCond .ne 7, 3) := by decide +kernel
theorem dX6_readFrom_13 : decode cX6_readFrom 13 = .ok (.iconst (-1), 1) := by decide +kernel
theorem dX6_readFrom_14 : decode cX6_readFrom 14 = .ok (.goto 9, 3) := by decide +kernel
theorem dX6_readFrom_17 : decode cX6_readFrom 17 = .ok (.aload_n 0, 1) := by decide +kernel
theorem dX6_readFrom_18 : decode cX6_readFrom 18 = .ok (.aload_n 1, 1) := by decide +kernel
theorem dX6_readFrom_19 : decode cX6_readFrom 19 = .ok (.iload_n 2, 1) := by decide +kernel
theorem dX6_readFrom_20 : decode cX6_readFrom 20 = .ok (.invokevirtual 30, 3) := by decide +kernel
theorem dX6_readFrom_23 : decode cX6_readFrom 23 = .ok (.putfield 22, 3) := by decide +kernel
theorem dX6_readFrom_26 : decode cX6_readFrom 26 = .ok (.aload_n 0, 1) := by decide +kernel
theorem dX6_readFrom_27 : decode cX6_readFrom 27 = .ok (.getfield 22, 3) := by decide +kernel
theorem dX6_readFrom_30 : decode cX6_readFrom 30 = .ok (.iconst (-1), 1) := by decide +kernel
theorem dX6_readFrom_31 : decode cX6_readFrom 31 = .ok (.if_icmp .eq 8, 3) := by decide +kernel
theorem dX6_readFrom_34 : decode cX6_readFrom 34 = .ok (.aload_n 0, 1) := by decide +kernel
theorem dX6_readFrom_35 : decode cX6_readFrom 35 = .ok (.iconst 0, 1) := by decide +kernel
theorem dX6_readFrom_36 : decode cX6_readFrom 36 = .ok (.putfield 18, 3) := by decide +kernel
theorem dX6_readFrom_39 : decode cX6_readFrom 39 = .ok (.return_, 1) := by decide +kernel
theorem dX6_readParts_0 : decode cX6_readParts 0 = .ok (.iconst 0, 1) := by decide +kernel
theorem dX6_readParts_1 : decode cX6_readParts 1 = .ok (.istore_n 3, 1) := by decide +kernel
theorem dX6_readParts_2 : decode cX6_readParts 2 = .ok (.iconst 0, 1) := by decide +kernel
theorem dX6_readParts_3 : decode cX6_readParts 3 = .ok (.istore 4, 2) := by decide +kernel
theorem dX6_readParts_5 : decode cX6_readParts 5 = .ok (.iload 4, 2) := by decide +kernel
theorem dX6_readParts_7 : decode cX6_readParts 7 = .ok (.bipush 15, 2) := by decide +kernel
theorem dX6_readParts_9 : decode cX6_readParts 9 = .ok (.if_icmp .ge 55, 3) := by decide +kernel
theorem dX6_readParts_12 : decode cX6_readParts 12 = .ok (.aload_n 0, 1) := by decide +kernel
theorem dX6_readParts_13 : decode cX6_readParts 13 = .ok (.aload_n 1, 1) := by decide +kernel
theorem dX6_readParts_14 : decode cX6_readParts 14 = .ok (.iload_n 3, 1) := by decide +kernel
theorem dX6_readParts_15 : decode cX6_readParts 15 = .ok (.iload_n 2, 1) := by decide +kernel
theorem dX6_readParts_16 : decode cX6_readParts 16 = .ok (.invokevirtual 34, 3) := by decide +kernel
theorem dX6_readParts_19 : decode cX6_readParts 19 = .ok (.istore 5, 2) := by decide +kernel
theorem dX6_readParts_21 : decode cX6_readParts 21 = .ok (.iload 5, 2) := by decide +kernel
theorem dX6_readParts_23 : decode cX6_readParts 23 = .ok (.iconst (-1), 1) := by decide +kernel
theorem dX6_readParts_24 : decode cX6_readParts 24 = .ok (.if_icmp .eq 6, 3) := by decide +kernel
theorem dX6_readParts_27 : decode cX6_readParts 27 = .ok (.iload 5, 2) := by decide +kernel
theorem dX6_readParts_29 : decode cX6_readParts 29 = .ok (.ireturn, 1) := by decide +kernel
theorem dX6_readParts_30 : decode cX6_readParts 30 = .ok (.iinc 3 3, 3) := by decide +kernel
theorem dX6_readParts_33 : decode cX6_readParts 33 = .ok (.iload_n 3, 1) := by decide +kernel
theorem dX6_readParts_34 : decode cX6_readParts 34 = .ok (.aload_n 1, 1) := by decide +kernel
theorem dX6_readParts_35 : decode cX6_readParts 35 = .ok (.getfield 25, 3) := by decide +kernel
theorem dX6_readParts_38 : decode cX6_readParts 38 = .ok (.if_icmp .ne 5, 3) := by decide +kernel
theorem dX6_readParts_41 : decode cX6_readParts 41 = .ok (.iconst (-1), 1) := by decide +kernel
theorem dX6_readParts_42 : decode cX6_readParts 42 = .ok (.ireturn, 1) := by decide +kernel
theorem dX6_readParts_43 : decode cX6_readParts 43 = .ok (.aload_n 1, 1) := by decide +kernel
theorem dX6_readParts_44 : decode cX6_readParts 44 = .ok (.iload_n 3, 1) := by decide +kernel
theorem dX6_readParts_45 : decode cX6_readParts 45 = .ok (.invokevirtual 38, 3) := by decide +kernel
theorem dX6_readParts_48 : decode cX6_readParts 48 = .ok (.bipush 59, 2) := by decide +kernel
theorem dX6_readParts_50 : decode cX6_readParts 50 = .ok (.if_icmp .eq 5, 3) := by decide +kernel
theorem dX6_readParts_53 : decode cX6_readParts 53 = .ok (.iload_n 3, 1) := by decide +kernel
theorem dX6_readParts_54 : decode cX6_readParts 54 = .ok (.ireturn, 1) := by decide +kernel
theorem dX6_readParts_55 : decode cX6_readParts 55 = .ok (.iinc 3 1, 3) := by decide +kernel
theorem dX6_readParts_58 : decode cX6_readParts 58 = .ok (.iinc 4 1, 3) := by decide +kernel
theorem dX6_readParts_61 : decode cX6_readParts 61 = .ok (.goto (-56), 3) := by decide +kernel
theorem dX6_readParts_64 : decode cX6_readParts 64 = .ok (.iload_n 3, 1) := by decide +kernel
theorem dX6_readParts_65 : decode cX6_readParts 65 = .ok (.ireturn, 1) := by decide +kernel
theorem dX6_readPart_0 : decode cX6_readPart 0 = .ok (.aload_n 1, 1) := by decide +kernel
theorem dX6_readPart_1 : decode cX6_readPart 1 = .ok (.iload_n 2, 1) := by decide +kernel
theorem dX6_readPart_2 : decode cX6_readPart 2 = .ok (.invokevirtual 42, 3) := by decide +kernel
theorem dX6_readPart_5 : decode cX6_readPart 5 = .ok (.istore 4, 2) := by decide +kernel
theorem dX6_readPart_7 : decode cX6_readPart 7 = .ok (.iload 4, 2) := by decide +kernel
theorem dX6_readPart_9 : decode cX6_readPart 9 = .ok (.iconst (-1), 1) := by decide +kernel
theorem dX6_readPart_10 : decode cX6_readPart 10 = .ok (.if_icmp .ne 5, 3) := by decide +kernel
theorem dX6_readPart_13 : decode cX6_readPart 13 = .ok (.iload_n 2, 1) := by decide +kernel
theorem dX6_readPart_14 : decode cX6_readPart 14 = .ok (.ireturn, 1) := by decide +kernel
theorem dX6_readPart_15 : decode cX6_readPart 15 = .ok (.aload_n 1, 1) := by decide +kernel
theorem dX6_readPart_16 : decode cX6_readPart 16 = .ok (.iload_n 2, 1) := by decide +kernel
theorem dX6_readPart_17 : decode cX6_readPart 17 = .ok (.iconst 1, 1) := by decide +kernel
theorem dX6_readPart_18 : decode cX6_readPart 18 = .ok (.iadd, 1) := by decide +kernel
theorem dX6_readPart_19 : decode cX6_readPart 19 = .ok (.invokevirtual 42, 3) := by decide +kernel
theorem dX6_readPart_22 : decode cX6_readPart 22 = .ok (.istore 5, 2) := by decide +kernel
theorem dX6_readPart_24 : decode cX6_readPart 24 = .ok (.iload 5, 2) := by decide +kernel
theorem dX6_readPart_26 : decode cX6_readPart 26 = .ok (.iconst (-1), 1) := by decide +kernel
theorem dX6_readPart_27 : decode cX6_readPart 27 = .ok (.if_icmp .ne 7, 3) := by decide +kernel
theorem dX6_readPart_30 : decode cX6_readPart 30 = .ok (.iload_n 2, 1) := by decide +kernel
theorem dX6_readPart_31 : decode cX6_readPart 31 = .ok (.iconst 1, 1) := by decide +kernel
theorem dX6_readPart_32 : decode cX6_readPart 32 = .ok (.iadd, 1) := by decide +kernel
theorem dX6_readPart_33 : decode cX6_readPart 33 = .ok (.ireturn, 1) := by decide +kernel
theorem dX6_readPart_34 : decode cX6_readPart 34 = .ok (.bipush 10, 2) := by decide +kernel
theorem dX6_readPart_36 : decode cX6_readPart 36 = .ok (.iload 4, 2) := by decide +kernel
theorem dX6_readPart_38 : decode cX6_readPart 38 = .ok (.imul, 1) := by decide +kernel
theorem dX6_readPart_39 : decode cX6_readPart 39 = .ok (.iload 5, 2) := by decide +kernel
theorem dX6_readPart_41 : decode cX6_readPart 41 = .ok (.iadd, 1) := by decide +kernel
theorem dX6_readPart_42 : decode cX6_readPart 42 = .ok (.istore 6, 2) := by decide +kernel
theorem dX6_readPart_44 : decode cX6_readPart 44 = .ok (.aload_n 0, 1) := by decide +kernel
theorem dX6_readPart_45 : decode cX6_readPart 45 = .ok (.getfield 18, 3) := by decide +kernel
theorem dX6_readPart_48 : decode cX6_readPart 48 = .ok (.ifCond .ne 7, 3) := by decide +kernel
theorem dX6_readPart_51 : decode cX6_readPart 51 = .ok (.iconst 0, 1) := by decide +kernel
theorem dX6_readPart_52 : decode cX6_readPart 52 = .ok (.goto 14, 3) := by decide +kernel
theorem dX6_readPart_55 : decode cX6_readPart 55 = .ok (.aload_n 0, 1) := by decide +kernel
theorem dX6_readPart_56 : decode cX6_readPart 56 = .ok (.getfield 11, 3) := by decide +kernel
theorem dX6_readPart_59 : decode cX6_readPart 59 = .ok (.aload_n 0, 1) := by decide +kernel
theorem dX6_readPart_60 : decode cX6_readPart 60 = .ok (.getfield 18, 3) := by decide +kernel
theorem dX6_readPart_63 : decode cX6_readPart 63 = .ok (.iconst 1, 1) := by decide +kernel
theorem dX6_readPart_64 : decode cX6_readPart 64 = .ok (.isub, 1) := by decide +kernel
theorem dX6_readPart_65 : decode cX6_readPart 65 = .ok (.iaload, 1) := by decide +kernel
theorem dX6_readPart_66 : decode cX6_readPart 66 = .ok (.istore 7, 2) := by decide +kernel
theorem dX6_readPart_68 : decode cX6_readPart 68 = .ok (.iload 6, 2) := by decide +kernel
theorem dX6_readPart_70 : decode cX6_readPart 70 = .ok (.invokestatic 45, 3) := by decide +kernel
theorem dX6_readPart_73 : decode cX6_readPart 73 = .ok (.ifCond .eq 10, 3) := by decide +kernel
theorem dX6_readPart_76 : decode cX6_readPart 76 = .ok (.iload 6, 2) := by decide +kernel
theorem dX6_readPart_78 : decode cX6_readPart 78 = .ok (.iload 7, 2) := by decide +kernel
theorem dX6_readPart_80 : decode cX6_readPart 80 = .ok (.if_icmp .ge 5, 3) := by decide +kernel
theorem dX6_readPart_83 : decode cX6_readPart 83 = .ok (.iload_n 2, 1) := by decide +kernel
theorem dX6_readPart_84 : decode cX6_readPart 84 = .ok (.ireturn, 1) := by decide +kernel
theorem dX6_readPart_85 : decode cX6_readPart 85 = .ok (.aload_n 1, 1) := by decide +kernel
theorem dX6_readPart_86 : decode cX6_readPart 86 = .ok (.iload_n 2, 1) := by decide +kernel
theorem dX6_readPart_87 : decode cX6_readPart 87 = .ok (.iconst 2, 1) := by decide +kernel
theorem dX6_readPart_88 : decode cX6_readPart 88 = .ok (.iadd, 1) := by decide +kernel
theorem dX6_readPart_89 : decode cX6_readPart 89 = .ok (.invokevirtual 42, 3) := by decide +kernel
theorem dX6_readPart_92 : decode cX6_readPart 92 = .ok (.istore 8, 2) := by decide +kernel
theorem dX6_readPart_94 : decode cX6_readPart 94 = .ok (.iload 8, 2) := by decide +kernel
theorem dX6_readPart_96 : decode cX6_readPart 96 = .ok (.iconst (-1), 1) := by decide +kernel
theorem dX6_readPart_97 : decode cX6_readPart 97 = .ok (.if_icmp .eq 9, 3) := by decide +kernel
theorem dX6_readPart_100 : decode cX6_readPart 100 = .ok (.iload 8, 2) := by decide +kernel
theorem dX6_readPart_102 : decode cX6_readPart 102 = .ok (.iload_n 3, 1) := by decide +kernel
theorem dX6_readPart_103 : decode cX6_readPart 103 = .ok (.if_icmp .lt 7, 3) := by decide +kernel
theorem dX6_readPart_106 : decode cX6_readPart 106 = .ok (.iload_n 2, 1) := by decide +kernel
theorem dX6_readPart_107 : decode cX6_readPart 107 = .ok (.iconst 2, 1) := by decide +kernel
theorem dX6_readPart_108 : decode cX6_readPart 108 = .ok (.iadd, 1) := by decide +kernel
theorem dX6_readPart_109 : decode cX6_readPart 109 = .ok (.ireturn, 1) := by decide +kernel
theorem dX6_readPart_110 : decode cX6_readPart 110 = .ok (.aload_n 0, 1) := by decide +kernel
theorem dX6_readPart_111 : decode cX6_readPart 111 = .ok (.getfield 11, 3) := by decide +kernel
theorem dX6_readPart_114 : decode cX6_readPart 114 = .ok (.aload_n 0, 1) := by decide +kernel
theorem dX6_readPart_115 : decode cX6_readPart 115 = .ok (.getfield 18, 3) := by decide +kernel
theorem dX6_readPart_118 : decode cX6_readPart 118 = .ok (.iload 6, 2) := by decide +kernel
theorem dX6_readPart_120 : decode cX6_readPart 120 = .ok (.iastore, 1) := by decide +kernel
theorem dX6_readPart_121 : decode cX6_readPart 121 = .ok (.aload_n 0, 1) := by decide +kernel
theorem dX6_readPart_122 : decode cX6_readPart 122 = .ok (.getfield 15, 3) := by decide +kernel
theorem dX6_readPart_125 : decode cX6_readPart 125 = .ok (.aload_n 0, 1) := by decide +kernel
theorem dX6_readPart_126 : decode cX6_readPart 126 = .ok (.getfield 18, 3) := by decide +kernel
theorem dX6_readPart_129 : decode cX6_readPart 129 = .ok (.iload 8, 2) := by decide +kernel
theorem dX6_readPart_131 : decode cX6_readPart 131 = .ok (.iastore, 1) := by decide +kernel
theorem dX6_readPart_132 : decode cX6_readPart 132 = .ok (.aload_n 0, 1) := by decide +kernel
theorem dX6_readPart_133 : decode cX6_readPart 133 = .ok (.dup, 1) := by decide +kernel
theorem dX6_readPart_134 : decode cX6_readPart 134 = .ok (.getfield 18, 3) := by decide +kernel
theorem dX6_readPart_137 : decode cX6_readPart 137 = .ok (.iconst 1, 1) := by decide +kernel
theorem dX6_readPart_138 : decode cX6_readPart 138 = .ok (.iadd, 1) := by decide +kernel
theorem dX6_readPart_139 : decode cX6_readPart 139 = .ok (.putfield 18, 3) := by decide +kernel
theorem dX6_readPart_142 : decode cX6_readPart 142 = .ok (.iconst (-1), 1) := by decide +kernel
theorem dX6_readPart_143 : decode cX6_readPart 143 = .ok (.ireturn, 1) := by decide +kernel
theorem dX6_endOfWeek_0 : decode cX6_endOfWeek 0 = .ok (.iload_n 1, 1) := by decide +kernel
theorem dX6_endOfWeek_1 : decode cX6_endOfWeek 1 = .ok (.istore_n 3, 1) := by decide +kernel
theorem dX6_endOfWeek_2 : decode cX6_endOfWeek 2 = .ok (.iload_n 3, 1) := by decide +kernel
theorem dX6_endOfWeek_3 : decode cX6_endOfWeek 3 = .ok (.aload_n 0, 1) := by decide +kernel
theorem dX6_endOfWeek_4 : decode cX6_endOfWeek 4 = .ok (.getfield 18, 3) := by decide +kernel
theorem dX6_endOfWeek_7 : decode cX6_endOfWeek 7 = .ok (.if_icmp .ge 19, 3) := by decide +kernel
theorem dX6_endOfWeek_10 : decode cX6_endOfWeek 10 = .ok (.aload_n 0, 1) := by decide +kernel
theorem dX6_endOfWeek_11 : decode cX6_endOfWeek 11 = .ok (.getfield 11, 3) := by decide +kernel
theorem dX6_endOfWeek_14 : decode cX6_endOfWeek 14 = .ok (.iload_n 3, 1) := by decide +kernel
theorem dX6_endOfWeek_15 : decode cX6_endOfWeek 15 = .ok (.iaload, 1) := by decide +kernel
theorem dX6_endOfWeek_16 : decode cX6_endOfWeek 16 = .ok (.iload_n 2, 1) := by decide +kernel
theorem dX6_endOfWeek_17 : decode cX6_endOfWeek 17 = .ok (.if_icmp .gt 9, 3) := by decide +kernel
theorem dX6_endOfWeek_20 : decode cX6_endOfWeek 20 = .ok (.iinc 3 1, 3) := by decide +kernel
theorem dX6_endOfWeek_23 : decode cX6_endOfWeek 23 = .ok (.goto (-21), 3) := by decide +kernel
theorem dX6_endOfWeek_26 : decode cX6_endOfWeek 26 = .ok (.iload_n 3, 1) := by decide +kernel
theorem dX6_endOfWeek_27 : decode cX6_endOfWeek 27 = .ok (.ireturn, 1) := by decide +kernel
theorem dX7_init_0 : decode cX7_init 0 = .ok (.aload_n 0, 1) := by decide +kernel
theorem dX7_init_1 : decode cX7_init 1 = .ok (.invokespecial 3, 3) := by decide +kernel
theorem dX7_init_4 : decode cX7_init 4 = .ok (.aload_n 0, 1) := by decide +kernel
theorem dX7_init_5 : decode cX7_init 5 = .ok (.bipush 10, 2) := by decide +kernel
theorem dX7_init_7 : decode cX7_init 7 = .ok (.newarray .int, 2) := by decide +kernel
theorem dX7_init_9 : decode cX7_init 9 = .ok (.putfield 9, 3) := by decide +kernel
theorem dX7_init_12 : decode cX7_init 12 = .ok (.aload_n 0, 1) := by decide +kernel
theorem dX7_init_13 : decode cX7_init 13 = .ok (.bipush 10, 2) := by decide +kernel
theorem dX7_init_15 : decode cX7_init 15 = .ok (.newarray .int, 2) := by decide +kernel
theorem dX7_init_17 : decode cX7_init 17 = .ok (.putfield 15, 3) := by decide +kernel
theorem dX7_init_20 : decode cX7_init 20 = .ok (.aload_n 0, 1) := by decide +kernel
theorem dX7_init_21 : decode cX7_init 21 = .ok (.bipush 10, 2) := by decide +kernel
theorem dX7_init_23 : decode cX7_init 23 = .ok (.newarray .int, 2) := by decide +kernel
theorem dX7_init_25 : decode cX7_init 25 = .ok (.putfield 18, 3) := by decide +kernel
theorem dX7_init_28 : decode cX7_init 28 = .ok (.aload_n 0, 1) := by decide +kernel
theorem dX7_init_29 : decode cX7_init 29 = .ok (.iconst 0, 1) := by decide +kernel
theorem dX7_init_30 : decode cX7_init 30 = .ok (.putfield 21, 3) := by decide +kernel
theorem dX7_init_33 : decode cX7_init 33 = .ok (.aload_n 0, 1) := by decide +kernel
theorem dX7_init_34 : decode cX7_init 34 = .ok (.iconst (-1), 1) := by decide +kernel
theorem dX7_init_35 : decode cX7_init 35 = .ok (.putfield 25, 3) := by decide +kernel
theorem dX7_init_38 : decode cX7_init 38 = .ok (.return_, 1) := by decide +kernel
theorem dX7_readFrom_0 : decode cX7_readFrom 0 = .ok (.aload_n 0, 1) := by decide +kernel
theorem dX7_readFrom_1 : decode cX7_readFrom 1 = .ok (.iconst 0, 1) := by decide +kernel
theorem dX7_readFrom_2 : decode cX7_readFrom 2 = .ok (.putfield 21, 3) := by decide +kernel
theorem dX7_readFrom_5 : decode cX7_readFrom 5 = .ok (.aload_n 0, 1) := by decide +kernel
theorem dX7_readFrom_6 : decode cX7_readFrom 6 = .ok (.aload_n 1, 1) := by decide +kernel
theorem dX7_readFrom_7 : decode cX7_readFrom 7 = .ok (.getfield 28, 3) := by decide +kernel
theorem dX7_readFrom_10 : decode cX7_readFrom 10 = .ok (.ifCond .ne 7, 3) := by decide +kernel
theorem dX7_readFrom_13 : decode cX7_readFrom 13 = .ok (.iconst (-1), 1) := by decide +kernel
theorem dX7_readFrom_14 : decode cX7_readFrom 14 = .ok (.goto 8, 3) := by decide +kernel
theorem dX7_readFrom_17 : decode cX7_readFrom 17 = .ok (.aload_n 0, 1) := by decide +kernel
theorem dX7_readFrom_18 : decode cX7_readFrom 18 = .ok (.aload_n 1, 1) := by decide +kernel
theorem dX7_readFrom_19 : decode cX7_readFrom 19 = .ok (.invokevirtual 33, 3) := by decide +kernel
theorem dX7_readFrom_22 : decode cX7_readFrom 22 = .ok (.putfield 25, 3) := by decide +kernel
theorem dX7_readFrom_25 : decode cX7_readFrom 25 = .ok (.aload_n 0, 1) := by decide +kernel
theorem dX7_readFrom_26 : decode cX7_readFrom 26 = .ok (.getfield 25, 3) := by decide +kernel
theorem dX7_readFrom_29 : decode cX7_readFrom 29 = .ok (.iconst (-1), 1) := by decide +kernel
theorem dX7_readFrom_30 : decode cX7_readFrom 30 = .ok (.if_icmp .eq 8, 3) := by decide +kernel
theorem dX7_readFrom_33 : decode cX7_readFrom 33 = .ok (.aload_n 0, 1) := by decide +kernel
theorem dX7_readFrom_34 : decode cX7_readFrom 34 = .ok (.iconst 0, 1) := by decide +kernel
theorem dX7_readFrom_35 : decode cX7_readFrom 35 = .ok (.putfield 21, 3) := by decide +kernel
theorem dX7_readFrom_38 : decode cX7_readFrom 38 = .ok (.return_, 1) := by decide +kernel
theorem dX7_readParts_0 : decode cX7_readParts 0 = .ok (.iconst 0, 1) := by decide +kernel
theorem dX7_readParts_1 : decode cX7_readParts 1 = .ok (.istore_n 2, 1) := by decide +kernel
theorem dX7_readParts_2 : decode cX7_readParts 2 = .ok (.iconst 0, 1) := by decide +kernel
theorem dX7_readParts_3 : decode cX7_readParts 3 = .ok (.istore_n 3, 1) := by decide +kernel
theorem dX7_readParts_4 : decode cX7_readParts 4 = .ok (.iload_n 3, 1) := by decide +kernel
theorem dX7_readParts_5 : decode cX7_readParts 5 = .ok (.bipush 10, 2) := by decide +kernel
theorem dX7_readParts_7 : decode cX7_readParts 7 = .ok (.if_icmp .ge 54, 3) := by decide +kernel
theorem dX7_readParts_10 : decode cX7_readParts 10 = .ok (.aload_n 0, 1) := by decide +kernel
theorem dX7_readParts_11 : decode cX7_readParts 11 = .ok (.aload_n 1, 1) := by decide +kernel
theorem dX7_readParts_12 : decode cX7_readParts 12 = .ok (.iload_n 2, 1) := by decide +kernel
theorem dX7_readParts_13 : decode cX7_readParts 13 = .ok (.invokevirtual 37, 3) := by decide +kernel
theorem dX7_readParts_16 : decode cX7_readParts 16 = .ok (.istore 4, 2) := by decide +kernel
theorem dX7_readParts_18 : decode cX7_readParts 18 = .ok (.iload 4, 2) := by decide +kernel
theorem dX7_readParts_20 : decode cX7_readParts 20 = .ok (.iconst (-1), 1) := by decide +kernel
theorem dX7_readParts_21 : decode cX7_readParts 21 = .ok (.if_icmp .eq 6, 3) := by decide +kernel
theorem dX7_readParts_24 : decode cX7_readParts 24 = .ok (.iload 4, 2) := by decide +kernel
theorem dX7_readParts_26 : decode cX7_readParts 26 = .ok (.ireturn, 1) := by decide +kernel
theorem dX7_readParts_27 : decode cX7_readParts 27 = .ok (.iinc 2 4, 3) := by decide +kernel
theorem dX7_readParts_30 : decode cX7_readParts 30 = .ok (.iload_n 2, 1) := by decide +kernel
theorem dX7_readParts_31 : decode cX7_readParts 31 = .ok (.aload_n 1, 1) := by decide +kernel
theorem dX7_readParts_32 : decode cX7_readParts 32 = .ok (.getfield 28, 3) := by decide +kernel
theorem dX7_readParts_35 : decode cX7_readParts 35 = .ok (.if_icmp .ne 5, 3) := by decide +kernel
theorem dX7_readParts_38 : decode cX7_readParts 38 = .ok (.iconst (-1), 1) := by decide +kernel
theorem dX7_readParts_39 : decode cX7_readParts 39 = .ok (.ireturn, 1) := by decide +kernel
theorem dX7_readParts_40 : decode cX7_readParts 40 = .ok (.aload_n 1, 1) := by decide +kernel
theorem dX7_readParts_41 : decode cX7_readParts 41 = .ok (.iload_n 2, 1) := by decide +kernel
theorem dX7_readParts_42 : decode cX7_readParts 42 = .ok (.invokevirtual 41, 3) := by decide +kernel
theorem dX7_readParts_45 : decode cX7_readParts 45 = .ok (.bipush 59, 2) := by decide +kernel
theorem dX7_readParts_47 : decode cX7_readParts 47 = .ok (.if_icmp .eq 5, 3) := by decide +kernel
theorem dX7_readParts_50 : decode cX7_readParts 50 = .ok (.iload_n 2, 1) := by decide +kernel
theorem dX7_readParts_51 : decode cX7_readParts 51 = .ok (.ireturn, 1) := by decide +kernel
theorem dX7_readParts_52 : decode cX7_readParts 52 = .ok (.iinc 2 1, 3) := by decide +kernel
theorem dX7_readParts_55 : decode cX7_readParts 55 = .ok (.iinc 3 1, 3) := by decide +kernel
theorem dX7_readParts_58 : decode cX7_readParts 58 = .ok (.goto (-54), 3) := by decide +kernel
theorem dX7_readParts_61 : decode cX7_readParts 61 = .ok (.iload_n 2, 1) := by decide +kernel
theorem dX7_readParts_62 : decode cX7_readParts 62 = .ok (.ireturn, 1) := by decide +kernel
theorem dX7_readPart_0 : decode cX7_readPart 0 = .ok (.aload_n 1, 1) := by decide +kernel
theorem dX7_readPart_1 : decode cX7_readPart 1 = .ok (.iload_n 2, 1) := by decide +kernel
theorem dX7_readPart_2 : decode cX7_readPart 2 = .ok (.invokevirtual 41, 3) := by decide +kernel
theorem dX7_readPart_5 : decode cX7_readPart 5 = .ok (.invokestatic 45, 3) := by decide +kernel
theorem dX7_readPart_8 : decode cX7_readPart 8 = .ok (.istore_n 3, 1) := by decide +kernel
theorem dX7_readPart_9 : decode cX7_readPart 9 = .ok (.iload_n 3, 1) := by decide +kernel
theorem dX7_readPart_10 : decode cX7_readPart 10 = .ok (.iconst (-1), 1) := by decide +kernel
theorem dX7_readPart_11 : decode cX7_readPart 11 = .ok (.if_icmp .ne 5, 3) := by decide +kernel
theorem dX7_readPart_14 : decode cX7_readPart 14 = .ok (.iload_n 2, 1) := by decide +kernel
theorem dX7_readPart_15 : decode cX7_readPart 15 = .ok (.ireturn, 1) := by decide +kernel
theorem dX7_readPart_16 : decode cX7_readPart 16 = .ok (.aload_n 1, 1) := by decide +kernel
theorem dX7_readPart_17 : decode cX7_readPart 17 = .ok (.iload_n 2, 1) := by decide +kernel
theorem dX7_readPart_18 : decode cX7_readPart 18 = .ok (.iconst 1, 1) := by decide +kernel
theorem dX7_readPart_19 : decode cX7_readPart 19 = .ok (.iadd, 1) := by decide +kernel
theorem dX7_readPart_20 : decode cX7_readPart 20 = .ok (.invokevirtual 48, 3) := by decide +kernel
theorem dX7_readPart_23 : decode cX7_readPart 23 = .ok (.istore 4, 2) := by decide +kernel
theorem dX7_readPart_25 : decode cX7_readPart 25 = .ok (.iload 4, 2) := by decide +kernel
theorem dX7_readPart_27 : decode cX7_readPart 27 = .ok (.iconst 3, 1) := by decide +kernel
theorem dX7_readPart_28 : decode cX7_readPart 28 = .ok (.invokestatic 51, 3) := by decide +kernel
theorem dX7_readPart_31 : decode cX7_readPart 31 = .ok (.ifCond .ne 7, 3) := by decide +kernel
theorem dX7_readPart_34 : decode cX7_readPart 34 = .ok (.iload_n 2, 1) := by decide +kernel
theorem dX7_readPart_35 : decode cX7_readPart 35 = .ok (.iconst 1, 1) := by decide +kernel
theorem dX7_readPart_36 : decode cX7_readPart 36 = .ok (.iadd, 1) := by decide +kernel
theorem dX7_readPart_37 : decode cX7_readPart 37 = .ok (.ireturn, 1) := by decide +kernel
theorem dX7_readPart_38 : decode cX7_readPart 38 = .ok (.aload_n 1, 1) := by decide +kernel
theorem dX7_readPart_39 : decode cX7_readPart 39 = .ok (.iload_n 2, 1) := by decide +kernel
theorem dX7_readPart_40 : decode cX7_readPart 40 = .ok (.iconst 2, 1) := by decide +kernel
theorem dX7_readPart_41 : decode cX7_readPart 41 = .ok (.iadd, 1) := by decide +kernel
theorem dX7_readPart_42 : decode cX7_readPart 42 = .ok (.invokevirtual 48, 3) := by decide +kernel
theorem dX7_readPart_45 : decode cX7_readPart 45 = .ok (.istore 5, 2) := by decide +kernel
theorem dX7_readPart_47 : decode cX7_readPart 47 = .ok (.iload 5, 2) := by decide +kernel
theorem dX7_readPart_49 : decode cX7_readPart 49 = .ok (.iconst (-1), 1) := by decide +kernel
theorem dX7_readPart_50 : decode cX7_readPart 50 = .ok (.if_icmp .ne 7, 3) := by decide +kernel
theorem dX7_readPart_53 : decode cX7_readPart 53 = .ok (.iload_n 2, 1) := by decide +kernel
theorem dX7_readPart_54 : decode cX7_readPart 54 = .ok (.iconst 2, 1) := by decide +kernel
theorem dX7_readPart_55 : decode cX7_readPart 55 = .ok (.iadd, 1) := by decide +kernel
theorem dX7_readPart_56 : decode cX7_readPart 56 = .ok (.ireturn, 1) := by decide +kernel
theorem dX7_readPart_57 : decode cX7_readPart 57 = .ok (.aload_n 1, 1) := by decide +kernel
theorem dX7_readPart_58 : decode cX7_readPart 58 = .ok (.iload_n 2, 1) := by decide +kernel
theorem dX7_readPart_59 : decode cX7_readPart 59 = .ok (.iconst 3, 1) := by decide +kernel
theorem dX7_readPart_60 : decode cX7_readPart 60 = .ok (.iadd, 1) := by decide +kernel
theorem dX7_readPart_61 : decode cX7_readPart 61 = .ok (.invokevirtual 48, 3) := by decide +kernel
theorem dX7_readPart_64 : decode cX7_readPart 64 = .ok (.istore 6, 2) := by decide +kernel
theorem dX7_readPart_66 : decode cX7_readPart 66 = .ok (.iload 6, 2) := by decide +kernel
theorem dX7_readPart_68 : decode cX7_readPart 68 = .ok (.iconst (-1), 1) := by decide +kernel
theorem dX7_readPart_69 : decode cX7_readPart 69 = .ok (.if_icmp .ne 7, 3) := by decide +kernel
theorem dX7_readPart_72 : decode cX7_readPart 72 = .ok (.iload_n 2, 1) := by decide +kernel
theorem dX7_readPart_73 : decode cX7_readPart 73 = .ok (.iconst 3, 1) := by decide +kernel
theorem dX7_readPart_74 : decode cX7_readPart 74 = .ok (.iadd, 1) := by decide +kernel
theorem dX7_readPart_75 : decode cX7_readPart 75 = .ok (.ireturn, 1) := by decide +kernel
theorem dX7_readPart_76 : decode cX7_readPart 76 = .ok (.bipush 10, 2) := by decide +kernel
theorem dX7_readPart_78 : decode cX7_readPart 78 = .ok (.iload 5, 2) := by decide +kernel
theorem dX7_readPart_80 : decode cX7_readPart 80 = .ok (.imul, 1) := by decide +kernel
theorem dX7_readPart_81 : decode cX7_readPart 81 = .ok (.iload 6, 2) := by decide +kernel
theorem dX7_readPart_83 : decode cX7_readPart 83 = .ok (.iadd, 1) := by decide +kernel
theorem dX7_readPart_84 : decode cX7_readPart 84 = .ok (.istore 7, 2) := by decide +kernel
theorem dX7_readPart_86 : decode cX7_readPart 86 = .ok (.aload_n 0, 1) := by decide +kernel
theorem dX7_readPart_87 : decode cX7_readPart 87 = .ok (.iload 4, 2) := by decide +kernel
theorem dX7_readPart_89 : decode cX7_readPart 89 = .ok (.iload 7, 2) := by decide +kernel
theorem dX7_readPart_91 : decode cX7_readPart 91 = .ok (.invokevirtual 55, 3) := by decide +kernel
theorem dX7_readPart_94 : decode cX7_readPart 94 = .ok (.ifCond .eq 7, 3) := by decide +kernel
theorem dX7_readPart_97 : decode cX7_readPart 97 = .ok (.iload_n 2, 1) := by decide +kernel
theorem dX7_readPart_98 : decode cX7_readPart 98 = .ok (.iconst 2, 1) := by decide +kernel
theorem dX7_readPart_99 : decode cX7_readPart 99 = .ok (.iadd, 1) := by decide +kernel
theorem dX7_readPart_100 : decode cX7_readPart 100 = .ok (.ireturn, 1) := by decide +kernel
theorem dX7_readPart_101 : decode cX7_readPart 101 = .ok (.aload_n 0, 1) := by decide +kernel
theorem dX7_readPart_102 : decode cX7_readPart 102 = .ok (.getfield 9, 3) := by decide +kernel
theorem dX7_readPart_105 : decode cX7_readPart 105 = .ok (.aload_n 0, 1) := by decide +kernel
theorem dX7_readPart_106 : decode cX7_readPart 106 = .ok (.getfield 21, 3) := by decide +kernel
theorem dX7_readPart_109 : decode cX7_readPart 109 = .ok (.iload_n 3, 1) := by decide +kernel
theorem dX7_readPart_110 : decode cX7_readPart 110 = .ok (.iastore, 1) := by decide +kernel
theorem dX7_readPart_111 : decode cX7_readPart 111 = .ok (.aload_n 0, 1) := by decide +kernel
theorem dX7_readPart_112 : decode cX7_readPart 112 = .ok (.getfield 15, 3) := by decide +kernel
theorem dX7_readPart_115 : decode cX7_readPart 115 = .ok (.aload_n 0, 1) := by decide +kernel
theorem dX7_readPart_116 : decode cX7_readPart 116 = .ok (.getfield 21, 3) := by decide +kernel
theorem dX7_readPart_119 : decode cX7_readPart 119 = .ok (.iload 4, 2) := by decide +kernel
theorem dX7_readPart_121 : decode cX7_readPart 121 = .ok (.iastore, 1) := by decide +kernel
theorem dX7_readPart_122 : decode cX7_readPart 122 = .ok (.aload_n 0, 1) := by decide +kernel
theorem dX7_readPart_123 : decode cX7_readPart 123 = .ok (.getfield 18, 3) := by decide +kernel
theorem dX7_readPart_126 : decode cX7_readPart 126 = .ok (.aload_n 0, 1) := by decide +kernel
theorem dX7_readPart_127 : decode cX7_readPart 127 = .ok (.getfield 21, 3) := by decide +kernel
theorem dX7_readPart_130 : decode cX7_readPart 130 = .ok (.iload 7, 2) := by decide +kernel
theorem dX7_readPart_132 : decode cX7_readPart 132 = .ok (.iastore, 1) := by decide +kernel
theorem dX7_readPart_133 : decode cX7_readPart 133 = .ok (.aload_n 0, 1) := by decide +kernel
theorem dX7_readPart_134 : decode cX7_readPart 134 = .ok (.dup, 1) := by decide +kernel
theorem dX7_readPart_135 : decode cX7_readPart 135 = .ok (.getfield 21, 3) := by decide +kernel
theorem dX7_readPart_138 : decode cX7_readPart 138 = .ok (.iconst 1, 1) := by decide +kernel
theorem dX7_readPart_139 : decode cX7_readPart 139 = .ok (.iadd, 1) := by decide +kernel
theorem dX7_readPart_140 : decode cX7_readPart 140 = .ok (.putfield 21, 3) := by decide +kernel
theorem dX7_readPart_143 : decode cX7_readPart 143 = .ok (.iconst (-1), 1) := by decide +kernel
theorem dX7_readPart_144 : decode cX7_readPart 144 = .ok (.ireturn, 1) := by decide +kernel
theorem dX7_kindOf_0 : decode cX7_kindOf 0 = .ok (.iload_n 0, 1) := by decide +kernel
theorem dX7_kindOf_1 : decode cX7_kindOf 1 = .ok (.lookupswitch 51 #[(99, 49), (114, 47), (115, 43), (116, 45)], 43) := by decide +kernel
theorem dX7_kindOf_44 : decode cX7_kindOf 44 = .ok (.iconst 0, 1) := by decide +kernel
theorem dX7_kindOf_45 : decode cX7_kindOf 45 = .ok (.ireturn, 1) := by decide +kernel
theorem dX7_kindOf_46 : decode cX7_kindOf 46 = .ok (.iconst 1, 1) := by decide +kernel
theorem dX7_kindOf_47 : decode cX7_kindOf 47 = .ok (.ireturn, 1) := by decide +kernel
theorem dX7_kindOf_48 : decode cX7_kindOf 48 = .ok (.iconst 2, 1) := by decide +kernel
theorem dX7_kindOf_49 : decode cX7_kindOf 49 = .ok (.ireturn, 1) := by decide +kernel
theorem dX7_kindOf_50 : decode cX7_kindOf 50 = .ok (.iconst 3, 1) := by decide +kernel
theorem dX7_kindOf_51 : decode cX7_kindOf 51 = .ok (.ireturn, 1) := by decide +kernel
theorem dX7_kindOf_52 : decode cX7_kindOf 52 = .ok (.iconst (-1), 1) := by decide +kernel
theorem dX7_kindOf_53 : decode cX7_kindOf 53 = .ok (.ireturn, 1) := by decide +kernel
theorem dX7_isTaken_0 : decode cX7_isTaken 0 = .ok (.iconst 0, 1) := by decide +kernel
theorem dX7_isTaken_1 : decode cX7_isTaken 1 = .ok (.istore_n 3, 1) := by decide +kernel
theorem dX7_isTaken_2 : decode cX7_isTaken 2 = .ok (.iload_n 3, 1) := by decide +kernel
theorem dX7_isTaken_3 : decode cX7_isTaken 3 = .ok (.aload_n 0, 1) := by decide +kernel
theorem dX7_isTaken_4 : decode cX7_isTaken 4 = .ok (.getfield 21, 3) := by decide +kernel
theorem dX7_isTaken_7 : decode cX7_isTaken 7 = .ok (.if_icmp .ge 31, 3) := by decide +kernel
theorem dX7_isTaken_10 : decode cX7_isTaken 10 = .ok (.aload_n 0, 1) := by decide +kernel
theorem dX7_isTaken_11 : decode cX7_isTaken 11 = .ok (.getfield 15, 3) := by decide +kernel
theorem dX7_isTaken_14 : decode cX7_isTaken 14 = .ok (.iload_n 3, 1) := by decide +kernel
theorem dX7_isTaken_15 : decode cX7_isTaken 15 = .ok (.iaload, 1) := by decide +kernel
theorem dX7_isTaken_16 : decode cX7_isTaken 16 = .ok (.iload_n 1, 1) := by decide +kernel
theorem dX7_isTaken_17 : decode cX7_isTaken 17 = .ok (.if_icmp .ne 15, 3) := by decide +kernel
theorem dX7_isTaken_20 : decode cX7_isTaken 20 = .ok (.aload_n 0, 1) := by decide +kernel
theorem dX7_isTaken_21 : decode cX7_isTaken 21 = .ok (.getfield 18, 3) := by decide +kernel
theorem dX7_isTaken_24 : decode cX7_isTaken 24 = .ok (.iload_n 3, 1) := by decide +kernel
theorem dX7_isTaken_25 : decode cX7_isTaken 25 = .ok (.iaload, 1) := by decide +kernel
theorem dX7_isTaken_26 : decode cX7_isTaken 26 = .ok (.iload_n 2, 1) := by decide +kernel
theorem dX7_isTaken_27 : decode cX7_isTaken 27 = .ok (.if_icmp .ne 5, 3) := by decide +kernel
theorem dX7_isTaken_30 : decode cX7_isTaken 30 = .ok (.iconst 1, 1) := by decide +kernel
theorem dX7_isTaken_31 : decode cX7_isTaken 31 = .ok (.ireturn, 1) := by decide +kernel
theorem dX7_isTaken_32 : decode cX7_isTaken 32 = .ok (.iinc 3 1, 3) := by decide +kernel
theorem dX7_isTaken_35 : decode cX7_isTaken 35 = .ok (.goto (-33), 3) := by decide +kernel
theorem dX7_isTaken_38 : decode cX7_isTaken 38 = .ok (.iconst 0, 1) := by decide +kernel
theorem dX7_isTaken_39 : decode cX7_isTaken 39 = .ok (.ireturn, 1) := by decide +kernel
theorem dX7_swapOf_0 : decode cX7_swapOf 0 = .ok (.aload_n 0, 1) := by decide +kernel
theorem dX7_swapOf_1 : decode cX7_swapOf 1 = .ok (.aload_n 1, 1) := by decide +kernel
theorem dX7_swapOf_2 : decode cX7_swapOf 2 = .ok (.getfield 21, 3) := by decide +kernel
theorem dX7_swapOf_5 : decode cX7_swapOf 5 = .ok (.putfield 21, 3) := by decide +kernel
theorem dX7_swapOf_8 : decode cX7_swapOf 8 = .ok (.iconst 0, 1) := by decide +kernel
theorem dX7_swapOf_9 : decode cX7_swapOf 9 = .ok (.istore 4, 2) := by decide +kernel
theorem dX7_swapOf_11 : decode cX7_swapOf 11 = .ok (.iload 4, 2) := by decide +kernel
theorem dX7_swapOf_13 : decode cX7_swapOf 13 = .ok (.aload_n 0, 1) := by decide +kernel
theorem dX7_swapOf_14 : decode cX7_swapOf 14 = .ok (.getfield 21, 3) := by decide +kernel
theorem dX7_swapOf_17 : decode cX7_swapOf 17 = .ok (.if_icmp .ge 75, 3) := by decide +kernel
theorem dX7_swapOf_20 : decode cX7_swapOf 20 = .ok (.iload 4, 2) := by decide +kernel
theorem dX7_swapOf_22 : decode cX7_swapOf 22 = .ok (.iload_n 2, 1) := by decide +kernel
theorem dX7_swapOf_23 : decode cX7_swapOf 23 = .ok (.if_icmp .ne 7, 3) := by decide +kernel
theorem dX7_swapOf_26 : decode cX7_swapOf 26 = .ok (.iload_n 3, 1) := by decide +kernel
theorem dX7_swapOf_27 : decode cX7_swapOf 27 = .ok (.goto 15, 3) := by decide +kernel
theorem dX7_swapOf_30 : decode cX7_swapOf 30 = .ok (.iload 4, 2) := by decide +kernel
theorem dX7_swapOf_32 : decode cX7_swapOf 32 = .ok (.iload_n 3, 1) := by decide +kernel
theorem dX7_swapOf_33 : decode cX7_swapOf 33 = .ok (.if_icmp .ne 7, 3) := by decide +kernel
theorem dX7_swapOf_36 : decode cX7_swapOf 36 = .ok (.iload_n 2, 1) := by decide +kernel
theorem dX7_swapOf_37 : decode cX7_swapOf 37 = .ok (.goto 5, 3) := by decide +kernel
theorem dX7_swapOf_40 : decode cX7_swapOf 40 = .ok (.iload 4, 2) := by decide +kernel
theorem dX7_swapOf_42 : decode cX7_swapOf 42 = .ok (.istore 5, 2) := by decide +kernel
theorem dX7_swapOf_44 : decode cX7_swapOf 44 = .ok (.aload_n 0, 1) := by decide +kernel
theorem dX7_swapOf_45 : decode cX7_swapOf 45 = .ok (.getfield 9, 3) := by decide +kernel
theorem dX7_swapOf_48 : decode cX7_swapOf 48 = .ok (.iload 4, 2) := by decide +kernel
theorem dX7_swapOf_50 : decode cX7_swapOf 50 = .ok (.aload_n 1, 1) := by decide +kernel
theorem dX7_swapOf_51 : decode cX7_swapOf 51 = .ok (.getfield 9, 3) := by decide +kernel
theorem dX7_swapOf_54 : decode cX7_swapOf 54 = .ok (.iload 4, 2) := by decide +kernel
theorem dX7_swapOf_56 : decode cX7_swapOf 56 = .ok (.iaload, 1) := by decide +kernel
theorem dX7_swapOf_57 : decode cX7_swapOf 57 = .ok (.iastore, 1) := by decide +kernel
theorem dX7_swapOf_58 : decode cX7_swapOf 58 = .ok (.aload_n 0, 1) := by decide +kernel
theorem dX7_swapOf_59 : decode cX7_swapOf 59 = .ok (.getfield 15, 3) := by decide +kernel
theorem dX7_swapOf_62 : decode cX7_swapOf 62 = .ok (.iload 4, 2) := by decide +kernel
theorem dX7_swapOf_64 : decode cX7_swapOf 64 = .ok (.aload_n 1, 1) := by decide +kernel
theorem dX7_swapOf_65 : decode cX7_swapOf 65 = .ok (.getfield 15, 3) := by decide +kernel
theorem dX7_swapOf_68 : decode cX7_swapOf 68 = .ok (.iload 5, 2) := by decide +kernel
theorem dX7_swapOf_70 : decode cX7_swapOf 70 = .ok (.iaload, 1) := by decide +kernel
theorem dX7_swapOf_71 : decode cX7_swapOf 71 = .ok (.iastore, 1) := by decide +kernel
theorem dX7_swapOf_72 : decode cX7_swapOf 72 = .ok (.aload_n 0, 1) := by decide +kernel
theorem dX7_swapOf_73 : decode cX7_swapOf 73 = .ok (.getfield 18, 3) := by decide +kernel
theorem dX7_swapOf_76 : decode cX7_swapOf 76 = .ok (.iload 4, 2) := by decide +kernel
theorem dX7_swapOf_78 : decode cX7_swapOf 78 = .ok (.aload_n 1, 1) := by decide +kernel
theorem dX7_swapOf_79 : decode cX7_swapOf 79 = .ok (.getfield 18, 3) := by decide +kernel
theorem dX7_swapOf_82 : decode cX7_swapOf 82 = .ok (.iload 5, 2) := by decide +kernel
theorem dX7_swapOf_84 : decode cX7_swapOf 84 = .ok (.iaload, 1) := by decide +kernel
theorem dX7_swapOf_85 : decode cX7_swapOf 85 = .ok (.iastore, 1) := by decide +kernel
theorem dX7_swapOf_86 : decode cX7_swapOf 86 = .ok (.iinc 4 1, 3) := by decide +kernel
theorem dX7_swapOf_89 : decode cX7_swapOf 89 = .ok (.goto (-78), 3) := by decide +kernel
theorem dX7_swapOf_92 : decode cX7_swapOf 92 = .ok (.return_, 1) := by decide +kernel
theorem dX7_handsFor_0 : decode cX7_handsFor 0 = .ok (.aload_n 0, 1) := by decide +kernel
theorem dX7_handsFor_1 : decode cX7_handsFor 1 = .ok (.getfield 9, 3) := by decide +kernel
theorem dX7_handsFor_4 : decode cX7_handsFor 4 = .ok (.iload_n 1, 1) := by decide +kernel
theorem dX7_handsFor_5 : decode cX7_handsFor 5 = .ok (.iaload, 1) := by decide +kernel
theorem dX7_handsFor_6 : decode cX7_handsFor 6 = .ok (.tableswitch 46 0 3 #[30, 46, 32, 42], 30) := by decide +kernel
theorem dX7_handsFor_36 : decode cX7_handsFor 36 = .ok (.iconst 4, 1) := by decide +kernel
theorem dX7_handsFor_37 : decode cX7_handsFor 37 = .ok (.ireturn, 1) := by decide +kernel
theorem dX7_handsFor_38 : decode cX7_handsFor 38 = .ok (.iload_n 2, 1) := by decide +kernel
theorem dX7_handsFor_39 : decode cX7_handsFor 39 = .ok (.ifCond .ne 7, 3) := by decide +kernel
theorem dX7_handsFor_42 : decode cX7_handsFor 42 = .ok (.iconst 2, 1) := by decide +kernel
theorem dX7_handsFor_43 : decode cX7_handsFor 43 = .ok (.goto 4, 3) := by decide +kernel
theorem dX7_handsFor_46 : decode cX7_handsFor 46 = .ok (.iconst 1, 1) := by decide +kernel
theorem dX7_handsFor_47 : decode cX7_handsFor 47 = .ok (.ireturn, 1) := by decide +kernel
theorem dX7_handsFor_48 : decode cX7_handsFor 48 = .ok (.iconst 3, 1) := by decide +kernel
theorem dX7_handsFor_49 : decode cX7_handsFor 49 = .ok (.iload_n 2, 1) := by decide +kernel
theorem dX7_handsFor_50 : decode cX7_handsFor 50 = .ok (.iadd, 1) := by decide +kernel
theorem dX7_handsFor_51 : decode cX7_handsFor 51 = .ok (.ireturn, 1) := by decide +kernel
theorem dX7_handsFor_52 : decode cX7_handsFor 52 = .ok (.iconst 1, 1) := by decide +kernel
theorem dX7_handsFor_53 : decode cX7_handsFor 53 = .ok (.ireturn, 1) := by decide +kernel
theorem dX8_init_0 : decode cX8_init 0 = .ok (.aload_n 0, 1) := by decide +kernel
theorem dX8_init_1 : decode cX8_init 1 = .ok (.invokespecial 3, 3) := by decide +kernel
theorem dX8_init_4 : decode cX8_init 4 = .ok (.aload_n 0, 1) := by decide +kernel
theorem dX8_init_5 : decode cX8_init 5 = .ok (.sipush 400, 3) := by decide +kernel
theorem dX8_init_8 : decode cX8_init 8 = .ok (.newarray .int, 2) := by decide +kernel
theorem dX8_init_10 : decode cX8_init 10 = .ok (.putfield 11, 3) := by decide +kernel
theorem dX8_init_13 : decode cX8_init 13 = .ok (.aload_n 0, 1) := by decide +kernel
theorem dX8_init_14 : decode cX8_init 14 = .ok (.sipush 400, 3) := by decide +kernel
theorem dX8_init_17 : decode cX8_init 17 = .ok (.newarray .int, 2) := by decide +kernel
theorem dX8_init_19 : decode cX8_init 19 = .ok (.putfield 15, 3) := by decide +kernel
theorem dX8_init_22 : decode cX8_init 22 = .ok (.aload_n 0, 1) := by decide +kernel
theorem dX8_init_23 : decode cX8_init 23 = .ok (.sipush 400, 3) := by decide +kernel
theorem dX8_init_26 : decode cX8_init 26 = .ok (.newarray .int, 2) := by decide +kernel
theorem dX8_init_28 : decode cX8_init 28 = .ok (.putfield 18, 3) := by decide +kernel
theorem dX8_init_31 : decode cX8_init 31 = .ok (.aload_n 0, 1) := by decide +kernel
theorem dX8_init_32 : decode cX8_init 32 = .ok (.sipush 400, 3) := by decide +kernel
theorem dX8_init_35 : decode cX8_init 35 = .ok (.newarray .int, 2) := by decide +kernel
theorem dX8_init_37 : decode cX8_init 37 = .ok (.putfield 21, 3) := by decide +kernel
theorem dX8_init_40 : decode cX8_init 40 = .ok (.aload_n 0, 1) := by decide +kernel
theorem dX8_init_41 : decode cX8_init 41 = .ok (.sipush 400, 3) := by decide +kernel
theorem dX8_init_44 : decode cX8_init 44 = .ok (.newarray .int, 2) := by decide +kernel
theorem dX8_init_46 : decode cX8_init 46 = .ok (.putfield 24, 3) := by decide +kernel
theorem dX8_init_49 : decode cX8_init 49 = .ok (.aload_n 0, 1) := by decide +kernel
theorem dX8_init_50 : decode cX8_init 50 = .ok (.new 27, 3) := by decide +kernel
theorem dX8_init_53 : decode cX8_init 53 = .ok (.dup, 1) := by decide +kernel
theorem dX8_init_54 : decode cX8_init 54 = .ok (.invokespecial 29, 3) := by decide +kernel
theorem dX8_init_57 : decode cX8_init 57 = .ok (.putfield 30, 3) := by decide +kernel
theorem dX8_init_60 : decode cX8_init 60 = .ok (.aload_n 0, 1) := by decide +kernel
theorem dX8_init_61 : decode cX8_init 61 = .ok (.iconst 0, 1) := by decide +kernel
theorem dX8_init_62 : decode cX8_init 62 = .ok (.putfield 34, 3) := by decide +kernel
theorem dX8_init_65 : decode cX8_init 65 = .ok (.return_, 1) := by decide +kernel
theorem dX8_plan_0 : decode cX8_plan 0 = .ok (.aload_n 0, 1) := by decide +kernel
theorem dX8_plan_1 : decode cX8_plan 1 = .ok (.getfield 30, 3) := by decide +kernel
theorem dX8_plan_4 : decode cX8_plan 4 = .ok (.aload_n 1, 1) := by decide +kernel
theorem dX8_plan_5 : decode cX8_plan 5 = .ok (.invokevirtual 38, 3) := by decide +kernel
theorem dX8_plan_8 : decode cX8_plan 8 = .ok (.iconst 0, 1) := by decide +kernel
theorem dX8_plan_9 : decode cX8_plan 9 = .ok (.istore_n 2, 1) := by decide +kernel
theorem dX8_plan_10 : decode cX8_plan 10 = .ok (.iload_n 2, 1) := by decide +kernel
theorem dX8_plan_11 : decode cX8_plan 11 = .ok (.sipush 400, 3) := by decide +kernel
theorem dX8_plan_14 : decode cX8_plan 14 = .ok (.if_icmp .ge 120, 3) := by decide +kernel
theorem dX8_plan_17 : decode cX8_plan 17 = .ok (.aload_n 0, 1) := by decide +kernel
theorem dX8_plan_18 : decode cX8_plan 18 = .ok (.getfield 30, 3) := by decide +kernel
theorem dX8_plan_21 : decode cX8_plan 21 = .ok (.invokevirtual 42, 3) := by decide +kernel
theorem dX8_plan_24 : decode cX8_plan 24 = .ok (.istore_n 3, 1) := by decide +kernel
theorem dX8_plan_25 : decode cX8_plan 25 = .ok (.aload_n 0, 1) := by decide +kernel
theorem dX8_plan_26 : decode cX8_plan 26 = .ok (.iload_n 2, 1) := by decide +kernel
theorem dX8_plan_27 : decode cX8_plan 27 = .ok (.putfield 34, 3) := by decide +kernel
theorem dX8_plan_30 : decode cX8_plan 30 = .ok (.aload_n 0, 1) := by decide +kernel
theorem dX8_plan_31 : decode cX8_plan 31 = .ok (.getfield 11, 3) := by decide +kernel
theorem dX8_plan_34 : decode cX8_plan 34 = .ok (.iload_n 2, 1) := by decide +kernel
theorem dX8_plan_35 : decode cX8_plan 35 = .ok (.iload_n 3, 1) := by decide +kernel
theorem dX8_plan_36 : decode cX8_plan 36 = .ok (.iastore, 1) := by decide +kernel
theorem dX8_plan_37 : decode cX8_plan 37 = .ok (.aload_n 0, 1) := by decide +kernel
theorem dX8_plan_38 : decode cX8_plan 38 = .ok (.getfield 21, 3) := by decide +kernel
theorem dX8_plan_41 : decode cX8_plan 41 = .ok (.iload_n 2, 1) := by decide +kernel
theorem dX8_plan_42 : decode cX8_plan 42 = .ok (.iload_n 3, 1) := by decide +kernel
theorem dX8_plan_43 : decode cX8_plan 43 = .ok (.iconst (-1), 1) := by decide +kernel
theorem dX8_plan_44 : decode cX8_plan 44 = .ok (.if_icmp .ne 9, 3) := by decide +kernel
theorem dX8_plan_47 : decode cX8_plan 47 = .ok (.sipush 1000, 3) := by decide +kernel
theorem dX8_plan_50 : decode cX8_plan 50 = .ok (.goto 12, 3) := by decide +kernel
theorem dX8_plan_53 : decode cX8_plan 53 = .ok (.aload_n 0, 1) := by decide +kernel
theorem dX8_plan_54 : decode cX8_plan 54 = .ok (.getfield 30, 3) := by decide +kernel
theorem dX8_plan_57 : decode cX8_plan 57 = .ok (.getfield 46, 3) := by decide +kernel
theorem dX8_plan_60 : decode cX8_plan 60 = .ok (.iload_n 3, 1) := by decide +kernel
theorem dX8_plan_61 : decode cX8_plan 61 = .ok (.iaload, 1) := by decide +kernel
theorem dX8_plan_62 : decode cX8_plan 62 = .ok (.iastore, 1) := by decide +kernel
theorem dX8_plan_63 : decode cX8_plan 63 = .ok (.aload_n 0, 1) := by decide +kernel
theorem dX8_plan_64 : decode cX8_plan 64 = .ok (.getfield 24, 3) := by decide +kernel
theorem dX8_plan_67 : decode cX8_plan 67 = .ok (.iload_n 2, 1) := by decide +kernel
theorem dX8_plan_68 : decode cX8_plan 68 = .ok (.aload_n 0, 1) := by decide +kernel
theorem dX8_plan_69 : decode cX8_plan 69 = .ok (.getfield 30, 3) := by decide +kernel
theorem dX8_plan_72 : decode cX8_plan 72 = .ok (.invokevirtual 49, 3) := by decide +kernel
theorem dX8_plan_75 : decode cX8_plan 75 = .ok (.iastore, 1) := by decide +kernel
theorem dX8_plan_76 : decode cX8_plan 76 = .ok (.iload_n 3, 1) := by decide +kernel
theorem dX8_plan_77 : decode cX8_plan 77 = .ok (.iconst (-1), 1) := by decide +kernel
theorem dX8_plan_78 : decode cX8_plan 78 = .ok (.if_icmp .ne 8, 3) := by decide +kernel
theorem dX8_plan_81 : decode cX8_plan 81 = .ok (.bipush (-3), 2) := by decide +kernel
theorem dX8_plan_83 : decode cX8_plan 83 = .ok (.goto 12, 3) := by decide +kernel
theorem dX8_plan_86 : decode cX8_plan 86 = .ok (.aload_n 0, 1) := by decide +kernel
theorem dX8_plan_87 : decode cX8_plan 87 = .ok (.getfield 30, 3) := by decide +kernel
theorem dX8_plan_90 : decode cX8_plan 90 = .ok (.aload_n 1, 1) := by decide +kernel
theorem dX8_plan_91 : decode cX8_plan 91 = .ok (.iload_n 3, 1) := by decide +kernel
theorem dX8_plan_92 : decode cX8_plan 92 = .ok (.invokevirtual 52, 3) := by decide +kernel
theorem dX8_plan_95 : decode cX8_plan 95 = .ok (.istore 4, 2) := by decide +kernel
theorem dX8_plan_97 : decode cX8_plan 97 = .ok (.iload 4, 2) := by decide +kernel
theorem dX8_plan_99 : decode cX8_plan 99 = .ok (.bipush (-3), 2) := by decide +kernel
theorem dX8_plan_101 : decode cX8_plan 101 = .ok (.if_icmp .ne 4, 3) := by decide +kernel
theorem dX8_plan_104 : decode cX8_plan 104 = .ok (.return_, 1) := by decide +kernel
theorem dX8_plan_105 : decode cX8_plan 105 = .ok (.aload_n 0, 1) := by decide +kernel
theorem dX8_plan_106 : decode cX8_plan 106 = .ok (.getfield 15, 3) := by decide +kernel
theorem dX8_plan_109 : decode cX8_plan 109 = .ok (.iload_n 2, 1) := by decide +kernel
theorem dX8_plan_110 : decode cX8_plan 110 = .ok (.aload_n 0, 1) := by decide +kernel
theorem dX8_plan_111 : decode cX8_plan 111 = .ok (.getfield 30, 3) := by decide +kernel
theorem dX8_plan_114 : decode cX8_plan 114 = .ok (.getfield 46, 3) := by decide +kernel
theorem dX8_plan_117 : decode cX8_plan 117 = .ok (.iload_n 3, 1) := by decide +kernel
theorem dX8_plan_118 : decode cX8_plan 118 = .ok (.iaload, 1) := by decide +kernel
theorem dX8_plan_119 : decode cX8_plan 119 = .ok (.iastore, 1) := by decide +kernel
theorem dX8_plan_120 : decode cX8_plan 120 = .ok (.aload_n 0, 1) := by decide +kernel
theorem dX8_plan_121 : decode cX8_plan 121 = .ok (.getfield 18, 3) := by decide +kernel
theorem dX8_plan_124 : decode cX8_plan 124 = .ok (.iload_n 2, 1) := by decide +kernel
theorem dX8_plan_125 : decode cX8_plan 125 = .ok (.iload 4, 2) := by decide +kernel
theorem dX8_plan_127 : decode cX8_plan 127 = .ok (.iastore, 1) := by decide +kernel
theorem dX8_plan_128 : decode cX8_plan 128 = .ok (.iinc 2 1, 3) := by decide +kernel
theorem dX8_plan_131 : decode cX8_plan 131 = .ok (.goto (-121), 3) := by decide +kernel
theorem dX8_plan_134 : decode cX8_plan 134 = .ok (.return_, 1) := by decide +kernel
theorem dX8_nextBehind_0 : decode cX8_nextBehind 0 = .ok (.aload_n 0, 1) := by decide +kernel
theorem dX8_nextBehind_1 : decode cX8_nextBehind 1 = .ok (.getfield 11, 3) := by decide +kernel
theorem dX8_nextBehind_4 : decode cX8_nextBehind 4 = .ok (.iload_n 1, 1) := by decide +kernel
theorem dX8_nextBehind_5 : decode cX8_nextBehind 5 = .ok (.aload_n 0, 1) := by decide +kernel
theorem dX8_nextBehind_6 : decode cX8_nextBehind 6 = .ok (.getfield 34, 3) := by decide +kernel
theorem dX8_nextBehind_9 : decode cX8_nextBehind 9 = .ok (.invokestatic 56, 3) := by decide +kernel
theorem dX8_nextBehind_12 : decode cX8_nextBehind 12 = .ok (.iaload, 1) := by decide +kernel
theorem dX8_nextBehind_13 : decode cX8_nextBehind 13 = .ok (.ireturn, 1) := by decide +kernel
theorem dX8_rowBehind_0 : decode cX8_rowBehind 0 = .ok (.aload_n 1, 1) := by decide +kernel
theorem dX8_rowBehind_1 : decode cX8_rowBehind 1 = .ok (.getfield 62, 3) := by decide +kernel
theorem dX8_rowBehind_4 : decode cX8_rowBehind 4 = .ok (.iload_n 3, 1) := by decide +kernel
theorem dX8_rowBehind_5 : decode cX8_rowBehind 5 = .ok (.iaload, 1) := by decide +kernel
theorem dX8_rowBehind_6 : decode cX8_rowBehind 6 = .ok (.istore 4, 2) := by decide +kernel
theorem dX8_rowBehind_8 : decode cX8_rowBehind 8 = .ok (.iload_n 2, 1) := by decide +kernel
theorem dX8_rowBehind_9 : decode cX8_rowBehind 9 = .ok (.aload_n 0, 1) := by decide +kernel
theorem dX8_rowBehind_10 : decode cX8_rowBehind 10 = .ok (.getfield 34, 3) := by decide +kernel
theorem dX8_rowBehind_13 : decode cX8_rowBehind 13 = .ok (.invokestatic 56, 3) := by decide +kernel
theorem dX8_rowBehind_16 : decode cX8_rowBehind 16 = .ok (.istore 5, 2) := by decide +kernel
theorem dX8_rowBehind_18 : decode cX8_rowBehind 18 = .ok (.iconst 0, 1) := by decide +kernel
theorem dX8_rowBehind_19 : decode cX8_rowBehind 19 = .ok (.istore 6, 2) := by decide +kernel
theorem dX8_rowBehind_21 : decode cX8_rowBehind 21 = .ok (.iload 6, 2) := by decide +kernel
theorem dX8_rowBehind_23 : decode cX8_rowBehind 23 = .ok (.iload 5, 2) := by decide +kernel
theorem dX8_rowBehind_25 : decode cX8_rowBehind 25 = .ok (.if_icmp .ge 29, 3) := by decide +kernel
theorem dX8_rowBehind_28 : decode cX8_rowBehind 28 = .ok (.aload_n 0, 1) := by decide +kernel
theorem dX8_rowBehind_29 : decode cX8_rowBehind 29 = .ok (.getfield 11, 3) := by decide +kernel
theorem dX8_rowBehind_32 : decode cX8_rowBehind 32 = .ok (.iload 6, 2) := by decide +kernel
theorem dX8_rowBehind_34 : decode cX8_rowBehind 34 = .ok (.iaload, 1) := by decide +kernel
theorem dX8_rowBehind_35 : decode cX8_rowBehind 35 = .ok (.iload_n 3, 1) := by decide +kernel
theorem dX8_rowBehind_36 : decode cX8_rowBehind 36 = .ok (.if_icmp .ne 12, 3) := by decide +kernel
theorem dX8_rowBehind_39 : decode cX8_rowBehind 39 = .ok (.aload_n 0, 1) := by decide +kernel
theorem dX8_rowBehind_40 : decode cX8_rowBehind 40 = .ok (.getfield 15, 3) := by decide +kernel
theorem dX8_rowBehind_43 : decode cX8_rowBehind 43 = .ok (.iload 6, 2) := by decide +kernel
theorem dX8_rowBehind_45 : decode cX8_rowBehind 45 = .ok (.iaload, 1) := by decide +kernel
theorem dX8_rowBehind_46 : decode cX8_rowBehind 46 = .ok (.istore 4, 2) := by decide +kernel
theorem dX8_rowBehind_48 : decode cX8_rowBehind 48 = .ok (.iinc 6 1, 3) := by decide +kernel
theorem dX8_rowBehind_51 : decode cX8_rowBehind 51 = .ok (.goto (-30), 3) := by decide +kernel
theorem dX8_rowBehind_54 : decode cX8_rowBehind 54 = .ok (.iload 4, 2) := by decide +kernel
theorem dX8_rowBehind_56 : decode cX8_rowBehind 56 = .ok (.ireturn, 1) := by decide +kernel
theorem dX8_step_0 : decode cX8_step 0 = .ok (.iload_n 1, 1) := by decide +kernel
theorem dX8_step_1 : decode cX8_step 1 = .ok (.aload_n 0, 1) := by decide +kernel
theorem dX8_step_2 : decode cX8_step 2 = .ok (.getfield 34, 3) := by decide +kernel
theorem dX8_step_5 : decode cX8_step 5 = .ok (.if_icmp .ge 17, 3) := by decide +kernel
theorem dX8_step_8 : decode cX8_step 8 = .ok (.aload_n 2, 1) := by decide +kernel
theorem dX8_step_9 : decode cX8_step 9 = .ok (.aload_n 0, 1) := by decide +kernel
theorem dX8_step_10 : decode cX8_step 10 = .ok (.getfield 11, 3) := by decide +kernel
theorem dX8_step_13 : decode cX8_step 13 = .ok (.iload_n 1, 1) := by decide +kernel
theorem dX8_step_14 : decode cX8_step 14 = .ok (.iaload, 1) := by decide +kernel
theorem dX8_step_15 : decode cX8_step 15 = .ok (.aload_n 0, 1) := by decide +kernel
theorem dX8_step_16 : decode cX8_step 16 = .ok (.getfield 15, 3) := by decide +kernel
theorem dX8_step_19 : decode cX8_step 19 = .ok (.iload_n 1, 1) := by decide +kernel
theorem dX8_step_20 : decode cX8_step 20 = .ok (.iaload, 1) := by decide +kernel
theorem dX8_step_21 : decode cX8_step 21 = .ok (.iastore, 1) := by decide +kernel
theorem dX8_step_22 : decode cX8_step 22 = .ok (.return_, 1) := by decide +kernel
theorem dX8_movesAheadOf_0 : decode cX8_movesAheadOf 0 = .ok (.aload_n 0, 1) := by decide +kernel
theorem dX8_movesAheadOf_1 : decode cX8_movesAheadOf 1 = .ok (.iconst 0, 1) := by decide +kernel
theorem dX8_movesAheadOf_2 : decode cX8_movesAheadOf 2 = .ok (.aload_n 0, 1) := by decide +kernel
theorem dX8_movesAheadOf_3 : decode cX8_movesAheadOf 3 = .ok (.getfield 34, 3) := by decide +kernel
theorem dX8_movesAheadOf_6 : decode cX8_movesAheadOf 6 = .ok (.iload_n 1, 1) := by decide +kernel
theorem dX8_movesAheadOf_7 : decode cX8_movesAheadOf 7 = .ok (.invokevirtual 65, 3) := by decide +kernel
theorem dX8_movesAheadOf_10 : decode cX8_movesAheadOf 10 = .ok (.istore_n 2, 1) := by decide +kernel
theorem dX8_movesAheadOf_11 : decode cX8_movesAheadOf 11 = .ok (.aload_n 0, 1) := by decide +kernel
theorem dX8_movesAheadOf_12 : decode cX8_movesAheadOf 12 = .ok (.getfield 21, 3) := by decide +kernel
theorem dX8_movesAheadOf_15 : decode cX8_movesAheadOf 15 = .ok (.iload_n 2, 1) := by decide +kernel
theorem dX8_movesAheadOf_16 : decode cX8_movesAheadOf 16 = .ok (.iaload, 1) := by decide +kernel
theorem dX8_movesAheadOf_17 : decode cX8_movesAheadOf 17 = .ok (.iload_n 1, 1) := by decide +kernel
theorem dX8_movesAheadOf_18 : decode cX8_movesAheadOf 18 = .ok (.if_icmp .ge 8, 3) := by decide +kernel
theorem dX8_movesAheadOf_21 : decode cX8_movesAheadOf 21 = .ok (.bipush (-3), 2) := by decide +kernel
theorem dX8_movesAheadOf_23 : decode cX8_movesAheadOf 23 = .ok (.goto 4, 3) := by decide +kernel
theorem dX8_movesAheadOf_26 : decode cX8_movesAheadOf 26 = .ok (.iload_n 2, 1) := by decide +kernel
theorem dX8_movesAheadOf_27 : decode cX8_movesAheadOf 27 = .ok (.ireturn, 1) := by decide +kernel
theorem dX8_dueAheadOf_0 : decode cX8_dueAheadOf 0 = .ok (.iload_n 1, 1) := by decide +kernel
theorem dX8_dueAheadOf_1 : decode cX8_dueAheadOf 1 = .ok (.istore 4, 2) := by decide +kernel
theorem dX8_dueAheadOf_3 : decode cX8_dueAheadOf 3 = .ok (.iload 4, 2) := by decide +kernel
theorem dX8_dueAheadOf_5 : decode cX8_dueAheadOf 5 = .ok (.iload_n 2, 1) := by decide +kernel
theorem dX8_dueAheadOf_6 : decode cX8_dueAheadOf 6 = .ok (.if_icmp .ge 20, 3) := by decide +kernel
theorem dX8_dueAheadOf_9 : decode cX8_dueAheadOf 9 = .ok (.aload_n 0, 1) := by decide +kernel
theorem dX8_dueAheadOf_10 : decode cX8_dueAheadOf 10 = .ok (.getfield 21, 3) := by decide +kernel
theorem dX8_dueAheadOf_13 : decode cX8_dueAheadOf 13 = .ok (.iload 4, 2) := by decide +kernel
theorem dX8_dueAheadOf_15 : decode cX8_dueAheadOf 15 = .ok (.iaload, 1) := by decide +kernel
theorem dX8_dueAheadOf_16 : decode cX8_dueAheadOf 16 = .ok (.iload_n 3, 1) := by decide +kernel
theorem dX8_dueAheadOf_17 : decode cX8_dueAheadOf 17 = .ok (.if_icmp .ge 9, 3) := by decide +kernel
theorem dX8_dueAheadOf_20 : decode cX8_dueAheadOf 20 = .ok (.iinc 4 1, 3) := by decide +kernel
theorem dX8_dueAheadOf_23 : decode cX8_dueAheadOf 23 = .ok (.goto (-20), 3) := by decide +kernel
theorem dX8_dueAheadOf_26 : decode cX8_dueAheadOf 26 = .ok (.iload 4, 2) := by decide +kernel
theorem dX8_dueAheadOf_28 : decode cX8_dueAheadOf 28 = .ok (.ireturn, 1) := by decide +kernel
theorem dX8_madeInWeek_0 : decode cX8_madeInWeek 0 = .ok (.iload_n 1, 1) := by decide +kernel
theorem dX8_madeInWeek_1 : decode cX8_madeInWeek 1 = .ok (.istore 4, 2) := by decide +kernel
theorem dX8_madeInWeek_3 : decode cX8_madeInWeek 3 = .ok (.iload_n 3, 1) := by decide +kernel
theorem dX8_madeInWeek_4 : decode cX8_madeInWeek 4 = .ok (.istore 5, 2) := by decide +kernel
theorem dX8_madeInWeek_6 : decode cX8_madeInWeek 6 = .ok (.iload 4, 2) := by decide +kernel
theorem dX8_madeInWeek_8 : decode cX8_madeInWeek 8 = .ok (.iload_n 2, 1) := by decide +kernel
theorem dX8_madeInWeek_9 : decode cX8_madeInWeek 9 = .ok (.if_icmp .ge 33, 3) := by decide +kernel
theorem dX8_madeInWeek_12 : decode cX8_madeInWeek 12 = .ok (.aload_n 0, 1) := by decide +kernel
theorem dX8_madeInWeek_13 : decode cX8_madeInWeek 13 = .ok (.getfield 18, 3) := by decide +kernel
theorem dX8_madeInWeek_16 : decode cX8_madeInWeek 16 = .ok (.iload 4, 2) := by decide +kernel
theorem dX8_madeInWeek_18 : decode cX8_madeInWeek 18 = .ok (.iaload, 1) := by decide +kernel
theorem dX8_madeInWeek_19 : decode cX8_madeInWeek 19 = .ok (.iload 5, 2) := by decide +kernel
theorem dX8_madeInWeek_21 : decode cX8_madeInWeek 21 = .ok (.if_icmp .gt 21, 3) := by decide +kernel
theorem dX8_madeInWeek_24 : decode cX8_madeInWeek 24 = .ok (.iload 5, 2) := by decide +kernel
theorem dX8_madeInWeek_26 : decode cX8_madeInWeek 26 = .ok (.aload_n 0, 1) := by decide +kernel
theorem dX8_madeInWeek_27 : decode cX8_madeInWeek 27 = .ok (.getfield 18, 3) := by decide +kernel
theorem dX8_madeInWeek_30 : decode cX8_madeInWeek 30 = .ok (.iload 4, 2) := by decide +kernel
theorem dX8_madeInWeek_32 : decode cX8_madeInWeek 32 = .ok (.iaload, 1) := by decide +kernel
theorem dX8_madeInWeek_33 : decode cX8_madeInWeek 33 = .ok (.isub, 1) := by decide +kernel
theorem dX8_madeInWeek_34 : decode cX8_madeInWeek 34 = .ok (.istore 5, 2) := by decide +kernel
theorem dX8_madeInWeek_36 : decode cX8_madeInWeek 36 = .ok (.iinc 4 1, 3) := by decide +kernel
theorem dX8_madeInWeek_39 : decode cX8_madeInWeek 39 = .ok (.goto (-33), 3) := by decide +kernel
theorem dX8_madeInWeek_42 : decode cX8_madeInWeek 42 = .ok (.iload 4, 2) := by decide +kernel
theorem dX8_madeInWeek_44 : decode cX8_madeInWeek 44 = .ok (.ireturn, 1) := by decide +kernel
theorem dX8_handsForFirst_0 : decode cX8_handsForFirst 0 = .ok (.iconst 0, 1) := by decide +kernel
theorem dX8_handsForFirst_1 : decode cX8_handsForFirst 1 = .ok (.istore_n 2, 1) := by decide +kernel
theorem dX8_handsForFirst_2 : decode cX8_handsForFirst 2 = .ok (.iconst 0, 1) := by decide +kernel
theorem dX8_handsForFirst_3 : decode cX8_handsForFirst 3 = .ok (.istore_n 3, 1) := by decide +kernel
theorem dX8_handsForFirst_4 : decode cX8_handsForFirst 4 = .ok (.iload_n 3, 1) := by decide +kernel
theorem dX8_handsForFirst_5 : decode cX8_handsForFirst 5 = .ok (.iload_n 1, 1) := by decide +kernel
theorem dX8_handsForFirst_6 : decode cX8_handsForFirst 6 = .ok (.if_icmp .ge 18, 3) := by decide +kernel
theorem dX8_handsForFirst_9 : decode cX8_handsForFirst 9 = .ok (.iload_n 2, 1) := by decide +kernel
theorem dX8_handsForFirst_10 : decode cX8_handsForFirst 10 = .ok (.aload_n 0, 1) := by decide +kernel
theorem dX8_handsForFirst_11 : decode cX8_handsForFirst 11 = .ok (.getfield 18, 3) := by decide +kernel
theorem dX8_handsForFirst_14 : decode cX8_handsForFirst 14 = .ok (.iload_n 3, 1) := by decide +kernel
theorem dX8_handsForFirst_15 : decode cX8_handsForFirst 15 = .ok (.iaload, 1) := by decide +kernel
theorem dX8_handsForFirst_16 : decode cX8_handsForFirst 16 = .ok (.iadd, 1) := by decide +kernel
theorem dX8_handsForFirst_17 : decode cX8_handsForFirst 17 = .ok (.istore_n 2, 1) := by decide +kernel
theorem dX8_handsForFirst_18 : decode cX8_handsForFirst 18 = .ok (.iinc 3 1, 3) := by decide +kernel
theorem dX8_handsForFirst_21 : decode cX8_handsForFirst 21 = .ok (.goto (-17), 3) := by decide +kernel
theorem dX8_handsForFirst_24 : decode cX8_handsForFirst 24 = .ok (.iload_n 2, 1) := by decide +kernel
theorem dX8_handsForFirst_25 : decode cX8_handsForFirst 25 = .ok (.ireturn, 1) := by decide +kernel
end
section
theorem dX9_init_0 : decode cX9_init 0 = .ok (.aload_n 0, 1) := by decide +kernel
theorem dX9_init_1 : decode cX9_init 1 = .ok (.invokespecial 1, 3) := by decide +kernel
theorem dX9_init_4 : decode cX9_init 4 = .ok (.aload_n 0, 1) := by decide +kernel
theorem dX9_init_5 : decode cX9_init 5 = .ok (.new 7, 3) := by decide +kernel
theorem dX9_init_8 : decode cX9_init 8 = .ok (.dup, 1) := by decide +kernel
theorem dX9_init_9 : decode cX9_init 9 = .ok (.invokespecial 9, 3) := by decide +kernel
theorem dX9_init_12 : decode cX9_init 12 = .ok (.putfield 10, 3) := by decide +kernel
theorem dX9_init_15 : decode cX9_init 15 = .ok (.aload_n 0, 1) := by decide +kernel
theorem dX9_init_16 : decode cX9_init 16 = .ok (.new 7, 3) := by decide +kernel
theorem dX9_init_19 : decode cX9_init 19 = .ok (.dup, 1) := by decide +kernel
theorem dX9_init_20 : decode cX9_init 20 = .ok (.invokespecial 9, 3) := by decide +kernel
theorem dX9_init_23 : decode cX9_init 23 = .ok (.putfield 16, 3) := by decide +kernel
theorem dX9_init_26 : decode cX9_init 26 = .ok (.aload_n 0, 1) := by decide +kernel
theorem dX9_init_27 : decode cX9_init 27 = .ok (.new 19, 3) := by decide +kernel
theorem dX9_init_30 : decode cX9_init 30 = .ok (.dup, 1) := by decide +kernel
theorem dX9_init_31 : decode cX9_init 31 = .ok (.invokespecial 21, 3) := by decide +kernel
theorem dX9_init_34 : decode cX9_init 34 = .ok (.putfield 22, 3) := by decide +kernel
theorem dX9_init_37 : decode cX9_init 37 = .ok (.aload_n 0, 1) := by decide +kernel
theorem dX9_init_38 : decode cX9_init 38 = .ok (.new 26, 3) := by decide +kernel
theorem dX9_init_41 : decode cX9_init 41 = .ok (.dup, 1) := by decide +kernel
theorem dX9_init_42 : decode cX9_init 42 = .ok (.invokespecial 28, 3) := by decide +kernel
theorem dX9_init_45 : decode cX9_init 45 = .ok (.putfield 29, 3) := by decide +kernel
theorem dX9_init_48 : decode cX9_init 48 = .ok (.aload_n 0, 1) := by decide +kernel
theorem dX9_init_49 : decode cX9_init 49 = .ok (.new 33, 3) := by decide +kernel
theorem dX9_init_52 : decode cX9_init 52 = .ok (.dup, 1) := by decide +kernel
theorem dX9_init_53 : decode cX9_init 53 = .ok (.invokespecial 35, 3) := by decide +kernel
theorem dX9_init_56 : decode cX9_init 56 = .ok (.putfield 36, 3) := by decide +kernel
theorem dX9_init_59 : decode cX9_init 59 = .ok (.aload_n 0, 1) := by decide +kernel
theorem dX9_init_60 : decode cX9_init 60 = .ok (.new 19, 3) := by decide +kernel
theorem dX9_init_63 : decode cX9_init 63 = .ok (.dup, 1) := by decide +kernel
theorem dX9_init_64 : decode cX9_init 64 = .ok (.invokespecial 21, 3) := by decide +kernel
theorem dX9_init_67 : decode cX9_init 67 = .ok (.putfield 40, 3) := by decide +kernel
theorem dX9_init_70 : decode cX9_init 70 = .ok (.aload_n 0, 1) := by decide +kernel
theorem dX9_init_71 : decode cX9_init 71 = .ok (.new 33, 3) := by decide +kernel
theorem dX9_init_74 : decode cX9_init 74 = .ok (.dup, 1) := by decide +kernel
theorem dX9_init_75 : decode cX9_init 75 = .ok (.invokespecial 35, 3) := by decide +kernel
theorem dX9_init_78 : decode cX9_init 78 = .ok (.putfield 43, 3) := by decide +kernel
theorem dX9_init_81 : decode cX9_init 81 = .ok (.aload_n 0, 1) := by decide +kernel
theorem dX9_init_82 : decode cX9_init 82 = .ok (.new 46, 3) := by decide +kernel
theorem dX9_init_85 : decode cX9_init 85 = .ok (.dup, 1) := by decide +kernel
theorem dX9_init_86 : decode cX9_init 86 = .ok (.invokespecial 48, 3) := by decide +kernel
theorem dX9_init_89 : decode cX9_init 89 = .ok (.putfield 49, 3) := by decide +kernel
theorem dX9_init_92 : decode cX9_init 92 = .ok (.aload_n 0, 1) := by decide +kernel
theorem dX9_init_93 : decode cX9_init 93 = .ok (.new 53, 3) := by decide +kernel
theorem dX9_init_96 : decode cX9_init 96 = .ok (.dup, 1) := by decide +kernel
theorem dX9_init_97 : decode cX9_init 97 = .ok (.invokespecial 55, 3) := by decide +kernel
theorem dX9_init_100 : decode cX9_init 100 = .ok (.putfield 56, 3) := by decide +kernel
theorem dX9_init_103 : decode cX9_init 103 = .ok (.aload_n 0, 1) := by decide +kernel
theorem dX9_init_104 : decode cX9_init 104 = .ok (.new 60, 3) := by decide +kernel
theorem dX9_init_107 : decode cX9_init 107 = .ok (.dup, 1) := by decide +kernel
theorem dX9_init_108 : decode cX9_init 108 = .ok (.invokespecial 62, 3) := by decide +kernel
theorem dX9_init_111 : decode cX9_init 111 = .ok (.putfield 63, 3) := by decide +kernel
theorem dX9_init_114 : decode cX9_init 114 = .ok (.aload_n 0, 1) := by decide +kernel
theorem dX9_init_115 : decode cX9_init 115 = .ok (.new 67, 3) := by decide +kernel
theorem dX9_init_118 : decode cX9_init 118 = .ok (.dup, 1) := by decide +kernel
theorem dX9_init_119 : decode cX9_init 119 = .ok (.bipush 8, 2) := by decide +kernel
theorem dX9_init_121 : decode cX9_init 121 = .ok (.invokespecial 69, 3) := by decide +kernel
theorem dX9_init_124 : decode cX9_init 124 = .ok (.putfield 72, 3) := by decide +kernel
theorem dX9_init_127 : decode cX9_init 127 = .ok (.aload_n 0, 1) := by decide +kernel
theorem dX9_init_128 : decode cX9_init 128 = .ok (.new 67, 3) := by decide +kernel
theorem dX9_init_131 : decode cX9_init 131 = .ok (.dup, 1) := by decide +kernel
theorem dX9_init_132 : decode cX9_init 132 = .ok (.bipush 20, 2) := by decide +kernel
theorem dX9_init_134 : decode cX9_init 134 = .ok (.invokespecial 69, 3) := by decide +kernel
theorem dX9_init_137 : decode cX9_init 137 = .ok (.putfield 76, 3) := by decide +kernel
theorem dX9_init_140 : decode cX9_init 140 = .ok (.aload_n 0, 1) := by decide +kernel
theorem dX9_init_141 : decode cX9_init 141 = .ok (.iconst 4, 1) := by decide +kernel
theorem dX9_init_142 : decode cX9_init 142 = .ok (.anewarray 79, 3) := by decide +kernel
theorem dX9_init_145 : decode cX9_init 145 = .ok (.putfield 81, 3) := by decide +kernel
theorem dX9_init_148 : decode cX9_init 148 = .ok (.aload_n 0, 1) := by decide +kernel
theorem dX9_init_149 : decode cX9_init 149 = .ok (.bipush 9, 2) := by decide +kernel
theorem dX9_init_151 : decode cX9_init 151 = .ok (.putfield 85, 3) := by decide +kernel
theorem dX9_init_154 : decode cX9_init 154 = .ok (.aload_n 0, 1) := by decide +kernel
theorem dX9_init_155 : decode cX9_init 155 = .ok (.iconst 0, 1) := by decide +kernel
theorem dX9_init_156 : decode cX9_init 156 = .ok (.putfield 89, 3) := by decide +kernel
theorem dX9_init_159 : decode cX9_init 159 = .ok (.iconst 0, 1) := by decide +kernel
theorem dX9_init_160 : decode cX9_init 160 = .ok (.istore_n 1, 1) := by decide +kernel
theorem dX9_init_161 : decode cX9_init 161 = .ok (.iload_n 1, 1) := by decide +kernel
theorem dX9_init_162 : decode cX9_init 162 = .ok (.iconst 4, 1) := by decide +kernel
theorem dX9_init_163 : decode cX9_init 163 = .ok (.if_icmp .ge 22, 3) := by decide +kernel
theorem dX9_init_166 : decode cX9_init 166 = .ok (.aload_n 0, 1) := by decide +kernel
theorem dX9_init_167 : decode cX9_init 167 = .ok (.getfield 81, 3) := by decide +kernel
theorem dX9_init_170 : decode cX9_init 170 = .ok (.iload_n 1, 1) := by decide +kernel
theorem dX9_init_171 : decode cX9_init 171 = .ok (.new 79, 3) := by decide +kernel
theorem dX9_init_174 : decode cX9_init 174 = .ok (.dup, 1) := by decide +kernel
theorem dX9_init_175 : decode cX9_init 175 = .ok (.invokespecial 92, 3) := by decide +kernel
theorem dX9_init_178 : decode cX9_init 178 = .ok (.aastore, 1) := by decide +kernel
theorem dX9_init_179 : decode cX9_init 179 = .ok (.iinc 1 1, 3) := by decide +kernel
theorem dX9_init_182 : decode cX9_init 182 = .ok (.goto (-21), 3) := by decide +kernel
theorem dX9_init_185 : decode cX9_init 185 = .ok (.aload_n 0, 1) := by decide +kernel
theorem dX9_init_186 : decode cX9_init 186 = .ok (.getfield 36, 3) := by decide +kernel
theorem dX9_init_189 : decode cX9_init 189 = .ok (.aload_n 0, 1) := by decide +kernel
theorem dX9_init_190 : decode cX9_init 190 = .ok (.getfield 22, 3) := by decide +kernel
theorem dX9_init_193 : decode cX9_init 193 = .ok (.invokevirtual 93, 3) := by decide +kernel
theorem dX9_init_196 : decode cX9_init 196 = .ok (.return_, 1) := by decide +kernel
theorem dX9_wind_0 : decode cX9_wind 0 = .ok (.iload_n 1, 1) := by decide +kernel
theorem dX9_wind_1 : decode cX9_wind 1 = .ok (.invokestatic 97, 3) := by decide +kernel
theorem dX9_wind_4 : decode cX9_wind 4 = .ok (.ifCond .eq 12, 3) := by decide +kernel
theorem dX9_wind_7 : decode cX9_wind 7 = .ok (.iload_n 2, 1) := by decide +kernel
theorem dX9_wind_8 : decode cX9_wind 8 = .ok (.bipush 9, 2) := by decide +kernel
theorem dX9_wind_10 : decode cX9_wind 10 = .ok (.invokestatic 101, 3) := by decide +kernel
theorem dX9_wind_13 : decode cX9_wind 13 = .ok (.ifCond .ne 6, 3) := by decide +kernel
theorem dX9_wind_16 : decode cX9_wind 16 = .ok (.bipush (-2), 2) := by decide +kernel
theorem dX9_wind_18 : decode cX9_wind 18 = .ok (.ireturn, 1) := by decide +kernel
theorem dX9_wind_19 : decode cX9_wind 19 = .ok (.aload_n 0, 1) := by decide +kernel
theorem dX9_wind_20 : decode cX9_wind 20 = .ok (.getfield 56, 3) := by decide +kernel
theorem dX9_wind_23 : decode cX9_wind 23 = .ok (.getfield 105, 3) := by decide +kernel
theorem dX9_wind_26 : decode cX9_wind 26 = .ok (.iload_n 1, 1) := by decide +kernel
theorem dX9_wind_27 : decode cX9_wind 27 = .ok (.iaload, 1) := by decide +kernel
theorem dX9_wind_28 : decode cX9_wind 28 = .ok (.istore_n 3, 1) := by decide +kernel
theorem dX9_wind_29 : decode cX9_wind 29 = .ok (.aload_n 0, 1) := by decide +kernel
theorem dX9_wind_30 : decode cX9_wind 30 = .ok (.getfield 56, 3) := by decide +kernel
theorem dX9_wind_33 : decode cX9_wind 33 = .ok (.getfield 105, 3) := by decide +kernel
theorem dX9_wind_36 : decode cX9_wind 36 = .ok (.iload_n 1, 1) := by decide +kernel
theorem dX9_wind_37 : decode cX9_wind 37 = .ok (.iload_n 2, 1) := by decide +kernel
theorem dX9_wind_38 : decode cX9_wind 38 = .ok (.iastore, 1) := by decide +kernel
theorem dX9_wind_39 : decode cX9_wind 39 = .ok (.iload_n 3, 1) := by decide +kernel
theorem dX9_wind_40 : decode cX9_wind 40 = .ok (.ireturn, 1) := by decide +kernel
theorem dX9_read_0 : decode cX9_read 0 = .ok (.iload_n 1, 1) := by decide +kernel
theorem dX9_read_1 : decode cX9_read 1 = .ok (.invokestatic 109, 3) := by decide +kernel
theorem dX9_read_4 : decode cX9_read 4 = .ok (.ifCond .ne 6, 3) := by decide +kernel
theorem dX9_read_7 : decode cX9_read 7 = .ok (.bipush (-2), 2) := by decide +kernel
theorem dX9_read_9 : decode cX9_read 9 = .ok (.ireturn, 1) := by decide +kernel
theorem dX9_read_10 : decode cX9_read 10 = .ok (.aload_n 0, 1) := by decide +kernel
theorem dX9_read_11 : decode cX9_read 11 = .ok (.getfield 81, 3) := by decide +kernel
theorem dX9_read_14 : decode cX9_read 14 = .ok (.iload_n 1, 1) := by decide +kernel
theorem dX9_read_15 : decode cX9_read 15 = .ok (.aaload, 1) := by decide +kernel
theorem dX9_read_16 : decode cX9_read 16 = .ok (.astore_n 2, 1) := by decide +kernel
theorem dX9_read_17 : decode cX9_read 17 = .ok (.aload_n 2, 1) := by decide +kernel
theorem dX9_read_18 : decode cX9_read 18 = .ok (.getfield 112, 3) := by decide +kernel
theorem dX9_read_21 : decode cX9_read 21 = .ok (.ifCond .eq 9, 3) := by decide +kernel
theorem dX9_read_24 : decode cX9_read 24 = .ok (.aload_n 0, 1) := by decide +kernel
theorem dX9_read_25 : decode cX9_read 25 = .ok (.iconst 1, 1) := by decide +kernel
theorem dX9_read_26 : decode cX9_read 26 = .ok (.invokevirtual 116, 3) := by decide +kernel
theorem dX9_read_29 : decode cX9_read 29 = .ok (.ireturn, 1) := by decide +kernel
theorem dX9_read_30 : decode cX9_read 30 = .ok (.aload_n 2, 1) := by decide +kernel
theorem dX9_read_31 : decode cX9_read 31 = .ok (.getfield 120, 3) := by decide +kernel
theorem dX9_read_34 : decode cX9_read 34 = .ok (.bipush 52, 2) := by decide +kernel
theorem dX9_read_36 : decode cX9_read 36 = .ok (.invokestatic 123, 3) := by decide +kernel
theorem dX9_read_39 : decode cX9_read 39 = .ok (.istore_n 3, 1) := by decide +kernel
theorem dX9_read_40 : decode cX9_read 40 = .ok (.iconst 0, 1) := by decide +kernel
theorem dX9_read_41 : decode cX9_read 41 = .ok (.istore 4, 2) := by decide +kernel
theorem dX9_read_43 : decode cX9_read 43 = .ok (.iload 4, 2) := by decide +kernel
theorem dX9_read_45 : decode cX9_read 45 = .ok (.iload_n 3, 1) := by decide +kernel
theorem dX9_read_46 : decode cX9_read 46 = .ok (.if_icmp .ge 41, 3) := by decide +kernel
theorem dX9_read_49 : decode cX9_read 49 = .ok (.aload_n 2, 1) := by decide +kernel
theorem dX9_read_50 : decode cX9_read 50 = .ok (.getfield 129, 3) := by decide +kernel
theorem dX9_read_53 : decode cX9_read 53 = .ok (.iload 4, 2) := by decide +kernel
theorem dX9_read_55 : decode cX9_read 55 = .ok (.iaload, 1) := by decide +kernel
theorem dX9_read_56 : decode cX9_read 56 = .ok (.bipush 9, 2) := by decide +kernel
theorem dX9_read_58 : decode cX9_read 58 = .ok (.invokestatic 101, 3) := by decide +kernel
theorem dX9_read_61 : decode cX9_read 61 = .ok (.ifCond .eq 26, 3) := by decide +kernel
theorem dX9_read_64 : decode cX9_read 64 = .ok (.aload_n 0, 1) := by decide +kernel
theorem dX9_read_65 : decode cX9_read 65 = .ok (.getfield 56, 3) := by decide +kernel
theorem dX9_read_68 : decode cX9_read 68 = .ok (.getfield 105, 3) := by decide +kernel
theorem dX9_read_71 : decode cX9_read 71 = .ok (.iload 4, 2) := by decide +kernel
theorem dX9_read_73 : decode cX9_read 73 = .ok (.aload_n 2, 1) := by decide +kernel
theorem dX9_read_74 : decode cX9_read 74 = .ok (.getfield 129, 3) := by decide +kernel
theorem dX9_read_77 : decode cX9_read 77 = .ok (.iload 4, 2) := by decide +kernel
theorem dX9_read_79 : decode cX9_read 79 = .ok (.iaload, 1) := by decide +kernel
theorem dX9_read_80 : decode cX9_read 80 = .ok (.iastore, 1) := by decide +kernel
theorem dX9_read_81 : decode cX9_read 81 = .ok (.iinc 4 1, 3) := by decide +kernel
theorem dX9_read_84 : decode cX9_read 84 = .ok (.goto (-41), 3) := by decide +kernel
theorem dX9_read_87 : decode cX9_read 87 = .ok (.iload 4, 2) := by decide +kernel
theorem dX9_read_89 : decode cX9_read 89 = .ok (.ireturn, 1) := by decide +kernel
theorem dX9_set_0 : decode cX9_set 0 = .ok (.bipush (-2), 2) := by decide +kernel
theorem dX9_set_2 : decode cX9_set 2 = .ok (.istore_n 3, 1) := by decide +kernel
theorem dX9_set_3 : decode cX9_set 3 = .ok (.iload_n 1, 1) := by decide +kernel
theorem dX9_set_4 : decode cX9_set 4 = .ok (.ifCond .ne 31, 3) := by decide +kernel
theorem dX9_set_7 : decode cX9_set 7 = .ok (.iload_n 2, 1) := by decide +kernel
theorem dX9_set_8 : decode cX9_set 8 = .ok (.bipush 99, 2) := by decide +kernel
theorem dX9_set_10 : decode cX9_set 10 = .ok (.invokestatic 101, 3) := by decide +kernel
theorem dX9_set_13 : decode cX9_set 13 = .ok (.ifCond .eq 22, 3) := by decide +kernel
theorem dX9_set_16 : decode cX9_set 16 = .ok (.aload_n 0, 1) := by decide +kernel
theorem dX9_set_17 : decode cX9_set 17 = .ok (.getfield 56, 3) := by decide +kernel
theorem dX9_set_20 : decode cX9_set 20 = .ok (.getfield 132, 3) := by decide +kernel
theorem dX9_set_23 : decode cX9_set 23 = .ok (.istore_n 3, 1) := by decide +kernel
theorem dX9_set_24 : decode cX9_set 24 = .ok (.aload_n 0, 1) := by decide +kernel
theorem dX9_set_25 : decode cX9_set 25 = .ok (.getfield 56, 3) := by decide +kernel
theorem dX9_set_28 : decode cX9_set 28 = .ok (.iload_n 2, 1) := by decide +kernel
theorem dX9_set_29 : decode cX9_set 29 = .ok (.putfield 132, 3) := by decide +kernel
theorem dX9_set_32 : decode cX9_set 32 = .ok (.goto 27, 3) := by decide +kernel
theorem dX9_set_35 : decode cX9_set 35 = .ok (.iload_n 1, 1) := by decide +kernel
theorem dX9_set_36 : decode cX9_set 36 = .ok (.iconst 1, 1) := by decide +kernel
theorem dX9_set_37 : decode cX9_set 37 = .ok (.if_icmp .ne 22, 3) := by decide +kernel
theorem dX9_set_40 : decode cX9_set 40 = .ok (.iload_n 2, 1) := by decide +kernel
theorem dX9_set_41 : decode cX9_set 41 = .ok (.bipush 99, 2) := by decide +kernel
theorem dX9_set_43 : decode cX9_set 43 = .ok (.invokestatic 101, 3) := by decide +kernel
theorem dX9_set_46 : decode cX9_set 46 = .ok (.ifCond .eq 13, 3) := by decide +kernel
theorem dX9_set_49 : decode cX9_set 49 = .ok (.aload_n 0, 1) := by decide +kernel
theorem dX9_set_50 : decode cX9_set 50 = .ok (.getfield 85, 3) := by decide +kernel
theorem dX9_set_53 : decode cX9_set 53 = .ok (.istore_n 3, 1) := by decide +kernel
theorem dX9_set_54 : decode cX9_set 54 = .ok (.aload_n 0, 1) := by decide +kernel
theorem dX9_set_55 : decode cX9_set 55 = .ok (.iload_n 2, 1) := by decide +kernel
theorem dX9_set_56 : decode cX9_set 56 = .ok (.putfield 85, 3) := by decide +kernel
theorem dX9_set_59 : decode cX9_set 59 = .ok (.iload_n 3, 1) := by decide +kernel
theorem dX9_set_60 : decode cX9_set 60 = .ok (.ireturn, 1) := by decide +kernel
theorem dX9_foot_0 : decode cX9_foot 0 = .ok (.iload_n 1, 1) := by decide +kernel
theorem dX9_foot_1 : decode cX9_foot 1 = .ok (.invokestatic 97, 3) := by decide +kernel
theorem dX9_foot_4 : decode cX9_foot 4 = .ok (.ifCond .eq 14, 3) := by decide +kernel
theorem dX9_foot_7 : decode cX9_foot 7 = .ok (.aload_n 0, 1) := by decide +kernel
theorem dX9_foot_8 : decode cX9_foot 8 = .ok (.getfield 56, 3) := by decide +kernel
theorem dX9_foot_11 : decode cX9_foot 11 = .ok (.iload_n 1, 1) := by decide +kernel
theorem dX9_foot_12 : decode cX9_foot 12 = .ok (.invokevirtual 135, 3) := by decide +kernel
theorem dX9_foot_15 : decode cX9_foot 15 = .ok (.goto 5, 3) := by decide +kernel
theorem dX9_foot_18 : decode cX9_foot 18 = .ok (.bipush (-2), 2) := by decide +kernel
theorem dX9_foot_20 : decode cX9_foot 20 = .ok (.ireturn, 1) := by decide +kernel
theorem dX9_type_0 : decode cX9_type 0 = .ok (.iload_n 1, 1) := by decide +kernel
theorem dX9_type_1 : decode cX9_type 1 = .ok (.invokestatic 138, 3) := by decide +kernel
theorem dX9_type_4 : decode cX9_type 4 = .ok (.ifCond .eq 13, 3) := by decide +kernel
theorem dX9_type_7 : decode cX9_type 7 = .ok (.iload_n 2, 1) := by decide +kernel
theorem dX9_type_8 : decode cX9_type 8 = .ok (.sipush 255, 3) := by decide +kernel
theorem dX9_type_11 : decode cX9_type 11 = .ok (.invokestatic 101, 3) := by decide +kernel
theorem dX9_type_14 : decode cX9_type 14 = .ok (.ifCond .ne 6, 3) := by decide +kernel
theorem dX9_type_17 : decode cX9_type 17 = .ok (.bipush (-2), 2) := by decide +kernel
theorem dX9_type_19 : decode cX9_type 19 = .ok (.ireturn, 1) := by decide +kernel
theorem dX9_type_20 : decode cX9_type 20 = .ok (.aload_n 0, 1) := by decide +kernel
theorem dX9_type_21 : decode cX9_type 21 = .ok (.iload_n 1, 1) := by decide +kernel
theorem dX9_type_22 : decode cX9_type 22 = .ok (.invokevirtual 141, 3) := by decide +kernel
theorem dX9_type_25 : decode cX9_type 25 = .ok (.astore_n 3, 1) := by decide +kernel
theorem dX9_type_26 : decode cX9_type 26 = .ok (.aload_n 3, 1) := by decide +kernel
theorem dX9_type_27 : decode cX9_type 27 = .ok (.getfield 145, 3) := by decide +kernel
theorem dX9_type_30 : decode cX9_type 30 = .ok (.bipush 60, 2) := by decide +kernel
theorem dX9_type_32 : decode cX9_type 32 = .ok (.if_icmp .lt 6, 3) := by decide +kernel
theorem dX9_type_35 : decode cX9_type 35 = .ok (.bipush (-4), 2) := by decide +kernel
theorem dX9_type_37 : decode cX9_type 37 = .ok (.ireturn, 1) := by decide +kernel
theorem dX9_type_38 : decode cX9_type 38 = .ok (.aload_n 3, 1) := by decide +kernel
theorem dX9_type_39 : decode cX9_type 39 = .ok (.iload_n 2, 1) := by decide +kernel
theorem dX9_type_40 : decode cX9_type 40 = .ok (.invokevirtual 148, 3) := by decide +kernel
theorem dX9_type_43 : decode cX9_type 43 = .ok (.aload_n 0, 1) := by decide +kernel
theorem dX9_type_44 : decode cX9_type 44 = .ok (.iload_n 1, 1) := by decide +kernel
theorem dX9_type_45 : decode cX9_type 45 = .ok (.invokevirtual 151, 3) := by decide +kernel
theorem dX9_type_48 : decode cX9_type 48 = .ok (.aload_n 3, 1) := by decide +kernel
theorem dX9_type_49 : decode cX9_type 49 = .ok (.getfield 145, 3) := by decide +kernel
theorem dX9_type_52 : decode cX9_type 52 = .ok (.ireturn, 1) := by decide +kernel
theorem dX9_wipe_0 : decode cX9_wipe 0 = .ok (.iload_n 1, 1) := by decide +kernel
theorem dX9_wipe_1 : decode cX9_wipe 1 = .ok (.invokestatic 138, 3) := by decide +kernel
theorem dX9_wipe_4 : decode cX9_wipe 4 = .ok (.ifCond .ne 6, 3) := by decide +kernel
theorem dX9_wipe_7 : decode cX9_wipe 7 = .ok (.bipush (-2), 2) := by decide +kernel
theorem dX9_wipe_9 : decode cX9_wipe 9 = .ok (.ireturn, 1) := by decide +kernel
theorem dX9_wipe_10 : decode cX9_wipe 10 = .ok (.aload_n 0, 1) := by decide +kernel
theorem dX9_wipe_11 : decode cX9_wipe 11 = .ok (.iload_n 1, 1) := by decide +kernel
theorem dX9_wipe_12 : decode cX9_wipe 12 = .ok (.invokevirtual 141, 3) := by decide +kernel
theorem dX9_wipe_15 : decode cX9_wipe 15 = .ok (.astore_n 2, 1) := by decide +kernel
theorem dX9_wipe_16 : decode cX9_wipe 16 = .ok (.aload_n 2, 1) := by decide +kernel
theorem dX9_wipe_17 : decode cX9_wipe 17 = .ok (.getfield 145, 3) := by decide +kernel
theorem dX9_wipe_20 : decode cX9_wipe 20 = .ok (.istore_n 3, 1) := by decide +kernel
theorem dX9_wipe_21 : decode cX9_wipe 21 = .ok (.aload_n 2, 1) := by decide +kernel
theorem dX9_wipe_22 : decode cX9_wipe 22 = .ok (.iconst 0, 1) := by decide +kernel
theorem dX9_wipe_23 : decode cX9_wipe 23 = .ok (.putfield 145, 3) := by decide +kernel
theorem dX9_wipe_26 : decode cX9_wipe 26 = .ok (.aload_n 0, 1) := by decide +kernel
theorem dX9_wipe_27 : decode cX9_wipe 27 = .ok (.iload_n 1, 1) := by decide +kernel
theorem dX9_wipe_28 : decode cX9_wipe 28 = .ok (.invokevirtual 151, 3) := by decide +kernel
theorem dX9_wipe_31 : decode cX9_wipe 31 = .ok (.iload_n 3, 1) := by decide +kernel
theorem dX9_wipe_32 : decode cX9_wipe 32 = .ok (.ireturn, 1) := by decide +kernel
theorem dX9_fault_0 : decode cX9_fault 0 = .ok (.iload_n 1, 1) := by decide +kernel
theorem dX9_fault_1 : decode cX9_fault 1 = .ok (.invokestatic 138, 3) := by decide +kernel
theorem dX9_fault_4 : decode cX9_fault 4 = .ok (.ifCond .ne 6, 3) := by decide +kernel
theorem dX9_fault_7 : decode cX9_fault 7 = .ok (.bipush (-2), 2) := by decide +kernel
theorem dX9_fault_9 : decode cX9_fault 9 = .ok (.ireturn, 1) := by decide +kernel
theorem dX9_fault_10 : decode cX9_fault 10 = .ok (.iload_n 1, 1) := by decide +kernel
theorem dX9_fault_11 : decode cX9_fault 11 = .ok (.ifCond .ne 13, 3) := by decide +kernel
theorem dX9_fault_14 : decode cX9_fault 14 = .ok (.aload_n 0, 1) := by decide +kernel
theorem dX9_fault_15 : decode cX9_fault 15 = .ok (.getfield 22, 3) := by decide +kernel
theorem dX9_fault_18 : decode cX9_fault 18 = .ok (.getfield 154, 3) := by decide +kernel
theorem dX9_fault_21 : decode cX9_fault 21 = .ok (.goto 10, 3) := by decide +kernel
theorem dX9_fault_24 : decode cX9_fault 24 = .ok (.aload_n 0, 1) := by decide +kernel
theorem dX9_fault_25 : decode cX9_fault 25 = .ok (.getfield 29, 3) := by decide +kernel
theorem dX9_fault_28 : decode cX9_fault 28 = .ok (.getfield 157, 3) := by decide +kernel
theorem dX9_fault_31 : decode cX9_fault 31 = .ok (.ireturn, 1) := by decide +kernel
theorem dX9_house_0 : decode cX9_house 0 = .ok (.aload_n 0, 1) := by decide +kernel
theorem dX9_house_1 : decode cX9_house 1 = .ok (.iload_n 1, 1) := by decide +kernel
theorem dX9_house_2 : decode cX9_house 2 = .ok (.invokevirtual 158, 3) := by decide +kernel
theorem dX9_house_5 : decode cX9_house 5 = .ok (.ifCond .ne 6, 3) := by decide +kernel
theorem dX9_house_8 : decode cX9_house 8 = .ok (.bipush (-2), 2) := by decide +kernel
theorem dX9_house_10 : decode cX9_house 10 = .ok (.ireturn, 1) := by decide +kernel
theorem dX9_house_11 : decode cX9_house 11 = .ok (.iload_n 2, 1) := by decide +kernel
theorem dX9_house_12 : decode cX9_house 12 = .ok (.tableswitch 58 0 2 #[28, 38, 48], 28) := by decide +kernel
theorem dX9_house_40 : decode cX9_house 40 = .ok (.aload_n 0, 1) := by decide +kernel
theorem dX9_house_41 : decode cX9_house 41 = .ok (.getfield 22, 3) := by decide +kernel
theorem dX9_house_44 : decode cX9_house 44 = .ok (.getfield 161, 3) := by decide +kernel
theorem dX9_house_47 : decode cX9_house 47 = .ok (.iload_n 1, 1) := by decide +kernel
theorem dX9_house_48 : decode cX9_house 48 = .ok (.iaload, 1) := by decide +kernel
theorem dX9_house_49 : decode cX9_house 49 = .ok (.ireturn, 1) := by decide +kernel
theorem dX9_house_50 : decode cX9_house 50 = .ok (.aload_n 0, 1) := by decide +kernel
theorem dX9_house_51 : decode cX9_house 51 = .ok (.getfield 22, 3) := by decide +kernel
theorem dX9_house_54 : decode cX9_house 54 = .ok (.getfield 164, 3) := by decide +kernel
theorem dX9_house_57 : decode cX9_house 57 = .ok (.iload_n 1, 1) := by decide +kernel
theorem dX9_house_58 : decode cX9_house 58 = .ok (.iaload, 1) := by decide +kernel
theorem dX9_house_59 : decode cX9_house 59 = .ok (.ireturn, 1) := by decide +kernel
theorem dX9_house_60 : decode cX9_house 60 = .ok (.aload_n 0, 1) := by decide +kernel
theorem dX9_house_61 : decode cX9_house 61 = .ok (.getfield 22, 3) := by decide +kernel
theorem dX9_house_64 : decode cX9_house 64 = .ok (.getfield 167, 3) := by decide +kernel
theorem dX9_house_67 : decode cX9_house 67 = .ok (.iload_n 1, 1) := by decide +kernel
theorem dX9_house_68 : decode cX9_house 68 = .ok (.iaload, 1) := by decide +kernel
theorem dX9_house_69 : decode cX9_house 69 = .ok (.ireturn, 1) := by decide +kernel
theorem dX9_house_70 : decode cX9_house 70 = .ok (.bipush (-2), 2) := by decide +kernel
theorem dX9_house_72 : decode cX9_house 72 = .ok (.ireturn, 1) := by decide +kernel
theorem dX9_takes_0 : decode cX9_takes 0 = .ok (.aload_n 0, 1) := by decide +kernel
theorem dX9_takes_1 : decode cX9_takes 1 = .ok (.iload_n 1, 1) := by decide +kernel
theorem dX9_takes_2 : decode cX9_takes 2 = .ok (.invokevirtual 158, 3) := by decide +kernel
theorem dX9_takes_5 : decode cX9_takes 5 = .ok (.ifCond .eq 12, 3) := by decide +kernel
theorem dX9_takes_8 : decode cX9_takes 8 = .ok (.iload_n 2, 1) := by decide +kernel
theorem dX9_takes_9 : decode cX9_takes 9 = .ok (.bipush 99, 2) := by decide +kernel
theorem dX9_takes_11 : decode cX9_takes 11 = .ok (.invokestatic 101, 3) := by decide +kernel
theorem dX9_takes_14 : decode cX9_takes 14 = .ok (.ifCond .ne 6, 3) := by decide +kernel
theorem dX9_takes_17 : decode cX9_takes 17 = .ok (.bipush (-2), 2) := by decide +kernel
theorem dX9_takes_19 : decode cX9_takes 19 = .ok (.ireturn, 1) := by decide +kernel
theorem dX9_takes_20 : decode cX9_takes 20 = .ok (.aload_n 0, 1) := by decide +kernel
theorem dX9_takes_21 : decode cX9_takes 21 = .ok (.getfield 22, 3) := by decide +kernel
theorem dX9_takes_24 : decode cX9_takes 24 = .ok (.iload_n 1, 1) := by decide +kernel
theorem dX9_takes_25 : decode cX9_takes 25 = .ok (.iload_n 2, 1) := by decide +kernel
theorem dX9_takes_26 : decode cX9_takes 26 = .ok (.invokevirtual 170, 3) := by decide +kernel
theorem dX9_takes_29 : decode cX9_takes 29 = .ok (.ireturn, 1) := by decide +kernel
theorem dX9_judged_0 : decode cX9_judged 0 = .ok (.iload_n 1, 1) := by decide +kernel
theorem dX9_judged_1 : decode cX9_judged 1 = .ok (.iconst 1, 1) := by decide +kernel
theorem dX9_judged_2 : decode cX9_judged 2 = .ok (.invokestatic 101, 3) := by decide +kernel
theorem dX9_judged_5 : decode cX9_judged 5 = .ok (.ifCond .ne 6, 3) := by decide +kernel
theorem dX9_judged_8 : decode cX9_judged 8 = .ok (.bipush (-2), 2) := by decide +kernel
theorem dX9_judged_10 : decode cX9_judged 10 = .ok (.ireturn, 1) := by decide +kernel
theorem dX9_judged_11 : decode cX9_judged 11 = .ok (.aload_n 0, 1) := by decide +kernel
theorem dX9_judged_12 : decode cX9_judged 12 = .ok (.getfield 49, 3) := by decide +kernel
theorem dX9_judged_15 : decode cX9_judged 15 = .ok (.aload_n 0, 1) := by decide +kernel
theorem dX9_judged_16 : decode cX9_judged 16 = .ok (.getfield 22, 3) := by decide +kernel
theorem dX9_judged_19 : decode cX9_judged 19 = .ok (.invokevirtual 173, 3) := by decide +kernel
theorem dX9_judged_22 : decode cX9_judged 22 = .ok (.iconst 0, 1) := by decide +kernel
theorem dX9_judged_23 : decode cX9_judged 23 = .ok (.istore_n 2, 1) := by decide +kernel
theorem dX9_judged_24 : decode cX9_judged 24 = .ok (.iconst 0, 1) := by decide +kernel
theorem dX9_judged_25 : decode cX9_judged 25 = .ok (.istore_n 3, 1) := by decide +kernel
theorem dX9_judged_26 : decode cX9_judged 26 = .ok (.iload_n 3, 1) := by decide +kernel
theorem dX9_judged_27 : decode cX9_judged 27 = .ok (.bipush 52, 2) := by decide +kernel
theorem dX9_judged_29 : decode cX9_judged 29 = .ok (.if_icmp .ge 56, 3) := by decide +kernel
theorem dX9_judged_32 : decode cX9_judged 32 = .ok (.aload_n 0, 1) := by decide +kernel
theorem dX9_judged_33 : decode cX9_judged 33 = .ok (.getfield 29, 3) := by decide +kernel
theorem dX9_judged_36 : decode cX9_judged 36 = .ok (.iload_n 2, 1) := by decide +kernel
theorem dX9_judged_37 : decode cX9_judged 37 = .ok (.iload_n 3, 1) := by decide +kernel
theorem dX9_judged_38 : decode cX9_judged 38 = .ok (.invokevirtual 175, 3) := by decide +kernel
theorem dX9_judged_41 : decode cX9_judged 41 = .ok (.istore 4, 2) := by decide +kernel
theorem dX9_judged_43 : decode cX9_judged 43 = .ok (.aload_n 0, 1) := by decide +kernel
theorem dX9_judged_44 : decode cX9_judged 44 = .ok (.iload_n 2, 1) := by decide +kernel
theorem dX9_judged_45 : decode cX9_judged 45 = .ok (.iload 4, 2) := by decide +kernel
theorem dX9_judged_47 : decode cX9_judged 47 = .ok (.aload_n 0, 1) := by decide +kernel
theorem dX9_judged_48 : decode cX9_judged 48 = .ok (.getfield 56, 3) := by decide +kernel
theorem dX9_judged_51 : decode cX9_judged 51 = .ok (.iload_n 3, 1) := by decide +kernel
theorem dX9_judged_52 : decode cX9_judged 52 = .ok (.invokevirtual 135, 3) := by decide +kernel
theorem dX9_judged_55 : decode cX9_judged 55 = .ok (.invokevirtual 178, 3) := by decide +kernel
theorem dX9_judged_58 : decode cX9_judged 58 = .ok (.istore 5, 2) := by decide +kernel
theorem dX9_judged_60 : decode cX9_judged 60 = .ok (.iload 5, 2) := by decide +kernel
theorem dX9_judged_62 : decode cX9_judged 62 = .ok (.ifCond .eq 14, 3) := by decide +kernel
theorem dX9_judged_65 : decode cX9_judged 65 = .ok (.iload_n 1, 1) := by decide +kernel
theorem dX9_judged_66 : decode cX9_judged 66 = .ok (.ifCond .ne 7, 3) := by decide +kernel
theorem dX9_judged_69 : decode cX9_judged 69 = .ok (.iload_n 3, 1) := by decide +kernel
theorem dX9_judged_70 : decode cX9_judged 70 = .ok (.goto 5, 3) := by decide +kernel
theorem dX9_judged_73 : decode cX9_judged 73 = .ok (.iload 5, 2) := by decide +kernel
theorem dX9_judged_75 : decode cX9_judged 75 = .ok (.ireturn, 1) := by decide +kernel
theorem dX9_judged_76 : decode cX9_judged 76 = .ok (.iload 4, 2) := by decide +kernel
theorem dX9_judged_78 : decode cX9_judged 78 = .ok (.istore_n 2, 1) := by decide +kernel
theorem dX9_judged_79 : decode cX9_judged 79 = .ok (.iinc 3 1, 3) := by decide +kernel
theorem dX9_judged_82 : decode cX9_judged 82 = .ok (.goto (-56), 3) := by decide +kernel
theorem dX9_judged_85 : decode cX9_judged 85 = .ok (.iload_n 1, 1) := by decide +kernel
theorem dX9_judged_86 : decode cX9_judged 86 = .ok (.ifCond .ne 7, 3) := by decide +kernel
theorem dX9_judged_89 : decode cX9_judged 89 = .ok (.iconst (-1), 1) := by decide +kernel
theorem dX9_judged_90 : decode cX9_judged 90 = .ok (.goto 4, 3) := by decide +kernel
theorem dX9_judged_93 : decode cX9_judged 93 = .ok (.iconst 0, 1) := by decide +kernel
theorem dX9_judged_94 : decode cX9_judged 94 = .ok (.ireturn, 1) := by decide +kernel
theorem dX9_ends_0 : decode cX9_ends 0 = .ok (.aload_n 0, 1) := by decide +kernel
theorem dX9_ends_1 : decode cX9_ends 1 = .ok (.iload_n 1, 1) := by decide +kernel
theorem dX9_ends_2 : decode cX9_ends 2 = .ok (.invokevirtual 158, 3) := by decide +kernel
theorem dX9_ends_5 : decode cX9_ends 5 = .ok (.ifCond .ne 6, 3) := by decide +kernel
theorem dX9_ends_8 : decode cX9_ends 8 = .ok (.bipush (-2), 2) := by decide +kernel
theorem dX9_ends_10 : decode cX9_ends 10 = .ok (.ireturn, 1) := by decide +kernel
theorem dX9_ends_11 : decode cX9_ends 11 = .ok (.aload_n 0, 1) := by decide +kernel
theorem dX9_ends_12 : decode cX9_ends 12 = .ok (.getfield 49, 3) := by decide +kernel
theorem dX9_ends_15 : decode cX9_ends 15 = .ok (.aload_n 0, 1) := by decide +kernel
theorem dX9_ends_16 : decode cX9_ends 16 = .ok (.getfield 22, 3) := by decide +kernel
theorem dX9_ends_19 : decode cX9_ends 19 = .ok (.invokevirtual 173, 3) := by decide +kernel
theorem dX9_ends_22 : decode cX9_ends 22 = .ok (.iconst 0, 1) := by decide +kernel
theorem dX9_ends_23 : decode cX9_ends 23 = .ok (.istore_n 2, 1) := by decide +kernel
theorem dX9_ends_24 : decode cX9_ends 24 = .ok (.iload_n 2, 1) := by decide +kernel
theorem dX9_ends_25 : decode cX9_ends 25 = .ok (.aload_n 0, 1) := by decide +kernel
theorem dX9_ends_26 : decode cX9_ends 26 = .ok (.getfield 29, 3) := by decide +kernel
theorem dX9_ends_29 : decode cX9_ends 29 = .ok (.getfield 182, 3) := by decide +kernel
theorem dX9_ends_32 : decode cX9_ends 32 = .ok (.if_icmp .ge 30, 3) := by decide +kernel
theorem dX9_ends_35 : decode cX9_ends 35 = .ok (.aload_n 0, 1) := by decide +kernel
theorem dX9_ends_36 : decode cX9_ends 36 = .ok (.getfield 49, 3) := by decide +kernel
theorem dX9_ends_39 : decode cX9_ends 39 = .ok (.aload_n 0, 1) := by decide +kernel
theorem dX9_ends_40 : decode cX9_ends 40 = .ok (.getfield 22, 3) := by decide +kernel
theorem dX9_ends_43 : decode cX9_ends 43 = .ok (.aload_n 0, 1) := by decide +kernel
theorem dX9_ends_44 : decode cX9_ends 44 = .ok (.getfield 29, 3) := by decide +kernel
theorem dX9_ends_47 : decode cX9_ends 47 = .ok (.getfield 183, 3) := by decide +kernel
theorem dX9_ends_50 : decode cX9_ends 50 = .ok (.iload_n 2, 1) := by decide +kernel
theorem dX9_ends_51 : decode cX9_ends 51 = .ok (.iaload, 1) := by decide +kernel
theorem dX9_ends_52 : decode cX9_ends 52 = .ok (.invokevirtual 186, 3) := by decide +kernel
theorem dX9_ends_55 : decode cX9_ends 55 = .ok (.pop, 1) := by decide +kernel
theorem dX9_ends_56 : decode cX9_ends 56 = .ok (.iinc 2 1, 3) := by decide +kernel
theorem dX9_ends_59 : decode cX9_ends 59 = .ok (.goto (-35), 3) := by decide +kernel
theorem dX9_ends_62 : decode cX9_ends 62 = .ok (.aload_n 0, 1) := by decide +kernel
theorem dX9_ends_63 : decode cX9_ends 63 = .ok (.getfield 49, 3) := by decide +kernel
theorem dX9_ends_66 : decode cX9_ends 66 = .ok (.getfield 190, 3) := by decide +kernel
theorem dX9_ends_69 : decode cX9_ends 69 = .ok (.iload_n 1, 1) := by decide +kernel
theorem dX9_ends_70 : decode cX9_ends 70 = .ok (.iaload, 1) := by decide +kernel
theorem dX9_ends_71 : decode cX9_ends 71 = .ok (.ireturn, 1) := by decide +kernel
theorem dX9_queue_0 : decode cX9_queue 0 = .ok (.iload_n 1, 1) := by decide +kernel
theorem dX9_queue_1 : decode cX9_queue 1 = .ok (.bipush 40, 2) := by decide +kernel
theorem dX9_queue_3 : decode cX9_queue 3 = .ok (.invokestatic 101, 3) := by decide +kernel
theorem dX9_queue_6 : decode cX9_queue 6 = .ok (.ifCond .eq 16, 3) := by decide +kernel
theorem dX9_queue_9 : decode cX9_queue 9 = .ok (.iload_n 2, 1) := by decide +kernel
theorem dX9_queue_10 : decode cX9_queue 10 = .ok (.iconst (-1), 1) := by decide +kernel
theorem dX9_queue_11 : decode cX9_queue 11 = .ok (.if_icmp .eq 14, 3) := by decide +kernel
theorem dX9_queue_14 : decode cX9_queue 14 = .ok (.aload_n 0, 1) := by decide +kernel
theorem dX9_queue_15 : decode cX9_queue 15 = .ok (.iload_n 2, 1) := by decide +kernel
theorem dX9_queue_16 : decode cX9_queue 16 = .ok (.invokevirtual 158, 3) := by decide +kernel
theorem dX9_queue_19 : decode cX9_queue 19 = .ok (.ifCond .ne 6, 3) := by decide +kernel
theorem dX9_queue_22 : decode cX9_queue 22 = .ok (.bipush (-2), 2) := by decide +kernel
theorem dX9_queue_24 : decode cX9_queue 24 = .ok (.ireturn, 1) := by decide +kernel
theorem dX9_queue_25 : decode cX9_queue 25 = .ok (.iload_n 2, 1) := by decide +kernel
theorem dX9_queue_26 : decode cX9_queue 26 = .ok (.iconst (-1), 1) := by decide +kernel
theorem dX9_queue_27 : decode cX9_queue 27 = .ok (.if_icmp .ne 14, 3) := by decide +kernel
theorem dX9_queue_30 : decode cX9_queue 30 = .ok (.aload_n 0, 1) := by decide +kernel
theorem dX9_queue_31 : decode cX9_queue 31 = .ok (.getfield 36, 3) := by decide +kernel
theorem dX9_queue_34 : decode cX9_queue 34 = .ok (.iload_n 1, 1) := by decide +kernel
theorem dX9_queue_35 : decode cX9_queue 35 = .ok (.invokevirtual 191, 3) := by decide +kernel
theorem dX9_queue_38 : decode cX9_queue 38 = .ok (.goto 16, 3) := by decide +kernel
theorem dX9_queue_41 : decode cX9_queue 41 = .ok (.aload_n 0, 1) := by decide +kernel
theorem dX9_queue_42 : decode cX9_queue 42 = .ok (.getfield 36, 3) := by decide +kernel
theorem dX9_queue_45 : decode cX9_queue 45 = .ok (.aload_n 0, 1) := by decide +kernel
theorem dX9_queue_46 : decode cX9_queue 46 = .ok (.getfield 22, 3) := by decide +kernel
theorem dX9_queue_49 : decode cX9_queue 49 = .ok (.iload_n 1, 1) := by decide +kernel
theorem dX9_queue_50 : decode cX9_queue 50 = .ok (.iload_n 2, 1) := by decide +kernel
theorem dX9_queue_51 : decode cX9_queue 51 = .ok (.invokevirtual 194, 3) := by decide +kernel
theorem dX9_queue_54 : decode cX9_queue 54 = .ok (.ireturn, 1) := by decide +kernel
theorem dX9_needs_0 : decode cX9_needs 0 = .ok (.iload_n 1, 1) := by decide +kernel
theorem dX9_needs_1 : decode cX9_needs 1 = .ok (.invokestatic 97, 3) := by decide +kernel
theorem dX9_needs_4 : decode cX9_needs 4 = .ok (.ifCond .eq 21, 3) := by decide +kernel
theorem dX9_needs_7 : decode cX9_needs 7 = .ok (.aload_n 0, 1) := by decide +kernel
theorem dX9_needs_8 : decode cX9_needs 8 = .ok (.getfield 36, 3) := by decide +kernel
theorem dX9_needs_11 : decode cX9_needs 11 = .ok (.aload_n 0, 1) := by decide +kernel
theorem dX9_needs_12 : decode cX9_needs 12 = .ok (.getfield 56, 3) := by decide +kernel
theorem dX9_needs_15 : decode cX9_needs 15 = .ok (.iload_n 1, 1) := by decide +kernel
theorem dX9_needs_16 : decode cX9_needs 16 = .ok (.invokevirtual 135, 3) := by decide +kernel
theorem dX9_needs_19 : decode cX9_needs 19 = .ok (.invokevirtual 198, 3) := by decide +kernel
theorem dX9_needs_22 : decode cX9_needs 22 = .ok (.goto 5, 3) := by decide +kernel
theorem dX9_needs_25 : decode cX9_needs 25 = .ok (.bipush (-2), 2) := by decide +kernel
theorem dX9_needs_27 : decode cX9_needs 27 = .ok (.ireturn, 1) := by decide +kernel
theorem dX9_fewest_0 : decode cX9_fewest 0 = .ok (.iload_n 1, 1) := by decide +kernel
theorem dX9_fewest_1 : decode cX9_fewest 1 = .ok (.invokestatic 97, 3) := by decide +kernel
theorem dX9_fewest_4 : decode cX9_fewest 4 = .ok (.ifCond .eq 15, 3) := by decide +kernel
theorem dX9_fewest_7 : decode cX9_fewest 7 = .ok (.aload_n 0, 1) := by decide +kernel
theorem dX9_fewest_8 : decode cX9_fewest 8 = .ok (.aload_n 0, 1) := by decide +kernel
theorem dX9_fewest_9 : decode cX9_fewest 9 = .ok (.getfield 36, 3) := by decide +kernel
theorem dX9_fewest_12 : decode cX9_fewest 12 = .ok (.iload_n 1, 1) := by decide +kernel
theorem dX9_fewest_13 : decode cX9_fewest 13 = .ok (.invokevirtual 201, 3) := by decide +kernel
theorem dX9_fewest_16 : decode cX9_fewest 16 = .ok (.goto 5, 3) := by decide +kernel
theorem dX9_fewest_19 : decode cX9_fewest 19 = .ok (.bipush (-2), 2) := by decide +kernel
theorem dX9_fewest_21 : decode cX9_fewest 21 = .ok (.ireturn, 1) := by decide +kernel
theorem dX9_turn_0 : decode cX9_turn 0 = .ok (.iload_n 1, 1) := by decide +kernel
theorem dX9_turn_1 : decode cX9_turn 1 = .ok (.invokestatic 97, 3) := by decide +kernel
theorem dX9_turn_4 : decode cX9_turn 4 = .ok (.ifCond .eq 7, 3) := by decide +kernel
theorem dX9_turn_7 : decode cX9_turn 7 = .ok (.iload_n 2, 1) := by decide +kernel
theorem dX9_turn_8 : decode cX9_turn 8 = .ok (.ifCond .ge 6, 3) := by decide +kernel
theorem dX9_turn_11 : decode cX9_turn 11 = .ok (.bipush (-2), 2) := by decide +kernel
theorem dX9_turn_13 : decode cX9_turn 13 = .ok (.ireturn, 1) := by decide +kernel
theorem dX9_turn_14 : decode cX9_turn 14 = .ok (.aload_n 0, 1) := by decide +kernel
theorem dX9_turn_15 : decode cX9_turn 15 = .ok (.aload_n 0, 1) := by decide +kernel
theorem dX9_turn_16 : decode cX9_turn 16 = .ok (.getfield 36, 3) := by decide +kernel
theorem dX9_turn_19 : decode cX9_turn 19 = .ok (.iload_n 1, 1) := by decide +kernel
theorem dX9_turn_20 : decode cX9_turn 20 = .ok (.invokevirtual 201, 3) := by decide +kernel
theorem dX9_turn_23 : decode cX9_turn 23 = .ok (.istore_n 3, 1) := by decide +kernel
theorem dX9_turn_24 : decode cX9_turn 24 = .ok (.iload_n 3, 1) := by decide +kernel
theorem dX9_turn_25 : decode cX9_turn 25 = .ok (.bipush (-3), 2) := by decide +kernel
theorem dX9_turn_27 : decode cX9_turn 27 = .ok (.if_icmp .ne 6, 3) := by decide +kernel
theorem dX9_turn_30 : decode cX9_turn 30 = .ok (.bipush (-3), 2) := by decide +kernel
theorem dX9_turn_32 : decode cX9_turn 32 = .ok (.ireturn, 1) := by decide +kernel
theorem dX9_turn_33 : decode cX9_turn 33 = .ok (.aload_n 0, 1) := by decide +kernel
theorem dX9_turn_34 : decode cX9_turn 34 = .ok (.getfield 36, 3) := by decide +kernel
theorem dX9_turn_37 : decode cX9_turn 37 = .ok (.aload_n 0, 1) := by decide +kernel
theorem dX9_turn_38 : decode cX9_turn 38 = .ok (.getfield 56, 3) := by decide +kernel
theorem dX9_turn_41 : decode cX9_turn 41 = .ok (.iload_n 1, 1) := by decide +kernel
theorem dX9_turn_42 : decode cX9_turn 42 = .ok (.invokevirtual 135, 3) := by decide +kernel
theorem dX9_turn_45 : decode cX9_turn 45 = .ok (.invokevirtual 198, 3) := by decide +kernel
theorem dX9_turn_48 : decode cX9_turn 48 = .ok (.istore 4, 2) := by decide +kernel
theorem dX9_turn_50 : decode cX9_turn 50 = .ok (.iconst 0, 1) := by decide +kernel
theorem dX9_turn_51 : decode cX9_turn 51 = .ok (.istore 5, 2) := by decide +kernel
theorem dX9_turn_53 : decode cX9_turn 53 = .ok (.iconst 0, 1) := by decide +kernel
theorem dX9_turn_54 : decode cX9_turn 54 = .ok (.istore 6, 2) := by decide +kernel
theorem dX9_turn_56 : decode cX9_turn 56 = .ok (.iload 6, 2) := by decide +kernel
theorem dX9_turn_58 : decode cX9_turn 58 = .ok (.iload_n 1, 1) := by decide +kernel
theorem dX9_turn_59 : decode cX9_turn 59 = .ok (.if_icmp .gt 32, 3) := by decide +kernel
theorem dX9_turn_62 : decode cX9_turn 62 = .ok (.aload_n 0, 1) := by decide +kernel
theorem dX9_turn_63 : decode cX9_turn 63 = .ok (.getfield 36, 3) := by decide +kernel
theorem dX9_turn_66 : decode cX9_turn 66 = .ok (.iload 5, 2) := by decide +kernel
theorem dX9_turn_68 : decode cX9_turn 68 = .ok (.iload 4, 2) := by decide +kernel
theorem dX9_turn_70 : decode cX9_turn 70 = .ok (.iload_n 3, 1) := by decide +kernel
theorem dX9_turn_71 : decode cX9_turn 71 = .ok (.invokevirtual 205, 3) := by decide +kernel
theorem dX9_turn_74 : decode cX9_turn 74 = .ok (.istore 5, 2) := by decide +kernel
theorem dX9_turn_76 : decode cX9_turn 76 = .ok (.iload_n 2, 1) := by decide +kernel
theorem dX9_turn_77 : decode cX9_turn 77 = .ok (.iload 5, 2) := by decide +kernel
theorem dX9_turn_79 : decode cX9_turn 79 = .ok (.if_icmp .ge 6, 3) := by decide +kernel
theorem dX9_turn_82 : decode cX9_turn 82 = .ok (.iload 6, 2) := by decide +kernel
theorem dX9_turn_84 : decode cX9_turn 84 = .ok (.ireturn, 1) := by decide +kernel
theorem dX9_turn_85 : decode cX9_turn 85 = .ok (.iinc 6 1, 3) := by decide +kernel
theorem dX9_turn_88 : decode cX9_turn 88 = .ok (.goto (-32), 3) := by decide +kernel
theorem dX9_turn_91 : decode cX9_turn 91 = .ok (.iconst (-1), 1) := by decide +kernel
theorem dX9_turn_92 : decode cX9_turn 92 = .ok (.ireturn, 1) := by decide +kernel
theorem dX9_owed_0 : decode cX9_owed 0 = .ok (.iload_n 1, 1) := by decide +kernel
theorem dX9_owed_1 : decode cX9_owed 1 = .ok (.bipush 9, 2) := by decide +kernel
theorem dX9_owed_3 : decode cX9_owed 3 = .ok (.invokestatic 101, 3) := by decide +kernel
theorem dX9_owed_6 : decode cX9_owed 6 = .ok (.ifCond .eq 17, 3) := by decide +kernel
theorem dX9_owed_9 : decode cX9_owed 9 = .ok (.iload_n 2, 1) := by decide +kernel
theorem dX9_owed_10 : decode cX9_owed 10 = .ok (.bipush 9, 2) := by decide +kernel
theorem dX9_owed_12 : decode cX9_owed 12 = .ok (.invokestatic 101, 3) := by decide +kernel
theorem dX9_owed_15 : decode cX9_owed 15 = .ok (.ifCond .eq 8, 3) := by decide +kernel
theorem dX9_owed_18 : decode cX9_owed 18 = .ok (.iload_n 1, 1) := by decide +kernel
theorem dX9_owed_19 : decode cX9_owed 19 = .ok (.iload_n 2, 1) := by decide +kernel
theorem dX9_owed_20 : decode cX9_owed 20 = .ok (.if_icmp .ne 6, 3) := by decide +kernel
theorem dX9_owed_23 : decode cX9_owed 23 = .ok (.bipush (-2), 2) := by decide +kernel
theorem dX9_owed_25 : decode cX9_owed 25 = .ok (.ireturn, 1) := by decide +kernel
theorem dX9_owed_26 : decode cX9_owed 26 = .ok (.aload_n 0, 1) := by decide +kernel
theorem dX9_owed_27 : decode cX9_owed 27 = .ok (.getfield 63, 3) := by decide +kernel
theorem dX9_owed_30 : decode cX9_owed 30 = .ok (.iload_n 1, 1) := by decide +kernel
theorem dX9_owed_31 : decode cX9_owed 31 = .ok (.iload_n 2, 1) := by decide +kernel
theorem dX9_owed_32 : decode cX9_owed 32 = .ok (.invokevirtual 208, 3) := by decide +kernel
theorem dX9_owed_35 : decode cX9_owed 35 = .ok (.ifCond .eq 13, 3) := by decide +kernel
theorem dX9_owed_38 : decode cX9_owed 38 = .ok (.aload_n 0, 1) := by decide +kernel
theorem dX9_owed_39 : decode cX9_owed 39 = .ok (.getfield 63, 3) := by decide +kernel
theorem dX9_owed_42 : decode cX9_owed 42 = .ok (.getfield 211, 3) := by decide +kernel
theorem dX9_owed_45 : decode cX9_owed 45 = .ok (.goto 5, 3) := by decide +kernel
theorem dX9_owed_48 : decode cX9_owed 48 = .ok (.bipush (-4), 2) := by decide +kernel
theorem dX9_owed_50 : decode cX9_owed 50 = .ok (.ireturn, 1) := by decide +kernel
theorem dX9_broken_0 : decode cX9_broken 0 = .ok (.iload_n 1, 1) := by decide +kernel
theorem dX9_broken_1 : decode cX9_broken 1 = .ok (.bipush 40, 2) := by decide +kernel
theorem dX9_broken_3 : decode cX9_broken 3 = .ok (.invokestatic 101, 3) := by decide +kernel
theorem dX9_broken_6 : decode cX9_broken 6 = .ok (.ifCond .eq 11, 3) := by decide +kernel
theorem dX9_broken_9 : decode cX9_broken 9 = .ok (.iload_n 2, 1) := by decide +kernel
theorem dX9_broken_10 : decode cX9_broken 10 = .ok (.iconst 1, 1) := by decide +kernel
theorem dX9_broken_11 : decode cX9_broken 11 = .ok (.invokestatic 101, 3) := by decide +kernel
theorem dX9_broken_14 : decode cX9_broken 14 = .ok (.ifCond .ne 6, 3) := by decide +kernel
theorem dX9_broken_17 : decode cX9_broken 17 = .ok (.bipush (-2), 2) := by decide +kernel
theorem dX9_broken_19 : decode cX9_broken 19 = .ok (.ireturn, 1) := by decide +kernel
theorem dX9_broken_20 : decode cX9_broken 20 = .ok (.aload_n 0, 1) := by decide +kernel
theorem dX9_broken_21 : decode cX9_broken 21 = .ok (.getfield 49, 3) := by decide +kernel
theorem dX9_broken_24 : decode cX9_broken 24 = .ok (.aload_n 0, 1) := by decide +kernel
theorem dX9_broken_25 : decode cX9_broken 25 = .ok (.getfield 22, 3) := by decide +kernel
theorem dX9_broken_28 : decode cX9_broken 28 = .ok (.invokevirtual 173, 3) := by decide +kernel
theorem dX9_broken_31 : decode cX9_broken 31 = .ok (.aload_n 0, 1) := by decide +kernel
theorem dX9_broken_32 : decode cX9_broken 32 = .ok (.getfield 63, 3) := by decide +kernel
theorem dX9_broken_35 : decode cX9_broken 35 = .ok (.aload_n 0, 1) := by decide +kernel
theorem dX9_broken_36 : decode cX9_broken 36 = .ok (.getfield 22, 3) := by decide +kernel
theorem dX9_broken_39 : decode cX9_broken 39 = .ok (.aload_n 0, 1) := by decide +kernel
theorem dX9_broken_40 : decode cX9_broken 40 = .ok (.getfield 49, 3) := by decide +kernel
theorem dX9_broken_43 : decode cX9_broken 43 = .ok (.getfield 190, 3) := by decide +kernel
theorem dX9_broken_46 : decode cX9_broken 46 = .ok (.invokevirtual 212, 3) := by decide +kernel
theorem dX9_broken_49 : decode cX9_broken 49 = .ok (.istore_n 3, 1) := by decide +kernel
theorem dX9_broken_50 : decode cX9_broken 50 = .ok (.iload_n 3, 1) := by decide +kernel
theorem dX9_broken_51 : decode cX9_broken 51 = .ok (.istore 4, 2) := by decide +kernel
theorem dX9_broken_53 : decode cX9_broken 53 = .ok (.iconst 0, 1) := by decide +kernel
theorem dX9_broken_54 : decode cX9_broken 54 = .ok (.istore 5, 2) := by decide +kernel
theorem dX9_broken_56 : decode cX9_broken 56 = .ok (.iconst 1, 1) := by decide +kernel
theorem dX9_broken_57 : decode cX9_broken 57 = .ok (.istore 6, 2) := by decide +kernel
theorem dX9_broken_59 : decode cX9_broken 59 = .ok (.iload 6, 2) := by decide +kernel
theorem dX9_broken_61 : decode cX9_broken 61 = .ok (.iload_n 1, 1) := by decide +kernel
theorem dX9_broken_62 : decode cX9_broken 62 = .ok (.if_icmp .gt 59, 3) := by decide +kernel
theorem dX9_broken_65 : decode cX9_broken 65 = .ok (.aload_n 0, 1) := by decide +kernel
theorem dX9_broken_66 : decode cX9_broken 66 = .ok (.getfield 36, 3) := by decide +kernel
theorem dX9_broken_69 : decode cX9_broken 69 = .ok (.iload 6, 2) := by decide +kernel
theorem dX9_broken_71 : decode cX9_broken 71 = .ok (.iconst 1, 1) := by decide +kernel
theorem dX9_broken_72 : decode cX9_broken 72 = .ok (.isub, 1) := by decide +kernel
theorem dX9_broken_73 : decode cX9_broken 73 = .ok (.aload_n 0, 1) := by decide +kernel
theorem dX9_broken_74 : decode cX9_broken 74 = .ok (.getfield 49, 3) := by decide +kernel
theorem dX9_broken_77 : decode cX9_broken 77 = .ok (.getfield 190, 3) := by decide +kernel
theorem dX9_broken_80 : decode cX9_broken 80 = .ok (.invokevirtual 216, 3) := by decide +kernel
theorem dX9_broken_83 : decode cX9_broken 83 = .ok (.aload_n 0, 1) := by decide +kernel
theorem dX9_broken_84 : decode cX9_broken 84 = .ok (.getfield 63, 3) := by decide +kernel
theorem dX9_broken_87 : decode cX9_broken 87 = .ok (.aload_n 0, 1) := by decide +kernel
theorem dX9_broken_88 : decode cX9_broken 88 = .ok (.getfield 22, 3) := by decide +kernel
theorem dX9_broken_91 : decode cX9_broken 91 = .ok (.aload_n 0, 1) := by decide +kernel
theorem dX9_broken_92 : decode cX9_broken 92 = .ok (.getfield 49, 3) := by decide +kernel
theorem dX9_broken_95 : decode cX9_broken 95 = .ok (.getfield 190, 3) := by decide +kernel
theorem dX9_broken_98 : decode cX9_broken 98 = .ok (.invokevirtual 212, 3) := by decide +kernel
theorem dX9_broken_101 : decode cX9_broken 101 = .ok (.istore_n 3, 1) := by decide +kernel
theorem dX9_broken_102 : decode cX9_broken 102 = .ok (.iload_n 3, 1) := by decide +kernel
theorem dX9_broken_103 : decode cX9_broken 103 = .ok (.iload 4, 2) := by decide +kernel
theorem dX9_broken_105 : decode cX9_broken 105 = .ok (.if_icmp .ge 10, 3) := by decide +kernel
theorem dX9_broken_108 : decode cX9_broken 108 = .ok (.iload_n 3, 1) := by decide +kernel
theorem dX9_broken_109 : decode cX9_broken 109 = .ok (.istore 4, 2) := by decide +kernel
theorem dX9_broken_111 : decode cX9_broken 111 = .ok (.iload 6, 2) := by decide +kernel
theorem dX9_broken_113 : decode cX9_broken 113 = .ok (.istore 5, 2) := by decide +kernel
theorem dX9_broken_115 : decode cX9_broken 115 = .ok (.iinc 6 1, 3) := by decide +kernel
theorem dX9_broken_118 : decode cX9_broken 118 = .ok (.goto (-59), 3) := by decide +kernel
theorem dX9_broken_121 : decode cX9_broken 121 = .ok (.iload_n 2, 1) := by decide +kernel
theorem dX9_broken_122 : decode cX9_broken 122 = .ok (.ifCond .ne 7, 3) := by decide +kernel
theorem dX9_broken_125 : decode cX9_broken 125 = .ok (.iload_n 3, 1) := by decide +kernel
theorem dX9_broken_126 : decode cX9_broken 126 = .ok (.goto 5, 3) := by decide +kernel
theorem dX9_broken_129 : decode cX9_broken 129 = .ok (.iload 5, 2) := by decide +kernel
theorem dX9_broken_131 : decode cX9_broken 131 = .ok (.ireturn, 1) := by decide +kernel
theorem dX9_well_0 : decode cX9_well 0 = .ok (.iload_n 1, 1) := by decide +kernel
theorem dX9_well_1 : decode cX9_well 1 = .ok (.iload_n 2, 1) := by decide +kernel
theorem dX9_well_2 : decode cX9_well 2 = .ok (.invokestatic 220, 3) := by decide +kernel
theorem dX9_well_5 : decode cX9_well 5 = .ok (.ifCond .ne 6, 3) := by decide +kernel
theorem dX9_well_8 : decode cX9_well 8 = .ok (.bipush (-2), 2) := by decide +kernel
theorem dX9_well_10 : decode cX9_well 10 = .ok (.ireturn, 1) := by decide +kernel
theorem dX9_well_11 : decode cX9_well 11 = .ok (.aload_n 0, 1) := by decide +kernel
theorem dX9_well_12 : decode cX9_well 12 = .ok (.getfield 72, 3) := by decide +kernel
theorem dX9_well_15 : decode cX9_well 15 = .ok (.iload_n 1, 1) := by decide +kernel
theorem dX9_well_16 : decode cX9_well 16 = .ok (.iload_n 2, 1) := by decide +kernel
theorem dX9_well_17 : decode cX9_well 17 = .ok (.iconst 0, 1) := by decide +kernel
theorem dX9_well_18 : decode cX9_well 18 = .ok (.invokevirtual 223, 3) := by decide +kernel
theorem dX9_well_21 : decode cX9_well 21 = .ok (.ifCond .eq 15, 3) := by decide +kernel
theorem dX9_well_24 : decode cX9_well 24 = .ok (.aload_n 0, 1) := by decide +kernel
theorem dX9_well_25 : decode cX9_well 25 = .ok (.getfield 72, 3) := by decide +kernel
theorem dX9_well_28 : decode cX9_well 28 = .ok (.getfield 226, 3) := by decide +kernel
theorem dX9_well_31 : decode cX9_well 31 = .ok (.iconst 1, 1) := by decide +kernel
theorem dX9_well_32 : decode cX9_well 32 = .ok (.isub, 1) := by decide +kernel
theorem dX9_well_33 : decode cX9_well 33 = .ok (.goto 5, 3) := by decide +kernel
theorem dX9_well_36 : decode cX9_well 36 = .ok (.bipush (-4), 2) := by decide +kernel
theorem dX9_well_38 : decode cX9_well 38 = .ok (.ireturn, 1) := by decide +kernel
theorem dX9_met_0 : decode cX9_met 0 = .ok (.iload_n 1, 1) := by decide +kernel
theorem dX9_met_1 : decode cX9_met 1 = .ok (.invokestatic 97, 3) := by decide +kernel
theorem dX9_met_4 : decode cX9_met 4 = .ok (.ifCond .eq 18, 3) := by decide +kernel
theorem dX9_met_7 : decode cX9_met 7 = .ok (.aload_n 0, 1) := by decide +kernel
theorem dX9_met_8 : decode cX9_met 8 = .ok (.aload_n 0, 1) := by decide +kernel
theorem dX9_met_9 : decode cX9_met 9 = .ok (.getfield 56, 3) := by decide +kernel
theorem dX9_met_12 : decode cX9_met 12 = .ok (.iload_n 1, 1) := by decide +kernel
theorem dX9_met_13 : decode cX9_met 13 = .ok (.invokevirtual 135, 3) := by decide +kernel
theorem dX9_met_16 : decode cX9_met 16 = .ok (.invokevirtual 227, 3) := by decide +kernel
theorem dX9_met_19 : decode cX9_met 19 = .ok (.goto 5, 3) := by decide +kernel
theorem dX9_met_22 : decode cX9_met 22 = .ok (.bipush (-2), 2) := by decide +kernel
theorem dX9_met_24 : decode cX9_met 24 = .ok (.ireturn, 1) := by decide +kernel
theorem dX9_dry_0 : decode cX9_dry 0 = .ok (.iload_n 1, 1) := by decide +kernel
theorem dX9_dry_1 : decode cX9_dry 1 = .ok (.invokestatic 97, 3) := by decide +kernel
theorem dX9_dry_4 : decode cX9_dry 4 = .ok (.ifCond .ne 6, 3) := by decide +kernel
theorem dX9_dry_7 : decode cX9_dry 7 = .ok (.bipush (-2), 2) := by decide +kernel
theorem dX9_dry_9 : decode cX9_dry 9 = .ok (.ireturn, 1) := by decide +kernel
theorem dX9_dry_10 : decode cX9_dry 10 = .ok (.iconst 0, 1) := by decide +kernel
theorem dX9_dry_11 : decode cX9_dry 11 = .ok (.istore_n 2, 1) := by decide +kernel
theorem dX9_dry_12 : decode cX9_dry 12 = .ok (.iconst 0, 1) := by decide +kernel
theorem dX9_dry_13 : decode cX9_dry 13 = .ok (.istore_n 3, 1) := by decide +kernel
theorem dX9_dry_14 : decode cX9_dry 14 = .ok (.iconst 0, 1) := by decide +kernel
theorem dX9_dry_15 : decode cX9_dry 15 = .ok (.istore 4, 2) := by decide +kernel
theorem dX9_dry_17 : decode cX9_dry 17 = .ok (.iload 4, 2) := by decide +kernel
theorem dX9_dry_19 : decode cX9_dry 19 = .ok (.iload_n 1, 1) := by decide +kernel
theorem dX9_dry_20 : decode cX9_dry 20 = .ok (.if_icmp .gt 53, 3) := by decide +kernel
theorem dX9_dry_23 : decode cX9_dry 23 = .ok (.aload_n 0, 1) := by decide +kernel
theorem dX9_dry_24 : decode cX9_dry 24 = .ok (.aload_n 0, 1) := by decide +kernel
theorem dX9_dry_25 : decode cX9_dry 25 = .ok (.getfield 56, 3) := by decide +kernel
theorem dX9_dry_28 : decode cX9_dry 28 = .ok (.iload 4, 2) := by decide +kernel
theorem dX9_dry_30 : decode cX9_dry 30 = .ok (.invokevirtual 135, 3) := by decide +kernel
theorem dX9_dry_33 : decode cX9_dry 33 = .ok (.invokevirtual 227, 3) := by decide +kernel
theorem dX9_dry_36 : decode cX9_dry 36 = .ok (.istore 5, 2) := by decide +kernel
theorem dX9_dry_38 : decode cX9_dry 38 = .ok (.iload 5, 2) := by decide +kernel
theorem dX9_dry_40 : decode cX9_dry 40 = .ok (.bipush (-3), 2) := by decide +kernel
theorem dX9_dry_42 : decode cX9_dry 42 = .ok (.if_icmp .ne 6, 3) := by decide +kernel
theorem dX9_dry_45 : decode cX9_dry 45 = .ok (.bipush (-3), 2) := by decide +kernel
theorem dX9_dry_47 : decode cX9_dry 47 = .ok (.ireturn, 1) := by decide +kernel
theorem dX9_dry_48 : decode cX9_dry 48 = .ok (.iload 5, 2) := by decide +kernel
theorem dX9_dry_50 : decode cX9_dry 50 = .ok (.ifCond .ne 9, 3) := by decide +kernel
theorem dX9_dry_53 : decode cX9_dry 53 = .ok (.iload_n 2, 1) := by decide +kernel
theorem dX9_dry_54 : decode cX9_dry 54 = .ok (.iconst 1, 1) := by decide +kernel
theorem dX9_dry_55 : decode cX9_dry 55 = .ok (.iadd, 1) := by decide +kernel
theorem dX9_dry_56 : decode cX9_dry 56 = .ok (.goto 4, 3) := by decide +kernel
theorem dX9_dry_59 : decode cX9_dry 59 = .ok (.iconst 0, 1) := by decide +kernel
theorem dX9_dry_60 : decode cX9_dry 60 = .ok (.istore_n 2, 1) := by decide +kernel
theorem dX9_dry_61 : decode cX9_dry 61 = .ok (.iload_n 3, 1) := by decide +kernel
theorem dX9_dry_62 : decode cX9_dry 62 = .ok (.iload_n 2, 1) := by decide +kernel
theorem dX9_dry_63 : decode cX9_dry 63 = .ok (.invokestatic 230, 3) := by decide +kernel
theorem dX9_dry_66 : decode cX9_dry 66 = .ok (.istore_n 3, 1) := by decide +kernel
theorem dX9_dry_67 : decode cX9_dry 67 = .ok (.iinc 4 1, 3) := by decide +kernel
theorem dX9_dry_70 : decode cX9_dry 70 = .ok (.goto (-53), 3) := by decide +kernel
theorem dX9_dry_73 : decode cX9_dry 73 = .ok (.iload_n 3, 1) := by decide +kernel
theorem dX9_dry_74 : decode cX9_dry 74 = .ok (.ireturn, 1) := by decide +kernel
theorem dX9_sold_0 : decode cX9_sold 0 = .ok (.aload_n 0, 1) := by decide +kernel
theorem dX9_sold_1 : decode cX9_sold 1 = .ok (.iload_n 1, 1) := by decide +kernel
theorem dX9_sold_2 : decode cX9_sold 2 = .ok (.invokevirtual 158, 3) := by decide +kernel
theorem dX9_sold_5 : decode cX9_sold 5 = .ok (.ifCond .eq 23, 3) := by decide +kernel
theorem dX9_sold_8 : decode cX9_sold 8 = .ok (.aload_n 0, 1) := by decide +kernel
theorem dX9_sold_9 : decode cX9_sold 9 = .ok (.iload_n 2, 1) := by decide +kernel
theorem dX9_sold_10 : decode cX9_sold 10 = .ok (.invokevirtual 158, 3) := by decide +kernel
theorem dX9_sold_13 : decode cX9_sold 13 = .ok (.ifCond .eq 15, 3) := by decide +kernel
theorem dX9_sold_16 : decode cX9_sold 16 = .ok (.iload_n 1, 1) := by decide +kernel
theorem dX9_sold_17 : decode cX9_sold 17 = .ok (.iload_n 2, 1) := by decide +kernel
theorem dX9_sold_18 : decode cX9_sold 18 = .ok (.if_icmp .eq 10, 3) := by decide +kernel
theorem dX9_sold_21 : decode cX9_sold 21 = .ok (.iload_n 3, 1) := by decide +kernel
theorem dX9_sold_22 : decode cX9_sold 22 = .ok (.invokestatic 97, 3) := by decide +kernel
theorem dX9_sold_25 : decode cX9_sold 25 = .ok (.ifCond .ne 7, 3) := by decide +kernel
theorem dX9_sold_28 : decode cX9_sold 28 = .ok (.sipush (-10002), 3) := by decide +kernel
theorem dX9_sold_31 : decode cX9_sold 31 = .ok (.ireturn, 1) := by decide +kernel
theorem dX9_sold_32 : decode cX9_sold 32 = .ok (.aload_n 0, 1) := by decide +kernel
theorem dX9_sold_33 : decode cX9_sold 33 = .ok (.getfield 40, 3) := by decide +kernel
theorem dX9_sold_36 : decode cX9_sold 36 = .ok (.aload_n 0, 1) := by decide +kernel
theorem dX9_sold_37 : decode cX9_sold 37 = .ok (.getfield 22, 3) := by decide +kernel
theorem dX9_sold_40 : decode cX9_sold 40 = .ok (.iload_n 1, 1) := by decide +kernel
theorem dX9_sold_41 : decode cX9_sold 41 = .ok (.iload_n 2, 1) := by decide +kernel
theorem dX9_sold_42 : decode cX9_sold 42 = .ok (.invokevirtual 233, 3) := by decide +kernel
theorem dX9_sold_45 : decode cX9_sold 45 = .ok (.aload_n 0, 1) := by decide +kernel
theorem dX9_sold_46 : decode cX9_sold 46 = .ok (.getfield 43, 3) := by decide +kernel
theorem dX9_sold_49 : decode cX9_sold 49 = .ok (.aload_n 0, 1) := by decide +kernel
theorem dX9_sold_50 : decode cX9_sold 50 = .ok (.getfield 40, 3) := by decide +kernel
theorem dX9_sold_53 : decode cX9_sold 53 = .ok (.invokevirtual 93, 3) := by decide +kernel
theorem dX9_sold_56 : decode cX9_sold 56 = .ok (.aload_n 0, 1) := by decide +kernel
theorem dX9_sold_57 : decode cX9_sold 57 = .ok (.aload_n 0, 1) := by decide +kernel
theorem dX9_sold_58 : decode cX9_sold 58 = .ok (.getfield 36, 3) := by decide +kernel
theorem dX9_sold_61 : decode cX9_sold 61 = .ok (.iload_n 3, 1) := by decide +kernel
theorem dX9_sold_62 : decode cX9_sold 62 = .ok (.invokevirtual 201, 3) := by decide +kernel
theorem dX9_sold_65 : decode cX9_sold 65 = .ok (.istore 4, 2) := by decide +kernel
theorem dX9_sold_67 : decode cX9_sold 67 = .ok (.aload_n 0, 1) := by decide +kernel
theorem dX9_sold_68 : decode cX9_sold 68 = .ok (.aload_n 0, 1) := by decide +kernel
theorem dX9_sold_69 : decode cX9_sold 69 = .ok (.getfield 43, 3) := by decide +kernel
theorem dX9_sold_72 : decode cX9_sold 72 = .ok (.iload_n 3, 1) := by decide +kernel
theorem dX9_sold_73 : decode cX9_sold 73 = .ok (.invokevirtual 201, 3) := by decide +kernel
theorem dX9_sold_76 : decode cX9_sold 76 = .ok (.istore 5, 2) := by decide +kernel
theorem dX9_sold_78 : decode cX9_sold 78 = .ok (.iload 4, 2) := by decide +kernel
theorem dX9_sold_80 : decode cX9_sold 80 = .ok (.bipush (-3), 2) := by decide +kernel
theorem dX9_sold_82 : decode cX9_sold 82 = .ok (.if_icmp .eq 10, 3) := by decide +kernel
theorem dX9_sold_85 : decode cX9_sold 85 = .ok (.iload 5, 2) := by decide +kernel
theorem dX9_sold_87 : decode cX9_sold 87 = .ok (.bipush (-3), 2) := by decide +kernel
theorem dX9_sold_89 : decode cX9_sold 89 = .ok (.if_icmp .ne 7, 3) := by decide +kernel
theorem dX9_sold_92 : decode cX9_sold 92 = .ok (.sipush (-10003), 3) := by decide +kernel
theorem dX9_sold_95 : decode cX9_sold 95 = .ok (.ireturn, 1) := by decide +kernel
theorem dX9_sold_96 : decode cX9_sold 96 = .ok (.iload 4, 2) := by decide +kernel
theorem dX9_sold_98 : decode cX9_sold 98 = .ok (.iload 5, 2) := by decide +kernel
theorem dX9_sold_100 : decode cX9_sold 100 = .ok (.isub, 1) := by decide +kernel
theorem dX9_sold_101 : decode cX9_sold 101 = .ok (.ireturn, 1) := by decide +kernel
theorem dX9_debt_0 : decode cX9_debt 0 = .ok (.iload_n 1, 1) := by decide +kernel
theorem dX9_debt_1 : decode cX9_debt 1 = .ok (.iload_n 2, 1) := by decide +kernel
theorem dX9_debt_2 : decode cX9_debt 2 = .ok (.invokestatic 220, 3) := by decide +kernel
theorem dX9_debt_5 : decode cX9_debt 5 = .ok (.ifCond .eq 14, 3) := by decide +kernel
theorem dX9_debt_8 : decode cX9_debt 8 = .ok (.iload_n 3, 1) := by decide +kernel
theorem dX9_debt_9 : decode cX9_debt 9 = .ok (.iconst 1, 1) := by decide +kernel
theorem dX9_debt_10 : decode cX9_debt 10 = .ok (.if_icmp .lt 9, 3) := by decide +kernel
theorem dX9_debt_13 : decode cX9_debt 13 = .ok (.iload_n 3, 1) := by decide +kernel
theorem dX9_debt_14 : decode cX9_debt 14 = .ok (.bipush 99, 2) := by decide +kernel
theorem dX9_debt_16 : decode cX9_debt 16 = .ok (.if_icmp .le 6, 3) := by decide +kernel
theorem dX9_debt_19 : decode cX9_debt 19 = .ok (.bipush (-2), 2) := by decide +kernel
theorem dX9_debt_21 : decode cX9_debt 21 = .ok (.ireturn, 1) := by decide +kernel
theorem dX9_debt_22 : decode cX9_debt 22 = .ok (.aload_n 0, 1) := by decide +kernel
theorem dX9_debt_23 : decode cX9_debt 23 = .ok (.getfield 76, 3) := by decide +kernel
theorem dX9_debt_26 : decode cX9_debt 26 = .ok (.iload_n 1, 1) := by decide +kernel
theorem dX9_debt_27 : decode cX9_debt 27 = .ok (.iload_n 2, 1) := by decide +kernel
theorem dX9_debt_28 : decode cX9_debt 28 = .ok (.iload_n 3, 1) := by decide +kernel
theorem dX9_debt_29 : decode cX9_debt 29 = .ok (.invokevirtual 223, 3) := by decide +kernel
theorem dX9_debt_32 : decode cX9_debt 32 = .ok (.ifCond .eq 13, 3) := by decide +kernel
theorem dX9_debt_35 : decode cX9_debt 35 = .ok (.aload_n 0, 1) := by decide +kernel
theorem dX9_debt_36 : decode cX9_debt 36 = .ok (.getfield 76, 3) := by decide +kernel
theorem dX9_debt_39 : decode cX9_debt 39 = .ok (.getfield 226, 3) := by decide +kernel
theorem dX9_debt_42 : decode cX9_debt 42 = .ok (.goto 5, 3) := by decide +kernel
theorem dX9_debt_45 : decode cX9_debt 45 = .ok (.bipush (-4), 2) := by decide +kernel
theorem dX9_debt_47 : decode cX9_debt 47 = .ok (.ireturn, 1) := by decide +kernel
theorem dX9_owes_0 : decode cX9_owes 0 = .ok (.aload_n 0, 1) := by decide +kernel
theorem dX9_owes_1 : decode cX9_owes 1 = .ok (.iload_n 1, 1) := by decide +kernel
theorem dX9_owes_2 : decode cX9_owes 2 = .ok (.invokevirtual 158, 3) := by decide +kernel
theorem dX9_owes_5 : decode cX9_owes 5 = .ok (.ifCond .eq 10, 3) := by decide +kernel
theorem dX9_owes_8 : decode cX9_owes 8 = .ok (.iload_n 2, 1) := by decide +kernel
theorem dX9_owes_9 : decode cX9_owes 9 = .ok (.invokestatic 97, 3) := by decide +kernel
theorem dX9_owes_12 : decode cX9_owes 12 = .ok (.ifCond .ne 6, 3) := by decide +kernel
theorem dX9_owes_15 : decode cX9_owes 15 = .ok (.bipush (-2), 2) := by decide +kernel
theorem dX9_owes_17 : decode cX9_owes 17 = .ok (.ireturn, 1) := by decide +kernel
theorem dX9_owes_18 : decode cX9_owes 18 = .ok (.aload_n 0, 1) := by decide +kernel
theorem dX9_owes_19 : decode cX9_owes 19 = .ok (.getfield 56, 3) := by decide +kernel
theorem dX9_owes_22 : decode cX9_owes 22 = .ok (.iload_n 2, 1) := by decide +kernel
theorem dX9_owes_23 : decode cX9_owes 23 = .ok (.invokevirtual 135, 3) := by decide +kernel
theorem dX9_owes_26 : decode cX9_owes 26 = .ok (.istore_n 3, 1) := by decide +kernel
theorem dX9_owes_27 : decode cX9_owes 27 = .ok (.aload_n 0, 1) := by decide +kernel
theorem dX9_owes_28 : decode cX9_owes 28 = .ok (.getfield 36, 3) := by decide +kernel
theorem dX9_owes_31 : decode cX9_owes 31 = .ok (.iload_n 3, 1) := by decide +kernel
theorem dX9_owes_32 : decode cX9_owes 32 = .ok (.invokevirtual 198, 3) := by decide +kernel
theorem dX9_owes_35 : decode cX9_owes 35 = .ok (.istore 4, 2) := by decide +kernel
theorem dX9_owes_37 : decode cX9_owes 37 = .ok (.iload 4, 2) := by decide +kernel
theorem dX9_owes_39 : decode cX9_owes 39 = .ok (.bipush (-3), 2) := by decide +kernel
theorem dX9_owes_41 : decode cX9_owes 41 = .ok (.if_icmp .ne 6, 3) := by decide +kernel
theorem dX9_owes_44 : decode cX9_owes 44 = .ok (.bipush (-3), 2) := by decide +kernel
theorem dX9_owes_46 : decode cX9_owes 46 = .ok (.ireturn, 1) := by decide +kernel
theorem dX9_owes_47 : decode cX9_owes 47 = .ok (.aload_n 0, 1) := by decide +kernel
theorem dX9_owes_48 : decode cX9_owes 48 = .ok (.getfield 36, 3) := by decide +kernel
theorem dX9_owes_51 : decode cX9_owes 51 = .ok (.aload_n 0, 1) := by decide +kernel
theorem dX9_owes_52 : decode cX9_owes 52 = .ok (.getfield 22, 3) := by decide +kernel
theorem dX9_owes_55 : decode cX9_owes 55 = .ok (.iload 4, 2) := by decide +kernel
theorem dX9_owes_57 : decode cX9_owes 57 = .ok (.iload_n 1, 1) := by decide +kernel
theorem dX9_owes_58 : decode cX9_owes 58 = .ok (.invokevirtual 194, 3) := by decide +kernel
theorem dX9_owes_61 : decode cX9_owes 61 = .ok (.istore 5, 2) := by decide +kernel
theorem dX9_owes_63 : decode cX9_owes 63 = .ok (.iload 5, 2) := by decide +kernel
theorem dX9_owes_65 : decode cX9_owes 65 = .ok (.iload_n 3, 1) := by decide +kernel
theorem dX9_owes_66 : decode cX9_owes 66 = .ok (.if_icmp .ge 7, 3) := by decide +kernel
theorem dX9_owes_69 : decode cX9_owes 69 = .ok (.iconst 0, 1) := by decide +kernel
theorem dX9_owes_70 : decode cX9_owes 70 = .ok (.goto 21, 3) := by decide +kernel
theorem dX9_owes_73 : decode cX9_owes 73 = .ok (.aload_n 0, 1) := by decide +kernel
theorem dX9_owes_74 : decode cX9_owes 74 = .ok (.getfield 76, 3) := by decide +kernel
theorem dX9_owes_77 : decode cX9_owes 77 = .ok (.aload_n 0, 1) := by decide +kernel
theorem dX9_owes_78 : decode cX9_owes 78 = .ok (.getfield 22, 3) := by decide +kernel
theorem dX9_owes_81 : decode cX9_owes 81 = .ok (.getfield 164, 3) := by decide +kernel
theorem dX9_owes_84 : decode cX9_owes 84 = .ok (.iload_n 1, 1) := by decide +kernel
theorem dX9_owes_85 : decode cX9_owes 85 = .ok (.iaload, 1) := by decide +kernel
theorem dX9_owes_86 : decode cX9_owes 86 = .ok (.iload 5, 2) := by decide +kernel
theorem dX9_owes_88 : decode cX9_owes 88 = .ok (.invokevirtual 237, 3) := by decide +kernel
theorem dX9_owes_91 : decode cX9_owes 91 = .ok (.ireturn, 1) := by decide +kernel
theorem dX9_lost_0 : decode cX9_lost 0 = .ok (.iload_n 1, 1) := by decide +kernel
theorem dX9_lost_1 : decode cX9_lost 1 = .ok (.invokestatic 97, 3) := by decide +kernel
theorem dX9_lost_4 : decode cX9_lost 4 = .ok (.ifCond .eq 21, 3) := by decide +kernel
theorem dX9_lost_7 : decode cX9_lost 7 = .ok (.aload_n 0, 1) := by decide +kernel
theorem dX9_lost_8 : decode cX9_lost 8 = .ok (.getfield 76, 3) := by decide +kernel
theorem dX9_lost_11 : decode cX9_lost 11 = .ok (.aload_n 0, 1) := by decide +kernel
theorem dX9_lost_12 : decode cX9_lost 12 = .ok (.getfield 56, 3) := by decide +kernel
theorem dX9_lost_15 : decode cX9_lost 15 = .ok (.iload_n 1, 1) := by decide +kernel
theorem dX9_lost_16 : decode cX9_lost 16 = .ok (.invokevirtual 135, 3) := by decide +kernel
theorem dX9_lost_19 : decode cX9_lost 19 = .ok (.invokevirtual 240, 3) := by decide +kernel
theorem dX9_lost_22 : decode cX9_lost 22 = .ok (.goto 5, 3) := by decide +kernel
theorem dX9_lost_25 : decode cX9_lost 25 = .ok (.bipush (-2), 2) := by decide +kernel
theorem dX9_lost_27 : decode cX9_lost 27 = .ok (.ireturn, 1) := by decide +kernel
theorem dX9_church_0 : decode cX9_church 0 = .ok (.iload_n 1, 1) := by decide +kernel
theorem dX9_church_1 : decode cX9_church 1 = .ok (.iconst 1, 1) := by decide +kernel
theorem dX9_church_2 : decode cX9_church 2 = .ok (.if_icmp .lt 27, 3) := by decide +kernel
theorem dX9_church_5 : decode cX9_church 5 = .ok (.iload_n 1, 1) := by decide +kernel
theorem dX9_church_6 : decode cX9_church 6 = .ok (.sipush 999, 3) := by decide +kernel
theorem dX9_church_9 : decode cX9_church 9 = .ok (.if_icmp .gt 20, 3) := by decide +kernel
theorem dX9_church_12 : decode cX9_church 12 = .ok (.iload_n 2, 1) := by decide +kernel
theorem dX9_church_13 : decode cX9_church 13 = .ok (.sipush 999, 3) := by decide +kernel
theorem dX9_church_16 : decode cX9_church 16 = .ok (.invokestatic 101, 3) := by decide +kernel
theorem dX9_church_19 : decode cX9_church 19 = .ok (.ifCond .eq 10, 3) := by decide +kernel
theorem dX9_church_22 : decode cX9_church 22 = .ok (.iload_n 3, 1) := by decide +kernel
theorem dX9_church_23 : decode cX9_church 23 = .ok (.invokestatic 97, 3) := by decide +kernel
theorem dX9_church_26 : decode cX9_church 26 = .ok (.ifCond .ne 6, 3) := by decide +kernel
theorem dX9_church_29 : decode cX9_church 29 = .ok (.bipush (-2), 2) := by decide +kernel
theorem dX9_church_31 : decode cX9_church 31 = .ok (.ireturn, 1) := by decide +kernel
theorem dX9_church_32 : decode cX9_church 32 = .ok (.bipush 9, 2) := by decide +kernel
theorem dX9_church_34 : decode cX9_church 34 = .ok (.iload_n 3, 1) := by decide +kernel
theorem dX9_church_35 : decode cX9_church 35 = .ok (.iconst 1, 1) := by decide +kernel
theorem dX9_church_36 : decode cX9_church 36 = .ok (.iadd, 1) := by decide +kernel
theorem dX9_church_37 : decode cX9_church 37 = .ok (.invokestatic 123, 3) := by decide +kernel
theorem dX9_church_40 : decode cX9_church 40 = .ok (.istore 4, 2) := by decide +kernel
theorem dX9_church_42 : decode cX9_church 42 = .ok (.iconst 1, 1) := by decide +kernel
theorem dX9_church_43 : decode cX9_church 43 = .ok (.istore 5, 2) := by decide +kernel
theorem dX9_church_45 : decode cX9_church 45 = .ok (.iload 5, 2) := by decide +kernel
theorem dX9_church_47 : decode cX9_church 47 = .ok (.iload 4, 2) := by decide +kernel
theorem dX9_church_49 : decode cX9_church 49 = .ok (.if_icmp .gt 25, 3) := by decide +kernel
theorem dX9_church_52 : decode cX9_church 52 = .ok (.iload_n 1, 1) := by decide +kernel
theorem dX9_church_53 : decode cX9_church 53 = .ok (.iload 5, 2) := by decide +kernel
theorem dX9_church_55 : decode cX9_church 55 = .ok (.invokestatic 243, 3) := by decide +kernel
theorem dX9_church_58 : decode cX9_church 58 = .ok (.iload 5, 2) := by decide +kernel
theorem dX9_church_60 : decode cX9_church 60 = .ok (.iadd, 1) := by decide +kernel
theorem dX9_church_61 : decode cX9_church 61 = .ok (.iload_n 2, 1) := by decide +kernel
theorem dX9_church_62 : decode cX9_church 62 = .ok (.if_icmp .gt 6, 3) := by decide +kernel
theorem dX9_church_65 : decode cX9_church 65 = .ok (.iload 5, 2) := by decide +kernel
theorem dX9_church_67 : decode cX9_church 67 = .ok (.ireturn, 1) := by decide +kernel
theorem dX9_church_68 : decode cX9_church 68 = .ok (.iinc 5 1, 3) := by decide +kernel
theorem dX9_church_71 : decode cX9_church 71 = .ok (.goto (-26), 3) := by decide +kernel
theorem dX9_church_74 : decode cX9_church 74 = .ok (.iconst (-1), 1) := by decide +kernel
theorem dX9_church_75 : decode cX9_church 75 = .ok (.ireturn, 1) := by decide +kernel
theorem dX9_likely_0 : decode cX9_likely 0 = .ok (.iload_n 1, 1) := by decide +kernel
theorem dX9_likely_1 : decode cX9_likely 1 = .ok (.bipush 9, 2) := by decide +kernel
theorem dX9_likely_3 : decode cX9_likely 3 = .ok (.invokestatic 101, 3) := by decide +kernel
theorem dX9_likely_6 : decode cX9_likely 6 = .ok (.ifCond .eq 34, 3) := by decide +kernel
theorem dX9_likely_9 : decode cX9_likely 9 = .ok (.iload_n 2, 1) := by decide +kernel
theorem dX9_likely_10 : decode cX9_likely 10 = .ok (.bipush 99, 2) := by decide +kernel
theorem dX9_likely_12 : decode cX9_likely 12 = .ok (.invokestatic 101, 3) := by decide +kernel
theorem dX9_likely_15 : decode cX9_likely 15 = .ok (.ifCond .eq 25, 3) := by decide +kernel
theorem dX9_likely_18 : decode cX9_likely 18 = .ok (.iload_n 3, 1) := by decide +kernel
theorem dX9_likely_19 : decode cX9_likely 19 = .ok (.bipush 9, 2) := by decide +kernel
theorem dX9_likely_21 : decode cX9_likely 21 = .ok (.invokestatic 101, 3) := by decide +kernel
theorem dX9_likely_24 : decode cX9_likely 24 = .ok (.ifCond .eq 16, 3) := by decide +kernel
theorem dX9_likely_27 : decode cX9_likely 27 = .ok (.iload 4, 2) := by decide +kernel
theorem dX9_likely_29 : decode cX9_likely 29 = .ok (.iconst 1, 1) := by decide +kernel
theorem dX9_likely_30 : decode cX9_likely 30 = .ok (.invokestatic 101, 3) := by decide +kernel
theorem dX9_likely_33 : decode cX9_likely 33 = .ok (.ifCond .eq 7, 3) := by decide +kernel
theorem dX9_likely_36 : decode cX9_likely 36 = .ok (.iconst 1, 1) := by decide +kernel
theorem dX9_likely_37 : decode cX9_likely 37 = .ok (.goto 4, 3) := by decide +kernel
theorem dX9_likely_40 : decode cX9_likely 40 = .ok (.iconst 0, 1) := by decide +kernel
theorem dX9_likely_41 : decode cX9_likely 41 = .ok (.istore 5, 2) := by decide +kernel
theorem dX9_likely_43 : decode cX9_likely 43 = .ok (.iload 5, 2) := by decide +kernel
theorem dX9_likely_45 : decode cX9_likely 45 = .ok (.ifCond .ne 7, 3) := by decide +kernel
theorem dX9_likely_48 : decode cX9_likely 48 = .ok (.ldc2_w 246, 3) := by decide +kernel
theorem dX9_likely_51 : decode cX9_likely 51 = .ok (.lreturn, 1) := by decide +kernel
theorem dX9_likely_52 : decode cX9_likely 52 = .ok (.aload_n 0, 1) := by decide +kernel
theorem dX9_likely_53 : decode cX9_likely 53 = .ok (.getfield 56, 3) := by decide +kernel
theorem dX9_likely_56 : decode cX9_likely 56 = .ok (.iload_n 1, 1) := by decide +kernel
theorem dX9_likely_57 : decode cX9_likely 57 = .ok (.iload_n 3, 1) := by decide +kernel
theorem dX9_likely_58 : decode cX9_likely 58 = .ok (.invokevirtual 248, 3) := by decide +kernel
theorem dX9_likely_61 : decode cX9_likely 61 = .ok (.aload_n 0, 1) := by decide +kernel
theorem dX9_likely_62 : decode cX9_likely 62 = .ok (.getfield 56, 3) := by decide +kernel
theorem dX9_likely_65 : decode cX9_likely 65 = .ok (.iload_n 2, 1) := by decide +kernel
theorem dX9_likely_66 : decode cX9_likely 66 = .ok (.invokevirtual 252, 3) := by decide +kernel
theorem dX9_likely_69 : decode cX9_likely 69 = .ok (.lstore 6, 2) := by decide +kernel
theorem dX9_likely_71 : decode cX9_likely 71 = .ok (.aload_n 0, 1) := by decide +kernel
theorem dX9_likely_72 : decode cX9_likely 72 = .ok (.getfield 56, 3) := by decide +kernel
theorem dX9_likely_75 : decode cX9_likely 75 = .ok (.iconst (-1), 1) := by decide +kernel
theorem dX9_likely_76 : decode cX9_likely 76 = .ok (.invokevirtual 252, 3) := by decide +kernel
theorem dX9_likely_79 : decode cX9_likely 79 = .ok (.lstore 8, 2) := by decide +kernel
theorem dX9_likely_81 : decode cX9_likely 81 = .ok (.lconst 1, 1) := by decide +kernel
theorem dX9_likely_82 : decode cX9_likely 82 = .ok (.lload 6, 2) := by decide +kernel
theorem dX9_likely_84 : decode cX9_likely 84 = .ok (.lload 8, 2) := by decide +kernel
theorem dX9_likely_86 : decode cX9_likely 86 = .ok (.invokestatic 256, 3) := by decide +kernel
theorem dX9_likely_89 : decode cX9_likely 89 = .ok (.invokestatic 260, 3) := by decide +kernel
theorem dX9_likely_92 : decode cX9_likely 92 = .ok (.lstore 10, 2) := by decide +kernel
theorem dX9_likely_94 : decode cX9_likely 94 = .ok (.iload 4, 2) := by decide +kernel
theorem dX9_likely_96 : decode cX9_likely 96 = .ok (.ifCond .ne 11, 3) := by decide +kernel
theorem dX9_likely_99 : decode cX9_likely 99 = .ok (.lload 6, 2) := by decide +kernel
theorem dX9_likely_101 : decode cX9_likely 101 = .ok (.lload 10, 2) := by decide +kernel
theorem dX9_likely_103 : decode cX9_likely 103 = .ok (.ldiv, 1) := by decide +kernel
theorem dX9_likely_104 : decode cX9_likely 104 = .ok (.goto 8, 3) := by decide +kernel
theorem dX9_likely_107 : decode cX9_likely 107 = .ok (.lload 8, 2) := by decide +kernel
theorem dX9_likely_109 : decode cX9_likely 109 = .ok (.lload 10, 2) := by decide +kernel
theorem dX9_likely_111 : decode cX9_likely 111 = .ok (.ldiv, 1) := by decide +kernel
theorem dX9_likely_112 : decode cX9_likely 112 = .ok (.lreturn, 1) := by decide +kernel
theorem dX9_stone_0 : decode cX9_stone 0 = .ok (.iload_n 1, 1) := by decide +kernel
theorem dX9_stone_1 : decode cX9_stone 1 = .ok (.bipush 99, 2) := by decide +kernel
theorem dX9_stone_3 : decode cX9_stone 3 = .ok (.invokestatic 101, 3) := by decide +kernel
theorem dX9_stone_6 : decode cX9_stone 6 = .ok (.ifCond .eq 48, 3) := by decide +kernel
theorem dX9_stone_9 : decode cX9_stone 9 = .ok (.iload_n 2, 1) := by decide +kernel
theorem dX9_stone_10 : decode cX9_stone 10 = .ok (.invokestatic 97, 3) := by decide +kernel
theorem dX9_stone_13 : decode cX9_stone 13 = .ok (.ifCond .eq 41, 3) := by decide +kernel
theorem dX9_stone_16 : decode cX9_stone 16 = .ok (.iload_n 3, 1) := by decide +kernel
theorem dX9_stone_17 : decode cX9_stone 17 = .ok (.bipush 9, 2) := by decide +kernel
theorem dX9_stone_19 : decode cX9_stone 19 = .ok (.invokestatic 101, 3) := by decide +kernel
theorem dX9_stone_22 : decode cX9_stone 22 = .ok (.ifCond .eq 32, 3) := by decide +kernel
theorem dX9_stone_25 : decode cX9_stone 25 = .ok (.iload 4, 2) := by decide +kernel
theorem dX9_stone_27 : decode cX9_stone 27 = .ok (.bipush 9, 2) := by decide +kernel
theorem dX9_stone_29 : decode cX9_stone 29 = .ok (.invokestatic 101, 3) := by decide +kernel
theorem dX9_stone_32 : decode cX9_stone 32 = .ok (.ifCond .eq 22, 3) := by decide +kernel
theorem dX9_stone_35 : decode cX9_stone 35 = .ok (.iload_n 3, 1) := by decide +kernel
theorem dX9_stone_36 : decode cX9_stone 36 = .ok (.iload 4, 2) := by decide +kernel
theorem dX9_stone_38 : decode cX9_stone 38 = .ok (.if_icmp .gt 16, 3) := by decide +kernel
theorem dX9_stone_41 : decode cX9_stone 41 = .ok (.iload 5, 2) := by decide +kernel
theorem dX9_stone_43 : decode cX9_stone 43 = .ok (.iconst 1, 1) := by decide +kernel
theorem dX9_stone_44 : decode cX9_stone 44 = .ok (.invokestatic 101, 3) := by decide +kernel
theorem dX9_stone_47 : decode cX9_stone 47 = .ok (.ifCond .eq 7, 3) := by decide +kernel
theorem dX9_stone_50 : decode cX9_stone 50 = .ok (.iconst 1, 1) := by decide +kernel
theorem dX9_stone_51 : decode cX9_stone 51 = .ok (.goto 4, 3) := by decide +kernel
theorem dX9_stone_54 : decode cX9_stone 54 = .ok (.iconst 0, 1) := by decide +kernel
theorem dX9_stone_55 : decode cX9_stone 55 = .ok (.istore 6, 2) := by decide +kernel
theorem dX9_stone_57 : decode cX9_stone 57 = .ok (.iload 6, 2) := by decide +kernel
theorem dX9_stone_59 : decode cX9_stone 59 = .ok (.ifCond .ne 6, 3) := by decide +kernel
theorem dX9_stone_62 : decode cX9_stone 62 = .ok (.bipush (-2), 2) := by decide +kernel
theorem dX9_stone_64 : decode cX9_stone 64 = .ok (.ireturn, 1) := by decide +kernel
theorem dX9_stone_65 : decode cX9_stone 65 = .ok (.aload_n 0, 1) := by decide +kernel
theorem dX9_stone_66 : decode cX9_stone 66 = .ok (.getfield 56, 3) := by decide +kernel
theorem dX9_stone_69 : decode cX9_stone 69 = .ok (.iload_n 2, 1) := by decide +kernel
theorem dX9_stone_70 : decode cX9_stone 70 = .ok (.invokevirtual 135, 3) := by decide +kernel
theorem dX9_stone_73 : decode cX9_stone 73 = .ok (.iload_n 1, 1) := by decide +kernel
theorem dX9_stone_74 : decode cX9_stone 74 = .ok (.isub, 1) := by decide +kernel
theorem dX9_stone_75 : decode cX9_stone 75 = .ok (.istore 7, 2) := by decide +kernel
theorem dX9_stone_77 : decode cX9_stone 77 = .ok (.iload 7, 2) := by decide +kernel
theorem dX9_stone_79 : decode cX9_stone 79 = .ok (.iconst 1, 1) := by decide +kernel
theorem dX9_stone_80 : decode cX9_stone 80 = .ok (.if_icmp .lt 9, 3) := by decide +kernel
theorem dX9_stone_83 : decode cX9_stone 83 = .ok (.iload 4, 2) := by decide +kernel
theorem dX9_stone_85 : decode cX9_stone 85 = .ok (.iconst 1, 1) := by decide +kernel
theorem dX9_stone_86 : decode cX9_stone 86 = .ok (.if_icmp .ge 5, 3) := by decide +kernel
theorem dX9_stone_89 : decode cX9_stone 89 = .ok (.iconst (-1), 1) := by decide +kernel
theorem dX9_stone_90 : decode cX9_stone 90 = .ok (.ireturn, 1) := by decide +kernel
theorem dX9_stone_91 : decode cX9_stone 91 = .ok (.iload 5, 2) := by decide +kernel
theorem dX9_stone_93 : decode cX9_stone 93 = .ok (.ifCond .ne 13, 3) := by decide +kernel
theorem dX9_stone_96 : decode cX9_stone 96 = .ok (.iload 7, 2) := by decide +kernel
theorem dX9_stone_98 : decode cX9_stone 98 = .ok (.iload 4, 2) := by decide +kernel
theorem dX9_stone_100 : decode cX9_stone 100 = .ok (.invokestatic 243, 3) := by decide +kernel
theorem dX9_stone_103 : decode cX9_stone 103 = .ok (.iconst 1, 1) := by decide +kernel
theorem dX9_stone_104 : decode cX9_stone 104 = .ok (.isub, 1) := by decide +kernel
theorem dX9_stone_105 : decode cX9_stone 105 = .ok (.ireturn, 1) := by decide +kernel
theorem dX9_stone_106 : decode cX9_stone 106 = .ok (.iload_n 3, 1) := by decide +kernel
theorem dX9_stone_107 : decode cX9_stone 107 = .ok (.iconst 1, 1) := by decide +kernel
theorem dX9_stone_108 : decode cX9_stone 108 = .ok (.if_icmp .ge 9, 3) := by decide +kernel
theorem dX9_stone_111 : decode cX9_stone 111 = .ok (.sipush 999, 3) := by decide +kernel
theorem dX9_stone_114 : decode cX9_stone 114 = .ok (.goto 9, 3) := by decide +kernel
theorem dX9_stone_117 : decode cX9_stone 117 = .ok (.iload 7, 2) := by decide +kernel
theorem dX9_stone_119 : decode cX9_stone 119 = .ok (.iconst 1, 1) := by decide +kernel
theorem dX9_stone_120 : decode cX9_stone 120 = .ok (.isub, 1) := by decide +kernel
theorem dX9_stone_121 : decode cX9_stone 121 = .ok (.iload_n 3, 1) := by decide +kernel
theorem dX9_stone_122 : decode cX9_stone 122 = .ok (.idiv, 1) := by decide +kernel
theorem dX9_stone_123 : decode cX9_stone 123 = .ok (.ireturn, 1) := by decide +kernel
theorem dX9_sheet_0 : decode cX9_sheet 0 = .ok (.iload_n 1, 1) := by decide +kernel
theorem dX9_sheet_1 : decode cX9_sheet 1 = .ok (.invokestatic 109, 3) := by decide +kernel
theorem dX9_sheet_4 : decode cX9_sheet 4 = .ok (.ifCond .eq 16, 3) := by decide +kernel
theorem dX9_sheet_7 : decode cX9_sheet 7 = .ok (.iload_n 2, 1) := by decide +kernel
theorem dX9_sheet_8 : decode cX9_sheet 8 = .ok (.invokestatic 262, 3) := by decide +kernel
theorem dX9_sheet_11 : decode cX9_sheet 11 = .ok (.ifCond .eq 9, 3) := by decide +kernel
theorem dX9_sheet_14 : decode cX9_sheet 14 = .ok (.iload_n 3, 1) := by decide +kernel
theorem dX9_sheet_15 : decode cX9_sheet 15 = .ok (.bipush 60, 2) := by decide +kernel
theorem dX9_sheet_17 : decode cX9_sheet 17 = .ok (.if_icmp .le 6, 3) := by decide +kernel
theorem dX9_sheet_20 : decode cX9_sheet 20 = .ok (.bipush (-2), 2) := by decide +kernel
theorem dX9_sheet_22 : decode cX9_sheet 22 = .ok (.ireturn, 1) := by decide +kernel
theorem dX9_sheet_23 : decode cX9_sheet 23 = .ok (.iload_n 3, 1) := by decide +kernel
theorem dX9_sheet_24 : decode cX9_sheet 24 = .ok (.ifCond .ge 9, 3) := by decide +kernel
theorem dX9_sheet_27 : decode cX9_sheet 27 = .ok (.aload_n 0, 1) := by decide +kernel
theorem dX9_sheet_28 : decode cX9_sheet 28 = .ok (.iconst 5, 1) := by decide +kernel
theorem dX9_sheet_29 : decode cX9_sheet 29 = .ok (.invokevirtual 116, 3) := by decide +kernel
theorem dX9_sheet_32 : decode cX9_sheet 32 = .ok (.ireturn, 1) := by decide +kernel
theorem dX9_sheet_33 : decode cX9_sheet 33 = .ok (.aload_n 0, 1) := by decide +kernel
theorem dX9_sheet_34 : decode cX9_sheet 34 = .ok (.getfield 81, 3) := by decide +kernel
theorem dX9_sheet_37 : decode cX9_sheet 37 = .ok (.iload_n 1, 1) := by decide +kernel
theorem dX9_sheet_38 : decode cX9_sheet 38 = .ok (.aaload, 1) := by decide +kernel
theorem dX9_sheet_39 : decode cX9_sheet 39 = .ok (.iload_n 2, 1) := by decide +kernel
theorem dX9_sheet_40 : decode cX9_sheet 40 = .ok (.iload_n 3, 1) := by decide +kernel
theorem dX9_sheet_41 : decode cX9_sheet 41 = .ok (.invokevirtual 265, 3) := by decide +kernel
theorem dX9_sheet_44 : decode cX9_sheet 44 = .ok (.iload_n 3, 1) := by decide +kernel
theorem dX9_sheet_45 : decode cX9_sheet 45 = .ok (.ireturn, 1) := by decide +kernel
theorem dX9_lose_0 : decode cX9_lose 0 = .ok (.iload_n 1, 1) := by decide +kernel
theorem dX9_lose_1 : decode cX9_lose 1 = .ok (.invokestatic 109, 3) := by decide +kernel
theorem dX9_lose_4 : decode cX9_lose 4 = .ok (.ifCond .ne 6, 3) := by decide +kernel
theorem dX9_lose_7 : decode cX9_lose 7 = .ok (.bipush (-2), 2) := by decide +kernel
theorem dX9_lose_9 : decode cX9_lose 9 = .ok (.ireturn, 1) := by decide +kernel
theorem dX9_lose_10 : decode cX9_lose 10 = .ok (.aload_n 0, 1) := by decide +kernel
theorem dX9_lose_11 : decode cX9_lose 11 = .ok (.getfield 81, 3) := by decide +kernel
theorem dX9_lose_14 : decode cX9_lose 14 = .ok (.iload_n 1, 1) := by decide +kernel
theorem dX9_lose_15 : decode cX9_lose 15 = .ok (.aaload, 1) := by decide +kernel
theorem dX9_lose_16 : decode cX9_lose 16 = .ok (.getfield 112, 3) := by decide +kernel
theorem dX9_lose_19 : decode cX9_lose 19 = .ok (.ifCond .eq 9, 3) := by decide +kernel
theorem dX9_lose_22 : decode cX9_lose 22 = .ok (.aload_n 0, 1) := by decide +kernel
theorem dX9_lose_23 : decode cX9_lose 23 = .ok (.iconst 1, 1) := by decide +kernel
theorem dX9_lose_24 : decode cX9_lose 24 = .ok (.invokevirtual 116, 3) := by decide +kernel
theorem dX9_lose_27 : decode cX9_lose 27 = .ok (.ireturn, 1) := by decide +kernel
theorem dX9_lose_28 : decode cX9_lose 28 = .ok (.aload_n 0, 1) := by decide +kernel
theorem dX9_lose_29 : decode cX9_lose 29 = .ok (.getfield 81, 3) := by decide +kernel
theorem dX9_lose_32 : decode cX9_lose 32 = .ok (.iload_n 1, 1) := by decide +kernel
theorem dX9_lose_33 : decode cX9_lose 33 = .ok (.aaload, 1) := by decide +kernel
theorem dX9_lose_34 : decode cX9_lose 34 = .ok (.iconst 1, 1) := by decide +kernel
theorem dX9_lose_35 : decode cX9_lose 35 = .ok (.putfield 112, 3) := by decide +kernel
theorem dX9_lose_38 : decode cX9_lose 38 = .ok (.aload_n 0, 1) := by decide +kernel
theorem dX9_lose_39 : decode cX9_lose 39 = .ok (.getfield 81, 3) := by decide +kernel
theorem dX9_lose_42 : decode cX9_lose 42 = .ok (.iload_n 1, 1) := by decide +kernel
theorem dX9_lose_43 : decode cX9_lose 43 = .ok (.aaload, 1) := by decide +kernel
theorem dX9_lose_44 : decode cX9_lose 44 = .ok (.getfield 120, 3) := by decide +kernel
theorem dX9_lose_47 : decode cX9_lose 47 = .ok (.ireturn, 1) := by decide +kernel
theorem dX9_put_0 : decode cX9_put 0 = .ok (.iload_n 1, 1) := by decide +kernel
theorem dX9_put_1 : decode cX9_put 1 = .ok (.invokestatic 109, 3) := by decide +kernel
theorem dX9_put_4 : decode cX9_put 4 = .ok (.ifCond .eq 10, 3) := by decide +kernel
theorem dX9_put_7 : decode cX9_put 7 = .ok (.iload_n 2, 1) := by decide +kernel
theorem dX9_put_8 : decode cX9_put 8 = .ok (.invokestatic 262, 3) := by decide +kernel
theorem dX9_put_11 : decode cX9_put 11 = .ok (.ifCond .ne 6, 3) := by decide +kernel
theorem dX9_put_14 : decode cX9_put 14 = .ok (.bipush (-2), 2) := by decide +kernel
theorem dX9_put_16 : decode cX9_put 16 = .ok (.ireturn, 1) := by decide +kernel
theorem dX9_put_17 : decode cX9_put 17 = .ok (.aload_n 0, 1) := by decide +kernel
theorem dX9_put_18 : decode cX9_put 18 = .ok (.getfield 81, 3) := by decide +kernel
theorem dX9_put_21 : decode cX9_put 21 = .ok (.iload_n 1, 1) := by decide +kernel
theorem dX9_put_22 : decode cX9_put 22 = .ok (.aaload, 1) := by decide +kernel
theorem dX9_put_23 : decode cX9_put 23 = .ok (.iload_n 2, 1) := by decide +kernel
theorem dX9_put_24 : decode cX9_put 24 = .ok (.iload_n 3, 1) := by decide +kernel
theorem dX9_put_25 : decode cX9_put 25 = .ok (.invokevirtual 268, 3) := by decide +kernel
theorem dX9_put_28 : decode cX9_put 28 = .ok (.istore 5, 2) := by decide +kernel
theorem dX9_put_30 : decode cX9_put 30 = .ok (.iload 5, 2) := by decide +kernel
theorem dX9_put_32 : decode cX9_put 32 = .ok (.ifCond .eq 10, 3) := by decide +kernel
theorem dX9_put_35 : decode cX9_put 35 = .ok (.aload_n 0, 1) := by decide +kernel
theorem dX9_put_36 : decode cX9_put 36 = .ok (.iload 5, 2) := by decide +kernel
theorem dX9_put_38 : decode cX9_put 38 = .ok (.invokevirtual 116, 3) := by decide +kernel
theorem dX9_put_41 : decode cX9_put 41 = .ok (.ireturn, 1) := by decide +kernel
theorem dX9_put_42 : decode cX9_put 42 = .ok (.aload_n 0, 1) := by decide +kernel
theorem dX9_put_43 : decode cX9_put 43 = .ok (.getfield 81, 3) := by decide +kernel
theorem dX9_put_46 : decode cX9_put 46 = .ok (.iload_n 1, 1) := by decide +kernel
theorem dX9_put_47 : decode cX9_put 47 = .ok (.aaload, 1) := by decide +kernel
theorem dX9_put_48 : decode cX9_put 48 = .ok (.iload_n 3, 1) := by decide +kernel
theorem dX9_put_49 : decode cX9_put 49 = .ok (.iload 4, 2) := by decide +kernel
theorem dX9_put_51 : decode cX9_put 51 = .ok (.invokevirtual 271, 3) := by decide +kernel
theorem dX9_put_54 : decode cX9_put 54 = .ok (.iconst 1, 1) := by decide +kernel
theorem dX9_put_55 : decode cX9_put 55 = .ok (.ireturn, 1) := by decide +kernel
theorem dX9_get_0 : decode cX9_get 0 = .ok (.iload_n 1, 1) := by decide +kernel
theorem dX9_get_1 : decode cX9_get 1 = .ok (.invokestatic 109, 3) := by decide +kernel
theorem dX9_get_4 : decode cX9_get 4 = .ok (.ifCond .eq 10, 3) := by decide +kernel
theorem dX9_get_7 : decode cX9_get 7 = .ok (.iload_n 2, 1) := by decide +kernel
theorem dX9_get_8 : decode cX9_get 8 = .ok (.invokestatic 262, 3) := by decide +kernel
theorem dX9_get_11 : decode cX9_get 11 = .ok (.ifCond .ne 7, 3) := by decide +kernel
theorem dX9_get_14 : decode cX9_get 14 = .ok (.ldc_w 274, 3) := by decide +kernel
theorem dX9_get_17 : decode cX9_get 17 = .ok (.ireturn, 1) := by decide +kernel
theorem dX9_get_18 : decode cX9_get 18 = .ok (.aload_n 0, 1) := by decide +kernel
theorem dX9_get_19 : decode cX9_get 19 = .ok (.getfield 81, 3) := by decide +kernel
theorem dX9_get_22 : decode cX9_get 22 = .ok (.iload_n 1, 1) := by decide +kernel
theorem dX9_get_23 : decode cX9_get 23 = .ok (.aaload, 1) := by decide +kernel
theorem dX9_get_24 : decode cX9_get 24 = .ok (.iload_n 2, 1) := by decide +kernel
theorem dX9_get_25 : decode cX9_get 25 = .ok (.iload_n 3, 1) := by decide +kernel
theorem dX9_get_26 : decode cX9_get 26 = .ok (.invokevirtual 268, 3) := by decide +kernel
theorem dX9_get_29 : decode cX9_get 29 = .ok (.istore 4, 2) := by decide +kernel
theorem dX9_get_31 : decode cX9_get 31 = .ok (.iload 4, 2) := by decide +kernel
theorem dX9_get_33 : decode cX9_get 33 = .ok (.ifCond .eq 13, 3) := by decide +kernel
theorem dX9_get_36 : decode cX9_get 36 = .ok (.aload_n 0, 1) := by decide +kernel
theorem dX9_get_37 : decode cX9_get 37 = .ok (.iload 4, 2) := by decide +kernel
theorem dX9_get_39 : decode cX9_get 39 = .ok (.putfield 89, 3) := by decide +kernel
theorem dX9_get_42 : decode cX9_get 42 = .ok (.ldc_w 274, 3) := by decide +kernel
theorem dX9_get_45 : decode cX9_get 45 = .ok (.ireturn, 1) := by decide +kernel
theorem dX9_get_46 : decode cX9_get 46 = .ok (.aload_n 0, 1) := by decide +kernel
theorem dX9_get_47 : decode cX9_get 47 = .ok (.getfield 81, 3) := by decide +kernel
theorem dX9_get_50 : decode cX9_get 50 = .ok (.iload_n 1, 1) := by decide +kernel
theorem dX9_get_51 : decode cX9_get 51 = .ok (.aaload, 1) := by decide +kernel
theorem dX9_get_52 : decode cX9_get 52 = .ok (.getfield 129, 3) := by decide +kernel
theorem dX9_get_55 : decode cX9_get 55 = .ok (.iload_n 3, 1) := by decide +kernel
theorem dX9_get_56 : decode cX9_get 56 = .ok (.iaload, 1) := by decide +kernel
theorem dX9_get_57 : decode cX9_get 57 = .ok (.ireturn, 1) := by decide +kernel
theorem dX9_copy_0 : decode cX9_copy 0 = .ok (.iload_n 1, 1) := by decide +kernel
theorem dX9_copy_1 : decode cX9_copy 1 = .ok (.invokestatic 109, 3) := by decide +kernel
theorem dX9_copy_4 : decode cX9_copy 4 = .ok (.ifCond .eq 10, 3) := by decide +kernel
theorem dX9_copy_7 : decode cX9_copy 7 = .ok (.iload_n 3, 1) := by decide +kernel
theorem dX9_copy_8 : decode cX9_copy 8 = .ok (.invokestatic 109, 3) := by decide +kernel
theorem dX9_copy_11 : decode cX9_copy 11 = .ok (.ifCond .ne 6, 3) := by decide +kernel
theorem dX9_copy_14 : decode cX9_copy 14 = .ok (.bipush (-2), 2) := by decide +kernel
theorem dX9_copy_16 : decode cX9_copy 16 = .ok (.ireturn, 1) := by decide +kernel
theorem dX9_copy_17 : decode cX9_copy 17 = .ok (.aload_n 0, 1) := by decide +kernel
theorem dX9_copy_18 : decode cX9_copy 18 = .ok (.getfield 81, 3) := by decide +kernel
theorem dX9_copy_21 : decode cX9_copy 21 = .ok (.iload_n 1, 1) := by decide +kernel
theorem dX9_copy_22 : decode cX9_copy 22 = .ok (.aaload, 1) := by decide +kernel
theorem dX9_copy_23 : decode cX9_copy 23 = .ok (.astore 6, 2) := by decide +kernel
theorem dX9_copy_25 : decode cX9_copy 25 = .ok (.aload_n 0, 1) := by decide +kernel
theorem dX9_copy_26 : decode cX9_copy 26 = .ok (.getfield 81, 3) := by decide +kernel
theorem dX9_copy_29 : decode cX9_copy 29 = .ok (.iload_n 3, 1) := by decide +kernel
theorem dX9_copy_30 : decode cX9_copy 30 = .ok (.aaload, 1) := by decide +kernel
theorem dX9_copy_31 : decode cX9_copy 31 = .ok (.astore 7, 2) := by decide +kernel
theorem dX9_copy_33 : decode cX9_copy 33 = .ok (.aload 6, 2) := by decide +kernel
theorem dX9_copy_35 : decode cX9_copy 35 = .ok (.getfield 112, 3) := by decide +kernel
theorem dX9_copy_38 : decode cX9_copy 38 = .ok (.ifCond .ne 11, 3) := by decide +kernel
theorem dX9_copy_41 : decode cX9_copy 41 = .ok (.aload 7, 2) := by decide +kernel
theorem dX9_copy_43 : decode cX9_copy 43 = .ok (.getfield 112, 3) := by decide +kernel
theorem dX9_copy_46 : decode cX9_copy 46 = .ok (.ifCond .eq 9, 3) := by decide +kernel
theorem dX9_copy_49 : decode cX9_copy 49 = .ok (.aload_n 0, 1) := by decide +kernel
theorem dX9_copy_50 : decode cX9_copy 50 = .ok (.iconst 1, 1) := by decide +kernel
theorem dX9_copy_51 : decode cX9_copy 51 = .ok (.invokevirtual 116, 3) := by decide +kernel
theorem dX9_copy_54 : decode cX9_copy 54 = .ok (.ireturn, 1) := by decide +kernel
theorem dX9_copy_55 : decode cX9_copy 55 = .ok (.aload 6, 2) := by decide +kernel
theorem dX9_copy_57 : decode cX9_copy 57 = .ok (.getfield 275, 3) := by decide +kernel
theorem dX9_copy_60 : decode cX9_copy 60 = .ok (.aload 7, 2) := by decide +kernel
theorem dX9_copy_62 : decode cX9_copy 62 = .ok (.getfield 275, 3) := by decide +kernel
theorem dX9_copy_65 : decode cX9_copy 65 = .ok (.if_icmp .eq 9, 3) := by decide +kernel
theorem dX9_copy_68 : decode cX9_copy 68 = .ok (.aload_n 0, 1) := by decide +kernel
theorem dX9_copy_69 : decode cX9_copy 69 = .ok (.iconst 4, 1) := by decide +kernel
theorem dX9_copy_70 : decode cX9_copy 70 = .ok (.invokevirtual 116, 3) := by decide +kernel
theorem dX9_copy_73 : decode cX9_copy 73 = .ok (.ireturn, 1) := by decide +kernel
theorem dX9_copy_74 : decode cX9_copy 74 = .ok (.aload 6, 2) := by decide +kernel
theorem dX9_copy_76 : decode cX9_copy 76 = .ok (.iload_n 2, 1) := by decide +kernel
theorem dX9_copy_77 : decode cX9_copy 77 = .ok (.iload 5, 2) := by decide +kernel
theorem dX9_copy_79 : decode cX9_copy 79 = .ok (.invokevirtual 278, 3) := by decide +kernel
theorem dX9_copy_82 : decode cX9_copy 82 = .ok (.ifCond .eq 15, 3) := by decide +kernel
theorem dX9_copy_85 : decode cX9_copy 85 = .ok (.aload 7, 2) := by decide +kernel
theorem dX9_copy_87 : decode cX9_copy 87 = .ok (.iload 4, 2) := by decide +kernel
theorem dX9_copy_89 : decode cX9_copy 89 = .ok (.iload 5, 2) := by decide +kernel
theorem dX9_copy_91 : decode cX9_copy 91 = .ok (.invokevirtual 278, 3) := by decide +kernel
theorem dX9_copy_94 : decode cX9_copy 94 = .ok (.ifCond .ne 9, 3) := by decide +kernel
theorem dX9_copy_97 : decode cX9_copy 97 = .ok (.aload_n 0, 1) := by decide +kernel
theorem dX9_copy_98 : decode cX9_copy 98 = .ok (.iconst 2, 1) := by decide +kernel
theorem dX9_copy_99 : decode cX9_copy 99 = .ok (.invokevirtual 116, 3) := by decide +kernel
theorem dX9_copy_102 : decode cX9_copy 102 = .ok (.ireturn, 1) := by decide +kernel
theorem dX9_copy_103 : decode cX9_copy 103 = .ok (.aload 6, 2) := by decide +kernel
theorem dX9_copy_105 : decode cX9_copy 105 = .ok (.getfield 129, 3) := by decide +kernel
theorem dX9_copy_108 : decode cX9_copy 108 = .ok (.iload_n 2, 1) := by decide +kernel
theorem dX9_copy_109 : decode cX9_copy 109 = .ok (.aload 7, 2) := by decide +kernel
theorem dX9_copy_111 : decode cX9_copy 111 = .ok (.getfield 129, 3) := by decide +kernel
theorem dX9_copy_114 : decode cX9_copy 114 = .ok (.iload 4, 2) := by decide +kernel
theorem dX9_copy_116 : decode cX9_copy 116 = .ok (.iload 5, 2) := by decide +kernel
theorem dX9_copy_118 : decode cX9_copy 118 = .ok (.invokestatic 281, 3) := by decide +kernel
theorem dX9_copy_121 : decode cX9_copy 121 = .ok (.iconst 1, 1) := by decide +kernel
theorem dX9_copy_122 : decode cX9_copy 122 = .ok (.ireturn, 1) := by decide +kernel
theorem dX9_write_0 : decode cX9_write 0 = .ok (.iload_n 1, 1) := by decide +kernel
theorem dX9_write_1 : decode cX9_write 1 = .ok (.bipush 40, 2) := by decide +kernel
theorem dX9_write_3 : decode cX9_write 3 = .ok (.invokestatic 101, 3) := by decide +kernel
theorem dX9_write_6 : decode cX9_write 6 = .ok (.ifCond .eq 10, 3) := by decide +kernel
theorem dX9_write_9 : decode cX9_write 9 = .ok (.iload_n 2, 1) := by decide +kernel
theorem dX9_write_10 : decode cX9_write 10 = .ok (.invokestatic 109, 3) := by decide +kernel
theorem dX9_write_13 : decode cX9_write 13 = .ok (.ifCond .ne 6, 3) := by decide +kernel
theorem dX9_write_16 : decode cX9_write 16 = .ok (.bipush (-2), 2) := by decide +kernel
theorem dX9_write_18 : decode cX9_write 18 = .ok (.ireturn, 1) := by decide +kernel
theorem dX9_write_19 : decode cX9_write 19 = .ok (.aload_n 0, 1) := by decide +kernel
theorem dX9_write_20 : decode cX9_write 20 = .ok (.getfield 81, 3) := by decide +kernel
theorem dX9_write_23 : decode cX9_write 23 = .ok (.iload_n 2, 1) := by decide +kernel
theorem dX9_write_24 : decode cX9_write 24 = .ok (.aaload, 1) := by decide +kernel
theorem dX9_write_25 : decode cX9_write 25 = .ok (.astore_n 3, 1) := by decide +kernel
theorem dX9_write_26 : decode cX9_write 26 = .ok (.aload_n 3, 1) := by decide +kernel
theorem dX9_write_27 : decode cX9_write 27 = .ok (.getfield 112, 3) := by decide +kernel
theorem dX9_write_30 : decode cX9_write 30 = .ok (.ifCond .eq 9, 3) := by decide +kernel
theorem dX9_write_33 : decode cX9_write 33 = .ok (.aload_n 0, 1) := by decide +kernel
theorem dX9_write_34 : decode cX9_write 34 = .ok (.iconst 1, 1) := by decide +kernel
theorem dX9_write_35 : decode cX9_write 35 = .ok (.invokevirtual 116, 3) := by decide +kernel
theorem dX9_write_38 : decode cX9_write 38 = .ok (.ireturn, 1) := by decide +kernel
theorem dX9_write_39 : decode cX9_write 39 = .ok (.aload_n 3, 1) := by decide +kernel
theorem dX9_write_40 : decode cX9_write 40 = .ok (.getfield 120, 3) := by decide +kernel
theorem dX9_write_43 : decode cX9_write 43 = .ok (.aload_n 0, 1) := by decide +kernel
theorem dX9_write_44 : decode cX9_write 44 = .ok (.getfield 22, 3) := by decide +kernel
theorem dX9_write_47 : decode cX9_write 47 = .ok (.getfield 287, 3) := by decide +kernel
theorem dX9_write_50 : decode cX9_write 50 = .ok (.invokestatic 123, 3) := by decide +kernel
theorem dX9_write_53 : decode cX9_write 53 = .ok (.istore 4, 2) := by decide +kernel
theorem dX9_write_55 : decode cX9_write 55 = .ok (.iconst 0, 1) := by decide +kernel
theorem dX9_write_56 : decode cX9_write 56 = .ok (.istore 5, 2) := by decide +kernel
theorem dX9_write_58 : decode cX9_write 58 = .ok (.iload 5, 2) := by decide +kernel
theorem dX9_write_60 : decode cX9_write 60 = .ok (.iload 4, 2) := by decide +kernel
theorem dX9_write_62 : decode cX9_write 62 = .ok (.if_icmp .ge 29, 3) := by decide +kernel
theorem dX9_write_65 : decode cX9_write 65 = .ok (.aload_n 3, 1) := by decide +kernel
theorem dX9_write_66 : decode cX9_write 66 = .ok (.iload 5, 2) := by decide +kernel
theorem dX9_write_68 : decode cX9_write 68 = .ok (.aload_n 0, 1) := by decide +kernel
theorem dX9_write_69 : decode cX9_write 69 = .ok (.getfield 36, 3) := by decide +kernel
theorem dX9_write_72 : decode cX9_write 72 = .ok (.aload_n 0, 1) := by decide +kernel
theorem dX9_write_73 : decode cX9_write 73 = .ok (.getfield 22, 3) := by decide +kernel
theorem dX9_write_76 : decode cX9_write 76 = .ok (.iload_n 1, 1) := by decide +kernel
theorem dX9_write_77 : decode cX9_write 77 = .ok (.iload 5, 2) := by decide +kernel
theorem dX9_write_79 : decode cX9_write 79 = .ok (.invokevirtual 194, 3) := by decide +kernel
theorem dX9_write_82 : decode cX9_write 82 = .ok (.invokevirtual 271, 3) := by decide +kernel
theorem dX9_write_85 : decode cX9_write 85 = .ok (.iinc 5 1, 3) := by decide +kernel
theorem dX9_write_88 : decode cX9_write 88 = .ok (.goto (-30), 3) := by decide +kernel
theorem dX9_write_91 : decode cX9_write 91 = .ok (.iload 4, 2) := by decide +kernel
theorem dX9_write_93 : decode cX9_write 93 = .ok (.ireturn, 1) := by decide +kernel
theorem dX9_count_0 : decode cX9_count 0 = .ok (.iload_n 1, 1) := by decide +kernel
theorem dX9_count_1 : decode cX9_count 1 = .ok (.tableswitch 117 0 8 #[51, 59, 67, 75, 83, 91, 99, 107, 112], 51) := by decide +kernel
theorem dX9_count_52 : decode cX9_count 52 = .ok (.aload_n 0, 1) := by decide +kernel
theorem dX9_count_53 : decode cX9_count 53 = .ok (.getfield 22, 3) := by decide +kernel
theorem dX9_count_56 : decode cX9_count 56 = .ok (.getfield 287, 3) := by decide +kernel
theorem dX9_count_59 : decode cX9_count 59 = .ok (.ireturn, 1) := by decide +kernel
theorem dX9_count_60 : decode cX9_count 60 = .ok (.aload_n 0, 1) := by decide +kernel
theorem dX9_count_61 : decode cX9_count 61 = .ok (.getfield 10, 3) := by decide +kernel
theorem dX9_count_64 : decode cX9_count 64 = .ok (.getfield 145, 3) := by decide +kernel
theorem dX9_count_67 : decode cX9_count 67 = .ok (.ireturn, 1) := by decide +kernel
theorem dX9_count_68 : decode cX9_count 68 = .ok (.aload_n 0, 1) := by decide +kernel
theorem dX9_count_69 : decode cX9_count 69 = .ok (.getfield 16, 3) := by decide +kernel
theorem dX9_count_72 : decode cX9_count 72 = .ok (.getfield 145, 3) := by decide +kernel
theorem dX9_count_75 : decode cX9_count 75 = .ok (.ireturn, 1) := by decide +kernel
theorem dX9_count_76 : decode cX9_count 76 = .ok (.aload_n 0, 1) := by decide +kernel
theorem dX9_count_77 : decode cX9_count 77 = .ok (.getfield 29, 3) := by decide +kernel
theorem dX9_count_80 : decode cX9_count 80 = .ok (.getfield 182, 3) := by decide +kernel
theorem dX9_count_83 : decode cX9_count 83 = .ok (.ireturn, 1) := by decide +kernel
theorem dX9_count_84 : decode cX9_count 84 = .ok (.aload_n 0, 1) := by decide +kernel
theorem dX9_count_85 : decode cX9_count 85 = .ok (.getfield 63, 3) := by decide +kernel
theorem dX9_count_88 : decode cX9_count 88 = .ok (.getfield 211, 3) := by decide +kernel
theorem dX9_count_91 : decode cX9_count 91 = .ok (.ireturn, 1) := by decide +kernel
theorem dX9_count_92 : decode cX9_count 92 = .ok (.aload_n 0, 1) := by decide +kernel
theorem dX9_count_93 : decode cX9_count 93 = .ok (.getfield 72, 3) := by decide +kernel
theorem dX9_count_96 : decode cX9_count 96 = .ok (.getfield 226, 3) := by decide +kernel
theorem dX9_count_99 : decode cX9_count 99 = .ok (.ireturn, 1) := by decide +kernel
theorem dX9_count_100 : decode cX9_count 100 = .ok (.aload_n 0, 1) := by decide +kernel
theorem dX9_count_101 : decode cX9_count 101 = .ok (.getfield 76, 3) := by decide +kernel
theorem dX9_count_104 : decode cX9_count 104 = .ok (.getfield 226, 3) := by decide +kernel
theorem dX9_count_107 : decode cX9_count 107 = .ok (.ireturn, 1) := by decide +kernel
theorem dX9_count_108 : decode cX9_count 108 = .ok (.aload_n 0, 1) := by decide +kernel
theorem dX9_count_109 : decode cX9_count 109 = .ok (.getfield 85, 3) := by decide +kernel
theorem dX9_count_112 : decode cX9_count 112 = .ok (.ireturn, 1) := by decide +kernel
theorem dX9_count_113 : decode cX9_count 113 = .ok (.aload_n 0, 1) := by decide +kernel
theorem dX9_count_114 : decode cX9_count 114 = .ok (.getfield 89, 3) := by decide +kernel
theorem dX9_count_117 : decode cX9_count 117 = .ok (.ireturn, 1) := by decide +kernel
theorem dX9_count_118 : decode cX9_count 118 = .ok (.bipush (-2), 2) := by decide +kernel
theorem dX9_count_120 : decode cX9_count 120 = .ok (.ireturn, 1) := by decide +kernel
theorem dX9_digest_0 : decode cX9_digest 0 = .ok (.ldc2_w 288, 3) := by decide +kernel
theorem dX9_digest_3 : decode cX9_digest 3 = .ok (.lstore_n 1, 1) := by decide +kernel
theorem dX9_digest_4 : decode cX9_digest 4 = .ok (.iconst 0, 1) := by decide +kernel
theorem dX9_digest_5 : decode cX9_digest 5 = .ok (.istore_n 3, 1) := by decide +kernel
theorem dX9_digest_6 : decode cX9_digest 6 = .ok (.iload_n 3, 1) := by decide +kernel
theorem dX9_digest_7 : decode cX9_digest 7 = .ok (.bipush 7, 2) := by decide +kernel
theorem dX9_digest_9 : decode cX9_digest 9 = .ok (.if_icmp .gt 20, 3) := by decide +kernel
theorem dX9_digest_12 : decode cX9_digest 12 = .ok (.lload_n 1, 1) := by decide +kernel
theorem dX9_digest_13 : decode cX9_digest 13 = .ok (.aload_n 0, 1) := by decide +kernel
theorem dX9_digest_14 : decode cX9_digest 14 = .ok (.iload_n 3, 1) := by decide +kernel
theorem dX9_digest_15 : decode cX9_digest 15 = .ok (.invokevirtual 290, 3) := by decide +kernel
theorem dX9_digest_18 : decode cX9_digest 18 = .ok (.i2l, 1) := by decide +kernel
theorem dX9_digest_19 : decode cX9_digest 19 = .ok (.invokestatic 293, 3) := by decide +kernel
theorem dX9_digest_22 : decode cX9_digest 22 = .ok (.lstore_n 1, 1) := by decide +kernel
theorem dX9_digest_23 : decode cX9_digest 23 = .ok (.iinc 3 1, 3) := by decide +kernel
theorem dX9_digest_26 : decode cX9_digest 26 = .ok (.goto (-20), 3) := by decide +kernel
theorem dX9_digest_29 : decode cX9_digest 29 = .ok (.iconst 0, 1) := by decide +kernel
theorem dX9_digest_30 : decode cX9_digest 30 = .ok (.istore_n 3, 1) := by decide +kernel
theorem dX9_digest_31 : decode cX9_digest 31 = .ok (.iload_n 3, 1) := by decide +kernel
theorem dX9_digest_32 : decode cX9_digest 32 = .ok (.iconst 2, 1) := by decide +kernel
theorem dX9_digest_33 : decode cX9_digest 33 = .ok (.if_icmp .ge 20, 3) := by decide +kernel
theorem dX9_digest_36 : decode cX9_digest 36 = .ok (.lload_n 1, 1) := by decide +kernel
theorem dX9_digest_37 : decode cX9_digest 37 = .ok (.aload_n 0, 1) := by decide +kernel
theorem dX9_digest_38 : decode cX9_digest 38 = .ok (.iload_n 3, 1) := by decide +kernel
theorem dX9_digest_39 : decode cX9_digest 39 = .ok (.invokevirtual 296, 3) := by decide +kernel
theorem dX9_digest_42 : decode cX9_digest 42 = .ok (.i2l, 1) := by decide +kernel
theorem dX9_digest_43 : decode cX9_digest 43 = .ok (.invokestatic 293, 3) := by decide +kernel
theorem dX9_digest_46 : decode cX9_digest 46 = .ok (.lstore_n 1, 1) := by decide +kernel
theorem dX9_digest_47 : decode cX9_digest 47 = .ok (.iinc 3 1, 3) := by decide +kernel
theorem dX9_digest_50 : decode cX9_digest 50 = .ok (.goto (-19), 3) := by decide +kernel
theorem dX9_digest_53 : decode cX9_digest 53 = .ok (.iconst 0, 1) := by decide +kernel
theorem dX9_digest_54 : decode cX9_digest 54 = .ok (.istore_n 3, 1) := by decide +kernel
theorem dX9_digest_55 : decode cX9_digest 55 = .ok (.iload_n 3, 1) := by decide +kernel
theorem dX9_digest_56 : decode cX9_digest 56 = .ok (.aload_n 0, 1) := by decide +kernel
theorem dX9_digest_57 : decode cX9_digest 57 = .ok (.getfield 22, 3) := by decide +kernel
theorem dX9_digest_60 : decode cX9_digest 60 = .ok (.getfield 287, 3) := by decide +kernel
theorem dX9_digest_63 : decode cX9_digest 63 = .ok (.if_icmp .ge 16, 3) := by decide +kernel
theorem dX9_digest_66 : decode cX9_digest 66 = .ok (.aload_n 0, 1) := by decide +kernel
theorem dX9_digest_67 : decode cX9_digest 67 = .ok (.lload_n 1, 1) := by decide +kernel
theorem dX9_digest_68 : decode cX9_digest 68 = .ok (.iload_n 3, 1) := by decide +kernel
theorem dX9_digest_69 : decode cX9_digest 69 = .ok (.invokevirtual 299, 3) := by decide +kernel
theorem dX9_digest_72 : decode cX9_digest 72 = .ok (.lstore_n 1, 1) := by decide +kernel
theorem dX9_digest_73 : decode cX9_digest 73 = .ok (.iinc 3 1, 3) := by decide +kernel
theorem dX9_digest_76 : decode cX9_digest 76 = .ok (.goto (-21), 3) := by decide +kernel
theorem dX9_digest_79 : decode cX9_digest 79 = .ok (.lload_n 1, 1) := by decide +kernel
theorem dX9_digest_80 : decode cX9_digest 80 = .ok (.aload_n 0, 1) := by decide +kernel
theorem dX9_digest_81 : decode cX9_digest 81 = .ok (.iconst 0, 1) := by decide +kernel
theorem dX9_digest_82 : decode cX9_digest 82 = .ok (.invokevirtual 303, 3) := by decide +kernel
theorem dX9_digest_85 : decode cX9_digest 85 = .ok (.i2l, 1) := by decide +kernel
theorem dX9_digest_86 : decode cX9_digest 86 = .ok (.invokestatic 293, 3) := by decide +kernel
theorem dX9_digest_89 : decode cX9_digest 89 = .ok (.lstore_n 1, 1) := by decide +kernel
theorem dX9_digest_90 : decode cX9_digest 90 = .ok (.lload_n 1, 1) := by decide +kernel
theorem dX9_digest_91 : decode cX9_digest 91 = .ok (.aload_n 0, 1) := by decide +kernel
theorem dX9_digest_92 : decode cX9_digest 92 = .ok (.iconst 1, 1) := by decide +kernel
theorem dX9_digest_93 : decode cX9_digest 93 = .ok (.invokevirtual 303, 3) := by decide +kernel
theorem dX9_digest_96 : decode cX9_digest 96 = .ok (.i2l, 1) := by decide +kernel
theorem dX9_digest_97 : decode cX9_digest 97 = .ok (.invokestatic 293, 3) := by decide +kernel
theorem dX9_digest_100 : decode cX9_digest 100 = .ok (.lstore_n 1, 1) := by decide +kernel
theorem dX9_digest_101 : decode cX9_digest 101 = .ok (.iconst 0, 1) := by decide +kernel
theorem dX9_digest_102 : decode cX9_digest 102 = .ok (.istore_n 3, 1) := by decide +kernel
theorem dX9_digest_103 : decode cX9_digest 103 = .ok (.iload_n 3, 1) := by decide +kernel
theorem dX9_digest_104 : decode cX9_digest 104 = .ok (.bipush 20, 2) := by decide +kernel
theorem dX9_digest_106 : decode cX9_digest 106 = .ok (.if_icmp .gt 16, 3) := by decide +kernel
theorem dX9_digest_109 : decode cX9_digest 109 = .ok (.aload_n 0, 1) := by decide +kernel
theorem dX9_digest_110 : decode cX9_digest 110 = .ok (.lload_n 1, 1) := by decide +kernel
theorem dX9_digest_111 : decode cX9_digest 111 = .ok (.iload_n 3, 1) := by decide +kernel
theorem dX9_digest_112 : decode cX9_digest 112 = .ok (.invokevirtual 306, 3) := by decide +kernel
theorem dX9_digest_115 : decode cX9_digest 115 = .ok (.lstore_n 1, 1) := by decide +kernel
theorem dX9_digest_116 : decode cX9_digest 116 = .ok (.iinc 3 10, 3) := by decide +kernel
theorem dX9_digest_119 : decode cX9_digest 119 = .ok (.goto (-16), 3) := by decide +kernel
theorem dX9_digest_122 : decode cX9_digest 122 = .ok (.lload_n 1, 1) := by decide +kernel
theorem dX9_digest_123 : decode cX9_digest 123 = .ok (.aload_n 0, 1) := by decide +kernel
theorem dX9_digest_124 : decode cX9_digest 124 = .ok (.bipush 20, 2) := by decide +kernel
theorem dX9_digest_126 : decode cX9_digest 126 = .ok (.iconst 0, 1) := by decide +kernel
theorem dX9_digest_127 : decode cX9_digest 127 = .ok (.invokevirtual 309, 3) := by decide +kernel
theorem dX9_digest_130 : decode cX9_digest 130 = .ok (.i2l, 1) := by decide +kernel
theorem dX9_digest_131 : decode cX9_digest 131 = .ok (.invokestatic 293, 3) := by decide +kernel
theorem dX9_digest_134 : decode cX9_digest 134 = .ok (.lstore_n 1, 1) := by decide +kernel
theorem dX9_digest_135 : decode cX9_digest 135 = .ok (.lload_n 1, 1) := by decide +kernel
theorem dX9_digest_136 : decode cX9_digest 136 = .ok (.aload_n 0, 1) := by decide +kernel
theorem dX9_digest_137 : decode cX9_digest 137 = .ok (.bipush 20, 2) := by decide +kernel
theorem dX9_digest_139 : decode cX9_digest 139 = .ok (.iconst 5, 1) := by decide +kernel
theorem dX9_digest_140 : decode cX9_digest 140 = .ok (.invokevirtual 309, 3) := by decide +kernel
theorem dX9_digest_143 : decode cX9_digest 143 = .ok (.i2l, 1) := by decide +kernel
theorem dX9_digest_144 : decode cX9_digest 144 = .ok (.invokestatic 293, 3) := by decide +kernel
theorem dX9_digest_147 : decode cX9_digest 147 = .ok (.lstore_n 1, 1) := by decide +kernel
theorem dX9_digest_148 : decode cX9_digest 148 = .ok (.lload_n 1, 1) := by decide +kernel
theorem dX9_digest_149 : decode cX9_digest 149 = .ok (.aload_n 0, 1) := by decide +kernel
theorem dX9_digest_150 : decode cX9_digest 150 = .ok (.bipush 9, 2) := by decide +kernel
theorem dX9_digest_152 : decode cX9_digest 152 = .ok (.iconst (-1), 1) := by decide +kernel
theorem dX9_digest_153 : decode cX9_digest 153 = .ok (.invokevirtual 312, 3) := by decide +kernel
theorem dX9_digest_156 : decode cX9_digest 156 = .ok (.i2l, 1) := by decide +kernel
theorem dX9_digest_157 : decode cX9_digest 157 = .ok (.invokestatic 293, 3) := by decide +kernel
theorem dX9_digest_160 : decode cX9_digest 160 = .ok (.lstore_n 1, 1) := by decide +kernel
theorem dX9_digest_161 : decode cX9_digest 161 = .ok (.lload_n 1, 1) := by decide +kernel
theorem dX9_digest_162 : decode cX9_digest 162 = .ok (.aload_n 0, 1) := by decide +kernel
theorem dX9_digest_163 : decode cX9_digest 163 = .ok (.bipush 12, 2) := by decide +kernel
theorem dX9_digest_165 : decode cX9_digest 165 = .ok (.iconst 0, 1) := by decide +kernel
theorem dX9_digest_166 : decode cX9_digest 166 = .ok (.invokevirtual 315, 3) := by decide +kernel
theorem dX9_digest_169 : decode cX9_digest 169 = .ok (.i2l, 1) := by decide +kernel
theorem dX9_digest_170 : decode cX9_digest 170 = .ok (.invokestatic 293, 3) := by decide +kernel
theorem dX9_digest_173 : decode cX9_digest 173 = .ok (.lstore_n 1, 1) := by decide +kernel
theorem dX9_digest_174 : decode cX9_digest 174 = .ok (.lload_n 1, 1) := by decide +kernel
theorem dX9_digest_175 : decode cX9_digest 175 = .ok (.aload_n 0, 1) := by decide +kernel
theorem dX9_digest_176 : decode cX9_digest 176 = .ok (.bipush 12, 2) := by decide +kernel
theorem dX9_digest_178 : decode cX9_digest 178 = .ok (.iconst 1, 1) := by decide +kernel
theorem dX9_digest_179 : decode cX9_digest 179 = .ok (.invokevirtual 315, 3) := by decide +kernel
theorem dX9_digest_182 : decode cX9_digest 182 = .ok (.i2l, 1) := by decide +kernel
theorem dX9_digest_183 : decode cX9_digest 183 = .ok (.invokestatic 293, 3) := by decide +kernel
theorem dX9_digest_186 : decode cX9_digest 186 = .ok (.lstore_n 1, 1) := by decide +kernel
theorem dX9_digest_187 : decode cX9_digest 187 = .ok (.aload_n 0, 1) := by decide +kernel
theorem dX9_digest_188 : decode cX9_digest 188 = .ok (.getfield 22, 3) := by decide +kernel
theorem dX9_digest_191 : decode cX9_digest 191 = .ok (.getfield 287, 3) := by decide +kernel
theorem dX9_digest_194 : decode cX9_digest 194 = .ok (.iconst 2, 1) := by decide +kernel
theorem dX9_digest_195 : decode cX9_digest 195 = .ok (.if_icmp .ge 7, 3) := by decide +kernel
theorem dX9_digest_198 : decode cX9_digest 198 = .ok (.lload_n 1, 1) := by decide +kernel
theorem dX9_digest_199 : decode cX9_digest 199 = .ok (.goto 16, 3) := by decide +kernel
theorem dX9_digest_202 : decode cX9_digest 202 = .ok (.lload_n 1, 1) := by decide +kernel
theorem dX9_digest_203 : decode cX9_digest 203 = .ok (.aload_n 0, 1) := by decide +kernel
theorem dX9_digest_204 : decode cX9_digest 204 = .ok (.iconst 0, 1) := by decide +kernel
theorem dX9_digest_205 : decode cX9_digest 205 = .ok (.iconst 1, 1) := by decide +kernel
theorem dX9_digest_206 : decode cX9_digest 206 = .ok (.bipush 20, 2) := by decide +kernel
theorem dX9_digest_208 : decode cX9_digest 208 = .ok (.invokevirtual 318, 3) := by decide +kernel
theorem dX9_digest_211 : decode cX9_digest 211 = .ok (.i2l, 1) := by decide +kernel
theorem dX9_digest_212 : decode cX9_digest 212 = .ok (.invokestatic 293, 3) := by decide +kernel
theorem dX9_digest_215 : decode cX9_digest 215 = .ok (.lreturn, 1) := by decide +kernel
theorem dX9_withHouse_0 : decode cX9_withHouse 0 = .ok (.lload_n 1, 1) := by decide +kernel
theorem dX9_withHouse_1 : decode cX9_withHouse 1 = .ok (.lstore 4, 2) := by decide +kernel
theorem dX9_withHouse_3 : decode cX9_withHouse 3 = .ok (.iconst 0, 1) := by decide +kernel
theorem dX9_withHouse_4 : decode cX9_withHouse 4 = .ok (.istore 6, 2) := by decide +kernel
theorem dX9_withHouse_6 : decode cX9_withHouse 6 = .ok (.iload 6, 2) := by decide +kernel
theorem dX9_withHouse_8 : decode cX9_withHouse 8 = .ok (.iconst 2, 1) := by decide +kernel
theorem dX9_withHouse_9 : decode cX9_withHouse 9 = .ok (.if_icmp .gt 24, 3) := by decide +kernel
theorem dX9_withHouse_12 : decode cX9_withHouse 12 = .ok (.lload 4, 2) := by decide +kernel
theorem dX9_withHouse_14 : decode cX9_withHouse 14 = .ok (.aload_n 0, 1) := by decide +kernel
theorem dX9_withHouse_15 : decode cX9_withHouse 15 = .ok (.iload_n 3, 1) := by decide +kernel
theorem dX9_withHouse_16 : decode cX9_withHouse 16 = .ok (.iload 6, 2) := by decide +kernel
theorem dX9_withHouse_18 : decode cX9_withHouse 18 = .ok (.invokevirtual 321, 3) := by decide +kernel
theorem dX9_withHouse_21 : decode cX9_withHouse 21 = .ok (.i2l, 1) := by decide +kernel
theorem dX9_withHouse_22 : decode cX9_withHouse 22 = .ok (.invokestatic 293, 3) := by decide +kernel
theorem dX9_withHouse_25 : decode cX9_withHouse 25 = .ok (.lstore 4, 2) := by decide +kernel
theorem dX9_withHouse_27 : decode cX9_withHouse 27 = .ok (.iinc 6 1, 3) := by decide +kernel
theorem dX9_withHouse_30 : decode cX9_withHouse 30 = .ok (.goto (-24), 3) := by decide +kernel
theorem dX9_withHouse_33 : decode cX9_withHouse 33 = .ok (.lload 4, 2) := by decide +kernel
theorem dX9_withHouse_35 : decode cX9_withHouse 35 = .ok (.aload_n 0, 1) := by decide +kernel
theorem dX9_withHouse_36 : decode cX9_withHouse 36 = .ok (.iload_n 3, 1) := by decide +kernel
theorem dX9_withHouse_37 : decode cX9_withHouse 37 = .ok (.invokevirtual 324, 3) := by decide +kernel
theorem dX9_withHouse_40 : decode cX9_withHouse 40 = .ok (.i2l, 1) := by decide +kernel
theorem dX9_withHouse_41 : decode cX9_withHouse 41 = .ok (.invokestatic 293, 3) := by decide +kernel
theorem dX9_withHouse_44 : decode cX9_withHouse 44 = .ok (.lstore 4, 2) := by decide +kernel
theorem dX9_withHouse_46 : decode cX9_withHouse 46 = .ok (.lload 4, 2) := by decide +kernel
theorem dX9_withHouse_48 : decode cX9_withHouse 48 = .ok (.aload_n 0, 1) := by decide +kernel
theorem dX9_withHouse_49 : decode cX9_withHouse 49 = .ok (.bipush 9, 2) := by decide +kernel
theorem dX9_withHouse_51 : decode cX9_withHouse 51 = .ok (.iload_n 3, 1) := by decide +kernel
theorem dX9_withHouse_52 : decode cX9_withHouse 52 = .ok (.invokevirtual 312, 3) := by decide +kernel
theorem dX9_withHouse_55 : decode cX9_withHouse 55 = .ok (.i2l, 1) := by decide +kernel
theorem dX9_withHouse_56 : decode cX9_withHouse 56 = .ok (.invokestatic 293, 3) := by decide +kernel
theorem dX9_withHouse_59 : decode cX9_withHouse 59 = .ok (.lstore 4, 2) := by decide +kernel
theorem dX9_withHouse_61 : decode cX9_withHouse 61 = .ok (.lload 4, 2) := by decide +kernel
theorem dX9_withHouse_63 : decode cX9_withHouse 63 = .ok (.aload_n 0, 1) := by decide +kernel
theorem dX9_withHouse_64 : decode cX9_withHouse 64 = .ok (.iload_n 3, 1) := by decide +kernel
theorem dX9_withHouse_65 : decode cX9_withHouse 65 = .ok (.bipush 10, 2) := by decide +kernel
theorem dX9_withHouse_67 : decode cX9_withHouse 67 = .ok (.invokevirtual 327, 3) := by decide +kernel
theorem dX9_withHouse_70 : decode cX9_withHouse 70 = .ok (.i2l, 1) := by decide +kernel
theorem dX9_withHouse_71 : decode cX9_withHouse 71 = .ok (.invokestatic 293, 3) := by decide +kernel
theorem dX9_withHouse_74 : decode cX9_withHouse 74 = .ok (.lreturn, 1) := by decide +kernel
theorem dX9_withWeek_0 : decode cX9_withWeek 0 = .ok (.lload_n 1, 1) := by decide +kernel
theorem dX9_withWeek_1 : decode cX9_withWeek 1 = .ok (.aload_n 0, 1) := by decide +kernel
theorem dX9_withWeek_2 : decode cX9_withWeek 2 = .ok (.iload_n 3, 1) := by decide +kernel
theorem dX9_withWeek_3 : decode cX9_withWeek 3 = .ok (.invokevirtual 330, 3) := by decide +kernel
theorem dX9_withWeek_6 : decode cX9_withWeek 6 = .ok (.i2l, 1) := by decide +kernel
theorem dX9_withWeek_7 : decode cX9_withWeek 7 = .ok (.invokestatic 293, 3) := by decide +kernel
theorem dX9_withWeek_10 : decode cX9_withWeek 10 = .ok (.lstore 4, 2) := by decide +kernel
theorem dX9_withWeek_12 : decode cX9_withWeek 12 = .ok (.lload 4, 2) := by decide +kernel
theorem dX9_withWeek_14 : decode cX9_withWeek 14 = .ok (.aload_n 0, 1) := by decide +kernel
theorem dX9_withWeek_15 : decode cX9_withWeek 15 = .ok (.iload_n 3, 1) := by decide +kernel
theorem dX9_withWeek_16 : decode cX9_withWeek 16 = .ok (.invokevirtual 333, 3) := by decide +kernel
theorem dX9_withWeek_19 : decode cX9_withWeek 19 = .ok (.i2l, 1) := by decide +kernel
theorem dX9_withWeek_20 : decode cX9_withWeek 20 = .ok (.invokestatic 293, 3) := by decide +kernel
theorem dX9_withWeek_23 : decode cX9_withWeek 23 = .ok (.lstore 4, 2) := by decide +kernel
theorem dX9_withWeek_25 : decode cX9_withWeek 25 = .ok (.lload 4, 2) := by decide +kernel
theorem dX9_withWeek_27 : decode cX9_withWeek 27 = .ok (.aload_n 0, 1) := by decide +kernel
theorem dX9_withWeek_28 : decode cX9_withWeek 28 = .ok (.iload_n 3, 1) := by decide +kernel
theorem dX9_withWeek_29 : decode cX9_withWeek 29 = .ok (.invokevirtual 336, 3) := by decide +kernel
theorem dX9_withWeek_32 : decode cX9_withWeek 32 = .ok (.i2l, 1) := by decide +kernel
theorem dX9_withWeek_33 : decode cX9_withWeek 33 = .ok (.invokestatic 293, 3) := by decide +kernel
theorem dX9_withWeek_36 : decode cX9_withWeek 36 = .ok (.lstore 4, 2) := by decide +kernel
theorem dX9_withWeek_38 : decode cX9_withWeek 38 = .ok (.lload 4, 2) := by decide +kernel
theorem dX9_withWeek_40 : decode cX9_withWeek 40 = .ok (.aload_n 0, 1) := by decide +kernel
theorem dX9_withWeek_41 : decode cX9_withWeek 41 = .ok (.iload_n 3, 1) := by decide +kernel
theorem dX9_withWeek_42 : decode cX9_withWeek 42 = .ok (.invokevirtual 339, 3) := by decide +kernel
theorem dX9_withWeek_45 : decode cX9_withWeek 45 = .ok (.i2l, 1) := by decide +kernel
theorem dX9_withWeek_46 : decode cX9_withWeek 46 = .ok (.invokestatic 293, 3) := by decide +kernel
theorem dX9_withWeek_49 : decode cX9_withWeek 49 = .ok (.lstore 4, 2) := by decide +kernel
theorem dX9_withWeek_51 : decode cX9_withWeek 51 = .ok (.lload 4, 2) := by decide +kernel
theorem dX9_withWeek_53 : decode cX9_withWeek 53 = .ok (.aload_n 0, 1) := by decide +kernel
theorem dX9_withWeek_54 : decode cX9_withWeek 54 = .ok (.iload_n 3, 1) := by decide +kernel
theorem dX9_withWeek_55 : decode cX9_withWeek 55 = .ok (.invokevirtual 342, 3) := by decide +kernel
theorem dX9_withWeek_58 : decode cX9_withWeek 58 = .ok (.i2l, 1) := by decide +kernel
theorem dX9_withWeek_59 : decode cX9_withWeek 59 = .ok (.invokestatic 293, 3) := by decide +kernel
theorem dX9_withWeek_62 : decode cX9_withWeek 62 = .ok (.lstore 4, 2) := by decide +kernel
theorem dX9_withWeek_64 : decode cX9_withWeek 64 = .ok (.lload 4, 2) := by decide +kernel
theorem dX9_withWeek_66 : decode cX9_withWeek 66 = .ok (.aload_n 0, 1) := by decide +kernel
theorem dX9_withWeek_67 : decode cX9_withWeek 67 = .ok (.iload_n 3, 1) := by decide +kernel
theorem dX9_withWeek_68 : decode cX9_withWeek 68 = .ok (.invokevirtual 345, 3) := by decide +kernel
theorem dX9_withWeek_71 : decode cX9_withWeek 71 = .ok (.i2l, 1) := by decide +kernel
theorem dX9_withWeek_72 : decode cX9_withWeek 72 = .ok (.invokestatic 293, 3) := by decide +kernel
theorem dX9_withWeek_75 : decode cX9_withWeek 75 = .ok (.lreturn, 1) := by decide +kernel
theorem dX9_mixed_0 : decode cX9_mixed 0 = .ok (.ldc2_w 348, 3) := by decide +kernel
theorem dX9_mixed_3 : decode cX9_mixed 3 = .ok (.lload_n 0, 1) := by decide +kernel
theorem dX9_mixed_4 : decode cX9_mixed 4 = .ok (.lmul, 1) := by decide +kernel
theorem dX9_mixed_5 : decode cX9_mixed 5 = .ok (.lload_n 2, 1) := by decide +kernel
theorem dX9_mixed_6 : decode cX9_mixed 6 = .ok (.ladd, 1) := by decide +kernel
theorem dX9_mixed_7 : decode cX9_mixed 7 = .ok (.lreturn, 1) := by decide +kernel
theorem dX9_isWithin_0 : decode cX9_isWithin 0 = .ok (.iload_n 0, 1) := by decide +kernel
theorem dX9_isWithin_1 : decode cX9_isWithin 1 = .ok (.ifCond .lt 12, 3) := by decide +kernel
theorem dX9_isWithin_4 : decode cX9_isWithin 4 = .ok (.iload_n 0, 1) := by decide +kernel
theorem dX9_isWithin_5 : decode cX9_isWithin 5 = .ok (.iload_n 1, 1) := by decide +kernel
theorem dX9_isWithin_6 : decode cX9_isWithin 6 = .ok (.if_icmp .gt 7, 3) := by decide +kernel
theorem dX9_isWithin_9 : decode cX9_isWithin 9 = .ok (.iconst 1, 1) := by decide +kernel
theorem dX9_isWithin_10 : decode cX9_isWithin 10 = .ok (.goto 4, 3) := by decide +kernel
theorem dX9_isWithin_13 : decode cX9_isWithin 13 = .ok (.iconst 0, 1) := by decide +kernel
theorem dX9_isWithin_14 : decode cX9_isWithin 14 = .ok (.ireturn, 1) := by decide +kernel
theorem dX9_isWeek_0 : decode cX9_isWeek 0 = .ok (.iload_n 0, 1) := by decide +kernel
theorem dX9_isWeek_1 : decode cX9_isWeek 1 = .ok (.bipush 51, 2) := by decide +kernel
theorem dX9_isWeek_3 : decode cX9_isWeek 3 = .ok (.invokestatic 101, 3) := by decide +kernel
theorem dX9_isWeek_6 : decode cX9_isWeek 6 = .ok (.ireturn, 1) := by decide +kernel
theorem dX9_isText_0 : decode cX9_isText 0 = .ok (.iload_n 0, 1) := by decide +kernel
theorem dX9_isText_1 : decode cX9_isText 1 = .ok (.iconst 1, 1) := by decide +kernel
theorem dX9_isText_2 : decode cX9_isText 2 = .ok (.invokestatic 101, 3) := by decide +kernel
theorem dX9_isText_5 : decode cX9_isText 5 = .ok (.ireturn, 1) := by decide +kernel
theorem dX9_isSheet_0 : decode cX9_isSheet 0 = .ok (.iload_n 0, 1) := by decide +kernel
theorem dX9_isSheet_1 : decode cX9_isSheet 1 = .ok (.iconst 3, 1) := by decide +kernel
theorem dX9_isSheet_2 : decode cX9_isSheet 2 = .ok (.invokestatic 101, 3) := by decide +kernel
theorem dX9_isSheet_5 : decode cX9_isSheet 5 = .ok (.ireturn, 1) := by decide +kernel
theorem dX9_isForm_0 : decode cX9_isForm 0 = .ok (.iload_n 0, 1) := by decide +kernel
theorem dX9_isForm_1 : decode cX9_isForm 1 = .ok (.iconst 2, 1) := by decide +kernel
theorem dX9_isForm_2 : decode cX9_isForm 2 = .ok (.invokestatic 101, 3) := by decide +kernel
theorem dX9_isForm_5 : decode cX9_isForm 5 = .ok (.ireturn, 1) := by decide +kernel
theorem dX9_isPlot_0 : decode cX9_isPlot 0 = .ok (.iload_n 0, 1) := by decide +kernel
theorem dX9_isPlot_1 : decode cX9_isPlot 1 = .ok (.iconst 3, 1) := by decide +kernel
theorem dX9_isPlot_2 : decode cX9_isPlot 2 = .ok (.invokestatic 101, 3) := by decide +kernel
theorem dX9_isPlot_5 : decode cX9_isPlot 5 = .ok (.ifCond .eq 16, 3) := by decide +kernel
theorem dX9_isPlot_8 : decode cX9_isPlot 8 = .ok (.iload_n 1, 1) := by decide +kernel
theorem dX9_isPlot_9 : decode cX9_isPlot 9 = .ok (.bipush 99, 2) := by decide +kernel
theorem dX9_isPlot_11 : decode cX9_isPlot 11 = .ok (.invokestatic 101, 3) := by decide +kernel
theorem dX9_isPlot_14 : decode cX9_isPlot 14 = .ok (.ifCond .eq 7, 3) := by decide +kernel
theorem dX9_isPlot_17 : decode cX9_isPlot 17 = .ok (.iconst 1, 1) := by decide +kernel
theorem dX9_isPlot_18 : decode cX9_isPlot 18 = .ok (.goto 4, 3) := by decide +kernel
theorem dX9_isPlot_21 : decode cX9_isPlot 21 = .ok (.iconst 0, 1) := by decide +kernel
theorem dX9_isPlot_22 : decode cX9_isPlot 22 = .ok (.ireturn, 1) := by decide +kernel
theorem dX9_isHouse_0 : decode cX9_isHouse 0 = .ok (.iload_n 1, 1) := by decide +kernel
theorem dX9_isHouse_1 : decode cX9_isHouse 1 = .ok (.aload_n 0, 1) := by decide +kernel
theorem dX9_isHouse_2 : decode cX9_isHouse 2 = .ok (.getfield 22, 3) := by decide +kernel
theorem dX9_isHouse_5 : decode cX9_isHouse 5 = .ok (.getfield 287, 3) := by decide +kernel
theorem dX9_isHouse_8 : decode cX9_isHouse 8 = .ok (.iconst 1, 1) := by decide +kernel
theorem dX9_isHouse_9 : decode cX9_isHouse 9 = .ok (.isub, 1) := by decide +kernel
theorem dX9_isHouse_10 : decode cX9_isHouse 10 = .ok (.invokestatic 101, 3) := by decide +kernel
theorem dX9_isHouse_13 : decode cX9_isHouse 13 = .ok (.ireturn, 1) := by decide +kernel
theorem dX9_textOf_0 : decode cX9_textOf 0 = .ok (.iload_n 1, 1) := by decide +kernel
theorem dX9_textOf_1 : decode cX9_textOf 1 = .ok (.ifCond .ne 10, 3) := by decide +kernel
theorem dX9_textOf_4 : decode cX9_textOf 4 = .ok (.aload_n 0, 1) := by decide +kernel
theorem dX9_textOf_5 : decode cX9_textOf 5 = .ok (.getfield 10, 3) := by decide +kernel
theorem dX9_textOf_8 : decode cX9_textOf 8 = .ok (.goto 7, 3) := by decide +kernel
theorem dX9_textOf_11 : decode cX9_textOf 11 = .ok (.aload_n 0, 1) := by decide +kernel
theorem dX9_textOf_12 : decode cX9_textOf 12 = .ok (.getfield 16, 3) := by decide +kernel
theorem dX9_textOf_15 : decode cX9_textOf 15 = .ok (.areturn, 1) := by decide +kernel
theorem dX9_found_0 : decode cX9_found 0 = .ok (.aload_n 0, 1) := by decide +kernel
theorem dX9_found_1 : decode cX9_found 1 = .ok (.iload_n 1, 1) := by decide +kernel
theorem dX9_found_2 : decode cX9_found 2 = .ok (.putfield 89, 3) := by decide +kernel
theorem dX9_found_5 : decode cX9_found 5 = .ok (.bipush (-10), 2) := by decide +kernel
theorem dX9_found_7 : decode cX9_found 7 = .ok (.iload_n 1, 1) := by decide +kernel
theorem dX9_found_8 : decode cX9_found 8 = .ok (.isub, 1) := by decide +kernel
theorem dX9_found_9 : decode cX9_found 9 = .ok (.ireturn, 1) := by decide +kernel
theorem dX9_readAgain_0 : decode cX9_readAgain 0 = .ok (.iload_n 1, 1) := by decide +kernel
theorem dX9_readAgain_1 : decode cX9_readAgain 1 = .ok (.ifCond .ne 25, 3) := by decide +kernel
theorem dX9_readAgain_4 : decode cX9_readAgain 4 = .ok (.aload_n 0, 1) := by decide +kernel
theorem dX9_readAgain_5 : decode cX9_readAgain 5 = .ok (.getfield 22, 3) := by decide +kernel
theorem dX9_readAgain_8 : decode cX9_readAgain 8 = .ok (.aload_n 0, 1) := by decide +kernel
theorem dX9_readAgain_9 : decode cX9_readAgain 9 = .ok (.getfield 10, 3) := by decide +kernel
theorem dX9_readAgain_12 : decode cX9_readAgain 12 = .ok (.invokevirtual 350, 3) := by decide +kernel
theorem dX9_readAgain_15 : decode cX9_readAgain 15 = .ok (.aload_n 0, 1) := by decide +kernel
theorem dX9_readAgain_16 : decode cX9_readAgain 16 = .ok (.getfield 36, 3) := by decide +kernel
theorem dX9_readAgain_19 : decode cX9_readAgain 19 = .ok (.aload_n 0, 1) := by decide +kernel
theorem dX9_readAgain_20 : decode cX9_readAgain 20 = .ok (.getfield 22, 3) := by decide +kernel
theorem dX9_readAgain_23 : decode cX9_readAgain 23 = .ok (.invokevirtual 93, 3) := by decide +kernel
theorem dX9_readAgain_26 : decode cX9_readAgain 26 = .ok (.aload_n 0, 1) := by decide +kernel
theorem dX9_readAgain_27 : decode cX9_readAgain 27 = .ok (.getfield 29, 3) := by decide +kernel
theorem dX9_readAgain_30 : decode cX9_readAgain 30 = .ok (.aload_n 0, 1) := by decide +kernel
theorem dX9_readAgain_31 : decode cX9_readAgain 31 = .ok (.getfield 16, 3) := by decide +kernel
theorem dX9_readAgain_34 : decode cX9_readAgain 34 = .ok (.aload_n 0, 1) := by decide +kernel
theorem dX9_readAgain_35 : decode cX9_readAgain 35 = .ok (.getfield 22, 3) := by decide +kernel
theorem dX9_readAgain_38 : decode cX9_readAgain 38 = .ok (.getfield 287, 3) := by decide +kernel
theorem dX9_readAgain_41 : decode cX9_readAgain 41 = .ok (.invokevirtual 354, 3) := by decide +kernel
theorem dX9_readAgain_44 : decode cX9_readAgain 44 = .ok (.return_, 1) := by decide +kernel
theorem dX9_whyWrong_0 : decode cX9_whyWrong 0 = .ok (.iconst 0, 1) := by decide +kernel
theorem dX9_whyWrong_1 : decode cX9_whyWrong 1 = .ok (.istore 4, 2) := by decide +kernel
theorem dX9_whyWrong_3 : decode cX9_whyWrong 3 = .ok (.iload_n 1, 1) := by decide +kernel
theorem dX9_whyWrong_4 : decode cX9_whyWrong 4 = .ok (.istore 5, 2) := by decide +kernel
theorem dX9_whyWrong_6 : decode cX9_whyWrong 6 = .ok (.iload 5, 2) := by decide +kernel
theorem dX9_whyWrong_8 : decode cX9_whyWrong 8 = .ok (.iload_n 2, 1) := by decide +kernel
theorem dX9_whyWrong_9 : decode cX9_whyWrong 9 = .ok (.if_icmp .ge 48, 3) := by decide +kernel
theorem dX9_whyWrong_12 : decode cX9_whyWrong 12 = .ok (.aload_n 0, 1) := by decide +kernel
theorem dX9_whyWrong_13 : decode cX9_whyWrong 13 = .ok (.getfield 49, 3) := by decide +kernel
theorem dX9_whyWrong_16 : decode cX9_whyWrong 16 = .ok (.aload_n 0, 1) := by decide +kernel
theorem dX9_whyWrong_17 : decode cX9_whyWrong 17 = .ok (.getfield 22, 3) := by decide +kernel
theorem dX9_whyWrong_20 : decode cX9_whyWrong 20 = .ok (.aload_n 0, 1) := by decide +kernel
theorem dX9_whyWrong_21 : decode cX9_whyWrong 21 = .ok (.getfield 29, 3) := by decide +kernel
theorem dX9_whyWrong_24 : decode cX9_whyWrong 24 = .ok (.getfield 183, 3) := by decide +kernel
theorem dX9_whyWrong_27 : decode cX9_whyWrong 27 = .ok (.iload 5, 2) := by decide +kernel
theorem dX9_whyWrong_29 : decode cX9_whyWrong 29 = .ok (.iaload, 1) := by decide +kernel
theorem dX9_whyWrong_30 : decode cX9_whyWrong 30 = .ok (.invokevirtual 186, 3) := by decide +kernel
theorem dX9_whyWrong_33 : decode cX9_whyWrong 33 = .ok (.istore 6, 2) := by decide +kernel
theorem dX9_whyWrong_35 : decode cX9_whyWrong 35 = .ok (.iload 6, 2) := by decide +kernel
theorem dX9_whyWrong_37 : decode cX9_whyWrong 37 = .ok (.bipush (-3), 2) := by decide +kernel
theorem dX9_whyWrong_39 : decode cX9_whyWrong 39 = .ok (.if_icmp .ne 5, 3) := by decide +kernel
theorem dX9_whyWrong_42 : decode cX9_whyWrong 42 = .ok (.iconst 3, 1) := by decide +kernel
theorem dX9_whyWrong_43 : decode cX9_whyWrong 43 = .ok (.ireturn, 1) := by decide +kernel
theorem dX9_whyWrong_44 : decode cX9_whyWrong 44 = .ok (.iload 4, 2) := by decide +kernel
theorem dX9_whyWrong_46 : decode cX9_whyWrong 46 = .ok (.iload 6, 2) := by decide +kernel
theorem dX9_whyWrong_48 : decode cX9_whyWrong 48 = .ok (.iadd, 1) := by decide +kernel
theorem dX9_whyWrong_49 : decode cX9_whyWrong 49 = .ok (.istore 4, 2) := by decide +kernel
theorem dX9_whyWrong_51 : decode cX9_whyWrong 51 = .ok (.iinc 5 1, 3) := by decide +kernel
theorem dX9_whyWrong_54 : decode cX9_whyWrong 54 = .ok (.goto (-48), 3) := by decide +kernel
theorem dX9_whyWrong_57 : decode cX9_whyWrong 57 = .ok (.iload 4, 2) := by decide +kernel
theorem dX9_whyWrong_59 : decode cX9_whyWrong 59 = .ok (.aload_n 0, 1) := by decide +kernel
theorem dX9_whyWrong_60 : decode cX9_whyWrong 60 = .ok (.getfield 85, 3) := by decide +kernel
theorem dX9_whyWrong_63 : decode cX9_whyWrong 63 = .ok (.if_icmp .le 5, 3) := by decide +kernel
theorem dX9_whyWrong_66 : decode cX9_whyWrong 66 = .ok (.iconst 2, 1) := by decide +kernel
theorem dX9_whyWrong_67 : decode cX9_whyWrong 67 = .ok (.ireturn, 1) := by decide +kernel
theorem dX9_whyWrong_68 : decode cX9_whyWrong 68 = .ok (.aload_n 0, 1) := by decide +kernel
theorem dX9_whyWrong_69 : decode cX9_whyWrong 69 = .ok (.getfield 49, 3) := by decide +kernel
theorem dX9_whyWrong_72 : decode cX9_whyWrong 72 = .ok (.iload_n 3, 1) := by decide +kernel
theorem dX9_whyWrong_73 : decode cX9_whyWrong 73 = .ok (.invokevirtual 357, 3) := by decide +kernel
theorem dX9_whyWrong_76 : decode cX9_whyWrong 76 = .ok (.ifCond .eq 7, 3) := by decide +kernel
theorem dX9_whyWrong_79 : decode cX9_whyWrong 79 = .ok (.iconst 1, 1) := by decide +kernel
theorem dX9_whyWrong_80 : decode cX9_whyWrong 80 = .ok (.goto 4, 3) := by decide +kernel
theorem dX9_whyWrong_83 : decode cX9_whyWrong 83 = .ok (.iconst 0, 1) := by decide +kernel
theorem dX9_whyWrong_84 : decode cX9_whyWrong 84 = .ok (.ireturn, 1) := by decide +kernel
theorem dX9_fewestHands_0 : decode cX9_fewestHands 0 = .ok (.aload_n 1, 1) := by decide +kernel
theorem dX9_fewestHands_1 : decode cX9_fewestHands 1 = .ok (.aload_n 0, 1) := by decide +kernel
theorem dX9_fewestHands_2 : decode cX9_fewestHands 2 = .ok (.getfield 56, 3) := by decide +kernel
theorem dX9_fewestHands_5 : decode cX9_fewestHands 5 = .ok (.iload_n 2, 1) := by decide +kernel
theorem dX9_fewestHands_6 : decode cX9_fewestHands 6 = .ok (.invokevirtual 135, 3) := by decide +kernel
theorem dX9_fewestHands_9 : decode cX9_fewestHands 9 = .ok (.invokevirtual 198, 3) := by decide +kernel
theorem dX9_fewestHands_12 : decode cX9_fewestHands 12 = .ok (.istore_n 3, 1) := by decide +kernel
theorem dX9_fewestHands_13 : decode cX9_fewestHands 13 = .ok (.iload_n 3, 1) := by decide +kernel
theorem dX9_fewestHands_14 : decode cX9_fewestHands 14 = .ok (.bipush (-3), 2) := by decide +kernel
theorem dX9_fewestHands_16 : decode cX9_fewestHands 16 = .ok (.if_icmp .ne 6, 3) := by decide +kernel
theorem dX9_fewestHands_19 : decode cX9_fewestHands 19 = .ok (.bipush (-3), 2) := by decide +kernel
theorem dX9_fewestHands_21 : decode cX9_fewestHands 21 = .ok (.ireturn, 1) := by decide +kernel
theorem dX9_fewestHands_22 : decode cX9_fewestHands 22 = .ok (.iconst 0, 1) := by decide +kernel
theorem dX9_fewestHands_23 : decode cX9_fewestHands 23 = .ok (.istore 4, 2) := by decide +kernel
theorem dX9_fewestHands_25 : decode cX9_fewestHands 25 = .ok (.aload_n 1, 1) := by decide +kernel
theorem dX9_fewestHands_26 : decode cX9_fewestHands 26 = .ok (.iload_n 3, 1) := by decide +kernel
theorem dX9_fewestHands_27 : decode cX9_fewestHands 27 = .ok (.invokevirtual 360, 3) := by decide +kernel
theorem dX9_fewestHands_30 : decode cX9_fewestHands 30 = .ok (.istore 5, 2) := by decide +kernel
theorem dX9_fewestHands_32 : decode cX9_fewestHands 32 = .ok (.iconst 0, 1) := by decide +kernel
theorem dX9_fewestHands_33 : decode cX9_fewestHands 33 = .ok (.istore 6, 2) := by decide +kernel
theorem dX9_fewestHands_35 : decode cX9_fewestHands 35 = .ok (.iload 6, 2) := by decide +kernel
theorem dX9_fewestHands_37 : decode cX9_fewestHands 37 = .ok (.bipush 32, 2) := by decide +kernel
theorem dX9_fewestHands_39 : decode cX9_fewestHands 39 = .ok (.if_icmp .ge 50, 3) := by decide +kernel
theorem dX9_fewestHands_42 : decode cX9_fewestHands 42 = .ok (.iload 4, 2) := by decide +kernel
theorem dX9_fewestHands_44 : decode cX9_fewestHands 44 = .ok (.iload 5, 2) := by decide +kernel
theorem dX9_fewestHands_46 : decode cX9_fewestHands 46 = .ok (.if_icmp .ge 43, 3) := by decide +kernel
theorem dX9_fewestHands_49 : decode cX9_fewestHands 49 = .ok (.iload 4, 2) := by decide +kernel
theorem dX9_fewestHands_51 : decode cX9_fewestHands 51 = .ok (.iload 5, 2) := by decide +kernel
theorem dX9_fewestHands_53 : decode cX9_fewestHands 53 = .ok (.iadd, 1) := by decide +kernel
theorem dX9_fewestHands_54 : decode cX9_fewestHands 54 = .ok (.iconst 2, 1) := by decide +kernel
theorem dX9_fewestHands_55 : decode cX9_fewestHands 55 = .ok (.idiv, 1) := by decide +kernel
theorem dX9_fewestHands_56 : decode cX9_fewestHands 56 = .ok (.istore 7, 2) := by decide +kernel
theorem dX9_fewestHands_58 : decode cX9_fewestHands 58 = .ok (.aload_n 0, 1) := by decide +kernel
theorem dX9_fewestHands_59 : decode cX9_fewestHands 59 = .ok (.aload_n 1, 1) := by decide +kernel
theorem dX9_fewestHands_60 : decode cX9_fewestHands 60 = .ok (.iload_n 2, 1) := by decide +kernel
theorem dX9_fewestHands_61 : decode cX9_fewestHands 61 = .ok (.iload_n 3, 1) := by decide +kernel
theorem dX9_fewestHands_62 : decode cX9_fewestHands 62 = .ok (.iload 7, 2) := by decide +kernel
theorem dX9_fewestHands_64 : decode cX9_fewestHands 64 = .ok (.invokevirtual 363, 3) := by decide +kernel
theorem dX9_fewestHands_67 : decode cX9_fewestHands 67 = .ok (.ifCond .eq 10, 3) := by decide +kernel
theorem dX9_fewestHands_70 : decode cX9_fewestHands 70 = .ok (.iload 7, 2) := by decide +kernel
theorem dX9_fewestHands_72 : decode cX9_fewestHands 72 = .ok (.istore 5, 2) := by decide +kernel
theorem dX9_fewestHands_74 : decode cX9_fewestHands 74 = .ok (.goto 9, 3) := by decide +kernel
theorem dX9_fewestHands_77 : decode cX9_fewestHands 77 = .ok (.iload 7, 2) := by decide +kernel
theorem dX9_fewestHands_79 : decode cX9_fewestHands 79 = .ok (.iconst 1, 1) := by decide +kernel
theorem dX9_fewestHands_80 : decode cX9_fewestHands 80 = .ok (.iadd, 1) := by decide +kernel
theorem dX9_fewestHands_81 : decode cX9_fewestHands 81 = .ok (.istore 4, 2) := by decide +kernel
theorem dX9_fewestHands_83 : decode cX9_fewestHands 83 = .ok (.iinc 6 1, 3) := by decide +kernel
theorem dX9_fewestHands_86 : decode cX9_fewestHands 86 = .ok (.goto (-51), 3) := by decide +kernel
theorem dX9_fewestHands_89 : decode cX9_fewestHands 89 = .ok (.iload 4, 2) := by decide +kernel
theorem dX9_fewestHands_91 : decode cX9_fewestHands 91 = .ok (.ireturn, 1) := by decide +kernel
theorem dX9_keepsAhead_0 : decode cX9_keepsAhead 0 = .ok (.aload_n 0, 1) := by decide +kernel
theorem dX9_keepsAhead_1 : decode cX9_keepsAhead 1 = .ok (.getfield 56, 3) := by decide +kernel
theorem dX9_keepsAhead_4 : decode cX9_keepsAhead 4 = .ok (.getfield 132, 3) := by decide +kernel
theorem dX9_keepsAhead_7 : decode cX9_keepsAhead 7 = .ok (.istore 5, 2) := by decide +kernel
theorem dX9_keepsAhead_9 : decode cX9_keepsAhead 9 = .ok (.iconst 0, 1) := by decide +kernel
theorem dX9_keepsAhead_10 : decode cX9_keepsAhead 10 = .ok (.istore 6, 2) := by decide +kernel
theorem dX9_keepsAhead_12 : decode cX9_keepsAhead 12 = .ok (.iconst 0, 1) := by decide +kernel
theorem dX9_keepsAhead_13 : decode cX9_keepsAhead 13 = .ok (.istore 7, 2) := by decide +kernel
theorem dX9_keepsAhead_15 : decode cX9_keepsAhead 15 = .ok (.iconst 0, 1) := by decide +kernel
theorem dX9_keepsAhead_16 : decode cX9_keepsAhead 16 = .ok (.istore 8, 2) := by decide +kernel
theorem dX9_keepsAhead_18 : decode cX9_keepsAhead 18 = .ok (.iload 8, 2) := by decide +kernel
theorem dX9_keepsAhead_20 : decode cX9_keepsAhead 20 = .ok (.iload_n 2, 1) := by decide +kernel
theorem dX9_keepsAhead_21 : decode cX9_keepsAhead 21 = .ok (.if_icmp .gt 55, 3) := by decide +kernel
theorem dX9_keepsAhead_24 : decode cX9_keepsAhead 24 = .ok (.iload 5, 2) := by decide +kernel
theorem dX9_keepsAhead_26 : decode cX9_keepsAhead 26 = .ok (.aload_n 0, 1) := by decide +kernel
theorem dX9_keepsAhead_27 : decode cX9_keepsAhead 27 = .ok (.getfield 56, 3) := by decide +kernel
theorem dX9_keepsAhead_30 : decode cX9_keepsAhead 30 = .ok (.getfield 105, 3) := by decide +kernel
theorem dX9_keepsAhead_33 : decode cX9_keepsAhead 33 = .ok (.iload 8, 2) := by decide +kernel
theorem dX9_keepsAhead_35 : decode cX9_keepsAhead 35 = .ok (.iaload, 1) := by decide +kernel
theorem dX9_keepsAhead_36 : decode cX9_keepsAhead 36 = .ok (.iadd, 1) := by decide +kernel
theorem dX9_keepsAhead_37 : decode cX9_keepsAhead 37 = .ok (.istore 5, 2) := by decide +kernel
theorem dX9_keepsAhead_39 : decode cX9_keepsAhead 39 = .ok (.aload_n 1, 1) := by decide +kernel
theorem dX9_keepsAhead_40 : decode cX9_keepsAhead 40 = .ok (.iload 6, 2) := by decide +kernel
theorem dX9_keepsAhead_42 : decode cX9_keepsAhead 42 = .ok (.iload_n 3, 1) := by decide +kernel
theorem dX9_keepsAhead_43 : decode cX9_keepsAhead 43 = .ok (.iload 4, 2) := by decide +kernel
theorem dX9_keepsAhead_45 : decode cX9_keepsAhead 45 = .ok (.invokevirtual 205, 3) := by decide +kernel
theorem dX9_keepsAhead_48 : decode cX9_keepsAhead 48 = .ok (.istore 6, 2) := by decide +kernel
theorem dX9_keepsAhead_50 : decode cX9_keepsAhead 50 = .ok (.aload_n 1, 1) := by decide +kernel
theorem dX9_keepsAhead_51 : decode cX9_keepsAhead 51 = .ok (.iload 7, 2) := by decide +kernel
theorem dX9_keepsAhead_53 : decode cX9_keepsAhead 53 = .ok (.iload_n 3, 1) := by decide +kernel
theorem dX9_keepsAhead_54 : decode cX9_keepsAhead 54 = .ok (.iload 5, 2) := by decide +kernel
theorem dX9_keepsAhead_56 : decode cX9_keepsAhead 56 = .ok (.invokevirtual 367, 3) := by decide +kernel
theorem dX9_keepsAhead_59 : decode cX9_keepsAhead 59 = .ok (.istore 7, 2) := by decide +kernel
theorem dX9_keepsAhead_61 : decode cX9_keepsAhead 61 = .ok (.iload 6, 2) := by decide +kernel
theorem dX9_keepsAhead_63 : decode cX9_keepsAhead 63 = .ok (.iload 7, 2) := by decide +kernel
theorem dX9_keepsAhead_65 : decode cX9_keepsAhead 65 = .ok (.if_icmp .ge 5, 3) := by decide +kernel
theorem dX9_keepsAhead_68 : decode cX9_keepsAhead 68 = .ok (.iconst 0, 1) := by decide +kernel
theorem dX9_keepsAhead_69 : decode cX9_keepsAhead 69 = .ok (.ireturn, 1) := by decide +kernel
theorem dX9_keepsAhead_70 : decode cX9_keepsAhead 70 = .ok (.iinc 8 1, 3) := by decide +kernel
theorem dX9_keepsAhead_73 : decode cX9_keepsAhead 73 = .ok (.goto (-55), 3) := by decide +kernel
theorem dX9_keepsAhead_76 : decode cX9_keepsAhead 76 = .ok (.iconst 1, 1) := by decide +kernel
theorem dX9_keepsAhead_77 : decode cX9_keepsAhead 77 = .ok (.ireturn, 1) := by decide +kernel
theorem dX9_wellsMet_0 : decode cX9_wellsMet 0 = .ok (.aload_n 0, 1) := by decide +kernel
theorem dX9_wellsMet_1 : decode cX9_wellsMet 1 = .ok (.getfield 36, 3) := by decide +kernel
theorem dX9_wellsMet_4 : decode cX9_wellsMet 4 = .ok (.iload_n 1, 1) := by decide +kernel
theorem dX9_wellsMet_5 : decode cX9_wellsMet 5 = .ok (.invokevirtual 198, 3) := by decide +kernel
theorem dX9_wellsMet_8 : decode cX9_wellsMet 8 = .ok (.istore_n 2, 1) := by decide +kernel
theorem dX9_wellsMet_9 : decode cX9_wellsMet 9 = .ok (.iload_n 2, 1) := by decide +kernel
theorem dX9_wellsMet_10 : decode cX9_wellsMet 10 = .ok (.bipush (-3), 2) := by decide +kernel
theorem dX9_wellsMet_12 : decode cX9_wellsMet 12 = .ok (.if_icmp .ne 8, 3) := by decide +kernel
theorem dX9_wellsMet_15 : decode cX9_wellsMet 15 = .ok (.bipush (-3), 2) := by decide +kernel
theorem dX9_wellsMet_17 : decode cX9_wellsMet 17 = .ok (.goto 20, 3) := by decide +kernel
theorem dX9_wellsMet_20 : decode cX9_wellsMet 20 = .ok (.aload_n 0, 1) := by decide +kernel
theorem dX9_wellsMet_21 : decode cX9_wellsMet 21 = .ok (.getfield 72, 3) := by decide +kernel
theorem dX9_wellsMet_24 : decode cX9_wellsMet 24 = .ok (.iload_n 1, 1) := by decide +kernel
theorem dX9_wellsMet_25 : decode cX9_wellsMet 25 = .ok (.aload_n 0, 1) := by decide +kernel
theorem dX9_wellsMet_26 : decode cX9_wellsMet 26 = .ok (.getfield 36, 3) := by decide +kernel
theorem dX9_wellsMet_29 : decode cX9_wellsMet 29 = .ok (.getfield 370, 3) := by decide +kernel
theorem dX9_wellsMet_32 : decode cX9_wellsMet 32 = .ok (.iload_n 2, 1) := by decide +kernel
theorem dX9_wellsMet_33 : decode cX9_wellsMet 33 = .ok (.iaload, 1) := by decide +kernel
theorem dX9_wellsMet_34 : decode cX9_wellsMet 34 = .ok (.invokevirtual 373, 3) := by decide +kernel
theorem dX9_wellsMet_37 : decode cX9_wellsMet 37 = .ok (.ireturn, 1) := by decide +kernel
theorem dX9_roundedUp_0 : decode cX9_roundedUp 0 = .ok (.iconst 1, 1) := by decide +kernel
theorem dX9_roundedUp_1 : decode cX9_roundedUp 1 = .ok (.iload_n 1, 1) := by decide +kernel
theorem dX9_roundedUp_2 : decode cX9_roundedUp 2 = .ok (.invokestatic 230, 3) := by decide +kernel
theorem dX9_roundedUp_5 : decode cX9_roundedUp 5 = .ok (.istore_n 2, 1) := by decide +kernel
theorem dX9_roundedUp_6 : decode cX9_roundedUp 6 = .ok (.iload_n 0, 1) := by decide +kernel
theorem dX9_roundedUp_7 : decode cX9_roundedUp 7 = .ok (.iload_n 2, 1) := by decide +kernel
theorem dX9_roundedUp_8 : decode cX9_roundedUp 8 = .ok (.iadd, 1) := by decide +kernel
theorem dX9_roundedUp_9 : decode cX9_roundedUp 9 = .ok (.iconst 1, 1) := by decide +kernel
theorem dX9_roundedUp_10 : decode cX9_roundedUp 10 = .ok (.isub, 1) := by decide +kernel
theorem dX9_roundedUp_11 : decode cX9_roundedUp 11 = .ok (.iload_n 2, 1) := by decide +kernel
theorem dX9_roundedUp_12 : decode cX9_roundedUp 12 = .ok (.idiv, 1) := by decide +kernel
theorem dX9_roundedUp_13 : decode cX9_roundedUp 13 = .ok (.ireturn, 1) := by decide +kernel
theorem dX9_commonDivisor_0 : decode cX9_commonDivisor 0 = .ok (.lload_n 0, 1) := by decide +kernel
theorem dX9_commonDivisor_1 : decode cX9_commonDivisor 1 = .ok (.lstore 4, 2) := by decide +kernel
theorem dX9_commonDivisor_3 : decode cX9_commonDivisor 3 = .ok (.lload_n 2, 1) := by decide +kernel
theorem dX9_commonDivisor_4 : decode cX9_commonDivisor 4 = .ok (.lstore 6, 2) := by decide +kernel
theorem dX9_commonDivisor_6 : decode cX9_commonDivisor 6 = .ok (.iconst 0, 1) := by decide +kernel
theorem dX9_commonDivisor_7 : decode cX9_commonDivisor 7 = .ok (.istore 8, 2) := by decide +kernel
theorem dX9_commonDivisor_9 : decode cX9_commonDivisor 9 = .ok (.iload 8, 2) := by decide +kernel
theorem dX9_commonDivisor_11 : decode cX9_commonDivisor 11 = .ok (.sipush 200, 3) := by decide +kernel
theorem dX9_commonDivisor_14 : decode cX9_commonDivisor 14 = .ok (.if_icmp .ge 31, 3) := by decide +kernel
theorem dX9_commonDivisor_17 : decode cX9_commonDivisor 17 = .ok (.lload 6, 2) := by decide +kernel
theorem dX9_commonDivisor_19 : decode cX9_commonDivisor 19 = .ok (.lconst 0, 1) := by decide +kernel
theorem dX9_commonDivisor_20 : decode cX9_commonDivisor 20 = .ok (.lcmp, 1) := by decide +kernel
theorem dX9_commonDivisor_21 : decode cX9_commonDivisor 21 = .ok (.ifCond .eq 24, 3) := by decide +kernel
theorem dX9_commonDivisor_24 : decode cX9_commonDivisor 24 = .ok (.lload 4, 2) := by decide +kernel
theorem dX9_commonDivisor_26 : decode cX9_commonDivisor 26 = .ok (.lload 6, 2) := by decide +kernel
theorem dX9_commonDivisor_28 : decode cX9_commonDivisor 28 = .ok (.lrem, 1) := by decide +kernel
theorem dX9_commonDivisor_29 : decode cX9_commonDivisor 29 = .ok (.lstore 9, 2) := by decide +kernel
theorem dX9_commonDivisor_31 : decode cX9_commonDivisor 31 = .ok (.lload 6, 2) := by decide +kernel
theorem dX9_commonDivisor_33 : decode cX9_commonDivisor 33 = .ok (.lstore 4, 2) := by decide +kernel
theorem dX9_commonDivisor_35 : decode cX9_commonDivisor 35 = .ok (.lload 9, 2) := by decide +kernel
theorem dX9_commonDivisor_37 : decode cX9_commonDivisor 37 = .ok (.lstore 6, 2) := by decide +kernel
theorem dX9_commonDivisor_39 : decode cX9_commonDivisor 39 = .ok (.iinc 8 1, 3) := by decide +kernel
theorem dX9_commonDivisor_42 : decode cX9_commonDivisor 42 = .ok (.goto (-33), 3) := by decide +kernel
theorem dX9_commonDivisor_45 : decode cX9_commonDivisor 45 = .ok (.lload 4, 2) := by decide +kernel
theorem dX9_commonDivisor_47 : decode cX9_commonDivisor 47 = .ok (.lreturn, 1) := by decide +kernel
end
section
theorem dX10_init_0 : decode cX10_init 0 = .ok (.aload_n 0, 1) := by decide +kernel
theorem dX10_init_1 : decode cX10_init 1 = .ok (.invokespecial 1, 3) := by decide +kernel
theorem dX10_init_4 : decode cX10_init 4 = .ok (.aload_n 0, 1) := by decide +kernel
theorem dX10_init_5 : decode cX10_init 5 = .ok (.bipush 52, 2) := by decide +kernel
theorem dX10_init_7 : decode cX10_init 7 = .ok (.newarray .int, 2) := by decide +kernel
theorem dX10_init_9 : decode cX10_init 9 = .ok (.putfield 7, 3) := by decide +kernel
theorem dX10_init_12 : decode cX10_init 12 = .ok (.aload_n 0, 1) := by decide +kernel
theorem dX10_init_13 : decode cX10_init 13 = .ok (.iconst 2, 1) := by decide +kernel
theorem dX10_init_14 : decode cX10_init 14 = .ok (.newarray .int, 2) := by decide +kernel
theorem dX10_init_16 : decode cX10_init 16 = .ok (.putfield 13, 3) := by decide +kernel
theorem dX10_init_19 : decode cX10_init 19 = .ok (.aload_n 0, 1) := by decide +kernel
theorem dX10_init_20 : decode cX10_init 20 = .ok (.iconst 2, 1) := by decide +kernel
theorem dX10_init_21 : decode cX10_init 21 = .ok (.newarray .int, 2) := by decide +kernel
theorem dX10_init_23 : decode cX10_init 23 = .ok (.putfield 16, 3) := by decide +kernel
theorem dX10_init_26 : decode cX10_init 26 = .ok (.aload_n 0, 1) := by decide +kernel
theorem dX10_init_27 : decode cX10_init 27 = .ok (.bipush 120, 2) := by decide +kernel
theorem dX10_init_29 : decode cX10_init 29 = .ok (.newarray .int, 2) := by decide +kernel
theorem dX10_init_31 : decode cX10_init 31 = .ok (.putfield 19, 3) := by decide +kernel
theorem dX10_init_34 : decode cX10_init 34 = .ok (.aload_n 0, 1) := by decide +kernel
theorem dX10_init_35 : decode cX10_init 35 = .ok (.bipush 11, 2) := by decide +kernel
theorem dX10_init_37 : decode cX10_init 37 = .ok (.newarray .int, 2) := by decide +kernel
theorem dX10_init_39 : decode cX10_init 39 = .ok (.putfield 22, 3) := by decide +kernel
theorem dX10_init_42 : decode cX10_init 42 = .ok (.aload_n 0, 1) := by decide +kernel
theorem dX10_init_43 : decode cX10_init 43 = .ok (.bipush 11, 2) := by decide +kernel
theorem dX10_init_45 : decode cX10_init 45 = .ok (.newarray .int, 2) := by decide +kernel
theorem dX10_init_47 : decode cX10_init 47 = .ok (.putfield 25, 3) := by decide +kernel
theorem dX10_init_50 : decode cX10_init 50 = .ok (.aload_n 0, 1) := by decide +kernel
theorem dX10_init_51 : decode cX10_init 51 = .ok (.bipush 11, 2) := by decide +kernel
theorem dX10_init_53 : decode cX10_init 53 = .ok (.newarray .int, 2) := by decide +kernel
theorem dX10_init_55 : decode cX10_init 55 = .ok (.putfield 28, 3) := by decide +kernel
theorem dX10_init_58 : decode cX10_init 58 = .ok (.aload_n 0, 1) := by decide +kernel
theorem dX10_init_59 : decode cX10_init 59 = .ok (.bipush 20, 2) := by decide +kernel
theorem dX10_init_61 : decode cX10_init 61 = .ok (.newarray .int, 2) := by decide +kernel
theorem dX10_init_63 : decode cX10_init 63 = .ok (.putfield 31, 3) := by decide +kernel
theorem dX10_init_66 : decode cX10_init 66 = .ok (.aload_n 0, 1) := by decide +kernel
theorem dX10_init_67 : decode cX10_init 67 = .ok (.bipush 20, 2) := by decide +kernel
theorem dX10_init_69 : decode cX10_init 69 = .ok (.newarray .int, 2) := by decide +kernel
theorem dX10_init_71 : decode cX10_init 71 = .ok (.putfield 34, 3) := by decide +kernel
theorem dX10_init_74 : decode cX10_init 74 = .ok (.aload_n 0, 1) := by decide +kernel
theorem dX10_init_75 : decode cX10_init 75 = .ok (.bipush 11, 2) := by decide +kernel
theorem dX10_init_77 : decode cX10_init 77 = .ok (.newarray .int, 2) := by decide +kernel
theorem dX10_init_79 : decode cX10_init 79 = .ok (.putfield 37, 3) := by decide +kernel
theorem dX10_init_82 : decode cX10_init 82 = .ok (.aload_n 0, 1) := by decide +kernel
theorem dX10_init_83 : decode cX10_init 83 = .ok (.bipush 11, 2) := by decide +kernel
theorem dX10_init_85 : decode cX10_init 85 = .ok (.newarray .int, 2) := by decide +kernel
theorem dX10_init_87 : decode cX10_init 87 = .ok (.putfield 40, 3) := by decide +kernel
theorem dX10_init_90 : decode cX10_init 90 = .ok (.aload_n 0, 1) := by decide +kernel
theorem dX10_init_91 : decode cX10_init 91 = .ok (.sipush 512, 3) := by decide +kernel
theorem dX10_init_94 : decode cX10_init 94 = .ok (.newarray .int, 2) := by decide +kernel
theorem dX10_init_96 : decode cX10_init 96 = .ok (.putfield 43, 3) := by decide +kernel
theorem dX10_init_99 : decode cX10_init 99 = .ok (.aload_n 0, 1) := by decide +kernel
theorem dX10_init_100 : decode cX10_init 100 = .ok (.bipush 52, 2) := by decide +kernel
theorem dX10_init_102 : decode cX10_init 102 = .ok (.newarray .int, 2) := by decide +kernel
theorem dX10_init_104 : decode cX10_init 104 = .ok (.putfield 46, 3) := by decide +kernel
theorem dX10_init_107 : decode cX10_init 107 = .ok (.aload_n 0, 1) := by decide +kernel
theorem dX10_init_108 : decode cX10_init 108 = .ok (.sipush 512, 3) := by decide +kernel
theorem dX10_init_111 : decode cX10_init 111 = .ok (.newarray .int, 2) := by decide +kernel
theorem dX10_init_113 : decode cX10_init 113 = .ok (.putfield 49, 3) := by decide +kernel
theorem dX10_init_116 : decode cX10_init 116 = .ok (.aload_n 0, 1) := by decide +kernel
theorem dX10_init_117 : decode cX10_init 117 = .ok (.bipush 10, 2) := by decide +kernel
theorem dX10_init_119 : decode cX10_init 119 = .ok (.newarray .int, 2) := by decide +kernel
theorem dX10_init_121 : decode cX10_init 121 = .ok (.putfield 52, 3) := by decide +kernel
theorem dX10_init_124 : decode cX10_init 124 = .ok (.aload_n 0, 1) := by decide +kernel
theorem dX10_init_125 : decode cX10_init 125 = .ok (.bipush 10, 2) := by decide +kernel
theorem dX10_init_127 : decode cX10_init 127 = .ok (.newarray .int, 2) := by decide +kernel
theorem dX10_init_129 : decode cX10_init 129 = .ok (.putfield 55, 3) := by decide +kernel
theorem dX10_init_132 : decode cX10_init 132 = .ok (.aload_n 0, 1) := by decide +kernel
theorem dX10_init_133 : decode cX10_init 133 = .ok (.bipush 8, 2) := by decide +kernel
theorem dX10_init_135 : decode cX10_init 135 = .ok (.newarray .int, 2) := by decide +kernel
theorem dX10_init_137 : decode cX10_init 137 = .ok (.putfield 58, 3) := by decide +kernel
theorem dX10_init_140 : decode cX10_init 140 = .ok (.aload_n 0, 1) := by decide +kernel
theorem dX10_init_141 : decode cX10_init 141 = .ok (.bipush 20, 2) := by decide +kernel
theorem dX10_init_143 : decode cX10_init 143 = .ok (.newarray .int, 2) := by decide +kernel
theorem dX10_init_145 : decode cX10_init 145 = .ok (.putfield 61, 3) := by decide +kernel
theorem dX10_init_148 : decode cX10_init 148 = .ok (.aload_n 0, 1) := by decide +kernel
theorem dX10_init_149 : decode cX10_init 149 = .ok (.bipush 20, 2) := by decide +kernel
theorem dX10_init_151 : decode cX10_init 151 = .ok (.newarray .int, 2) := by decide +kernel
theorem dX10_init_153 : decode cX10_init 153 = .ok (.putfield 64, 3) := by decide +kernel
theorem dX10_init_156 : decode cX10_init 156 = .ok (.aload_n 0, 1) := by decide +kernel
theorem dX10_init_157 : decode cX10_init 157 = .ok (.bipush 100, 2) := by decide +kernel
theorem dX10_init_159 : decode cX10_init 159 = .ok (.newarray .long, 2) := by decide +kernel
theorem dX10_init_161 : decode cX10_init 161 = .ok (.putfield 67, 3) := by decide +kernel
theorem dX10_init_164 : decode cX10_init 164 = .ok (.aload_n 0, 1) := by decide +kernel
theorem dX10_init_165 : decode cX10_init 165 = .ok (.iconst 4, 1) := by decide +kernel
theorem dX10_init_166 : decode cX10_init 166 = .ok (.newarray .boolean, 2) := by decide +kernel
theorem dX10_init_168 : decode cX10_init 168 = .ok (.putfield 71, 3) := by decide +kernel
theorem dX10_init_171 : decode cX10_init 171 = .ok (.aload_n 0, 1) := by decide +kernel
theorem dX10_init_172 : decode cX10_init 172 = .ok (.iconst 4, 1) := by decide +kernel
theorem dX10_init_173 : decode cX10_init 173 = .ok (.newarray .int, 2) := by decide +kernel
theorem dX10_init_175 : decode cX10_init 175 = .ok (.putfield 75, 3) := by decide +kernel
theorem dX10_init_178 : decode cX10_init 178 = .ok (.aload_n 0, 1) := by decide +kernel
theorem dX10_init_179 : decode cX10_init 179 = .ok (.iconst 4, 1) := by decide +kernel
theorem dX10_init_180 : decode cX10_init 180 = .ok (.newarray .int, 2) := by decide +kernel
theorem dX10_init_182 : decode cX10_init 182 = .ok (.putfield 78, 3) := by decide +kernel
theorem dX10_init_185 : decode cX10_init 185 = .ok (.aload_n 0, 1) := by decide +kernel
theorem dX10_init_186 : decode cX10_init 186 = .ok (.sipush 240, 3) := by decide +kernel
theorem dX10_init_189 : decode cX10_init 189 = .ok (.newarray .int, 2) := by decide +kernel
theorem dX10_init_191 : decode cX10_init 191 = .ok (.putfield 81, 3) := by decide +kernel
theorem dX10_init_194 : decode cX10_init 194 = .ok (.aload_n 0, 1) := by decide +kernel
theorem dX10_init_195 : decode cX10_init 195 = .ok (.bipush 60, 2) := by decide +kernel
theorem dX10_init_197 : decode cX10_init 197 = .ok (.newarray .int, 2) := by decide +kernel
theorem dX10_init_199 : decode cX10_init 199 = .ok (.putfield 84, 3) := by decide +kernel
theorem dX10_init_202 : decode cX10_init 202 = .ok (.aload_n 0, 1) := by decide +kernel
theorem dX10_init_203 : decode cX10_init 203 = .ok (.getfield 13, 3) := by decide +kernel
theorem dX10_init_206 : decode cX10_init 206 = .ok (.iconst 1, 1) := by decide +kernel
theorem dX10_init_207 : decode cX10_init 207 = .ok (.bipush 9, 2) := by decide +kernel
theorem dX10_init_209 : decode cX10_init 209 = .ok (.iastore, 1) := by decide +kernel
theorem dX10_init_210 : decode cX10_init 210 = .ok (.return_, 1) := by decide +kernel
theorem dX10_in_0 : decode cX10_in 0 = .ok (.iload_n 0, 1) := by decide +kernel
theorem dX10_in_1 : decode cX10_in 1 = .ok (.iload_n 1, 1) := by decide +kernel
theorem dX10_in_2 : decode cX10_in 2 = .ok (.if_icmp .lt 12, 3) := by decide +kernel
theorem dX10_in_5 : decode cX10_in 5 = .ok (.iload_n 0, 1) := by decide +kernel
theorem dX10_in_6 : decode cX10_in 6 = .ok (.iload_n 2, 1) := by decide +kernel
theorem dX10_in_7 : decode cX10_in 7 = .ok (.if_icmp .gt 7, 3) := by decide +kernel
theorem dX10_in_10 : decode cX10_in 10 = .ok (.iconst 1, 1) := by decide +kernel
theorem dX10_in_11 : decode cX10_in 11 = .ok (.goto 4, 3) := by decide +kernel
theorem dX10_in_14 : decode cX10_in 14 = .ok (.iconst 0, 1) := by decide +kernel
theorem dX10_in_15 : decode cX10_in 15 = .ok (.ireturn, 1) := by decide +kernel
theorem dX10_amount_0 : decode cX10_amount 0 = .ok (.iload_n 0, 1) := by decide +kernel
theorem dX10_amount_1 : decode cX10_amount 1 = .ok (.ifCond .ge 8, 3) := by decide +kernel
theorem dX10_amount_4 : decode cX10_amount 4 = .ok (.iload_n 0, 1) := by decide +kernel
theorem dX10_amount_5 : decode cX10_amount 5 = .ok (.ineg, 1) := by decide +kernel
theorem dX10_amount_6 : decode cX10_amount 6 = .ok (.goto 4, 3) := by decide +kernel
theorem dX10_amount_9 : decode cX10_amount 9 = .ok (.iload_n 0, 1) := by decide +kernel
theorem dX10_amount_10 : decode cX10_amount 10 = .ok (.ireturn, 1) := by decide +kernel
theorem dX10_no_0 : decode cX10_no 0 = .ok (.ldc2_w 87, 3) := by decide +kernel
theorem dX10_no_3 : decode cX10_no 3 = .ok (.iload_n 0, 1) := by decide +kernel
theorem dX10_no_4 : decode cX10_no 4 = .ok (.i2l, 1) := by decide +kernel
theorem dX10_no_5 : decode cX10_no 5 = .ok (.lsub, 1) := by decide +kernel
theorem dX10_no_6 : decode cX10_no 6 = .ok (.lreturn, 1) := by decide +kernel
theorem dX10_lowest_0 : decode cX10_lowest 0 = .ok (.lload_n 0, 1) := by decide +kernel
theorem dX10_lowest_1 : decode cX10_lowest 1 = .ok (.lstore 5, 2) := by decide +kernel
theorem dX10_lowest_3 : decode cX10_lowest 3 = .ok (.lload_n 2, 1) := by decide +kernel
theorem dX10_lowest_4 : decode cX10_lowest 4 = .ok (.lstore 7, 2) := by decide +kernel
theorem dX10_lowest_6 : decode cX10_lowest 6 = .ok (.lload 7, 2) := by decide +kernel
theorem dX10_lowest_8 : decode cX10_lowest 8 = .ok (.lconst 0, 1) := by decide +kernel
theorem dX10_lowest_9 : decode cX10_lowest 9 = .ok (.lcmp, 1) := by decide +kernel
theorem dX10_lowest_10 : decode cX10_lowest 10 = .ok (.ifCond .eq 21, 3) := by decide +kernel
theorem dX10_lowest_13 : decode cX10_lowest 13 = .ok (.lload 5, 2) := by decide +kernel
theorem dX10_lowest_15 : decode cX10_lowest 15 = .ok (.lload 7, 2) := by decide +kernel
theorem dX10_lowest_17 : decode cX10_lowest 17 = .ok (.lrem, 1) := by decide +kernel
theorem dX10_lowest_18 : decode cX10_lowest 18 = .ok (.lstore 9, 2) := by decide +kernel
theorem dX10_lowest_20 : decode cX10_lowest 20 = .ok (.lload 7, 2) := by decide +kernel
theorem dX10_lowest_22 : decode cX10_lowest 22 = .ok (.lstore 5, 2) := by decide +kernel
theorem dX10_lowest_24 : decode cX10_lowest 24 = .ok (.lload 9, 2) := by decide +kernel
theorem dX10_lowest_26 : decode cX10_lowest 26 = .ok (.lstore 7, 2) := by decide +kernel
theorem dX10_lowest_28 : decode cX10_lowest 28 = .ok (.goto (-22), 3) := by decide +kernel
theorem dX10_lowest_31 : decode cX10_lowest 31 = .ok (.iload 4, 2) := by decide +kernel
theorem dX10_lowest_33 : decode cX10_lowest 33 = .ok (.ifCond .ne 10, 3) := by decide +kernel
theorem dX10_lowest_36 : decode cX10_lowest 36 = .ok (.lload_n 0, 1) := by decide +kernel
theorem dX10_lowest_37 : decode cX10_lowest 37 = .ok (.lload 5, 2) := by decide +kernel
theorem dX10_lowest_39 : decode cX10_lowest 39 = .ok (.ldiv, 1) := by decide +kernel
theorem dX10_lowest_40 : decode cX10_lowest 40 = .ok (.goto 7, 3) := by decide +kernel
theorem dX10_lowest_43 : decode cX10_lowest 43 = .ok (.lload_n 2, 1) := by decide +kernel
theorem dX10_lowest_44 : decode cX10_lowest 44 = .ok (.lload 5, 2) := by decide +kernel
theorem dX10_lowest_46 : decode cX10_lowest 46 = .ok (.ldiv, 1) := by decide +kernel
theorem dX10_lowest_47 : decode cX10_lowest 47 = .ok (.lreturn, 1) := by decide +kernel
theorem dX10_isWeek_0 : decode cX10_isWeek 0 = .ok (.iload_n 0, 1) := by decide +kernel
theorem dX10_isWeek_1 : decode cX10_isWeek 1 = .ok (.iconst 0, 1) := by decide +kernel
theorem dX10_isWeek_2 : decode cX10_isWeek 2 = .ok (.bipush 51, 2) := by decide +kernel
theorem dX10_isWeek_4 : decode cX10_isWeek 4 = .ok (.invokestatic 89, 3) := by decide +kernel
theorem dX10_isWeek_7 : decode cX10_isWeek 7 = .ok (.ireturn, 1) := by decide +kernel
theorem dX10_wind_0 : decode cX10_wind 0 = .ok (.iload_n 1, 1) := by decide +kernel
theorem dX10_wind_1 : decode cX10_wind 1 = .ok (.invokestatic 93, 3) := by decide +kernel
theorem dX10_wind_4 : decode cX10_wind 4 = .ok (.ifCond .eq 13, 3) := by decide +kernel
theorem dX10_wind_7 : decode cX10_wind 7 = .ok (.iload_n 2, 1) := by decide +kernel
theorem dX10_wind_8 : decode cX10_wind 8 = .ok (.iconst 0, 1) := by decide +kernel
theorem dX10_wind_9 : decode cX10_wind 9 = .ok (.bipush 9, 2) := by decide +kernel
theorem dX10_wind_11 : decode cX10_wind 11 = .ok (.invokestatic 89, 3) := by decide +kernel
theorem dX10_wind_14 : decode cX10_wind 14 = .ok (.ifCond .ne 6, 3) := by decide +kernel
theorem dX10_wind_17 : decode cX10_wind 17 = .ok (.bipush (-2), 2) := by decide +kernel
theorem dX10_wind_19 : decode cX10_wind 19 = .ok (.ireturn, 1) := by decide +kernel
theorem dX10_wind_20 : decode cX10_wind 20 = .ok (.aload_n 0, 1) := by decide +kernel
theorem dX10_wind_21 : decode cX10_wind 21 = .ok (.getfield 7, 3) := by decide +kernel
theorem dX10_wind_24 : decode cX10_wind 24 = .ok (.iload_n 1, 1) := by decide +kernel
theorem dX10_wind_25 : decode cX10_wind 25 = .ok (.iaload, 1) := by decide +kernel
theorem dX10_wind_26 : decode cX10_wind 26 = .ok (.istore_n 3, 1) := by decide +kernel
theorem dX10_wind_27 : decode cX10_wind 27 = .ok (.aload_n 0, 1) := by decide +kernel
theorem dX10_wind_28 : decode cX10_wind 28 = .ok (.getfield 7, 3) := by decide +kernel
theorem dX10_wind_31 : decode cX10_wind 31 = .ok (.iload_n 1, 1) := by decide +kernel
theorem dX10_wind_32 : decode cX10_wind 32 = .ok (.iload_n 2, 1) := by decide +kernel
theorem dX10_wind_33 : decode cX10_wind 33 = .ok (.iastore, 1) := by decide +kernel
theorem dX10_wind_34 : decode cX10_wind 34 = .ok (.iload_n 3, 1) := by decide +kernel
theorem dX10_wind_35 : decode cX10_wind 35 = .ok (.ireturn, 1) := by decide +kernel
theorem dX10_read_0 : decode cX10_read 0 = .ok (.iload_n 1, 1) := by decide +kernel
theorem dX10_read_1 : decode cX10_read 1 = .ok (.invokestatic 97, 3) := by decide +kernel
theorem dX10_read_4 : decode cX10_read 4 = .ok (.ifCond .ne 6, 3) := by decide +kernel
theorem dX10_read_7 : decode cX10_read 7 = .ok (.bipush (-2), 2) := by decide +kernel
theorem dX10_read_9 : decode cX10_read 9 = .ok (.ireturn, 1) := by decide +kernel
theorem dX10_read_10 : decode cX10_read 10 = .ok (.aload_n 0, 1) := by decide +kernel
theorem dX10_read_11 : decode cX10_read 11 = .ok (.getfield 71, 3) := by decide +kernel
theorem dX10_read_14 : decode cX10_read 14 = .ok (.iload_n 1, 1) := by decide +kernel
theorem dX10_read_15 : decode cX10_read 15 = .ok (.baload, 1) := by decide +kernel
theorem dX10_read_16 : decode cX10_read 16 = .ok (.ifCond .ne 9, 3) := by decide +kernel
theorem dX10_read_19 : decode cX10_read 19 = .ok (.aload_n 0, 1) := by decide +kernel
theorem dX10_read_20 : decode cX10_read 20 = .ok (.iconst 1, 1) := by decide +kernel
theorem dX10_read_21 : decode cX10_read 21 = .ok (.invokevirtual 100, 3) := by decide +kernel
theorem dX10_read_24 : decode cX10_read 24 = .ok (.ireturn, 1) := by decide +kernel
theorem dX10_read_25 : decode cX10_read 25 = .ok (.iconst 0, 1) := by decide +kernel
theorem dX10_read_26 : decode cX10_read 26 = .ok (.istore_n 2, 1) := by decide +kernel
theorem dX10_read_27 : decode cX10_read 27 = .ok (.iload_n 2, 1) := by decide +kernel
theorem dX10_read_28 : decode cX10_read 28 = .ok (.aload_n 0, 1) := by decide +kernel
theorem dX10_read_29 : decode cX10_read 29 = .ok (.getfield 78, 3) := by decide +kernel
theorem dX10_read_32 : decode cX10_read 32 = .ok (.iload_n 1, 1) := by decide +kernel
theorem dX10_read_33 : decode cX10_read 33 = .ok (.iaload, 1) := by decide +kernel
theorem dX10_read_34 : decode cX10_read 34 = .ok (.if_icmp .ge 52, 3) := by decide +kernel
theorem dX10_read_37 : decode cX10_read 37 = .ok (.iload_n 2, 1) := by decide +kernel
theorem dX10_read_38 : decode cX10_read 38 = .ok (.bipush 52, 2) := by decide +kernel
theorem dX10_read_40 : decode cX10_read 40 = .ok (.if_icmp .ge 46, 3) := by decide +kernel
theorem dX10_read_43 : decode cX10_read 43 = .ok (.aload_n 0, 1) := by decide +kernel
theorem dX10_read_44 : decode cX10_read 44 = .ok (.getfield 81, 3) := by decide +kernel
theorem dX10_read_47 : decode cX10_read 47 = .ok (.bipush 60, 2) := by decide +kernel
theorem dX10_read_49 : decode cX10_read 49 = .ok (.iload_n 1, 1) := by decide +kernel
theorem dX10_read_50 : decode cX10_read 50 = .ok (.imul, 1) := by decide +kernel
theorem dX10_read_51 : decode cX10_read 51 = .ok (.iload_n 2, 1) := by decide +kernel
theorem dX10_read_52 : decode cX10_read 52 = .ok (.iadd, 1) := by decide +kernel
theorem dX10_read_53 : decode cX10_read 53 = .ok (.iaload, 1) := by decide +kernel
theorem dX10_read_54 : decode cX10_read 54 = .ok (.iconst 0, 1) := by decide +kernel
theorem dX10_read_55 : decode cX10_read 55 = .ok (.bipush 9, 2) := by decide +kernel
theorem dX10_read_57 : decode cX10_read 57 = .ok (.invokestatic 89, 3) := by decide +kernel
theorem dX10_read_60 : decode cX10_read 60 = .ok (.ifCond .eq 26, 3) := by decide +kernel
theorem dX10_read_63 : decode cX10_read 63 = .ok (.aload_n 0, 1) := by decide +kernel
theorem dX10_read_64 : decode cX10_read 64 = .ok (.getfield 7, 3) := by decide +kernel
theorem dX10_read_67 : decode cX10_read 67 = .ok (.iload_n 2, 1) := by decide +kernel
theorem dX10_read_68 : decode cX10_read 68 = .ok (.aload_n 0, 1) := by decide +kernel
theorem dX10_read_69 : decode cX10_read 69 = .ok (.getfield 81, 3) := by decide +kernel
theorem dX10_read_72 : decode cX10_read 72 = .ok (.bipush 60, 2) := by decide +kernel
theorem dX10_read_74 : decode cX10_read 74 = .ok (.iload_n 1, 1) := by decide +kernel
theorem dX10_read_75 : decode cX10_read 75 = .ok (.imul, 1) := by decide +kernel
theorem dX10_read_76 : decode cX10_read 76 = .ok (.iload_n 2, 1) := by decide +kernel
theorem dX10_read_77 : decode cX10_read 77 = .ok (.iadd, 1) := by decide +kernel
theorem dX10_read_78 : decode cX10_read 78 = .ok (.iaload, 1) := by decide +kernel
theorem dX10_read_79 : decode cX10_read 79 = .ok (.iastore, 1) := by decide +kernel
theorem dX10_read_80 : decode cX10_read 80 = .ok (.iinc 2 1, 3) := by decide +kernel
theorem dX10_read_83 : decode cX10_read 83 = .ok (.goto (-56), 3) := by decide +kernel
theorem dX10_read_86 : decode cX10_read 86 = .ok (.iload_n 2, 1) := by decide +kernel
theorem dX10_read_87 : decode cX10_read 87 = .ok (.ireturn, 1) := by decide +kernel
theorem dX10_set_0 : decode cX10_set 0 = .ok (.iload_n 1, 1) := by decide +kernel
theorem dX10_set_1 : decode cX10_set 1 = .ok (.iconst 0, 1) := by decide +kernel
theorem dX10_set_2 : decode cX10_set 2 = .ok (.iconst 1, 1) := by decide +kernel
theorem dX10_set_3 : decode cX10_set 3 = .ok (.invokestatic 89, 3) := by decide +kernel
theorem dX10_set_6 : decode cX10_set 6 = .ok (.ifCond .eq 13, 3) := by decide +kernel
theorem dX10_set_9 : decode cX10_set 9 = .ok (.iload_n 2, 1) := by decide +kernel
theorem dX10_set_10 : decode cX10_set 10 = .ok (.iconst 0, 1) := by decide +kernel
theorem dX10_set_11 : decode cX10_set 11 = .ok (.bipush 99, 2) := by decide +kernel
theorem dX10_set_13 : decode cX10_set 13 = .ok (.invokestatic 89, 3) := by decide +kernel
theorem dX10_set_16 : decode cX10_set 16 = .ok (.ifCond .ne 6, 3) := by decide +kernel
theorem dX10_set_19 : decode cX10_set 19 = .ok (.bipush (-2), 2) := by decide +kernel
theorem dX10_set_21 : decode cX10_set 21 = .ok (.ireturn, 1) := by decide +kernel
theorem dX10_set_22 : decode cX10_set 22 = .ok (.aload_n 0, 1) := by decide +kernel
theorem dX10_set_23 : decode cX10_set 23 = .ok (.getfield 13, 3) := by decide +kernel
theorem dX10_set_26 : decode cX10_set 26 = .ok (.iload_n 1, 1) := by decide +kernel
theorem dX10_set_27 : decode cX10_set 27 = .ok (.iaload, 1) := by decide +kernel
theorem dX10_set_28 : decode cX10_set 28 = .ok (.istore_n 3, 1) := by decide +kernel
theorem dX10_set_29 : decode cX10_set 29 = .ok (.aload_n 0, 1) := by decide +kernel
theorem dX10_set_30 : decode cX10_set 30 = .ok (.getfield 13, 3) := by decide +kernel
theorem dX10_set_33 : decode cX10_set 33 = .ok (.iload_n 1, 1) := by decide +kernel
theorem dX10_set_34 : decode cX10_set 34 = .ok (.iload_n 2, 1) := by decide +kernel
theorem dX10_set_35 : decode cX10_set 35 = .ok (.iastore, 1) := by decide +kernel
theorem dX10_set_36 : decode cX10_set 36 = .ok (.iload_n 3, 1) := by decide +kernel
theorem dX10_set_37 : decode cX10_set 37 = .ok (.ireturn, 1) := by decide +kernel
theorem dX10_footOf_0 : decode cX10_footOf 0 = .ok (.aload_n 0, 1) := by decide +kernel
theorem dX10_footOf_1 : decode cX10_footOf 1 = .ok (.getfield 13, 3) := by decide +kernel
theorem dX10_footOf_4 : decode cX10_footOf 4 = .ok (.iconst 0, 1) := by decide +kernel
theorem dX10_footOf_5 : decode cX10_footOf 5 = .ok (.iaload, 1) := by decide +kernel
theorem dX10_footOf_6 : decode cX10_footOf 6 = .ok (.istore_n 2, 1) := by decide +kernel
theorem dX10_footOf_7 : decode cX10_footOf 7 = .ok (.iconst 0, 1) := by decide +kernel
theorem dX10_footOf_8 : decode cX10_footOf 8 = .ok (.istore_n 3, 1) := by decide +kernel
theorem dX10_footOf_9 : decode cX10_footOf 9 = .ok (.iload_n 3, 1) := by decide +kernel
theorem dX10_footOf_10 : decode cX10_footOf 10 = .ok (.iload_n 1, 1) := by decide +kernel
theorem dX10_footOf_11 : decode cX10_footOf 11 = .ok (.if_icmp .gt 18, 3) := by decide +kernel
theorem dX10_footOf_14 : decode cX10_footOf 14 = .ok (.iload_n 2, 1) := by decide +kernel
theorem dX10_footOf_15 : decode cX10_footOf 15 = .ok (.aload_n 0, 1) := by decide +kernel
theorem dX10_footOf_16 : decode cX10_footOf 16 = .ok (.getfield 7, 3) := by decide +kernel
theorem dX10_footOf_19 : decode cX10_footOf 19 = .ok (.iload_n 3, 1) := by decide +kernel
theorem dX10_footOf_20 : decode cX10_footOf 20 = .ok (.iaload, 1) := by decide +kernel
theorem dX10_footOf_21 : decode cX10_footOf 21 = .ok (.iadd, 1) := by decide +kernel
theorem dX10_footOf_22 : decode cX10_footOf 22 = .ok (.istore_n 2, 1) := by decide +kernel
theorem dX10_footOf_23 : decode cX10_footOf 23 = .ok (.iinc 3 1, 3) := by decide +kernel
theorem dX10_footOf_26 : decode cX10_footOf 26 = .ok (.goto (-17), 3) := by decide +kernel
theorem dX10_footOf_29 : decode cX10_footOf 29 = .ok (.iload_n 2, 1) := by decide +kernel
theorem dX10_footOf_30 : decode cX10_footOf 30 = .ok (.ireturn, 1) := by decide +kernel
theorem dX10_foot_0 : decode cX10_foot 0 = .ok (.iload_n 1, 1) := by decide +kernel
theorem dX10_foot_1 : decode cX10_foot 1 = .ok (.invokestatic 93, 3) := by decide +kernel
theorem dX10_foot_4 : decode cX10_foot 4 = .ok (.ifCond .eq 11, 3) := by decide +kernel
theorem dX10_foot_7 : decode cX10_foot 7 = .ok (.aload_n 0, 1) := by decide +kernel
theorem dX10_foot_8 : decode cX10_foot 8 = .ok (.iload_n 1, 1) := by decide +kernel
theorem dX10_foot_9 : decode cX10_foot 9 = .ok (.invokevirtual 104, 3) := by decide +kernel
theorem dX10_foot_12 : decode cX10_foot 12 = .ok (.goto 5, 3) := by decide +kernel
theorem dX10_foot_15 : decode cX10_foot 15 = .ok (.bipush (-2), 2) := by decide +kernel
theorem dX10_foot_17 : decode cX10_foot 17 = .ok (.ireturn, 1) := by decide +kernel
theorem dX10_type_0 : decode cX10_type 0 = .ok (.iload_n 1, 1) := by decide +kernel
theorem dX10_type_1 : decode cX10_type 1 = .ok (.iconst 0, 1) := by decide +kernel
theorem dX10_type_2 : decode cX10_type 2 = .ok (.iconst 1, 1) := by decide +kernel
theorem dX10_type_3 : decode cX10_type 3 = .ok (.invokestatic 89, 3) := by decide +kernel
theorem dX10_type_6 : decode cX10_type 6 = .ok (.ifCond .eq 14, 3) := by decide +kernel
theorem dX10_type_9 : decode cX10_type 9 = .ok (.iload_n 2, 1) := by decide +kernel
theorem dX10_type_10 : decode cX10_type 10 = .ok (.iconst 0, 1) := by decide +kernel
theorem dX10_type_11 : decode cX10_type 11 = .ok (.sipush 255, 3) := by decide +kernel
theorem dX10_type_14 : decode cX10_type 14 = .ok (.invokestatic 89, 3) := by decide +kernel
theorem dX10_type_17 : decode cX10_type 17 = .ok (.ifCond .ne 6, 3) := by decide +kernel
theorem dX10_type_20 : decode cX10_type 20 = .ok (.bipush (-2), 2) := by decide +kernel
theorem dX10_type_22 : decode cX10_type 22 = .ok (.ireturn, 1) := by decide +kernel
theorem dX10_type_23 : decode cX10_type 23 = .ok (.aload_n 0, 1) := by decide +kernel
theorem dX10_type_24 : decode cX10_type 24 = .ok (.getfield 16, 3) := by decide +kernel
theorem dX10_type_27 : decode cX10_type 27 = .ok (.iload_n 1, 1) := by decide +kernel
theorem dX10_type_28 : decode cX10_type 28 = .ok (.iaload, 1) := by decide +kernel
theorem dX10_type_29 : decode cX10_type 29 = .ok (.bipush 60, 2) := by decide +kernel
theorem dX10_type_31 : decode cX10_type 31 = .ok (.if_icmp .ne 6, 3) := by decide +kernel
theorem dX10_type_34 : decode cX10_type 34 = .ok (.bipush (-4), 2) := by decide +kernel
theorem dX10_type_36 : decode cX10_type 36 = .ok (.ireturn, 1) := by decide +kernel
theorem dX10_type_37 : decode cX10_type 37 = .ok (.aload_n 0, 1) := by decide +kernel
theorem dX10_type_38 : decode cX10_type 38 = .ok (.getfield 19, 3) := by decide +kernel
theorem dX10_type_41 : decode cX10_type 41 = .ok (.bipush 60, 2) := by decide +kernel
theorem dX10_type_43 : decode cX10_type 43 = .ok (.iload_n 1, 1) := by decide +kernel
theorem dX10_type_44 : decode cX10_type 44 = .ok (.imul, 1) := by decide +kernel
theorem dX10_type_45 : decode cX10_type 45 = .ok (.aload_n 0, 1) := by decide +kernel
theorem dX10_type_46 : decode cX10_type 46 = .ok (.getfield 16, 3) := by decide +kernel
theorem dX10_type_49 : decode cX10_type 49 = .ok (.iload_n 1, 1) := by decide +kernel
theorem dX10_type_50 : decode cX10_type 50 = .ok (.iaload, 1) := by decide +kernel
theorem dX10_type_51 : decode cX10_type 51 = .ok (.iadd, 1) := by decide +kernel
theorem dX10_type_52 : decode cX10_type 52 = .ok (.iload_n 2, 1) := by decide +kernel
theorem dX10_type_53 : decode cX10_type 53 = .ok (.iastore, 1) := by decide +kernel
theorem dX10_type_54 : decode cX10_type 54 = .ok (.aload_n 0, 1) := by decide +kernel
theorem dX10_type_55 : decode cX10_type 55 = .ok (.getfield 16, 3) := by decide +kernel
theorem dX10_type_58 : decode cX10_type 58 = .ok (.iload_n 1, 1) := by decide +kernel
theorem dX10_type_59 : decode cX10_type 59 = .ok (.dup2, 1) := by decide +kernel
theorem dX10_type_60 : decode cX10_type 60 = .ok (.iaload, 1) := by decide +kernel
theorem dX10_type_61 : decode cX10_type 61 = .ok (.iconst 1, 1) := by decide +kernel
theorem dX10_type_62 : decode cX10_type 62 = .ok (.iadd, 1) := by decide +kernel
theorem dX10_type_63 : decode cX10_type 63 = .ok (.iastore, 1) := by decide +kernel
theorem dX10_type_64 : decode cX10_type 64 = .ok (.aload_n 0, 1) := by decide +kernel
theorem dX10_type_65 : decode cX10_type 65 = .ok (.getfield 16, 3) := by decide +kernel
theorem dX10_type_68 : decode cX10_type 68 = .ok (.iload_n 1, 1) := by decide +kernel
theorem dX10_type_69 : decode cX10_type 69 = .ok (.iaload, 1) := by decide +kernel
theorem dX10_type_70 : decode cX10_type 70 = .ok (.ireturn, 1) := by decide +kernel
theorem dX10_wipe_0 : decode cX10_wipe 0 = .ok (.iload_n 1, 1) := by decide +kernel
theorem dX10_wipe_1 : decode cX10_wipe 1 = .ok (.iconst 0, 1) := by decide +kernel
theorem dX10_wipe_2 : decode cX10_wipe 2 = .ok (.iconst 1, 1) := by decide +kernel
theorem dX10_wipe_3 : decode cX10_wipe 3 = .ok (.invokestatic 89, 3) := by decide +kernel
theorem dX10_wipe_6 : decode cX10_wipe 6 = .ok (.ifCond .ne 6, 3) := by decide +kernel
theorem dX10_wipe_9 : decode cX10_wipe 9 = .ok (.bipush (-2), 2) := by decide +kernel
theorem dX10_wipe_11 : decode cX10_wipe 11 = .ok (.ireturn, 1) := by decide +kernel
theorem dX10_wipe_12 : decode cX10_wipe 12 = .ok (.aload_n 0, 1) := by decide +kernel
theorem dX10_wipe_13 : decode cX10_wipe 13 = .ok (.getfield 16, 3) := by decide +kernel
theorem dX10_wipe_16 : decode cX10_wipe 16 = .ok (.iload_n 1, 1) := by decide +kernel
theorem dX10_wipe_17 : decode cX10_wipe 17 = .ok (.iaload, 1) := by decide +kernel
theorem dX10_wipe_18 : decode cX10_wipe 18 = .ok (.istore_n 2, 1) := by decide +kernel
theorem dX10_wipe_19 : decode cX10_wipe 19 = .ok (.aload_n 0, 1) := by decide +kernel
theorem dX10_wipe_20 : decode cX10_wipe 20 = .ok (.getfield 16, 3) := by decide +kernel
theorem dX10_wipe_23 : decode cX10_wipe 23 = .ok (.iload_n 1, 1) := by decide +kernel
theorem dX10_wipe_24 : decode cX10_wipe 24 = .ok (.iconst 0, 1) := by decide +kernel
theorem dX10_wipe_25 : decode cX10_wipe 25 = .ok (.iastore, 1) := by decide +kernel
theorem dX10_wipe_26 : decode cX10_wipe 26 = .ok (.iload_n 2, 1) := by decide +kernel
theorem dX10_wipe_27 : decode cX10_wipe 27 = .ok (.ireturn, 1) := by decide +kernel
theorem dX10_byteAt_0 : decode cX10_byteAt 0 = .ok (.iload_n 2, 1) := by decide +kernel
theorem dX10_byteAt_1 : decode cX10_byteAt 1 = .ok (.aload_n 0, 1) := by decide +kernel
theorem dX10_byteAt_2 : decode cX10_byteAt 2 = .ok (.getfield 16, 3) := by decide +kernel
theorem dX10_byteAt_5 : decode cX10_byteAt 5 = .ok (.iload_n 1, 1) := by decide +kernel
theorem dX10_byteAt_6 : decode cX10_byteAt 6 = .ok (.iaload, 1) := by decide +kernel
theorem dX10_byteAt_7 : decode cX10_byteAt 7 = .ok (.if_icmp .ge 17, 3) := by decide +kernel
theorem dX10_byteAt_10 : decode cX10_byteAt 10 = .ok (.aload_n 0, 1) := by decide +kernel
theorem dX10_byteAt_11 : decode cX10_byteAt 11 = .ok (.getfield 19, 3) := by decide +kernel
theorem dX10_byteAt_14 : decode cX10_byteAt 14 = .ok (.bipush 60, 2) := by decide +kernel
theorem dX10_byteAt_16 : decode cX10_byteAt 16 = .ok (.iload_n 1, 1) := by decide +kernel
theorem dX10_byteAt_17 : decode cX10_byteAt 17 = .ok (.imul, 1) := by decide +kernel
theorem dX10_byteAt_18 : decode cX10_byteAt 18 = .ok (.iload_n 2, 1) := by decide +kernel
theorem dX10_byteAt_19 : decode cX10_byteAt 19 = .ok (.iadd, 1) := by decide +kernel
theorem dX10_byteAt_20 : decode cX10_byteAt 20 = .ok (.iaload, 1) := by decide +kernel
theorem dX10_byteAt_21 : decode cX10_byteAt 21 = .ok (.goto 4, 3) := by decide +kernel
theorem dX10_byteAt_24 : decode cX10_byteAt 24 = .ok (.iconst (-1), 1) := by decide +kernel
theorem dX10_byteAt_25 : decode cX10_byteAt 25 = .ok (.ireturn, 1) := by decide +kernel
theorem dX10_figureAt_0 : decode cX10_figureAt 0 = .ok (.aload_n 0, 1) := by decide +kernel
theorem dX10_figureAt_1 : decode cX10_figureAt 1 = .ok (.iload_n 1, 1) := by decide +kernel
theorem dX10_figureAt_2 : decode cX10_figureAt 2 = .ok (.iload_n 2, 1) := by decide +kernel
theorem dX10_figureAt_3 : decode cX10_figureAt 3 = .ok (.invokevirtual 107, 3) := by decide +kernel
theorem dX10_figureAt_6 : decode cX10_figureAt 6 = .ok (.istore_n 3, 1) := by decide +kernel
theorem dX10_figureAt_7 : decode cX10_figureAt 7 = .ok (.iload_n 3, 1) := by decide +kernel
theorem dX10_figureAt_8 : decode cX10_figureAt 8 = .ok (.bipush 48, 2) := by decide +kernel
theorem dX10_figureAt_10 : decode cX10_figureAt 10 = .ok (.bipush 57, 2) := by decide +kernel
theorem dX10_figureAt_12 : decode cX10_figureAt 12 = .ok (.invokestatic 89, 3) := by decide +kernel
theorem dX10_figureAt_15 : decode cX10_figureAt 15 = .ok (.ifCond .eq 10, 3) := by decide +kernel
theorem dX10_figureAt_18 : decode cX10_figureAt 18 = .ok (.iload_n 3, 1) := by decide +kernel
theorem dX10_figureAt_19 : decode cX10_figureAt 19 = .ok (.bipush 48, 2) := by decide +kernel
theorem dX10_figureAt_21 : decode cX10_figureAt 21 = .ok (.isub, 1) := by decide +kernel
theorem dX10_figureAt_22 : decode cX10_figureAt 22 = .ok (.goto 4, 3) := by decide +kernel
theorem dX10_figureAt_25 : decode cX10_figureAt 25 = .ok (.iconst (-1), 1) := by decide +kernel
theorem dX10_figureAt_26 : decode cX10_figureAt 26 = .ok (.ireturn, 1) := by decide +kernel
theorem dX10_townFault_0 : decode cX10_townFault 0 = .ok (.aload_n 0, 1) := by decide +kernel
theorem dX10_townFault_1 : decode cX10_townFault 1 = .ok (.iconst 0, 1) := by decide +kernel
theorem dX10_townFault_2 : decode cX10_townFault 2 = .ok (.putfield 111, 3) := by decide +kernel
theorem dX10_townFault_5 : decode cX10_townFault 5 = .ok (.iconst 0, 1) := by decide +kernel
theorem dX10_townFault_6 : decode cX10_townFault 6 = .ok (.istore_n 1, 1) := by decide +kernel
theorem dX10_townFault_7 : decode cX10_townFault 7 = .ok (.iconst 0, 1) := by decide +kernel
theorem dX10_townFault_8 : decode cX10_townFault 8 = .ok (.istore_n 2, 1) := by decide +kernel
theorem dX10_townFault_9 : decode cX10_townFault 9 = .ok (.iload_n 2, 1) := by decide +kernel
theorem dX10_townFault_10 : decode cX10_townFault 10 = .ok (.aload_n 0, 1) := by decide +kernel
theorem dX10_townFault_11 : decode cX10_townFault 11 = .ok (.getfield 16, 3) := by decide +kernel
theorem dX10_townFault_14 : decode cX10_townFault 14 = .ok (.iconst 0, 1) := by decide +kernel
theorem dX10_townFault_15 : decode cX10_townFault 15 = .ok (.iaload, 1) := by decide +kernel
theorem dX10_townFault_16 : decode cX10_townFault 16 = .ok (.if_icmp .lt 7, 3) := by decide +kernel
theorem dX10_townFault_19 : decode cX10_townFault 19 = .ok (.iload_n 2, 1) := by decide +kernel
theorem dX10_townFault_20 : decode cX10_townFault 20 = .ok (.ifCond .le 264, 3) := by decide +kernel
theorem dX10_townFault_23 : decode cX10_townFault 23 = .ok (.aload_n 0, 1) := by decide +kernel
theorem dX10_townFault_24 : decode cX10_townFault 24 = .ok (.iconst 0, 1) := by decide +kernel
theorem dX10_townFault_25 : decode cX10_townFault 25 = .ok (.iload_n 2, 1) := by decide +kernel
theorem dX10_townFault_26 : decode cX10_townFault 26 = .ok (.invokevirtual 107, 3) := by decide +kernel
theorem dX10_townFault_29 : decode cX10_townFault 29 = .ok (.istore_n 3, 1) := by decide +kernel
theorem dX10_townFault_30 : decode cX10_townFault 30 = .ok (.iload_n 1, 1) := by decide +kernel
theorem dX10_townFault_31 : decode cX10_townFault 31 = .ok (.bipush 10, 2) := by decide +kernel
theorem dX10_townFault_33 : decode cX10_townFault 33 = .ok (.if_icmp .eq 27, 3) := by decide +kernel
theorem dX10_townFault_36 : decode cX10_townFault 36 = .ok (.iload_n 3, 1) := by decide +kernel
theorem dX10_townFault_37 : decode cX10_townFault 37 = .ok (.bipush 115, 2) := by decide +kernel
theorem dX10_townFault_39 : decode cX10_townFault 39 = .ok (.if_icmp .eq 23, 3) := by decide +kernel
theorem dX10_townFault_42 : decode cX10_townFault 42 = .ok (.iload_n 3, 1) := by decide +kernel
theorem dX10_townFault_43 : decode cX10_townFault 43 = .ok (.bipush 116, 2) := by decide +kernel
theorem dX10_townFault_45 : decode cX10_townFault 45 = .ok (.if_icmp .eq 17, 3) := by decide +kernel
theorem dX10_townFault_48 : decode cX10_townFault 48 = .ok (.iload_n 3, 1) := by decide +kernel
theorem dX10_townFault_49 : decode cX10_townFault 49 = .ok (.bipush 114, 2) := by decide +kernel
theorem dX10_townFault_51 : decode cX10_townFault 51 = .ok (.if_icmp .eq 11, 3) := by decide +kernel
theorem dX10_townFault_54 : decode cX10_townFault 54 = .ok (.iload_n 3, 1) := by decide +kernel
theorem dX10_townFault_55 : decode cX10_townFault 55 = .ok (.bipush 99, 2) := by decide +kernel
theorem dX10_townFault_57 : decode cX10_townFault 57 = .ok (.if_icmp .eq 5, 3) := by decide +kernel
theorem dX10_townFault_60 : decode cX10_townFault 60 = .ok (.iload_n 2, 1) := by decide +kernel
theorem dX10_townFault_61 : decode cX10_townFault 61 = .ok (.ireturn, 1) := by decide +kernel
theorem dX10_townFault_62 : decode cX10_townFault 62 = .ok (.aload_n 0, 1) := by decide +kernel
theorem dX10_townFault_63 : decode cX10_townFault 63 = .ok (.iconst 0, 1) := by decide +kernel
theorem dX10_townFault_64 : decode cX10_townFault 64 = .ok (.iload_n 2, 1) := by decide +kernel
theorem dX10_townFault_65 : decode cX10_townFault 65 = .ok (.iconst 1, 1) := by decide +kernel
theorem dX10_townFault_66 : decode cX10_townFault 66 = .ok (.iadd, 1) := by decide +kernel
theorem dX10_townFault_67 : decode cX10_townFault 67 = .ok (.invokevirtual 115, 3) := by decide +kernel
theorem dX10_townFault_70 : decode cX10_townFault 70 = .ok (.iconst 0, 1) := by decide +kernel
theorem dX10_townFault_71 : decode cX10_townFault 71 = .ok (.iconst 3, 1) := by decide +kernel
theorem dX10_townFault_72 : decode cX10_townFault 72 = .ok (.invokestatic 89, 3) := by decide +kernel
theorem dX10_townFault_75 : decode cX10_townFault 75 = .ok (.ifCond .ne 7, 3) := by decide +kernel
theorem dX10_townFault_78 : decode cX10_townFault 78 = .ok (.iload_n 2, 1) := by decide +kernel
theorem dX10_townFault_79 : decode cX10_townFault 79 = .ok (.iconst 1, 1) := by decide +kernel
theorem dX10_townFault_80 : decode cX10_townFault 80 = .ok (.iadd, 1) := by decide +kernel
theorem dX10_townFault_81 : decode cX10_townFault 81 = .ok (.ireturn, 1) := by decide +kernel
theorem dX10_townFault_82 : decode cX10_townFault 82 = .ok (.aload_n 0, 1) := by decide +kernel
theorem dX10_townFault_83 : decode cX10_townFault 83 = .ok (.iconst 0, 1) := by decide +kernel
theorem dX10_townFault_84 : decode cX10_townFault 84 = .ok (.iload_n 2, 1) := by decide +kernel
theorem dX10_townFault_85 : decode cX10_townFault 85 = .ok (.iconst 2, 1) := by decide +kernel
theorem dX10_townFault_86 : decode cX10_townFault 86 = .ok (.iadd, 1) := by decide +kernel
theorem dX10_townFault_87 : decode cX10_townFault 87 = .ok (.invokevirtual 115, 3) := by decide +kernel
theorem dX10_townFault_90 : decode cX10_townFault 90 = .ok (.iconst (-1), 1) := by decide +kernel
theorem dX10_townFault_91 : decode cX10_townFault 91 = .ok (.if_icmp .ne 7, 3) := by decide +kernel
theorem dX10_townFault_94 : decode cX10_townFault 94 = .ok (.iload_n 2, 1) := by decide +kernel
theorem dX10_townFault_95 : decode cX10_townFault 95 = .ok (.iconst 2, 1) := by decide +kernel
theorem dX10_townFault_96 : decode cX10_townFault 96 = .ok (.iadd, 1) := by decide +kernel
theorem dX10_townFault_97 : decode cX10_townFault 97 = .ok (.ireturn, 1) := by decide +kernel
theorem dX10_townFault_98 : decode cX10_townFault 98 = .ok (.aload_n 0, 1) := by decide +kernel
theorem dX10_townFault_99 : decode cX10_townFault 99 = .ok (.iconst 0, 1) := by decide +kernel
theorem dX10_townFault_100 : decode cX10_townFault 100 = .ok (.iload_n 2, 1) := by decide +kernel
theorem dX10_townFault_101 : decode cX10_townFault 101 = .ok (.iconst 3, 1) := by decide +kernel
theorem dX10_townFault_102 : decode cX10_townFault 102 = .ok (.iadd, 1) := by decide +kernel
theorem dX10_townFault_103 : decode cX10_townFault 103 = .ok (.invokevirtual 115, 3) := by decide +kernel
theorem dX10_townFault_106 : decode cX10_townFault 106 = .ok (.iconst (-1), 1) := by decide +kernel
theorem dX10_townFault_107 : decode cX10_townFault 107 = .ok (.if_icmp .ne 7, 3) := by decide +kernel
theorem dX10_townFault_110 : decode cX10_townFault 110 = .ok (.iload_n 2, 1) := by decide +kernel
theorem dX10_townFault_111 : decode cX10_townFault 111 = .ok (.iconst 3, 1) := by decide +kernel
theorem dX10_townFault_112 : decode cX10_townFault 112 = .ok (.iadd, 1) := by decide +kernel
theorem dX10_townFault_113 : decode cX10_townFault 113 = .ok (.ireturn, 1) := by decide +kernel
theorem dX10_townFault_114 : decode cX10_townFault 114 = .ok (.aload_n 0, 1) := by decide +kernel
theorem dX10_townFault_115 : decode cX10_townFault 115 = .ok (.getfield 22, 3) := by decide +kernel
theorem dX10_townFault_118 : decode cX10_townFault 118 = .ok (.iload_n 1, 1) := by decide +kernel
theorem dX10_townFault_119 : decode cX10_townFault 119 = .ok (.iload_n 3, 1) := by decide +kernel
theorem dX10_townFault_120 : decode cX10_townFault 120 = .ok (.bipush 115, 2) := by decide +kernel
theorem dX10_townFault_122 : decode cX10_townFault 122 = .ok (.if_icmp .ne 7, 3) := by decide +kernel
theorem dX10_townFault_125 : decode cX10_townFault 125 = .ok (.iconst 0, 1) := by decide +kernel
theorem dX10_townFault_126 : decode cX10_townFault 126 = .ok (.goto 24, 3) := by decide +kernel
theorem dX10_townFault_129 : decode cX10_townFault 129 = .ok (.iload_n 3, 1) := by decide +kernel
theorem dX10_townFault_130 : decode cX10_townFault 130 = .ok (.bipush 116, 2) := by decide +kernel
theorem dX10_townFault_132 : decode cX10_townFault 132 = .ok (.if_icmp .ne 7, 3) := by decide +kernel
theorem dX10_townFault_135 : decode cX10_townFault 135 = .ok (.iconst 1, 1) := by decide +kernel
theorem dX10_townFault_136 : decode cX10_townFault 136 = .ok (.goto 14, 3) := by decide +kernel
theorem dX10_townFault_139 : decode cX10_townFault 139 = .ok (.iload_n 3, 1) := by decide +kernel
theorem dX10_townFault_140 : decode cX10_townFault 140 = .ok (.bipush 114, 2) := by decide +kernel
theorem dX10_townFault_142 : decode cX10_townFault 142 = .ok (.if_icmp .ne 7, 3) := by decide +kernel
theorem dX10_townFault_145 : decode cX10_townFault 145 = .ok (.iconst 2, 1) := by decide +kernel
theorem dX10_townFault_146 : decode cX10_townFault 146 = .ok (.goto 4, 3) := by decide +kernel
theorem dX10_townFault_149 : decode cX10_townFault 149 = .ok (.iconst 3, 1) := by decide +kernel
theorem dX10_townFault_150 : decode cX10_townFault 150 = .ok (.iastore, 1) := by decide +kernel
theorem dX10_townFault_151 : decode cX10_townFault 151 = .ok (.aload_n 0, 1) := by decide +kernel
theorem dX10_townFault_152 : decode cX10_townFault 152 = .ok (.getfield 25, 3) := by decide +kernel
theorem dX10_townFault_155 : decode cX10_townFault 155 = .ok (.iload_n 1, 1) := by decide +kernel
theorem dX10_townFault_156 : decode cX10_townFault 156 = .ok (.aload_n 0, 1) := by decide +kernel
theorem dX10_townFault_157 : decode cX10_townFault 157 = .ok (.iconst 0, 1) := by decide +kernel
theorem dX10_townFault_158 : decode cX10_townFault 158 = .ok (.iload_n 2, 1) := by decide +kernel
theorem dX10_townFault_159 : decode cX10_townFault 159 = .ok (.iconst 1, 1) := by decide +kernel
theorem dX10_townFault_160 : decode cX10_townFault 160 = .ok (.iadd, 1) := by decide +kernel
theorem dX10_townFault_161 : decode cX10_townFault 161 = .ok (.invokevirtual 115, 3) := by decide +kernel
theorem dX10_townFault_164 : decode cX10_townFault 164 = .ok (.iastore, 1) := by decide +kernel
theorem dX10_townFault_165 : decode cX10_townFault 165 = .ok (.aload_n 0, 1) := by decide +kernel
theorem dX10_townFault_166 : decode cX10_townFault 166 = .ok (.getfield 28, 3) := by decide +kernel
theorem dX10_townFault_169 : decode cX10_townFault 169 = .ok (.iload_n 1, 1) := by decide +kernel
theorem dX10_townFault_170 : decode cX10_townFault 170 = .ok (.bipush 10, 2) := by decide +kernel
theorem dX10_townFault_172 : decode cX10_townFault 172 = .ok (.aload_n 0, 1) := by decide +kernel
theorem dX10_townFault_173 : decode cX10_townFault 173 = .ok (.iconst 0, 1) := by decide +kernel
theorem dX10_townFault_174 : decode cX10_townFault 174 = .ok (.iload_n 2, 1) := by decide +kernel
theorem dX10_townFault_175 : decode cX10_townFault 175 = .ok (.iconst 2, 1) := by decide +kernel
theorem dX10_townFault_176 : decode cX10_townFault 176 = .ok (.iadd, 1) := by decide +kernel
theorem dX10_townFault_177 : decode cX10_townFault 177 = .ok (.invokevirtual 115, 3) := by decide +kernel
theorem dX10_townFault_180 : decode cX10_townFault 180 = .ok (.imul, 1) := by decide +kernel
theorem dX10_townFault_181 : decode cX10_townFault 181 = .ok (.aload_n 0, 1) := by decide +kernel
theorem dX10_townFault_182 : decode cX10_townFault 182 = .ok (.iconst 0, 1) := by decide +kernel
theorem dX10_townFault_183 : decode cX10_townFault 183 = .ok (.iload_n 2, 1) := by decide +kernel
theorem dX10_townFault_184 : decode cX10_townFault 184 = .ok (.iconst 3, 1) := by decide +kernel
theorem dX10_townFault_185 : decode cX10_townFault 185 = .ok (.iadd, 1) := by decide +kernel
theorem dX10_townFault_186 : decode cX10_townFault 186 = .ok (.invokevirtual 115, 3) := by decide +kernel
theorem dX10_townFault_189 : decode cX10_townFault 189 = .ok (.iadd, 1) := by decide +kernel
theorem dX10_townFault_190 : decode cX10_townFault 190 = .ok (.iastore, 1) := by decide +kernel
theorem dX10_townFault_191 : decode cX10_townFault 191 = .ok (.iconst 0, 1) := by decide +kernel
theorem dX10_townFault_192 : decode cX10_townFault 192 = .ok (.istore 4, 2) := by decide +kernel
theorem dX10_townFault_194 : decode cX10_townFault 194 = .ok (.iload 4, 2) := by decide +kernel
theorem dX10_townFault_196 : decode cX10_townFault 196 = .ok (.iload_n 1, 1) := by decide +kernel
theorem dX10_townFault_197 : decode cX10_townFault 197 = .ok (.if_icmp .ge 45, 3) := by decide +kernel
theorem dX10_townFault_200 : decode cX10_townFault 200 = .ok (.aload_n 0, 1) := by decide +kernel
theorem dX10_townFault_201 : decode cX10_townFault 201 = .ok (.getfield 25, 3) := by decide +kernel
theorem dX10_townFault_204 : decode cX10_townFault 204 = .ok (.iload 4, 2) := by decide +kernel
theorem dX10_townFault_206 : decode cX10_townFault 206 = .ok (.iaload, 1) := by decide +kernel
theorem dX10_townFault_207 : decode cX10_townFault 207 = .ok (.aload_n 0, 1) := by decide +kernel
theorem dX10_townFault_208 : decode cX10_townFault 208 = .ok (.getfield 25, 3) := by decide +kernel
theorem dX10_townFault_211 : decode cX10_townFault 211 = .ok (.iload_n 1, 1) := by decide +kernel
theorem dX10_townFault_212 : decode cX10_townFault 212 = .ok (.iaload, 1) := by decide +kernel
theorem dX10_townFault_213 : decode cX10_townFault 213 = .ok (.if_icmp .ne 23, 3) := by decide +kernel
theorem dX10_townFault_216 : decode cX10_townFault 216 = .ok (.aload_n 0, 1) := by decide +kernel
theorem dX10_townFault_217 : decode cX10_townFault 217 = .ok (.getfield 28, 3) := by decide +kernel
theorem dX10_townFault_220 : decode cX10_townFault 220 = .ok (.iload 4, 2) := by decide +kernel
theorem dX10_townFault_222 : decode cX10_townFault 222 = .ok (.iaload, 1) := by decide +kernel
theorem dX10_townFault_223 : decode cX10_townFault 223 = .ok (.aload_n 0, 1) := by decide +kernel
theorem dX10_townFault_224 : decode cX10_townFault 224 = .ok (.getfield 28, 3) := by decide +kernel
theorem dX10_townFault_227 : decode cX10_townFault 227 = .ok (.iload_n 1, 1) := by decide +kernel
theorem dX10_townFault_228 : decode cX10_townFault 228 = .ok (.iaload, 1) := by decide +kernel
theorem dX10_townFault_229 : decode cX10_townFault 229 = .ok (.if_icmp .ne 7, 3) := by decide +kernel
theorem dX10_townFault_232 : decode cX10_townFault 232 = .ok (.iload_n 2, 1) := by decide +kernel
theorem dX10_townFault_233 : decode cX10_townFault 233 = .ok (.iconst 2, 1) := by decide +kernel
theorem dX10_townFault_234 : decode cX10_townFault 234 = .ok (.iadd, 1) := by decide +kernel
theorem dX10_townFault_235 : decode cX10_townFault 235 = .ok (.ireturn, 1) := by decide +kernel
theorem dX10_townFault_236 : decode cX10_townFault 236 = .ok (.iinc 4 1, 3) := by decide +kernel
theorem dX10_townFault_239 : decode cX10_townFault 239 = .ok (.goto (-45), 3) := by decide +kernel
theorem dX10_townFault_242 : decode cX10_townFault 242 = .ok (.iinc 1 1, 3) := by decide +kernel
theorem dX10_townFault_245 : decode cX10_townFault 245 = .ok (.iinc 2 4, 3) := by decide +kernel
theorem dX10_townFault_248 : decode cX10_townFault 248 = .ok (.iload_n 2, 1) := by decide +kernel
theorem dX10_townFault_249 : decode cX10_townFault 249 = .ok (.aload_n 0, 1) := by decide +kernel
theorem dX10_townFault_250 : decode cX10_townFault 250 = .ok (.getfield 16, 3) := by decide +kernel
theorem dX10_townFault_253 : decode cX10_townFault 253 = .ok (.iconst 0, 1) := by decide +kernel
theorem dX10_townFault_254 : decode cX10_townFault 254 = .ok (.iaload, 1) := by decide +kernel
theorem dX10_townFault_255 : decode cX10_townFault 255 = .ok (.if_icmp .ne 10, 3) := by decide +kernel
theorem dX10_townFault_258 : decode cX10_townFault 258 = .ok (.aload_n 0, 1) := by decide +kernel
theorem dX10_townFault_259 : decode cX10_townFault 259 = .ok (.iload_n 1, 1) := by decide +kernel
theorem dX10_townFault_260 : decode cX10_townFault 260 = .ok (.putfield 111, 3) := by decide +kernel
theorem dX10_townFault_263 : decode cX10_townFault 263 = .ok (.iconst (-1), 1) := by decide +kernel
theorem dX10_townFault_264 : decode cX10_townFault 264 = .ok (.ireturn, 1) := by decide +kernel
theorem dX10_townFault_265 : decode cX10_townFault 265 = .ok (.aload_n 0, 1) := by decide +kernel
theorem dX10_townFault_266 : decode cX10_townFault 266 = .ok (.iconst 0, 1) := by decide +kernel
theorem dX10_townFault_267 : decode cX10_townFault 267 = .ok (.iload_n 2, 1) := by decide +kernel
theorem dX10_townFault_268 : decode cX10_townFault 268 = .ok (.invokevirtual 107, 3) := by decide +kernel
theorem dX10_townFault_271 : decode cX10_townFault 271 = .ok (.bipush 59, 2) := by decide +kernel
theorem dX10_townFault_273 : decode cX10_townFault 273 = .ok (.if_icmp .eq 5, 3) := by decide +kernel
theorem dX10_townFault_276 : decode cX10_townFault 276 = .ok (.iload_n 2, 1) := by decide +kernel
theorem dX10_townFault_277 : decode cX10_townFault 277 = .ok (.ireturn, 1) := by decide +kernel
theorem dX10_townFault_278 : decode cX10_townFault 278 = .ok (.iinc 2 1, 3) := by decide +kernel
theorem dX10_townFault_281 : decode cX10_townFault 281 = .ok (.goto (-272), 3) := by decide +kernel
theorem dX10_townFault_284 : decode cX10_townFault 284 = .ok (.iconst (-1), 1) := by decide +kernel
theorem dX10_townFault_285 : decode cX10_townFault 285 = .ok (.ireturn, 1) := by decide +kernel
theorem dX10_movesFault_0 : decode cX10_movesFault 0 = .ok (.aload_n 0, 1) := by decide +kernel
theorem dX10_movesFault_1 : decode cX10_movesFault 1 = .ok (.invokevirtual 118, 3) := by decide +kernel
theorem dX10_movesFault_4 : decode cX10_movesFault 4 = .ok (.istore_n 1, 1) := by decide +kernel
theorem dX10_movesFault_5 : decode cX10_movesFault 5 = .ok (.aload_n 0, 1) := by decide +kernel
theorem dX10_movesFault_6 : decode cX10_movesFault 6 = .ok (.iconst 0, 1) := by decide +kernel
theorem dX10_movesFault_7 : decode cX10_movesFault 7 = .ok (.putfield 122, 3) := by decide +kernel
theorem dX10_movesFault_10 : decode cX10_movesFault 10 = .ok (.iconst 0, 1) := by decide +kernel
theorem dX10_movesFault_11 : decode cX10_movesFault 11 = .ok (.istore_n 2, 1) := by decide +kernel
theorem dX10_movesFault_12 : decode cX10_movesFault 12 = .ok (.iconst 0, 1) := by decide +kernel
theorem dX10_movesFault_13 : decode cX10_movesFault 13 = .ok (.istore_n 3, 1) := by decide +kernel
theorem dX10_movesFault_14 : decode cX10_movesFault 14 = .ok (.iconst 0, 1) := by decide +kernel
theorem dX10_movesFault_15 : decode cX10_movesFault 15 = .ok (.istore 4, 2) := by decide +kernel
theorem dX10_movesFault_17 : decode cX10_movesFault 17 = .ok (.iload_n 3, 1) := by decide +kernel
theorem dX10_movesFault_18 : decode cX10_movesFault 18 = .ok (.aload_n 0, 1) := by decide +kernel
theorem dX10_movesFault_19 : decode cX10_movesFault 19 = .ok (.getfield 16, 3) := by decide +kernel
theorem dX10_movesFault_22 : decode cX10_movesFault 22 = .ok (.iconst 1, 1) := by decide +kernel
theorem dX10_movesFault_23 : decode cX10_movesFault 23 = .ok (.iaload, 1) := by decide +kernel
theorem dX10_movesFault_24 : decode cX10_movesFault 24 = .ok (.if_icmp .lt 7, 3) := by decide +kernel
theorem dX10_movesFault_27 : decode cX10_movesFault 27 = .ok (.iload_n 3, 1) := by decide +kernel
theorem dX10_movesFault_28 : decode cX10_movesFault 28 = .ok (.ifCond .le 158, 3) := by decide +kernel
theorem dX10_movesFault_31 : decode cX10_movesFault 31 = .ok (.aload_n 0, 1) := by decide +kernel
theorem dX10_movesFault_32 : decode cX10_movesFault 32 = .ok (.iconst 1, 1) := by decide +kernel
theorem dX10_movesFault_33 : decode cX10_movesFault 33 = .ok (.iload_n 3, 1) := by decide +kernel
theorem dX10_movesFault_34 : decode cX10_movesFault 34 = .ok (.invokevirtual 115, 3) := by decide +kernel
theorem dX10_movesFault_37 : decode cX10_movesFault 37 = .ok (.iconst (-1), 1) := by decide +kernel
theorem dX10_movesFault_38 : decode cX10_movesFault 38 = .ok (.if_icmp .ne 5, 3) := by decide +kernel
theorem dX10_movesFault_41 : decode cX10_movesFault 41 = .ok (.iload_n 3, 1) := by decide +kernel
theorem dX10_movesFault_42 : decode cX10_movesFault 42 = .ok (.ireturn, 1) := by decide +kernel
theorem dX10_movesFault_43 : decode cX10_movesFault 43 = .ok (.aload_n 0, 1) := by decide +kernel
theorem dX10_movesFault_44 : decode cX10_movesFault 44 = .ok (.iconst 1, 1) := by decide +kernel
theorem dX10_movesFault_45 : decode cX10_movesFault 45 = .ok (.iload_n 3, 1) := by decide +kernel
theorem dX10_movesFault_46 : decode cX10_movesFault 46 = .ok (.iconst 1, 1) := by decide +kernel
theorem dX10_movesFault_47 : decode cX10_movesFault 47 = .ok (.iadd, 1) := by decide +kernel
theorem dX10_movesFault_48 : decode cX10_movesFault 48 = .ok (.invokevirtual 115, 3) := by decide +kernel
theorem dX10_movesFault_51 : decode cX10_movesFault 51 = .ok (.iconst (-1), 1) := by decide +kernel
theorem dX10_movesFault_52 : decode cX10_movesFault 52 = .ok (.if_icmp .ne 7, 3) := by decide +kernel
theorem dX10_movesFault_55 : decode cX10_movesFault 55 = .ok (.iload_n 3, 1) := by decide +kernel
theorem dX10_movesFault_56 : decode cX10_movesFault 56 = .ok (.iconst 1, 1) := by decide +kernel
theorem dX10_movesFault_57 : decode cX10_movesFault 57 = .ok (.iadd, 1) := by decide +kernel
theorem dX10_movesFault_58 : decode cX10_movesFault 58 = .ok (.ireturn, 1) := by decide +kernel
theorem dX10_movesFault_59 : decode cX10_movesFault 59 = .ok (.bipush 10, 2) := by decide +kernel
theorem dX10_movesFault_61 : decode cX10_movesFault 61 = .ok (.aload_n 0, 1) := by decide +kernel
theorem dX10_movesFault_62 : decode cX10_movesFault 62 = .ok (.iconst 1, 1) := by decide +kernel
theorem dX10_movesFault_63 : decode cX10_movesFault 63 = .ok (.iload_n 3, 1) := by decide +kernel
theorem dX10_movesFault_64 : decode cX10_movesFault 64 = .ok (.invokevirtual 115, 3) := by decide +kernel
theorem dX10_movesFault_67 : decode cX10_movesFault 67 = .ok (.imul, 1) := by decide +kernel
theorem dX10_movesFault_68 : decode cX10_movesFault 68 = .ok (.aload_n 0, 1) := by decide +kernel
theorem dX10_movesFault_69 : decode cX10_movesFault 69 = .ok (.iconst 1, 1) := by decide +kernel
theorem dX10_movesFault_70 : decode cX10_movesFault 70 = .ok (.iload_n 3, 1) := by decide +kernel
theorem dX10_movesFault_71 : decode cX10_movesFault 71 = .ok (.iconst 1, 1) := by decide +kernel
theorem dX10_movesFault_72 : decode cX10_movesFault 72 = .ok (.iadd, 1) := by decide +kernel
theorem dX10_movesFault_73 : decode cX10_movesFault 73 = .ok (.invokevirtual 115, 3) := by decide +kernel
theorem dX10_movesFault_76 : decode cX10_movesFault 76 = .ok (.iadd, 1) := by decide +kernel
theorem dX10_movesFault_77 : decode cX10_movesFault 77 = .ok (.istore 5, 2) := by decide +kernel
theorem dX10_movesFault_79 : decode cX10_movesFault 79 = .ok (.iload 5, 2) := by decide +kernel
theorem dX10_movesFault_81 : decode cX10_movesFault 81 = .ok (.iload 4, 2) := by decide +kernel
theorem dX10_movesFault_83 : decode cX10_movesFault 83 = .ok (.bipush 51, 2) := by decide +kernel
theorem dX10_movesFault_85 : decode cX10_movesFault 85 = .ok (.invokestatic 89, 3) := by decide +kernel
theorem dX10_movesFault_88 : decode cX10_movesFault 88 = .ok (.ifCond .ne 5, 3) := by decide +kernel
theorem dX10_movesFault_91 : decode cX10_movesFault 91 = .ok (.iload_n 3, 1) := by decide +kernel
theorem dX10_movesFault_92 : decode cX10_movesFault 92 = .ok (.ireturn, 1) := by decide +kernel
theorem dX10_movesFault_93 : decode cX10_movesFault 93 = .ok (.aload_n 0, 1) := by decide +kernel
theorem dX10_movesFault_94 : decode cX10_movesFault 94 = .ok (.iconst 1, 1) := by decide +kernel
theorem dX10_movesFault_95 : decode cX10_movesFault 95 = .ok (.iload_n 3, 1) := by decide +kernel
theorem dX10_movesFault_96 : decode cX10_movesFault 96 = .ok (.iconst 2, 1) := by decide +kernel
theorem dX10_movesFault_97 : decode cX10_movesFault 97 = .ok (.iadd, 1) := by decide +kernel
theorem dX10_movesFault_98 : decode cX10_movesFault 98 = .ok (.invokevirtual 115, 3) := by decide +kernel
theorem dX10_movesFault_101 : decode cX10_movesFault 101 = .ok (.iconst 0, 1) := by decide +kernel
theorem dX10_movesFault_102 : decode cX10_movesFault 102 = .ok (.aload_n 0, 1) := by decide +kernel
theorem dX10_movesFault_103 : decode cX10_movesFault 103 = .ok (.getfield 111, 3) := by decide +kernel
theorem dX10_movesFault_106 : decode cX10_movesFault 106 = .ok (.iconst 1, 1) := by decide +kernel
theorem dX10_movesFault_107 : decode cX10_movesFault 107 = .ok (.isub, 1) := by decide +kernel
theorem dX10_movesFault_108 : decode cX10_movesFault 108 = .ok (.invokestatic 89, 3) := by decide +kernel
theorem dX10_movesFault_111 : decode cX10_movesFault 111 = .ok (.ifCond .ne 7, 3) := by decide +kernel
theorem dX10_movesFault_114 : decode cX10_movesFault 114 = .ok (.iload_n 3, 1) := by decide +kernel
theorem dX10_movesFault_115 : decode cX10_movesFault 115 = .ok (.iconst 2, 1) := by decide +kernel
theorem dX10_movesFault_116 : decode cX10_movesFault 116 = .ok (.iadd, 1) := by decide +kernel
theorem dX10_movesFault_117 : decode cX10_movesFault 117 = .ok (.ireturn, 1) := by decide +kernel
theorem dX10_movesFault_118 : decode cX10_movesFault 118 = .ok (.aload_n 0, 1) := by decide +kernel
theorem dX10_movesFault_119 : decode cX10_movesFault 119 = .ok (.getfield 31, 3) := by decide +kernel
theorem dX10_movesFault_122 : decode cX10_movesFault 122 = .ok (.iload_n 2, 1) := by decide +kernel
theorem dX10_movesFault_123 : decode cX10_movesFault 123 = .ok (.iload 5, 2) := by decide +kernel
theorem dX10_movesFault_125 : decode cX10_movesFault 125 = .ok (.iastore, 1) := by decide +kernel
theorem dX10_movesFault_126 : decode cX10_movesFault 126 = .ok (.aload_n 0, 1) := by decide +kernel
theorem dX10_movesFault_127 : decode cX10_movesFault 127 = .ok (.getfield 34, 3) := by decide +kernel
theorem dX10_movesFault_130 : decode cX10_movesFault 130 = .ok (.iload_n 2, 1) := by decide +kernel
theorem dX10_movesFault_131 : decode cX10_movesFault 131 = .ok (.aload_n 0, 1) := by decide +kernel
theorem dX10_movesFault_132 : decode cX10_movesFault 132 = .ok (.iconst 1, 1) := by decide +kernel
theorem dX10_movesFault_133 : decode cX10_movesFault 133 = .ok (.iload_n 3, 1) := by decide +kernel
theorem dX10_movesFault_134 : decode cX10_movesFault 134 = .ok (.iconst 2, 1) := by decide +kernel
theorem dX10_movesFault_135 : decode cX10_movesFault 135 = .ok (.iadd, 1) := by decide +kernel
theorem dX10_movesFault_136 : decode cX10_movesFault 136 = .ok (.invokevirtual 115, 3) := by decide +kernel
theorem dX10_movesFault_139 : decode cX10_movesFault 139 = .ok (.iastore, 1) := by decide +kernel
theorem dX10_movesFault_140 : decode cX10_movesFault 140 = .ok (.iload 5, 2) := by decide +kernel
theorem dX10_movesFault_142 : decode cX10_movesFault 142 = .ok (.istore 4, 2) := by decide +kernel
theorem dX10_movesFault_144 : decode cX10_movesFault 144 = .ok (.iinc 2 1, 3) := by decide +kernel
theorem dX10_movesFault_147 : decode cX10_movesFault 147 = .ok (.iinc 3 3, 3) := by decide +kernel
theorem dX10_movesFault_150 : decode cX10_movesFault 150 = .ok (.iload_n 3, 1) := by decide +kernel
theorem dX10_movesFault_151 : decode cX10_movesFault 151 = .ok (.aload_n 0, 1) := by decide +kernel
theorem dX10_movesFault_152 : decode cX10_movesFault 152 = .ok (.getfield 16, 3) := by decide +kernel
theorem dX10_movesFault_155 : decode cX10_movesFault 155 = .ok (.iconst 1, 1) := by decide +kernel
theorem dX10_movesFault_156 : decode cX10_movesFault 156 = .ok (.iaload, 1) := by decide +kernel
theorem dX10_movesFault_157 : decode cX10_movesFault 157 = .ok (.if_icmp .ne 10, 3) := by decide +kernel
theorem dX10_movesFault_160 : decode cX10_movesFault 160 = .ok (.aload_n 0, 1) := by decide +kernel
theorem dX10_movesFault_161 : decode cX10_movesFault 161 = .ok (.iload_n 2, 1) := by decide +kernel
theorem dX10_movesFault_162 : decode cX10_movesFault 162 = .ok (.putfield 122, 3) := by decide +kernel
theorem dX10_movesFault_165 : decode cX10_movesFault 165 = .ok (.iconst (-1), 1) := by decide +kernel
theorem dX10_movesFault_166 : decode cX10_movesFault 166 = .ok (.ireturn, 1) := by decide +kernel
theorem dX10_movesFault_167 : decode cX10_movesFault 167 = .ok (.aload_n 0, 1) := by decide +kernel
theorem dX10_movesFault_168 : decode cX10_movesFault 168 = .ok (.iconst 1, 1) := by decide +kernel
theorem dX10_movesFault_169 : decode cX10_movesFault 169 = .ok (.iload_n 3, 1) := by decide +kernel
theorem dX10_movesFault_170 : decode cX10_movesFault 170 = .ok (.invokevirtual 107, 3) := by decide +kernel
theorem dX10_movesFault_173 : decode cX10_movesFault 173 = .ok (.bipush 59, 2) := by decide +kernel
theorem dX10_movesFault_175 : decode cX10_movesFault 175 = .ok (.if_icmp .eq 5, 3) := by decide +kernel
theorem dX10_movesFault_178 : decode cX10_movesFault 178 = .ok (.iload_n 3, 1) := by decide +kernel
theorem dX10_movesFault_179 : decode cX10_movesFault 179 = .ok (.ireturn, 1) := by decide +kernel
theorem dX10_movesFault_180 : decode cX10_movesFault 180 = .ok (.iinc 3 1, 3) := by decide +kernel
theorem dX10_movesFault_183 : decode cX10_movesFault 183 = .ok (.goto (-166), 3) := by decide +kernel
theorem dX10_movesFault_186 : decode cX10_movesFault 186 = .ok (.iconst (-1), 1) := by decide +kernel
theorem dX10_movesFault_187 : decode cX10_movesFault 187 = .ok (.ireturn, 1) := by decide +kernel
theorem dX10_faultOf_0 : decode cX10_faultOf 0 = .ok (.iload_n 1, 1) := by decide +kernel
theorem dX10_faultOf_1 : decode cX10_faultOf 1 = .ok (.ifCond .ne 10, 3) := by decide +kernel
theorem dX10_faultOf_4 : decode cX10_faultOf 4 = .ok (.aload_n 0, 1) := by decide +kernel
theorem dX10_faultOf_5 : decode cX10_faultOf 5 = .ok (.invokevirtual 118, 3) := by decide +kernel
theorem dX10_faultOf_8 : decode cX10_faultOf 8 = .ok (.goto 7, 3) := by decide +kernel
theorem dX10_faultOf_11 : decode cX10_faultOf 11 = .ok (.aload_n 0, 1) := by decide +kernel
theorem dX10_faultOf_12 : decode cX10_faultOf 12 = .ok (.invokevirtual 125, 3) := by decide +kernel
theorem dX10_faultOf_15 : decode cX10_faultOf 15 = .ok (.ireturn, 1) := by decide +kernel
theorem dX10_fault_0 : decode cX10_fault 0 = .ok (.iload_n 1, 1) := by decide +kernel
theorem dX10_fault_1 : decode cX10_fault 1 = .ok (.iconst 0, 1) := by decide +kernel
theorem dX10_fault_2 : decode cX10_fault 2 = .ok (.iconst 1, 1) := by decide +kernel
theorem dX10_fault_3 : decode cX10_fault 3 = .ok (.invokestatic 89, 3) := by decide +kernel
theorem dX10_fault_6 : decode cX10_fault 6 = .ok (.ifCond .eq 11, 3) := by decide +kernel
theorem dX10_fault_9 : decode cX10_fault 9 = .ok (.aload_n 0, 1) := by decide +kernel
theorem dX10_fault_10 : decode cX10_fault 10 = .ok (.iload_n 1, 1) := by decide +kernel
theorem dX10_fault_11 : decode cX10_fault 11 = .ok (.invokevirtual 128, 3) := by decide +kernel
theorem dX10_fault_14 : decode cX10_fault 14 = .ok (.goto 5, 3) := by decide +kernel
theorem dX10_fault_17 : decode cX10_fault 17 = .ok (.bipush (-2), 2) := by decide +kernel
theorem dX10_fault_19 : decode cX10_fault 19 = .ok (.ireturn, 1) := by decide +kernel
theorem dX10_housesNow_0 : decode cX10_housesNow 0 = .ok (.aload_n 0, 1) := by decide +kernel
theorem dX10_housesNow_1 : decode cX10_housesNow 1 = .ok (.invokevirtual 118, 3) := by decide +kernel
theorem dX10_housesNow_4 : decode cX10_housesNow 4 = .ok (.istore_n 1, 1) := by decide +kernel
theorem dX10_housesNow_5 : decode cX10_housesNow 5 = .ok (.aload_n 0, 1) := by decide +kernel
theorem dX10_housesNow_6 : decode cX10_housesNow 6 = .ok (.getfield 111, 3) := by decide +kernel
theorem dX10_housesNow_9 : decode cX10_housesNow 9 = .ok (.ireturn, 1) := by decide +kernel
theorem dX10_isHouse_0 : decode cX10_isHouse 0 = .ok (.iload_n 1, 1) := by decide +kernel
theorem dX10_isHouse_1 : decode cX10_isHouse 1 = .ok (.iconst 0, 1) := by decide +kernel
theorem dX10_isHouse_2 : decode cX10_isHouse 2 = .ok (.aload_n 0, 1) := by decide +kernel
theorem dX10_isHouse_3 : decode cX10_isHouse 3 = .ok (.invokevirtual 131, 3) := by decide +kernel
theorem dX10_isHouse_6 : decode cX10_isHouse 6 = .ok (.iconst 1, 1) := by decide +kernel
theorem dX10_isHouse_7 : decode cX10_isHouse 7 = .ok (.isub, 1) := by decide +kernel
theorem dX10_isHouse_8 : decode cX10_isHouse 8 = .ok (.invokestatic 89, 3) := by decide +kernel
theorem dX10_isHouse_11 : decode cX10_isHouse 11 = .ok (.ireturn, 1) := by decide +kernel
theorem dX10_houseOf_0 : decode cX10_houseOf 0 = .ok (.iload_n 2, 1) := by decide +kernel
theorem dX10_houseOf_1 : decode cX10_houseOf 1 = .ok (.ifCond .ne 12, 3) := by decide +kernel
theorem dX10_houseOf_4 : decode cX10_houseOf 4 = .ok (.aload_n 0, 1) := by decide +kernel
theorem dX10_houseOf_5 : decode cX10_houseOf 5 = .ok (.getfield 22, 3) := by decide +kernel
theorem dX10_houseOf_8 : decode cX10_houseOf 8 = .ok (.iload_n 1, 1) := by decide +kernel
theorem dX10_houseOf_9 : decode cX10_houseOf 9 = .ok (.iaload, 1) := by decide +kernel
theorem dX10_houseOf_10 : decode cX10_houseOf 10 = .ok (.goto 23, 3) := by decide +kernel
theorem dX10_houseOf_13 : decode cX10_houseOf 13 = .ok (.iload_n 2, 1) := by decide +kernel
theorem dX10_houseOf_14 : decode cX10_houseOf 14 = .ok (.iconst 1, 1) := by decide +kernel
theorem dX10_houseOf_15 : decode cX10_houseOf 15 = .ok (.if_icmp .ne 12, 3) := by decide +kernel
theorem dX10_houseOf_18 : decode cX10_houseOf 18 = .ok (.aload_n 0, 1) := by decide +kernel
theorem dX10_houseOf_19 : decode cX10_houseOf 19 = .ok (.getfield 25, 3) := by decide +kernel
theorem dX10_houseOf_22 : decode cX10_houseOf 22 = .ok (.iload_n 1, 1) := by decide +kernel
theorem dX10_houseOf_23 : decode cX10_houseOf 23 = .ok (.iaload, 1) := by decide +kernel
theorem dX10_houseOf_24 : decode cX10_houseOf 24 = .ok (.goto 9, 3) := by decide +kernel
theorem dX10_houseOf_27 : decode cX10_houseOf 27 = .ok (.aload_n 0, 1) := by decide +kernel
theorem dX10_houseOf_28 : decode cX10_houseOf 28 = .ok (.getfield 28, 3) := by decide +kernel
theorem dX10_houseOf_31 : decode cX10_houseOf 31 = .ok (.iload_n 1, 1) := by decide +kernel
theorem dX10_houseOf_32 : decode cX10_houseOf 32 = .ok (.iaload, 1) := by decide +kernel
theorem dX10_houseOf_33 : decode cX10_houseOf 33 = .ok (.ireturn, 1) := by decide +kernel
theorem dX10_house_0 : decode cX10_house 0 = .ok (.aload_n 0, 1) := by decide +kernel
theorem dX10_house_1 : decode cX10_house 1 = .ok (.iload_n 1, 1) := by decide +kernel
theorem dX10_house_2 : decode cX10_house 2 = .ok (.invokevirtual 134, 3) := by decide +kernel
theorem dX10_house_5 : decode cX10_house 5 = .ok (.ifCond .eq 21, 3) := by decide +kernel
theorem dX10_house_8 : decode cX10_house 8 = .ok (.iload_n 2, 1) := by decide +kernel
theorem dX10_house_9 : decode cX10_house 9 = .ok (.iconst 0, 1) := by decide +kernel
theorem dX10_house_10 : decode cX10_house 10 = .ok (.iconst 2, 1) := by decide +kernel
theorem dX10_house_11 : decode cX10_house 11 = .ok (.invokestatic 89, 3) := by decide +kernel
theorem dX10_house_14 : decode cX10_house 14 = .ok (.ifCond .eq 12, 3) := by decide +kernel
theorem dX10_house_17 : decode cX10_house 17 = .ok (.aload_n 0, 1) := by decide +kernel
theorem dX10_house_18 : decode cX10_house 18 = .ok (.iload_n 1, 1) := by decide +kernel
theorem dX10_house_19 : decode cX10_house 19 = .ok (.iload_n 2, 1) := by decide +kernel
theorem dX10_house_20 : decode cX10_house 20 = .ok (.invokevirtual 137, 3) := by decide +kernel
theorem dX10_house_23 : decode cX10_house 23 = .ok (.goto 5, 3) := by decide +kernel
theorem dX10_house_26 : decode cX10_house 26 = .ok (.bipush (-2), 2) := by decide +kernel
theorem dX10_house_28 : decode cX10_house 28 = .ok (.ireturn, 1) := by decide +kernel
theorem dX10_handsOf_0 : decode cX10_handsOf 0 = .ok (.aload_n 0, 1) := by decide +kernel
theorem dX10_handsOf_1 : decode cX10_handsOf 1 = .ok (.getfield 22, 3) := by decide +kernel
theorem dX10_handsOf_4 : decode cX10_handsOf 4 = .ok (.iload_n 1, 1) := by decide +kernel
theorem dX10_handsOf_5 : decode cX10_handsOf 5 = .ok (.iaload, 1) := by decide +kernel
theorem dX10_handsOf_6 : decode cX10_handsOf 6 = .ok (.ifCond .ne 7, 3) := by decide +kernel
theorem dX10_handsOf_9 : decode cX10_handsOf 9 = .ok (.iconst 4, 1) := by decide +kernel
theorem dX10_handsOf_10 : decode cX10_handsOf 10 = .ok (.goto 42, 3) := by decide +kernel
theorem dX10_handsOf_13 : decode cX10_handsOf 13 = .ok (.aload_n 0, 1) := by decide +kernel
theorem dX10_handsOf_14 : decode cX10_handsOf 14 = .ok (.getfield 22, 3) := by decide +kernel
theorem dX10_handsOf_17 : decode cX10_handsOf 17 = .ok (.iload_n 1, 1) := by decide +kernel
theorem dX10_handsOf_18 : decode cX10_handsOf 18 = .ok (.iaload, 1) := by decide +kernel
theorem dX10_handsOf_19 : decode cX10_handsOf 19 = .ok (.iconst 1, 1) := by decide +kernel
theorem dX10_handsOf_20 : decode cX10_handsOf 20 = .ok (.if_icmp .ne 7, 3) := by decide +kernel
theorem dX10_handsOf_23 : decode cX10_handsOf 23 = .ok (.iconst 1, 1) := by decide +kernel
theorem dX10_handsOf_24 : decode cX10_handsOf 24 = .ok (.goto 28, 3) := by decide +kernel
theorem dX10_handsOf_27 : decode cX10_handsOf 27 = .ok (.aload_n 0, 1) := by decide +kernel
theorem dX10_handsOf_28 : decode cX10_handsOf 28 = .ok (.getfield 22, 3) := by decide +kernel
theorem dX10_handsOf_31 : decode cX10_handsOf 31 = .ok (.iload_n 1, 1) := by decide +kernel
theorem dX10_handsOf_32 : decode cX10_handsOf 32 = .ok (.iaload, 1) := by decide +kernel
theorem dX10_handsOf_33 : decode cX10_handsOf 33 = .ok (.iconst 2, 1) := by decide +kernel
theorem dX10_handsOf_34 : decode cX10_handsOf 34 = .ok (.if_icmp .ne 15, 3) := by decide +kernel
theorem dX10_handsOf_37 : decode cX10_handsOf 37 = .ok (.iload_n 2, 1) := by decide +kernel
theorem dX10_handsOf_38 : decode cX10_handsOf 38 = .ok (.ifCond .ne 7, 3) := by decide +kernel
theorem dX10_handsOf_41 : decode cX10_handsOf 41 = .ok (.iconst 2, 1) := by decide +kernel
theorem dX10_handsOf_42 : decode cX10_handsOf 42 = .ok (.goto 10, 3) := by decide +kernel
theorem dX10_handsOf_45 : decode cX10_handsOf 45 = .ok (.iconst 1, 1) := by decide +kernel
theorem dX10_handsOf_46 : decode cX10_handsOf 46 = .ok (.goto 6, 3) := by decide +kernel
theorem dX10_handsOf_49 : decode cX10_handsOf 49 = .ok (.iconst 3, 1) := by decide +kernel
theorem dX10_handsOf_50 : decode cX10_handsOf 50 = .ok (.iload_n 2, 1) := by decide +kernel
theorem dX10_handsOf_51 : decode cX10_handsOf 51 = .ok (.iadd, 1) := by decide +kernel
theorem dX10_handsOf_52 : decode cX10_handsOf 52 = .ok (.ireturn, 1) := by decide +kernel
theorem dX10_takes_0 : decode cX10_takes 0 = .ok (.aload_n 0, 1) := by decide +kernel
theorem dX10_takes_1 : decode cX10_takes 1 = .ok (.iload_n 1, 1) := by decide +kernel
theorem dX10_takes_2 : decode cX10_takes 2 = .ok (.invokevirtual 134, 3) := by decide +kernel
theorem dX10_takes_5 : decode cX10_takes 5 = .ok (.ifCond .eq 22, 3) := by decide +kernel
theorem dX10_takes_8 : decode cX10_takes 8 = .ok (.iload_n 2, 1) := by decide +kernel
theorem dX10_takes_9 : decode cX10_takes 9 = .ok (.iconst 0, 1) := by decide +kernel
theorem dX10_takes_10 : decode cX10_takes 10 = .ok (.bipush 99, 2) := by decide +kernel
theorem dX10_takes_12 : decode cX10_takes 12 = .ok (.invokestatic 89, 3) := by decide +kernel
theorem dX10_takes_15 : decode cX10_takes 15 = .ok (.ifCond .eq 12, 3) := by decide +kernel
theorem dX10_takes_18 : decode cX10_takes 18 = .ok (.aload_n 0, 1) := by decide +kernel
theorem dX10_takes_19 : decode cX10_takes 19 = .ok (.iload_n 1, 1) := by decide +kernel
theorem dX10_takes_20 : decode cX10_takes 20 = .ok (.iload_n 2, 1) := by decide +kernel
theorem dX10_takes_21 : decode cX10_takes 21 = .ok (.invokevirtual 140, 3) := by decide +kernel
theorem dX10_takes_24 : decode cX10_takes 24 = .ok (.goto 5, 3) := by decide +kernel
theorem dX10_takes_27 : decode cX10_takes 27 = .ok (.bipush (-2), 2) := by decide +kernel
theorem dX10_takes_29 : decode cX10_takes 29 = .ok (.ireturn, 1) := by decide +kernel
theorem dX10_begins_0 : decode cX10_begins 0 = .ok (.iconst 0, 1) := by decide +kernel
theorem dX10_begins_1 : decode cX10_begins 1 = .ok (.istore_n 1, 1) := by decide +kernel
theorem dX10_begins_2 : decode cX10_begins 2 = .ok (.iload_n 1, 1) := by decide +kernel
theorem dX10_begins_3 : decode cX10_begins 3 = .ok (.aload_n 0, 1) := by decide +kernel
theorem dX10_begins_4 : decode cX10_begins 4 = .ok (.getfield 111, 3) := by decide +kernel
theorem dX10_begins_7 : decode cX10_begins 7 = .ok (.if_icmp .ge 28, 3) := by decide +kernel
theorem dX10_begins_10 : decode cX10_begins 10 = .ok (.aload_n 0, 1) := by decide +kernel
theorem dX10_begins_11 : decode cX10_begins 11 = .ok (.getfield 37, 3) := by decide +kernel
theorem dX10_begins_14 : decode cX10_begins 14 = .ok (.iload_n 1, 1) := by decide +kernel
theorem dX10_begins_15 : decode cX10_begins 15 = .ok (.aload_n 0, 1) := by decide +kernel
theorem dX10_begins_16 : decode cX10_begins 16 = .ok (.getfield 28, 3) := by decide +kernel
theorem dX10_begins_19 : decode cX10_begins 19 = .ok (.iload_n 1, 1) := by decide +kernel
theorem dX10_begins_20 : decode cX10_begins 20 = .ok (.iaload, 1) := by decide +kernel
theorem dX10_begins_21 : decode cX10_begins 21 = .ok (.iastore, 1) := by decide +kernel
theorem dX10_begins_22 : decode cX10_begins 22 = .ok (.aload_n 0, 1) := by decide +kernel
theorem dX10_begins_23 : decode cX10_begins 23 = .ok (.getfield 40, 3) := by decide +kernel
theorem dX10_begins_26 : decode cX10_begins 26 = .ok (.iload_n 1, 1) := by decide +kernel
theorem dX10_begins_27 : decode cX10_begins 27 = .ok (.iconst 0, 1) := by decide +kernel
theorem dX10_begins_28 : decode cX10_begins 28 = .ok (.iastore, 1) := by decide +kernel
theorem dX10_begins_29 : decode cX10_begins 29 = .ok (.iinc 1 1, 3) := by decide +kernel
theorem dX10_begins_32 : decode cX10_begins 32 = .ok (.goto (-30), 3) := by decide +kernel
theorem dX10_begins_35 : decode cX10_begins 35 = .ok (.return_, 1) := by decide +kernel
theorem dX10_goes_0 : decode cX10_goes 0 = .ok (.iconst 0, 1) := by decide +kernel
theorem dX10_goes_1 : decode cX10_goes 1 = .ok (.istore_n 2, 1) := by decide +kernel
theorem dX10_goes_2 : decode cX10_goes 2 = .ok (.iconst 0, 1) := by decide +kernel
theorem dX10_goes_3 : decode cX10_goes 3 = .ok (.istore_n 3, 1) := by decide +kernel
theorem dX10_goes_4 : decode cX10_goes 4 = .ok (.iload_n 3, 1) := by decide +kernel
theorem dX10_goes_5 : decode cX10_goes 5 = .ok (.aload_n 0, 1) := by decide +kernel
theorem dX10_goes_6 : decode cX10_goes 6 = .ok (.getfield 111, 3) := by decide +kernel
theorem dX10_goes_9 : decode cX10_goes 9 = .ok (.if_icmp .ge 45, 3) := by decide +kernel
theorem dX10_goes_12 : decode cX10_goes 12 = .ok (.aload_n 0, 1) := by decide +kernel
theorem dX10_goes_13 : decode cX10_goes 13 = .ok (.getfield 25, 3) := by decide +kernel
theorem dX10_goes_16 : decode cX10_goes 16 = .ok (.iload_n 3, 1) := by decide +kernel
theorem dX10_goes_17 : decode cX10_goes 17 = .ok (.iaload, 1) := by decide +kernel
theorem dX10_goes_18 : decode cX10_goes 18 = .ok (.aload_n 0, 1) := by decide +kernel
theorem dX10_goes_19 : decode cX10_goes 19 = .ok (.getfield 25, 3) := by decide +kernel
theorem dX10_goes_22 : decode cX10_goes 22 = .ok (.iload_n 1, 1) := by decide +kernel
theorem dX10_goes_23 : decode cX10_goes 23 = .ok (.iaload, 1) := by decide +kernel
theorem dX10_goes_24 : decode cX10_goes 24 = .ok (.if_icmp .ne 22, 3) := by decide +kernel
theorem dX10_goes_27 : decode cX10_goes 27 = .ok (.aload_n 0, 1) := by decide +kernel
theorem dX10_goes_28 : decode cX10_goes 28 = .ok (.getfield 37, 3) := by decide +kernel
theorem dX10_goes_31 : decode cX10_goes 31 = .ok (.iload_n 3, 1) := by decide +kernel
theorem dX10_goes_32 : decode cX10_goes 32 = .ok (.iaload, 1) := by decide +kernel
theorem dX10_goes_33 : decode cX10_goes 33 = .ok (.iload_n 2, 1) := by decide +kernel
theorem dX10_goes_34 : decode cX10_goes 34 = .ok (.if_icmp .le 12, 3) := by decide +kernel
theorem dX10_goes_37 : decode cX10_goes 37 = .ok (.aload_n 0, 1) := by decide +kernel
theorem dX10_goes_38 : decode cX10_goes 38 = .ok (.getfield 37, 3) := by decide +kernel
theorem dX10_goes_41 : decode cX10_goes 41 = .ok (.iload_n 3, 1) := by decide +kernel
theorem dX10_goes_42 : decode cX10_goes 42 = .ok (.iaload, 1) := by decide +kernel
theorem dX10_goes_43 : decode cX10_goes 43 = .ok (.goto 4, 3) := by decide +kernel
theorem dX10_goes_46 : decode cX10_goes 46 = .ok (.iload_n 2, 1) := by decide +kernel
theorem dX10_goes_47 : decode cX10_goes 47 = .ok (.istore_n 2, 1) := by decide +kernel
theorem dX10_goes_48 : decode cX10_goes 48 = .ok (.iinc 3 1, 3) := by decide +kernel
theorem dX10_goes_51 : decode cX10_goes 51 = .ok (.goto (-47), 3) := by decide +kernel
theorem dX10_goes_54 : decode cX10_goes 54 = .ok (.iload_n 2, 1) := by decide +kernel
theorem dX10_goes_55 : decode cX10_goes 55 = .ok (.bipush 98, 2) := by decide +kernel
theorem dX10_goes_57 : decode cX10_goes 57 = .ok (.if_icmp .le 5, 3) := by decide +kernel
theorem dX10_goes_60 : decode cX10_goes 60 = .ok (.iconst 0, 1) := by decide +kernel
theorem dX10_goes_61 : decode cX10_goes 61 = .ok (.ireturn, 1) := by decide +kernel
theorem dX10_goes_62 : decode cX10_goes 62 = .ok (.aload_n 0, 1) := by decide +kernel
theorem dX10_goes_63 : decode cX10_goes 63 = .ok (.getfield 37, 3) := by decide +kernel
theorem dX10_goes_66 : decode cX10_goes 66 = .ok (.iload_n 1, 1) := by decide +kernel
theorem dX10_goes_67 : decode cX10_goes 67 = .ok (.iload_n 2, 1) := by decide +kernel
theorem dX10_goes_68 : decode cX10_goes 68 = .ok (.iconst 1, 1) := by decide +kernel
theorem dX10_goes_69 : decode cX10_goes 69 = .ok (.iadd, 1) := by decide +kernel
theorem dX10_goes_70 : decode cX10_goes 70 = .ok (.iastore, 1) := by decide +kernel
theorem dX10_goes_71 : decode cX10_goes 71 = .ok (.aload_n 0, 1) := by decide +kernel
theorem dX10_goes_72 : decode cX10_goes 72 = .ok (.getfield 40, 3) := by decide +kernel
theorem dX10_goes_75 : decode cX10_goes 75 = .ok (.iload_n 1, 1) := by decide +kernel
theorem dX10_goes_76 : decode cX10_goes 76 = .ok (.dup2, 1) := by decide +kernel
theorem dX10_goes_77 : decode cX10_goes 77 = .ok (.iaload, 1) := by decide +kernel
theorem dX10_goes_78 : decode cX10_goes 78 = .ok (.iconst 1, 1) := by decide +kernel
theorem dX10_goes_79 : decode cX10_goes 79 = .ok (.iadd, 1) := by decide +kernel
theorem dX10_goes_80 : decode cX10_goes 80 = .ok (.iastore, 1) := by decide +kernel
theorem dX10_goes_81 : decode cX10_goes 81 = .ok (.iconst 1, 1) := by decide +kernel
theorem dX10_goes_82 : decode cX10_goes 82 = .ok (.ireturn, 1) := by decide +kernel
theorem dX10_judges_0 : decode cX10_judges 0 = .ok (.aload_n 0, 1) := by decide +kernel
theorem dX10_judges_1 : decode cX10_judges 1 = .ok (.invokevirtual 125, 3) := by decide +kernel
theorem dX10_judges_4 : decode cX10_judges 4 = .ok (.istore_n 1, 1) := by decide +kernel
theorem dX10_judges_5 : decode cX10_judges 5 = .ok (.aload_n 0, 1) := by decide +kernel
theorem dX10_judges_6 : decode cX10_judges 6 = .ok (.invokevirtual 143, 3) := by decide +kernel
theorem dX10_judges_9 : decode cX10_judges 9 = .ok (.aload_n 0, 1) := by decide +kernel
theorem dX10_judges_10 : decode cX10_judges 10 = .ok (.iconst (-1), 1) := by decide +kernel
theorem dX10_judges_11 : decode cX10_judges 11 = .ok (.putfield 146, 3) := by decide +kernel
theorem dX10_judges_14 : decode cX10_judges 14 = .ok (.aload_n 0, 1) := by decide +kernel
theorem dX10_judges_15 : decode cX10_judges 15 = .ok (.iconst 0, 1) := by decide +kernel
theorem dX10_judges_16 : decode cX10_judges 16 = .ok (.putfield 149, 3) := by decide +kernel
theorem dX10_judges_19 : decode cX10_judges 19 = .ok (.iconst 0, 1) := by decide +kernel
theorem dX10_judges_20 : decode cX10_judges 20 = .ok (.istore_n 2, 1) := by decide +kernel
theorem dX10_judges_21 : decode cX10_judges 21 = .ok (.iconst 0, 1) := by decide +kernel
theorem dX10_judges_22 : decode cX10_judges 22 = .ok (.istore_n 3, 1) := by decide +kernel
theorem dX10_judges_23 : decode cX10_judges 23 = .ok (.iload_n 3, 1) := by decide +kernel
theorem dX10_judges_24 : decode cX10_judges 24 = .ok (.bipush 52, 2) := by decide +kernel
theorem dX10_judges_26 : decode cX10_judges 26 = .ok (.if_icmp .ge 233, 3) := by decide +kernel
theorem dX10_judges_29 : decode cX10_judges 29 = .ok (.iconst 0, 1) := by decide +kernel
theorem dX10_judges_30 : decode cX10_judges 30 = .ok (.istore 4, 2) := by decide +kernel
theorem dX10_judges_32 : decode cX10_judges 32 = .ok (.iconst 0, 1) := by decide +kernel
theorem dX10_judges_33 : decode cX10_judges 33 = .ok (.istore 5, 2) := by decide +kernel
theorem dX10_judges_35 : decode cX10_judges 35 = .ok (.iload_n 2, 1) := by decide +kernel
theorem dX10_judges_36 : decode cX10_judges 36 = .ok (.aload_n 0, 1) := by decide +kernel
theorem dX10_judges_37 : decode cX10_judges 37 = .ok (.getfield 122, 3) := by decide +kernel
theorem dX10_judges_40 : decode cX10_judges 40 = .ok (.if_icmp .ge 83, 3) := by decide +kernel
theorem dX10_judges_43 : decode cX10_judges 43 = .ok (.aload_n 0, 1) := by decide +kernel
theorem dX10_judges_44 : decode cX10_judges 44 = .ok (.getfield 31, 3) := by decide +kernel
theorem dX10_judges_47 : decode cX10_judges 47 = .ok (.iload_n 2, 1) := by decide +kernel
theorem dX10_judges_48 : decode cX10_judges 48 = .ok (.iaload, 1) := by decide +kernel
theorem dX10_judges_49 : decode cX10_judges 49 = .ok (.iload_n 3, 1) := by decide +kernel
theorem dX10_judges_50 : decode cX10_judges 50 = .ok (.if_icmp .ne 73, 3) := by decide +kernel
theorem dX10_judges_53 : decode cX10_judges 53 = .ok (.aload_n 0, 1) := by decide +kernel
theorem dX10_judges_54 : decode cX10_judges 54 = .ok (.getfield 34, 3) := by decide +kernel
theorem dX10_judges_57 : decode cX10_judges 57 = .ok (.iload_n 2, 1) := by decide +kernel
theorem dX10_judges_58 : decode cX10_judges 58 = .ok (.iaload, 1) := by decide +kernel
theorem dX10_judges_59 : decode cX10_judges 59 = .ok (.istore 6, 2) := by decide +kernel
theorem dX10_judges_61 : decode cX10_judges 61 = .ok (.aload_n 0, 1) := by decide +kernel
theorem dX10_judges_62 : decode cX10_judges 62 = .ok (.iload 6, 2) := by decide +kernel
theorem dX10_judges_64 : decode cX10_judges 64 = .ok (.aload_n 0, 1) := by decide +kernel
theorem dX10_judges_65 : decode cX10_judges 65 = .ok (.getfield 40, 3) := by decide +kernel
theorem dX10_judges_68 : decode cX10_judges 68 = .ok (.iload 6, 2) := by decide +kernel
theorem dX10_judges_70 : decode cX10_judges 70 = .ok (.iaload, 1) := by decide +kernel
theorem dX10_judges_71 : decode cX10_judges 71 = .ok (.invokevirtual 140, 3) := by decide +kernel
theorem dX10_judges_74 : decode cX10_judges 74 = .ok (.istore 7, 2) := by decide +kernel
theorem dX10_judges_76 : decode cX10_judges 76 = .ok (.aload_n 0, 1) := by decide +kernel
theorem dX10_judges_77 : decode cX10_judges 77 = .ok (.iload 6, 2) := by decide +kernel
theorem dX10_judges_79 : decode cX10_judges 79 = .ok (.invokevirtual 152, 3) := by decide +kernel
theorem dX10_judges_82 : decode cX10_judges 82 = .ok (.istore 8, 2) := by decide +kernel
theorem dX10_judges_84 : decode cX10_judges 84 = .ok (.iload 4, 2) := by decide +kernel
theorem dX10_judges_86 : decode cX10_judges 86 = .ok (.iload 8, 2) := by decide +kernel
theorem dX10_judges_88 : decode cX10_judges 88 = .ok (.ifCond .eq 8, 3) := by decide +kernel
theorem dX10_judges_91 : decode cX10_judges 91 = .ok (.iload 7, 2) := by decide +kernel
theorem dX10_judges_93 : decode cX10_judges 93 = .ok (.goto 4, 3) := by decide +kernel
theorem dX10_judges_96 : decode cX10_judges 96 = .ok (.iconst 0, 1) := by decide +kernel
theorem dX10_judges_97 : decode cX10_judges 97 = .ok (.iadd, 1) := by decide +kernel
theorem dX10_judges_98 : decode cX10_judges 98 = .ok (.istore 4, 2) := by decide +kernel
theorem dX10_judges_100 : decode cX10_judges 100 = .ok (.iload 5, 2) := by decide +kernel
theorem dX10_judges_102 : decode cX10_judges 102 = .ok (.ifCond .ne 8, 3) := by decide +kernel
theorem dX10_judges_105 : decode cX10_judges 105 = .ok (.iload 8, 2) := by decide +kernel
theorem dX10_judges_107 : decode cX10_judges 107 = .ok (.ifCond .ne 7, 3) := by decide +kernel
theorem dX10_judges_110 : decode cX10_judges 110 = .ok (.iconst 1, 1) := by decide +kernel
theorem dX10_judges_111 : decode cX10_judges 111 = .ok (.goto 4, 3) := by decide +kernel
theorem dX10_judges_114 : decode cX10_judges 114 = .ok (.iconst 0, 1) := by decide +kernel
theorem dX10_judges_115 : decode cX10_judges 115 = .ok (.istore 5, 2) := by decide +kernel
theorem dX10_judges_117 : decode cX10_judges 117 = .ok (.iinc 2 1, 3) := by decide +kernel
theorem dX10_judges_120 : decode cX10_judges 120 = .ok (.goto (-85), 3) := by decide +kernel
theorem dX10_judges_123 : decode cX10_judges 123 = .ok (.iconst 0, 1) := by decide +kernel
theorem dX10_judges_124 : decode cX10_judges 124 = .ok (.istore 6, 2) := by decide +kernel
theorem dX10_judges_126 : decode cX10_judges 126 = .ok (.iconst 0, 1) := by decide +kernel
theorem dX10_judges_127 : decode cX10_judges 127 = .ok (.istore 7, 2) := by decide +kernel
theorem dX10_judges_129 : decode cX10_judges 129 = .ok (.iload 7, 2) := by decide +kernel
theorem dX10_judges_131 : decode cX10_judges 131 = .ok (.aload_n 0, 1) := by decide +kernel
theorem dX10_judges_132 : decode cX10_judges 132 = .ok (.getfield 111, 3) := by decide +kernel
theorem dX10_judges_135 : decode cX10_judges 135 = .ok (.if_icmp .ge 36, 3) := by decide +kernel
theorem dX10_judges_138 : decode cX10_judges 138 = .ok (.iload 6, 2) := by decide +kernel
theorem dX10_judges_140 : decode cX10_judges 140 = .ok (.ifCond .ne 18, 3) := by decide +kernel
theorem dX10_judges_143 : decode cX10_judges 143 = .ok (.aload_n 0, 1) := by decide +kernel
theorem dX10_judges_144 : decode cX10_judges 144 = .ok (.getfield 37, 3) := by decide +kernel
theorem dX10_judges_147 : decode cX10_judges 147 = .ok (.iload 7, 2) := by decide +kernel
theorem dX10_judges_149 : decode cX10_judges 149 = .ok (.iaload, 1) := by decide +kernel
theorem dX10_judges_150 : decode cX10_judges 150 = .ok (.aload_n 0, 1) := by decide +kernel
theorem dX10_judges_151 : decode cX10_judges 151 = .ok (.iload_n 3, 1) := by decide +kernel
theorem dX10_judges_152 : decode cX10_judges 152 = .ok (.invokevirtual 104, 3) := by decide +kernel
theorem dX10_judges_155 : decode cX10_judges 155 = .ok (.if_icmp .ge 7, 3) := by decide +kernel
theorem dX10_judges_158 : decode cX10_judges 158 = .ok (.iconst 1, 1) := by decide +kernel
theorem dX10_judges_159 : decode cX10_judges 159 = .ok (.goto 4, 3) := by decide +kernel
theorem dX10_judges_162 : decode cX10_judges 162 = .ok (.iconst 0, 1) := by decide +kernel
theorem dX10_judges_163 : decode cX10_judges 163 = .ok (.istore 6, 2) := by decide +kernel
theorem dX10_judges_165 : decode cX10_judges 165 = .ok (.iinc 7 1, 3) := by decide +kernel
theorem dX10_judges_168 : decode cX10_judges 168 = .ok (.goto (-39), 3) := by decide +kernel
theorem dX10_judges_171 : decode cX10_judges 171 = .ok (.iload 5, 2) := by decide +kernel
theorem dX10_judges_173 : decode cX10_judges 173 = .ok (.ifCond .eq 7, 3) := by decide +kernel
theorem dX10_judges_176 : decode cX10_judges 176 = .ok (.iconst 3, 1) := by decide +kernel
theorem dX10_judges_177 : decode cX10_judges 177 = .ok (.goto 28, 3) := by decide +kernel
theorem dX10_judges_180 : decode cX10_judges 180 = .ok (.iload 4, 2) := by decide +kernel
theorem dX10_judges_182 : decode cX10_judges 182 = .ok (.aload_n 0, 1) := by decide +kernel
theorem dX10_judges_183 : decode cX10_judges 183 = .ok (.getfield 13, 3) := by decide +kernel
theorem dX10_judges_186 : decode cX10_judges 186 = .ok (.iconst 1, 1) := by decide +kernel
theorem dX10_judges_187 : decode cX10_judges 187 = .ok (.iaload, 1) := by decide +kernel
theorem dX10_judges_188 : decode cX10_judges 188 = .ok (.if_icmp .le 7, 3) := by decide +kernel
theorem dX10_judges_191 : decode cX10_judges 191 = .ok (.iconst 2, 1) := by decide +kernel
theorem dX10_judges_192 : decode cX10_judges 192 = .ok (.goto 13, 3) := by decide +kernel
theorem dX10_judges_195 : decode cX10_judges 195 = .ok (.iload 6, 2) := by decide +kernel
theorem dX10_judges_197 : decode cX10_judges 197 = .ok (.ifCond .eq 7, 3) := by decide +kernel
theorem dX10_judges_200 : decode cX10_judges 200 = .ok (.iconst 1, 1) := by decide +kernel
theorem dX10_judges_201 : decode cX10_judges 201 = .ok (.goto 4, 3) := by decide +kernel
theorem dX10_judges_204 : decode cX10_judges 204 = .ok (.iconst 0, 1) := by decide +kernel
theorem dX10_judges_205 : decode cX10_judges 205 = .ok (.istore 7, 2) := by decide +kernel
theorem dX10_judges_207 : decode cX10_judges 207 = .ok (.aload_n 0, 1) := by decide +kernel
theorem dX10_judges_208 : decode cX10_judges 208 = .ok (.aload_n 0, 1) := by decide +kernel
theorem dX10_judges_209 : decode cX10_judges 209 = .ok (.getfield 146, 3) := by decide +kernel
theorem dX10_judges_212 : decode cX10_judges 212 = .ok (.iconst (-1), 1) := by decide +kernel
theorem dX10_judges_213 : decode cX10_judges 213 = .ok (.if_icmp .ne 8, 3) := by decide +kernel
theorem dX10_judges_216 : decode cX10_judges 216 = .ok (.iload 7, 2) := by decide +kernel
theorem dX10_judges_218 : decode cX10_judges 218 = .ok (.goto 7, 3) := by decide +kernel
theorem dX10_judges_221 : decode cX10_judges 221 = .ok (.aload_n 0, 1) := by decide +kernel
theorem dX10_judges_222 : decode cX10_judges 222 = .ok (.getfield 149, 3) := by decide +kernel
theorem dX10_judges_225 : decode cX10_judges 225 = .ok (.putfield 149, 3) := by decide +kernel
theorem dX10_judges_228 : decode cX10_judges 228 = .ok (.aload_n 0, 1) := by decide +kernel
theorem dX10_judges_229 : decode cX10_judges 229 = .ok (.aload_n 0, 1) := by decide +kernel
theorem dX10_judges_230 : decode cX10_judges 230 = .ok (.getfield 146, 3) := by decide +kernel
theorem dX10_judges_233 : decode cX10_judges 233 = .ok (.iconst (-1), 1) := by decide +kernel
theorem dX10_judges_234 : decode cX10_judges 234 = .ok (.if_icmp .ne 12, 3) := by decide +kernel
theorem dX10_judges_237 : decode cX10_judges 237 = .ok (.iload 7, 2) := by decide +kernel
theorem dX10_judges_239 : decode cX10_judges 239 = .ok (.ifCond .le 7, 3) := by decide +kernel
theorem dX10_judges_242 : decode cX10_judges 242 = .ok (.iload_n 3, 1) := by decide +kernel
theorem dX10_judges_243 : decode cX10_judges 243 = .ok (.goto 7, 3) := by decide +kernel
theorem dX10_judges_246 : decode cX10_judges 246 = .ok (.aload_n 0, 1) := by decide +kernel
theorem dX10_judges_247 : decode cX10_judges 247 = .ok (.getfield 146, 3) := by decide +kernel
theorem dX10_judges_250 : decode cX10_judges 250 = .ok (.putfield 146, 3) := by decide +kernel
theorem dX10_judges_253 : decode cX10_judges 253 = .ok (.iinc 3 1, 3) := by decide +kernel
theorem dX10_judges_256 : decode cX10_judges 256 = .ok (.goto (-233), 3) := by decide +kernel
theorem dX10_judges_259 : decode cX10_judges 259 = .ok (.return_, 1) := by decide +kernel
theorem dX10_judgedOf_0 : decode cX10_judgedOf 0 = .ok (.aload_n 0, 1) := by decide +kernel
theorem dX10_judgedOf_1 : decode cX10_judgedOf 1 = .ok (.invokevirtual 155, 3) := by decide +kernel
theorem dX10_judgedOf_4 : decode cX10_judgedOf 4 = .ok (.iload_n 1, 1) := by decide +kernel
theorem dX10_judgedOf_5 : decode cX10_judgedOf 5 = .ok (.ifCond .ne 10, 3) := by decide +kernel
theorem dX10_judgedOf_8 : decode cX10_judgedOf 8 = .ok (.aload_n 0, 1) := by decide +kernel
theorem dX10_judgedOf_9 : decode cX10_judgedOf 9 = .ok (.getfield 146, 3) := by decide +kernel
theorem dX10_judgedOf_12 : decode cX10_judgedOf 12 = .ok (.goto 7, 3) := by decide +kernel
theorem dX10_judgedOf_15 : decode cX10_judgedOf 15 = .ok (.aload_n 0, 1) := by decide +kernel
theorem dX10_judgedOf_16 : decode cX10_judgedOf 16 = .ok (.getfield 149, 3) := by decide +kernel
theorem dX10_judgedOf_19 : decode cX10_judgedOf 19 = .ok (.ireturn, 1) := by decide +kernel
theorem dX10_judged_0 : decode cX10_judged 0 = .ok (.iload_n 1, 1) := by decide +kernel
theorem dX10_judged_1 : decode cX10_judged 1 = .ok (.iconst 0, 1) := by decide +kernel
theorem dX10_judged_2 : decode cX10_judged 2 = .ok (.iconst 1, 1) := by decide +kernel
theorem dX10_judged_3 : decode cX10_judged 3 = .ok (.invokestatic 89, 3) := by decide +kernel
theorem dX10_judged_6 : decode cX10_judged 6 = .ok (.ifCond .eq 11, 3) := by decide +kernel
theorem dX10_judged_9 : decode cX10_judged 9 = .ok (.aload_n 0, 1) := by decide +kernel
theorem dX10_judged_10 : decode cX10_judged 10 = .ok (.iload_n 1, 1) := by decide +kernel
theorem dX10_judged_11 : decode cX10_judged 11 = .ok (.invokevirtual 158, 3) := by decide +kernel
theorem dX10_judged_14 : decode cX10_judged 14 = .ok (.goto 5, 3) := by decide +kernel
theorem dX10_judged_17 : decode cX10_judged 17 = .ok (.bipush (-2), 2) := by decide +kernel
theorem dX10_judged_19 : decode cX10_judged 19 = .ok (.ireturn, 1) := by decide +kernel
theorem dX10_endsOf_0 : decode cX10_endsOf 0 = .ok (.aload_n 0, 1) := by decide +kernel
theorem dX10_endsOf_1 : decode cX10_endsOf 1 = .ok (.invokevirtual 155, 3) := by decide +kernel
theorem dX10_endsOf_4 : decode cX10_endsOf 4 = .ok (.aload_n 0, 1) := by decide +kernel
theorem dX10_endsOf_5 : decode cX10_endsOf 5 = .ok (.getfield 37, 3) := by decide +kernel
theorem dX10_endsOf_8 : decode cX10_endsOf 8 = .ok (.iload_n 1, 1) := by decide +kernel
theorem dX10_endsOf_9 : decode cX10_endsOf 9 = .ok (.iaload, 1) := by decide +kernel
theorem dX10_endsOf_10 : decode cX10_endsOf 10 = .ok (.ireturn, 1) := by decide +kernel
theorem dX10_ends_0 : decode cX10_ends 0 = .ok (.aload_n 0, 1) := by decide +kernel
theorem dX10_ends_1 : decode cX10_ends 1 = .ok (.iload_n 1, 1) := by decide +kernel
theorem dX10_ends_2 : decode cX10_ends 2 = .ok (.invokevirtual 134, 3) := by decide +kernel
theorem dX10_ends_5 : decode cX10_ends 5 = .ok (.ifCond .eq 11, 3) := by decide +kernel
theorem dX10_ends_8 : decode cX10_ends 8 = .ok (.aload_n 0, 1) := by decide +kernel
theorem dX10_ends_9 : decode cX10_ends 9 = .ok (.iload_n 1, 1) := by decide +kernel
theorem dX10_ends_10 : decode cX10_ends 10 = .ok (.invokevirtual 161, 3) := by decide +kernel
theorem dX10_ends_13 : decode cX10_ends 13 = .ok (.goto 5, 3) := by decide +kernel
theorem dX10_ends_16 : decode cX10_ends 16 = .ok (.bipush (-2), 2) := by decide +kernel
theorem dX10_ends_18 : decode cX10_ends 18 = .ok (.ireturn, 1) := by decide +kernel
theorem dX10_nextOne_0 : decode cX10_nextOne 0 = .ok (.iconst (-1), 1) := by decide +kernel
theorem dX10_nextOne_1 : decode cX10_nextOne 1 = .ok (.istore_n 1, 1) := by decide +kernel
theorem dX10_nextOne_2 : decode cX10_nextOne 2 = .ok (.iconst 0, 1) := by decide +kernel
theorem dX10_nextOne_3 : decode cX10_nextOne 3 = .ok (.istore_n 2, 1) := by decide +kernel
theorem dX10_nextOne_4 : decode cX10_nextOne 4 = .ok (.iload_n 2, 1) := by decide +kernel
theorem dX10_nextOne_5 : decode cX10_nextOne 5 = .ok (.aload_n 0, 1) := by decide +kernel
theorem dX10_nextOne_6 : decode cX10_nextOne 6 = .ok (.getfield 111, 3) := by decide +kernel
theorem dX10_nextOne_9 : decode cX10_nextOne 9 = .ok (.if_icmp .ge 35, 3) := by decide +kernel
theorem dX10_nextOne_12 : decode cX10_nextOne 12 = .ok (.iload_n 1, 1) := by decide +kernel
theorem dX10_nextOne_13 : decode cX10_nextOne 13 = .ok (.iconst (-1), 1) := by decide +kernel
theorem dX10_nextOne_14 : decode cX10_nextOne 14 = .ok (.if_icmp .eq 18, 3) := by decide +kernel
theorem dX10_nextOne_17 : decode cX10_nextOne 17 = .ok (.aload_n 0, 1) := by decide +kernel
theorem dX10_nextOne_18 : decode cX10_nextOne 18 = .ok (.getfield 37, 3) := by decide +kernel
theorem dX10_nextOne_21 : decode cX10_nextOne 21 = .ok (.iload_n 2, 1) := by decide +kernel
theorem dX10_nextOne_22 : decode cX10_nextOne 22 = .ok (.iaload, 1) := by decide +kernel
theorem dX10_nextOne_23 : decode cX10_nextOne 23 = .ok (.aload_n 0, 1) := by decide +kernel
theorem dX10_nextOne_24 : decode cX10_nextOne 24 = .ok (.getfield 37, 3) := by decide +kernel
theorem dX10_nextOne_27 : decode cX10_nextOne 27 = .ok (.iload_n 1, 1) := by decide +kernel
theorem dX10_nextOne_28 : decode cX10_nextOne 28 = .ok (.iaload, 1) := by decide +kernel
theorem dX10_nextOne_29 : decode cX10_nextOne 29 = .ok (.if_icmp .ge 7, 3) := by decide +kernel
theorem dX10_nextOne_32 : decode cX10_nextOne 32 = .ok (.iload_n 2, 1) := by decide +kernel
theorem dX10_nextOne_33 : decode cX10_nextOne 33 = .ok (.goto 4, 3) := by decide +kernel
theorem dX10_nextOne_36 : decode cX10_nextOne 36 = .ok (.iload_n 1, 1) := by decide +kernel
theorem dX10_nextOne_37 : decode cX10_nextOne 37 = .ok (.istore_n 1, 1) := by decide +kernel
theorem dX10_nextOne_38 : decode cX10_nextOne 38 = .ok (.iinc 2 1, 3) := by decide +kernel
theorem dX10_nextOne_41 : decode cX10_nextOne 41 = .ok (.goto (-37), 3) := by decide +kernel
theorem dX10_nextOne_44 : decode cX10_nextOne 44 = .ok (.iload_n 1, 1) := by decide +kernel
theorem dX10_nextOne_45 : decode cX10_nextOne 45 = .ok (.ireturn, 1) := by decide +kernel
theorem dX10_queues_0 : decode cX10_queues 0 = .ok (.aload_n 0, 1) := by decide +kernel
theorem dX10_queues_1 : decode cX10_queues 1 = .ok (.invokevirtual 118, 3) := by decide +kernel
theorem dX10_queues_4 : decode cX10_queues 4 = .ok (.istore_n 2, 1) := by decide +kernel
theorem dX10_queues_5 : decode cX10_queues 5 = .ok (.aload_n 0, 1) := by decide +kernel
theorem dX10_queues_6 : decode cX10_queues 6 = .ok (.invokevirtual 143, 3) := by decide +kernel
theorem dX10_queues_9 : decode cX10_queues 9 = .ok (.iconst 0, 1) := by decide +kernel
theorem dX10_queues_10 : decode cX10_queues 10 = .ok (.istore_n 3, 1) := by decide +kernel
theorem dX10_queues_11 : decode cX10_queues 11 = .ok (.iload_n 3, 1) := by decide +kernel
theorem dX10_queues_12 : decode cX10_queues 12 = .ok (.iload_n 1, 1) := by decide +kernel
theorem dX10_queues_13 : decode cX10_queues 13 = .ok (.if_icmp .ge 26, 3) := by decide +kernel
theorem dX10_queues_16 : decode cX10_queues 16 = .ok (.aload_n 0, 1) := by decide +kernel
theorem dX10_queues_17 : decode cX10_queues 17 = .ok (.getfield 111, 3) := by decide +kernel
theorem dX10_queues_20 : decode cX10_queues 20 = .ok (.ifCond .le 19, 3) := by decide +kernel
theorem dX10_queues_23 : decode cX10_queues 23 = .ok (.aload_n 0, 1) := by decide +kernel
theorem dX10_queues_24 : decode cX10_queues 24 = .ok (.aload_n 0, 1) := by decide +kernel
theorem dX10_queues_25 : decode cX10_queues 25 = .ok (.invokevirtual 164, 3) := by decide +kernel
theorem dX10_queues_28 : decode cX10_queues 28 = .ok (.invokevirtual 152, 3) := by decide +kernel
theorem dX10_queues_31 : decode cX10_queues 31 = .ok (.istore 4, 2) := by decide +kernel
theorem dX10_queues_33 : decode cX10_queues 33 = .ok (.iinc 3 1, 3) := by decide +kernel
theorem dX10_queues_36 : decode cX10_queues 36 = .ok (.goto (-25), 3) := by decide +kernel
theorem dX10_queues_39 : decode cX10_queues 39 = .ok (.return_, 1) := by decide +kernel
theorem dX10_queueOf_0 : decode cX10_queueOf 0 = .ok (.aload_n 0, 1) := by decide +kernel
theorem dX10_queueOf_1 : decode cX10_queueOf 1 = .ok (.iload_n 1, 1) := by decide +kernel
theorem dX10_queueOf_2 : decode cX10_queueOf 2 = .ok (.invokevirtual 167, 3) := by decide +kernel
theorem dX10_queueOf_5 : decode cX10_queueOf 5 = .ok (.iload_n 2, 1) := by decide +kernel
theorem dX10_queueOf_6 : decode cX10_queueOf 6 = .ok (.iconst (-1), 1) := by decide +kernel
theorem dX10_queueOf_7 : decode cX10_queueOf 7 = .ok (.if_icmp .ne 10, 3) := by decide +kernel
theorem dX10_queueOf_10 : decode cX10_queueOf 10 = .ok (.aload_n 0, 1) := by decide +kernel
theorem dX10_queueOf_11 : decode cX10_queueOf 11 = .ok (.invokevirtual 164, 3) := by decide +kernel
theorem dX10_queueOf_14 : decode cX10_queueOf 14 = .ok (.goto 9, 3) := by decide +kernel
theorem dX10_queueOf_17 : decode cX10_queueOf 17 = .ok (.aload_n 0, 1) := by decide +kernel
theorem dX10_queueOf_18 : decode cX10_queueOf 18 = .ok (.getfield 37, 3) := by decide +kernel
theorem dX10_queueOf_21 : decode cX10_queueOf 21 = .ok (.iload_n 2, 1) := by decide +kernel
theorem dX10_queueOf_22 : decode cX10_queueOf 22 = .ok (.iaload, 1) := by decide +kernel
theorem dX10_queueOf_23 : decode cX10_queueOf 23 = .ok (.ireturn, 1) := by decide +kernel
theorem dX10_queue_0 : decode cX10_queue 0 = .ok (.iload_n 1, 1) := by decide +kernel
theorem dX10_queue_1 : decode cX10_queue 1 = .ok (.iconst 0, 1) := by decide +kernel
theorem dX10_queue_2 : decode cX10_queue 2 = .ok (.bipush 40, 2) := by decide +kernel
theorem dX10_queue_4 : decode cX10_queue 4 = .ok (.invokestatic 89, 3) := by decide +kernel
theorem dX10_queue_7 : decode cX10_queue 7 = .ok (.ifCond .eq 25, 3) := by decide +kernel
theorem dX10_queue_10 : decode cX10_queue 10 = .ok (.iload_n 2, 1) := by decide +kernel
theorem dX10_queue_11 : decode cX10_queue 11 = .ok (.iconst (-1), 1) := by decide +kernel
theorem dX10_queue_12 : decode cX10_queue 12 = .ok (.if_icmp .eq 11, 3) := by decide +kernel
theorem dX10_queue_15 : decode cX10_queue 15 = .ok (.aload_n 0, 1) := by decide +kernel
theorem dX10_queue_16 : decode cX10_queue 16 = .ok (.iload_n 2, 1) := by decide +kernel
theorem dX10_queue_17 : decode cX10_queue 17 = .ok (.invokevirtual 134, 3) := by decide +kernel
theorem dX10_queue_20 : decode cX10_queue 20 = .ok (.ifCond .eq 12, 3) := by decide +kernel
theorem dX10_queue_23 : decode cX10_queue 23 = .ok (.aload_n 0, 1) := by decide +kernel
theorem dX10_queue_24 : decode cX10_queue 24 = .ok (.iload_n 1, 1) := by decide +kernel
theorem dX10_queue_25 : decode cX10_queue 25 = .ok (.iload_n 2, 1) := by decide +kernel
theorem dX10_queue_26 : decode cX10_queue 26 = .ok (.invokevirtual 171, 3) := by decide +kernel
theorem dX10_queue_29 : decode cX10_queue 29 = .ok (.goto 5, 3) := by decide +kernel
theorem dX10_queue_32 : decode cX10_queue 32 = .ok (.bipush (-2), 2) := by decide +kernel
theorem dX10_queue_34 : decode cX10_queue 34 = .ok (.ireturn, 1) := by decide +kernel
theorem dX10_needsBy_0 : decode cX10_needsBy 0 = .ok (.aload_n 0, 1) := by decide +kernel
theorem dX10_needsBy_1 : decode cX10_needsBy 1 = .ok (.invokevirtual 143, 3) := by decide +kernel
theorem dX10_needsBy_4 : decode cX10_needsBy 4 = .ok (.iconst 0, 1) := by decide +kernel
theorem dX10_needsBy_5 : decode cX10_needsBy 5 = .ok (.istore_n 2, 1) := by decide +kernel
theorem dX10_needsBy_6 : decode cX10_needsBy 6 = .ok (.aload_n 0, 1) := by decide +kernel
theorem dX10_needsBy_7 : decode cX10_needsBy 7 = .ok (.getfield 111, 3) := by decide +kernel
theorem dX10_needsBy_10 : decode cX10_needsBy 10 = .ok (.ifCond .le 59, 3) := by decide +kernel
theorem dX10_needsBy_13 : decode cX10_needsBy 13 = .ok (.aload_n 0, 1) := by decide +kernel
theorem dX10_needsBy_14 : decode cX10_needsBy 14 = .ok (.getfield 37, 3) := by decide +kernel
theorem dX10_needsBy_17 : decode cX10_needsBy 17 = .ok (.aload_n 0, 1) := by decide +kernel
theorem dX10_needsBy_18 : decode cX10_needsBy 18 = .ok (.invokevirtual 164, 3) := by decide +kernel
theorem dX10_needsBy_21 : decode cX10_needsBy 21 = .ok (.iaload, 1) := by decide +kernel
theorem dX10_needsBy_22 : decode cX10_needsBy 22 = .ok (.iload_n 1, 1) := by decide +kernel
theorem dX10_needsBy_23 : decode cX10_needsBy 23 = .ok (.if_icmp .ge 46, 3) := by decide +kernel
theorem dX10_needsBy_26 : decode cX10_needsBy 26 = .ok (.aload_n 0, 1) := by decide +kernel
theorem dX10_needsBy_27 : decode cX10_needsBy 27 = .ok (.invokevirtual 164, 3) := by decide +kernel
theorem dX10_needsBy_30 : decode cX10_needsBy 30 = .ok (.istore_n 3, 1) := by decide +kernel
theorem dX10_needsBy_31 : decode cX10_needsBy 31 = .ok (.aload_n 0, 1) := by decide +kernel
theorem dX10_needsBy_32 : decode cX10_needsBy 32 = .ok (.iload_n 3, 1) := by decide +kernel
theorem dX10_needsBy_33 : decode cX10_needsBy 33 = .ok (.aload_n 0, 1) := by decide +kernel
theorem dX10_needsBy_34 : decode cX10_needsBy 34 = .ok (.getfield 40, 3) := by decide +kernel
theorem dX10_needsBy_37 : decode cX10_needsBy 37 = .ok (.iload_n 3, 1) := by decide +kernel
theorem dX10_needsBy_38 : decode cX10_needsBy 38 = .ok (.iaload, 1) := by decide +kernel
theorem dX10_needsBy_39 : decode cX10_needsBy 39 = .ok (.invokevirtual 140, 3) := by decide +kernel
theorem dX10_needsBy_42 : decode cX10_needsBy 42 = .ok (.istore 4, 2) := by decide +kernel
theorem dX10_needsBy_44 : decode cX10_needsBy 44 = .ok (.aload_n 0, 1) := by decide +kernel
theorem dX10_needsBy_45 : decode cX10_needsBy 45 = .ok (.iload_n 3, 1) := by decide +kernel
theorem dX10_needsBy_46 : decode cX10_needsBy 46 = .ok (.invokevirtual 152, 3) := by decide +kernel
theorem dX10_needsBy_49 : decode cX10_needsBy 49 = .ok (.ifCond .ne 6, 3) := by decide +kernel
theorem dX10_needsBy_52 : decode cX10_needsBy 52 = .ok (.bipush (-3), 2) := by decide +kernel
theorem dX10_needsBy_54 : decode cX10_needsBy 54 = .ok (.ireturn, 1) := by decide +kernel
theorem dX10_needsBy_55 : decode cX10_needsBy 55 = .ok (.aload_n 0, 1) := by decide +kernel
theorem dX10_needsBy_56 : decode cX10_needsBy 56 = .ok (.getfield 43, 3) := by decide +kernel
theorem dX10_needsBy_59 : decode cX10_needsBy 59 = .ok (.iload_n 2, 1) := by decide +kernel
theorem dX10_needsBy_60 : decode cX10_needsBy 60 = .ok (.iload 4, 2) := by decide +kernel
theorem dX10_needsBy_62 : decode cX10_needsBy 62 = .ok (.iastore, 1) := by decide +kernel
theorem dX10_needsBy_63 : decode cX10_needsBy 63 = .ok (.iinc 2 1, 3) := by decide +kernel
theorem dX10_needsBy_66 : decode cX10_needsBy 66 = .ok (.goto (-60), 3) := by decide +kernel
theorem dX10_needsBy_69 : decode cX10_needsBy 69 = .ok (.iload_n 2, 1) := by decide +kernel
theorem dX10_needsBy_70 : decode cX10_needsBy 70 = .ok (.ireturn, 1) := by decide +kernel
theorem dX10_needsOf_0 : decode cX10_needsOf 0 = .ok (.aload_n 0, 1) := by decide +kernel
theorem dX10_needsOf_1 : decode cX10_needsOf 1 = .ok (.invokevirtual 118, 3) := by decide +kernel
theorem dX10_needsOf_4 : decode cX10_needsOf 4 = .ok (.istore_n 2, 1) := by decide +kernel
theorem dX10_needsOf_5 : decode cX10_needsOf 5 = .ok (.aload_n 0, 1) := by decide +kernel
theorem dX10_needsOf_6 : decode cX10_needsOf 6 = .ok (.aload_n 0, 1) := by decide +kernel
theorem dX10_needsOf_7 : decode cX10_needsOf 7 = .ok (.iload_n 1, 1) := by decide +kernel
theorem dX10_needsOf_8 : decode cX10_needsOf 8 = .ok (.invokevirtual 104, 3) := by decide +kernel
theorem dX10_needsOf_11 : decode cX10_needsOf 11 = .ok (.invokevirtual 174, 3) := by decide +kernel
theorem dX10_needsOf_14 : decode cX10_needsOf 14 = .ok (.ireturn, 1) := by decide +kernel
theorem dX10_needs_0 : decode cX10_needs 0 = .ok (.iload_n 1, 1) := by decide +kernel
theorem dX10_needs_1 : decode cX10_needs 1 = .ok (.invokestatic 93, 3) := by decide +kernel
theorem dX10_needs_4 : decode cX10_needs 4 = .ok (.ifCond .eq 11, 3) := by decide +kernel
theorem dX10_needs_7 : decode cX10_needs 7 = .ok (.aload_n 0, 1) := by decide +kernel
theorem dX10_needs_8 : decode cX10_needs 8 = .ok (.iload_n 1, 1) := by decide +kernel
theorem dX10_needs_9 : decode cX10_needs 9 = .ok (.invokevirtual 177, 3) := by decide +kernel
theorem dX10_needs_12 : decode cX10_needs 12 = .ok (.goto 5, 3) := by decide +kernel
theorem dX10_needs_15 : decode cX10_needs 15 = .ok (.bipush (-2), 2) := by decide +kernel
theorem dX10_needs_17 : decode cX10_needs 17 = .ok (.ireturn, 1) := by decide +kernel
theorem dX10_areEnough_0 : decode cX10_areEnough 0 = .ok (.iconst 0, 1) := by decide +kernel
theorem dX10_areEnough_1 : decode cX10_areEnough 1 = .ok (.istore 4, 2) := by decide +kernel
theorem dX10_areEnough_3 : decode cX10_areEnough 3 = .ok (.iconst 0, 1) := by decide +kernel
theorem dX10_areEnough_4 : decode cX10_areEnough 4 = .ok (.istore 5, 2) := by decide +kernel
theorem dX10_areEnough_6 : decode cX10_areEnough 6 = .ok (.iload 5, 2) := by decide +kernel
theorem dX10_areEnough_8 : decode cX10_areEnough 8 = .ok (.iload_n 2, 1) := by decide +kernel
theorem dX10_areEnough_9 : decode cX10_areEnough 9 = .ok (.if_icmp .gt 71, 3) := by decide +kernel
theorem dX10_areEnough_12 : decode cX10_areEnough 12 = .ok (.iload_n 1, 1) := by decide +kernel
theorem dX10_areEnough_13 : decode cX10_areEnough 13 = .ok (.istore 6, 2) := by decide +kernel
theorem dX10_areEnough_15 : decode cX10_areEnough 15 = .ok (.iload 4, 2) := by decide +kernel
theorem dX10_areEnough_17 : decode cX10_areEnough 17 = .ok (.iload_n 3, 1) := by decide +kernel
theorem dX10_areEnough_18 : decode cX10_areEnough 18 = .ok (.if_icmp .ge 42, 3) := by decide +kernel
theorem dX10_areEnough_21 : decode cX10_areEnough 21 = .ok (.aload_n 0, 1) := by decide +kernel
theorem dX10_areEnough_22 : decode cX10_areEnough 22 = .ok (.getfield 43, 3) := by decide +kernel
theorem dX10_areEnough_25 : decode cX10_areEnough 25 = .ok (.iload 4, 2) := by decide +kernel
theorem dX10_areEnough_27 : decode cX10_areEnough 27 = .ok (.iaload, 1) := by decide +kernel
theorem dX10_areEnough_28 : decode cX10_areEnough 28 = .ok (.iload 6, 2) := by decide +kernel
theorem dX10_areEnough_30 : decode cX10_areEnough 30 = .ok (.if_icmp .gt 30, 3) := by decide +kernel
theorem dX10_areEnough_33 : decode cX10_areEnough 33 = .ok (.iload 6, 2) := by decide +kernel
theorem dX10_areEnough_35 : decode cX10_areEnough 35 = .ok (.aload_n 0, 1) := by decide +kernel
theorem dX10_areEnough_36 : decode cX10_areEnough 36 = .ok (.getfield 43, 3) := by decide +kernel
theorem dX10_areEnough_39 : decode cX10_areEnough 39 = .ok (.iload 4, 2) := by decide +kernel
theorem dX10_areEnough_41 : decode cX10_areEnough 41 = .ok (.iaload, 1) := by decide +kernel
theorem dX10_areEnough_42 : decode cX10_areEnough 42 = .ok (.isub, 1) := by decide +kernel
theorem dX10_areEnough_43 : decode cX10_areEnough 43 = .ok (.istore 6, 2) := by decide +kernel
theorem dX10_areEnough_45 : decode cX10_areEnough 45 = .ok (.aload_n 0, 1) := by decide +kernel
theorem dX10_areEnough_46 : decode cX10_areEnough 46 = .ok (.getfield 49, 3) := by decide +kernel
theorem dX10_areEnough_49 : decode cX10_areEnough 49 = .ok (.iload 4, 2) := by decide +kernel
theorem dX10_areEnough_51 : decode cX10_areEnough 51 = .ok (.iload 5, 2) := by decide +kernel
theorem dX10_areEnough_53 : decode cX10_areEnough 53 = .ok (.iastore, 1) := by decide +kernel
theorem dX10_areEnough_54 : decode cX10_areEnough 54 = .ok (.iinc 4 1, 3) := by decide +kernel
theorem dX10_areEnough_57 : decode cX10_areEnough 57 = .ok (.goto (-42), 3) := by decide +kernel
theorem dX10_areEnough_60 : decode cX10_areEnough 60 = .ok (.iload 4, 2) := by decide +kernel
theorem dX10_areEnough_62 : decode cX10_areEnough 62 = .ok (.aload_n 0, 1) := by decide +kernel
theorem dX10_areEnough_63 : decode cX10_areEnough 63 = .ok (.getfield 46, 3) := by decide +kernel
theorem dX10_areEnough_66 : decode cX10_areEnough 66 = .ok (.iload 5, 2) := by decide +kernel
theorem dX10_areEnough_68 : decode cX10_areEnough 68 = .ok (.iaload, 1) := by decide +kernel
theorem dX10_areEnough_69 : decode cX10_areEnough 69 = .ok (.if_icmp .ge 5, 3) := by decide +kernel
theorem dX10_areEnough_72 : decode cX10_areEnough 72 = .ok (.iconst 0, 1) := by decide +kernel
theorem dX10_areEnough_73 : decode cX10_areEnough 73 = .ok (.ireturn, 1) := by decide +kernel
theorem dX10_areEnough_74 : decode cX10_areEnough 74 = .ok (.iinc 5 1, 3) := by decide +kernel
theorem dX10_areEnough_77 : decode cX10_areEnough 77 = .ok (.goto (-71), 3) := by decide +kernel
theorem dX10_areEnough_80 : decode cX10_areEnough 80 = .ok (.iconst 1, 1) := by decide +kernel
theorem dX10_areEnough_81 : decode cX10_areEnough 81 = .ok (.ireturn, 1) := by decide +kernel
theorem dX10_fewestBy_0 : decode cX10_fewestBy 0 = .ok (.iconst 0, 1) := by decide +kernel
theorem dX10_fewestBy_1 : decode cX10_fewestBy 1 = .ok (.istore_n 2, 1) := by decide +kernel
theorem dX10_fewestBy_2 : decode cX10_fewestBy 2 = .ok (.iload_n 2, 1) := by decide +kernel
theorem dX10_fewestBy_3 : decode cX10_fewestBy 3 = .ok (.iload_n 1, 1) := by decide +kernel
theorem dX10_fewestBy_4 : decode cX10_fewestBy 4 = .ok (.if_icmp .gt 24, 3) := by decide +kernel
theorem dX10_fewestBy_7 : decode cX10_fewestBy 7 = .ok (.aload_n 0, 1) := by decide +kernel
theorem dX10_fewestBy_8 : decode cX10_fewestBy 8 = .ok (.getfield 46, 3) := by decide +kernel
theorem dX10_fewestBy_11 : decode cX10_fewestBy 11 = .ok (.iload_n 2, 1) := by decide +kernel
theorem dX10_fewestBy_12 : decode cX10_fewestBy 12 = .ok (.aload_n 0, 1) := by decide +kernel
theorem dX10_fewestBy_13 : decode cX10_fewestBy 13 = .ok (.aload_n 0, 1) := by decide +kernel
theorem dX10_fewestBy_14 : decode cX10_fewestBy 14 = .ok (.iload_n 2, 1) := by decide +kernel
theorem dX10_fewestBy_15 : decode cX10_fewestBy 15 = .ok (.invokevirtual 104, 3) := by decide +kernel
theorem dX10_fewestBy_18 : decode cX10_fewestBy 18 = .ok (.invokevirtual 174, 3) := by decide +kernel
theorem dX10_fewestBy_21 : decode cX10_fewestBy 21 = .ok (.iastore, 1) := by decide +kernel
theorem dX10_fewestBy_22 : decode cX10_fewestBy 22 = .ok (.iinc 2 1, 3) := by decide +kernel
theorem dX10_fewestBy_25 : decode cX10_fewestBy 25 = .ok (.goto (-23), 3) := by decide +kernel
theorem dX10_fewestBy_28 : decode cX10_fewestBy 28 = .ok (.aload_n 0, 1) := by decide +kernel
theorem dX10_fewestBy_29 : decode cX10_fewestBy 29 = .ok (.getfield 46, 3) := by decide +kernel
theorem dX10_fewestBy_32 : decode cX10_fewestBy 32 = .ok (.iload_n 1, 1) := by decide +kernel
theorem dX10_fewestBy_33 : decode cX10_fewestBy 33 = .ok (.iaload, 1) := by decide +kernel
theorem dX10_fewestBy_34 : decode cX10_fewestBy 34 = .ok (.istore_n 2, 1) := by decide +kernel
theorem dX10_fewestBy_35 : decode cX10_fewestBy 35 = .ok (.iload_n 2, 1) := by decide +kernel
theorem dX10_fewestBy_36 : decode cX10_fewestBy 36 = .ok (.bipush (-3), 2) := by decide +kernel
theorem dX10_fewestBy_38 : decode cX10_fewestBy 38 = .ok (.if_icmp .ne 6, 3) := by decide +kernel
theorem dX10_fewestBy_41 : decode cX10_fewestBy 41 = .ok (.bipush (-3), 2) := by decide +kernel
theorem dX10_fewestBy_43 : decode cX10_fewestBy 43 = .ok (.ireturn, 1) := by decide +kernel
theorem dX10_fewestBy_44 : decode cX10_fewestBy 44 = .ok (.iconst 0, 1) := by decide +kernel
theorem dX10_fewestBy_45 : decode cX10_fewestBy 45 = .ok (.istore_n 3, 1) := by decide +kernel
theorem dX10_fewestBy_46 : decode cX10_fewestBy 46 = .ok (.aload_n 0, 1) := by decide +kernel
theorem dX10_fewestBy_47 : decode cX10_fewestBy 47 = .ok (.iload_n 3, 1) := by decide +kernel
theorem dX10_fewestBy_48 : decode cX10_fewestBy 48 = .ok (.iload_n 1, 1) := by decide +kernel
theorem dX10_fewestBy_49 : decode cX10_fewestBy 49 = .ok (.iload_n 2, 1) := by decide +kernel
theorem dX10_fewestBy_50 : decode cX10_fewestBy 50 = .ok (.invokevirtual 180, 3) := by decide +kernel
theorem dX10_fewestBy_53 : decode cX10_fewestBy 53 = .ok (.ifCond .ne 9, 3) := by decide +kernel
theorem dX10_fewestBy_56 : decode cX10_fewestBy 56 = .ok (.iinc 3 1, 3) := by decide +kernel
theorem dX10_fewestBy_59 : decode cX10_fewestBy 59 = .ok (.goto (-13), 3) := by decide +kernel
theorem dX10_fewestBy_62 : decode cX10_fewestBy 62 = .ok (.iload_n 3, 1) := by decide +kernel
theorem dX10_fewestBy_63 : decode cX10_fewestBy 63 = .ok (.ireturn, 1) := by decide +kernel
theorem dX10_fewestOf_0 : decode cX10_fewestOf 0 = .ok (.aload_n 0, 1) := by decide +kernel
theorem dX10_fewestOf_1 : decode cX10_fewestOf 1 = .ok (.invokevirtual 118, 3) := by decide +kernel
theorem dX10_fewestOf_4 : decode cX10_fewestOf 4 = .ok (.istore_n 2, 1) := by decide +kernel
theorem dX10_fewestOf_5 : decode cX10_fewestOf 5 = .ok (.aload_n 0, 1) := by decide +kernel
theorem dX10_fewestOf_6 : decode cX10_fewestOf 6 = .ok (.iload_n 1, 1) := by decide +kernel
theorem dX10_fewestOf_7 : decode cX10_fewestOf 7 = .ok (.invokevirtual 183, 3) := by decide +kernel
theorem dX10_fewestOf_10 : decode cX10_fewestOf 10 = .ok (.ireturn, 1) := by decide +kernel
theorem dX10_fewest_0 : decode cX10_fewest 0 = .ok (.iload_n 1, 1) := by decide +kernel
theorem dX10_fewest_1 : decode cX10_fewest 1 = .ok (.invokestatic 93, 3) := by decide +kernel
theorem dX10_fewest_4 : decode cX10_fewest 4 = .ok (.ifCond .eq 11, 3) := by decide +kernel
theorem dX10_fewest_7 : decode cX10_fewest 7 = .ok (.aload_n 0, 1) := by decide +kernel
theorem dX10_fewest_8 : decode cX10_fewest 8 = .ok (.iload_n 1, 1) := by decide +kernel
theorem dX10_fewest_9 : decode cX10_fewest 9 = .ok (.invokevirtual 186, 3) := by decide +kernel
theorem dX10_fewest_12 : decode cX10_fewest 12 = .ok (.goto 5, 3) := by decide +kernel
theorem dX10_fewest_15 : decode cX10_fewest 15 = .ok (.bipush (-2), 2) := by decide +kernel
theorem dX10_fewest_17 : decode cX10_fewest 17 = .ok (.ireturn, 1) := by decide +kernel
theorem dX10_turnOf_0 : decode cX10_turnOf 0 = .ok (.aload_n 0, 1) := by decide +kernel
theorem dX10_turnOf_1 : decode cX10_turnOf 1 = .ok (.iload_n 1, 1) := by decide +kernel
theorem dX10_turnOf_2 : decode cX10_turnOf 2 = .ok (.invokevirtual 186, 3) := by decide +kernel
theorem dX10_turnOf_5 : decode cX10_turnOf 5 = .ok (.istore_n 3, 1) := by decide +kernel
theorem dX10_turnOf_6 : decode cX10_turnOf 6 = .ok (.iload_n 3, 1) := by decide +kernel
theorem dX10_turnOf_7 : decode cX10_turnOf 7 = .ok (.bipush (-3), 2) := by decide +kernel
theorem dX10_turnOf_9 : decode cX10_turnOf 9 = .ok (.if_icmp .ne 8, 3) := by decide +kernel
theorem dX10_turnOf_12 : decode cX10_turnOf 12 = .ok (.bipush (-3), 2) := by decide +kernel
theorem dX10_turnOf_14 : decode cX10_turnOf 14 = .ok (.goto 23, 3) := by decide +kernel
theorem dX10_turnOf_17 : decode cX10_turnOf 17 = .ok (.iload_n 2, 1) := by decide +kernel
theorem dX10_turnOf_18 : decode cX10_turnOf 18 = .ok (.aload_n 0, 1) := by decide +kernel
theorem dX10_turnOf_19 : decode cX10_turnOf 19 = .ok (.getfield 46, 3) := by decide +kernel
theorem dX10_turnOf_22 : decode cX10_turnOf 22 = .ok (.iload_n 1, 1) := by decide +kernel
theorem dX10_turnOf_23 : decode cX10_turnOf 23 = .ok (.iaload, 1) := by decide +kernel
theorem dX10_turnOf_24 : decode cX10_turnOf 24 = .ok (.if_icmp .ge 12, 3) := by decide +kernel
theorem dX10_turnOf_27 : decode cX10_turnOf 27 = .ok (.aload_n 0, 1) := by decide +kernel
theorem dX10_turnOf_28 : decode cX10_turnOf 28 = .ok (.getfield 49, 3) := by decide +kernel
theorem dX10_turnOf_31 : decode cX10_turnOf 31 = .ok (.iload_n 2, 1) := by decide +kernel
theorem dX10_turnOf_32 : decode cX10_turnOf 32 = .ok (.iaload, 1) := by decide +kernel
theorem dX10_turnOf_33 : decode cX10_turnOf 33 = .ok (.goto 4, 3) := by decide +kernel
theorem dX10_turnOf_36 : decode cX10_turnOf 36 = .ok (.iconst (-1), 1) := by decide +kernel
theorem dX10_turnOf_37 : decode cX10_turnOf 37 = .ok (.ireturn, 1) := by decide +kernel
theorem dX10_turn_0 : decode cX10_turn 0 = .ok (.iload_n 1, 1) := by decide +kernel
theorem dX10_turn_1 : decode cX10_turn 1 = .ok (.invokestatic 93, 3) := by decide +kernel
theorem dX10_turn_4 : decode cX10_turn 4 = .ok (.ifCond .eq 16, 3) := by decide +kernel
theorem dX10_turn_7 : decode cX10_turn 7 = .ok (.iload_n 2, 1) := by decide +kernel
theorem dX10_turn_8 : decode cX10_turn 8 = .ok (.ifCond .lt 12, 3) := by decide +kernel
theorem dX10_turn_11 : decode cX10_turn 11 = .ok (.aload_n 0, 1) := by decide +kernel
theorem dX10_turn_12 : decode cX10_turn 12 = .ok (.iload_n 1, 1) := by decide +kernel
theorem dX10_turn_13 : decode cX10_turn 13 = .ok (.iload_n 2, 1) := by decide +kernel
theorem dX10_turn_14 : decode cX10_turn 14 = .ok (.invokevirtual 189, 3) := by decide +kernel
theorem dX10_turn_17 : decode cX10_turn 17 = .ok (.goto 5, 3) := by decide +kernel
theorem dX10_turn_20 : decode cX10_turn 20 = .ok (.bipush (-2), 2) := by decide +kernel
theorem dX10_turn_22 : decode cX10_turn 22 = .ok (.ireturn, 1) := by decide +kernel
theorem dX10_owed_0 : decode cX10_owed 0 = .ok (.iload_n 1, 1) := by decide +kernel
theorem dX10_owed_1 : decode cX10_owed 1 = .ok (.iconst 0, 1) := by decide +kernel
theorem dX10_owed_2 : decode cX10_owed 2 = .ok (.bipush 9, 2) := by decide +kernel
theorem dX10_owed_4 : decode cX10_owed 4 = .ok (.invokestatic 89, 3) := by decide +kernel
theorem dX10_owed_7 : decode cX10_owed 7 = .ok (.ifCond .eq 18, 3) := by decide +kernel
theorem dX10_owed_10 : decode cX10_owed 10 = .ok (.iload_n 2, 1) := by decide +kernel
theorem dX10_owed_11 : decode cX10_owed 11 = .ok (.iconst 0, 1) := by decide +kernel
theorem dX10_owed_12 : decode cX10_owed 12 = .ok (.bipush 9, 2) := by decide +kernel
theorem dX10_owed_14 : decode cX10_owed 14 = .ok (.invokestatic 89, 3) := by decide +kernel
theorem dX10_owed_17 : decode cX10_owed 17 = .ok (.ifCond .eq 8, 3) := by decide +kernel
theorem dX10_owed_20 : decode cX10_owed 20 = .ok (.iload_n 1, 1) := by decide +kernel
theorem dX10_owed_21 : decode cX10_owed 21 = .ok (.iload_n 2, 1) := by decide +kernel
theorem dX10_owed_22 : decode cX10_owed 22 = .ok (.if_icmp .ne 6, 3) := by decide +kernel
theorem dX10_owed_25 : decode cX10_owed 25 = .ok (.bipush (-2), 2) := by decide +kernel
theorem dX10_owed_27 : decode cX10_owed 27 = .ok (.ireturn, 1) := by decide +kernel
theorem dX10_owed_28 : decode cX10_owed 28 = .ok (.aload_n 0, 1) := by decide +kernel
theorem dX10_owed_29 : decode cX10_owed 29 = .ok (.getfield 192, 3) := by decide +kernel
theorem dX10_owed_32 : decode cX10_owed 32 = .ok (.bipush 10, 2) := by decide +kernel
theorem dX10_owed_34 : decode cX10_owed 34 = .ok (.if_icmp .ne 6, 3) := by decide +kernel
theorem dX10_owed_37 : decode cX10_owed 37 = .ok (.bipush (-4), 2) := by decide +kernel
theorem dX10_owed_39 : decode cX10_owed 39 = .ok (.ireturn, 1) := by decide +kernel
theorem dX10_owed_40 : decode cX10_owed 40 = .ok (.aload_n 0, 1) := by decide +kernel
theorem dX10_owed_41 : decode cX10_owed 41 = .ok (.getfield 52, 3) := by decide +kernel
theorem dX10_owed_44 : decode cX10_owed 44 = .ok (.aload_n 0, 1) := by decide +kernel
theorem dX10_owed_45 : decode cX10_owed 45 = .ok (.getfield 192, 3) := by decide +kernel
theorem dX10_owed_48 : decode cX10_owed 48 = .ok (.iload_n 1, 1) := by decide +kernel
theorem dX10_owed_49 : decode cX10_owed 49 = .ok (.iastore, 1) := by decide +kernel
theorem dX10_owed_50 : decode cX10_owed 50 = .ok (.aload_n 0, 1) := by decide +kernel
theorem dX10_owed_51 : decode cX10_owed 51 = .ok (.getfield 55, 3) := by decide +kernel
theorem dX10_owed_54 : decode cX10_owed 54 = .ok (.aload_n 0, 1) := by decide +kernel
theorem dX10_owed_55 : decode cX10_owed 55 = .ok (.getfield 192, 3) := by decide +kernel
theorem dX10_owed_58 : decode cX10_owed 58 = .ok (.iload_n 2, 1) := by decide +kernel
theorem dX10_owed_59 : decode cX10_owed 59 = .ok (.iastore, 1) := by decide +kernel
theorem dX10_owed_60 : decode cX10_owed 60 = .ok (.aload_n 0, 1) := by decide +kernel
theorem dX10_owed_61 : decode cX10_owed 61 = .ok (.dup, 1) := by decide +kernel
theorem dX10_owed_62 : decode cX10_owed 62 = .ok (.getfield 192, 3) := by decide +kernel
theorem dX10_owed_65 : decode cX10_owed 65 = .ok (.iconst 1, 1) := by decide +kernel
theorem dX10_owed_66 : decode cX10_owed 66 = .ok (.iadd, 1) := by decide +kernel
theorem dX10_owed_67 : decode cX10_owed 67 = .ok (.putfield 192, 3) := by decide +kernel
theorem dX10_owed_70 : decode cX10_owed 70 = .ok (.aload_n 0, 1) := by decide +kernel
theorem dX10_owed_71 : decode cX10_owed 71 = .ok (.getfield 192, 3) := by decide +kernel
theorem dX10_owed_74 : decode cX10_owed 74 = .ok (.ireturn, 1) := by decide +kernel
theorem dX10_brokenNow_0 : decode cX10_brokenNow 0 = .ok (.iconst 0, 1) := by decide +kernel
theorem dX10_brokenNow_1 : decode cX10_brokenNow 1 = .ok (.istore_n 1, 1) := by decide +kernel
theorem dX10_brokenNow_2 : decode cX10_brokenNow 2 = .ok (.iconst 0, 1) := by decide +kernel
theorem dX10_brokenNow_3 : decode cX10_brokenNow 3 = .ok (.istore_n 2, 1) := by decide +kernel
theorem dX10_brokenNow_4 : decode cX10_brokenNow 4 = .ok (.iload_n 2, 1) := by decide +kernel
theorem dX10_brokenNow_5 : decode cX10_brokenNow 5 = .ok (.aload_n 0, 1) := by decide +kernel
theorem dX10_brokenNow_6 : decode cX10_brokenNow 6 = .ok (.getfield 192, 3) := by decide +kernel
theorem dX10_brokenNow_9 : decode cX10_brokenNow 9 = .ok (.if_icmp .ge 108, 3) := by decide +kernel
theorem dX10_brokenNow_12 : decode cX10_brokenNow 12 = .ok (.aload_n 0, 1) := by decide +kernel
theorem dX10_brokenNow_13 : decode cX10_brokenNow 13 = .ok (.getfield 52, 3) := by decide +kernel
theorem dX10_brokenNow_16 : decode cX10_brokenNow 16 = .ok (.iload_n 2, 1) := by decide +kernel
theorem dX10_brokenNow_17 : decode cX10_brokenNow 17 = .ok (.iaload, 1) := by decide +kernel
theorem dX10_brokenNow_18 : decode cX10_brokenNow 18 = .ok (.istore_n 3, 1) := by decide +kernel
theorem dX10_brokenNow_19 : decode cX10_brokenNow 19 = .ok (.aload_n 0, 1) := by decide +kernel
theorem dX10_brokenNow_20 : decode cX10_brokenNow 20 = .ok (.getfield 55, 3) := by decide +kernel
theorem dX10_brokenNow_23 : decode cX10_brokenNow 23 = .ok (.iload_n 2, 1) := by decide +kernel
theorem dX10_brokenNow_24 : decode cX10_brokenNow 24 = .ok (.iaload, 1) := by decide +kernel
theorem dX10_brokenNow_25 : decode cX10_brokenNow 25 = .ok (.istore 4, 2) := by decide +kernel
theorem dX10_brokenNow_27 : decode cX10_brokenNow 27 = .ok (.iload_n 3, 1) := by decide +kernel
theorem dX10_brokenNow_28 : decode cX10_brokenNow 28 = .ok (.aload_n 0, 1) := by decide +kernel
theorem dX10_brokenNow_29 : decode cX10_brokenNow 29 = .ok (.getfield 111, 3) := by decide +kernel
theorem dX10_brokenNow_32 : decode cX10_brokenNow 32 = .ok (.if_icmp .ge 16, 3) := by decide +kernel
theorem dX10_brokenNow_35 : decode cX10_brokenNow 35 = .ok (.iload 4, 2) := by decide +kernel
theorem dX10_brokenNow_37 : decode cX10_brokenNow 37 = .ok (.aload_n 0, 1) := by decide +kernel
theorem dX10_brokenNow_38 : decode cX10_brokenNow 38 = .ok (.getfield 111, 3) := by decide +kernel
theorem dX10_brokenNow_41 : decode cX10_brokenNow 41 = .ok (.if_icmp .ge 7, 3) := by decide +kernel
theorem dX10_brokenNow_44 : decode cX10_brokenNow 44 = .ok (.iconst 1, 1) := by decide +kernel
theorem dX10_brokenNow_45 : decode cX10_brokenNow 45 = .ok (.goto 4, 3) := by decide +kernel
theorem dX10_brokenNow_48 : decode cX10_brokenNow 48 = .ok (.iconst 0, 1) := by decide +kernel
theorem dX10_brokenNow_49 : decode cX10_brokenNow 49 = .ok (.istore 5, 2) := by decide +kernel
theorem dX10_brokenNow_51 : decode cX10_brokenNow 51 = .ok (.iload 5, 2) := by decide +kernel
theorem dX10_brokenNow_53 : decode cX10_brokenNow 53 = .ok (.ifCond .eq 41, 3) := by decide +kernel
theorem dX10_brokenNow_56 : decode cX10_brokenNow 56 = .ok (.aload_n 0, 1) := by decide +kernel
theorem dX10_brokenNow_57 : decode cX10_brokenNow 57 = .ok (.getfield 25, 3) := by decide +kernel
theorem dX10_brokenNow_60 : decode cX10_brokenNow 60 = .ok (.iload_n 3, 1) := by decide +kernel
theorem dX10_brokenNow_61 : decode cX10_brokenNow 61 = .ok (.iaload, 1) := by decide +kernel
theorem dX10_brokenNow_62 : decode cX10_brokenNow 62 = .ok (.aload_n 0, 1) := by decide +kernel
theorem dX10_brokenNow_63 : decode cX10_brokenNow 63 = .ok (.getfield 25, 3) := by decide +kernel
theorem dX10_brokenNow_66 : decode cX10_brokenNow 66 = .ok (.iload 4, 2) := by decide +kernel
theorem dX10_brokenNow_68 : decode cX10_brokenNow 68 = .ok (.iaload, 1) := by decide +kernel
theorem dX10_brokenNow_69 : decode cX10_brokenNow 69 = .ok (.isub, 1) := by decide +kernel
theorem dX10_brokenNow_70 : decode cX10_brokenNow 70 = .ok (.invokestatic 195, 3) := by decide +kernel
theorem dX10_brokenNow_73 : decode cX10_brokenNow 73 = .ok (.aload_n 0, 1) := by decide +kernel
theorem dX10_brokenNow_74 : decode cX10_brokenNow 74 = .ok (.getfield 37, 3) := by decide +kernel
theorem dX10_brokenNow_77 : decode cX10_brokenNow 77 = .ok (.iload_n 3, 1) := by decide +kernel
theorem dX10_brokenNow_78 : decode cX10_brokenNow 78 = .ok (.iaload, 1) := by decide +kernel
theorem dX10_brokenNow_79 : decode cX10_brokenNow 79 = .ok (.aload_n 0, 1) := by decide +kernel
theorem dX10_brokenNow_80 : decode cX10_brokenNow 80 = .ok (.getfield 37, 3) := by decide +kernel
theorem dX10_brokenNow_83 : decode cX10_brokenNow 83 = .ok (.iload 4, 2) := by decide +kernel
theorem dX10_brokenNow_85 : decode cX10_brokenNow 85 = .ok (.iaload, 1) := by decide +kernel
theorem dX10_brokenNow_86 : decode cX10_brokenNow 86 = .ok (.isub, 1) := by decide +kernel
theorem dX10_brokenNow_87 : decode cX10_brokenNow 87 = .ok (.invokestatic 195, 3) := by decide +kernel
theorem dX10_brokenNow_90 : decode cX10_brokenNow 90 = .ok (.iadd, 1) := by decide +kernel
theorem dX10_brokenNow_91 : decode cX10_brokenNow 91 = .ok (.goto 4, 3) := by decide +kernel
theorem dX10_brokenNow_94 : decode cX10_brokenNow 94 = .ok (.iconst 1, 1) := by decide +kernel
theorem dX10_brokenNow_95 : decode cX10_brokenNow 95 = .ok (.istore 6, 2) := by decide +kernel
theorem dX10_brokenNow_97 : decode cX10_brokenNow 97 = .ok (.iload_n 1, 1) := by decide +kernel
theorem dX10_brokenNow_98 : decode cX10_brokenNow 98 = .ok (.iload 6, 2) := by decide +kernel
theorem dX10_brokenNow_100 : decode cX10_brokenNow 100 = .ok (.iconst 1, 1) := by decide +kernel
theorem dX10_brokenNow_101 : decode cX10_brokenNow 101 = .ok (.if_icmp .ne 7, 3) := by decide +kernel
theorem dX10_brokenNow_104 : decode cX10_brokenNow 104 = .ok (.iconst 0, 1) := by decide +kernel
theorem dX10_brokenNow_105 : decode cX10_brokenNow 105 = .ok (.goto 4, 3) := by decide +kernel
theorem dX10_brokenNow_108 : decode cX10_brokenNow 108 = .ok (.iconst 1, 1) := by decide +kernel
theorem dX10_brokenNow_109 : decode cX10_brokenNow 109 = .ok (.iadd, 1) := by decide +kernel
theorem dX10_brokenNow_110 : decode cX10_brokenNow 110 = .ok (.istore_n 1, 1) := by decide +kernel
theorem dX10_brokenNow_111 : decode cX10_brokenNow 111 = .ok (.iinc 2 1, 3) := by decide +kernel
theorem dX10_brokenNow_114 : decode cX10_brokenNow 114 = .ok (.goto (-110), 3) := by decide +kernel
theorem dX10_brokenNow_117 : decode cX10_brokenNow 117 = .ok (.iload_n 1, 1) := by decide +kernel
theorem dX10_brokenNow_118 : decode cX10_brokenNow 118 = .ok (.ireturn, 1) := by decide +kernel
theorem dX10_brokenOf_0 : decode cX10_brokenOf 0 = .ok (.iconst 0, 1) := by decide +kernel
theorem dX10_brokenOf_1 : decode cX10_brokenOf 1 = .ok (.istore_n 3, 1) := by decide +kernel
theorem dX10_brokenOf_2 : decode cX10_brokenOf 2 = .ok (.bipush 11, 2) := by decide +kernel
theorem dX10_brokenOf_4 : decode cX10_brokenOf 4 = .ok (.istore 4, 2) := by decide +kernel
theorem dX10_brokenOf_6 : decode cX10_brokenOf 6 = .ok (.iconst 0, 1) := by decide +kernel
theorem dX10_brokenOf_7 : decode cX10_brokenOf 7 = .ok (.istore 5, 2) := by decide +kernel
theorem dX10_brokenOf_9 : decode cX10_brokenOf 9 = .ok (.iconst 0, 1) := by decide +kernel
theorem dX10_brokenOf_10 : decode cX10_brokenOf 10 = .ok (.istore 6, 2) := by decide +kernel
theorem dX10_brokenOf_12 : decode cX10_brokenOf 12 = .ok (.iload 6, 2) := by decide +kernel
theorem dX10_brokenOf_14 : decode cX10_brokenOf 14 = .ok (.iload_n 1, 1) := by decide +kernel
theorem dX10_brokenOf_15 : decode cX10_brokenOf 15 = .ok (.if_icmp .gt 51, 3) := by decide +kernel
theorem dX10_brokenOf_18 : decode cX10_brokenOf 18 = .ok (.aload_n 0, 1) := by decide +kernel
theorem dX10_brokenOf_19 : decode cX10_brokenOf 19 = .ok (.iload 6, 2) := by decide +kernel
theorem dX10_brokenOf_21 : decode cX10_brokenOf 21 = .ok (.invokevirtual 167, 3) := by decide +kernel
theorem dX10_brokenOf_24 : decode cX10_brokenOf 24 = .ok (.aload_n 0, 1) := by decide +kernel
theorem dX10_brokenOf_25 : decode cX10_brokenOf 25 = .ok (.invokevirtual 198, 3) := by decide +kernel
theorem dX10_brokenOf_28 : decode cX10_brokenOf 28 = .ok (.istore 5, 2) := by decide +kernel
theorem dX10_brokenOf_30 : decode cX10_brokenOf 30 = .ok (.iload 5, 2) := by decide +kernel
theorem dX10_brokenOf_32 : decode cX10_brokenOf 32 = .ok (.iload 4, 2) := by decide +kernel
theorem dX10_brokenOf_34 : decode cX10_brokenOf 34 = .ok (.if_icmp .ge 8, 3) := by decide +kernel
theorem dX10_brokenOf_37 : decode cX10_brokenOf 37 = .ok (.iload 6, 2) := by decide +kernel
theorem dX10_brokenOf_39 : decode cX10_brokenOf 39 = .ok (.goto 4, 3) := by decide +kernel
theorem dX10_brokenOf_42 : decode cX10_brokenOf 42 = .ok (.iload_n 3, 1) := by decide +kernel
theorem dX10_brokenOf_43 : decode cX10_brokenOf 43 = .ok (.istore_n 3, 1) := by decide +kernel
theorem dX10_brokenOf_44 : decode cX10_brokenOf 44 = .ok (.iload 5, 2) := by decide +kernel
theorem dX10_brokenOf_46 : decode cX10_brokenOf 46 = .ok (.iload 4, 2) := by decide +kernel
theorem dX10_brokenOf_48 : decode cX10_brokenOf 48 = .ok (.if_icmp .ge 8, 3) := by decide +kernel
theorem dX10_brokenOf_51 : decode cX10_brokenOf 51 = .ok (.iload 5, 2) := by decide +kernel
theorem dX10_brokenOf_53 : decode cX10_brokenOf 53 = .ok (.goto 5, 3) := by decide +kernel
theorem dX10_brokenOf_56 : decode cX10_brokenOf 56 = .ok (.iload 4, 2) := by decide +kernel
theorem dX10_brokenOf_58 : decode cX10_brokenOf 58 = .ok (.istore 4, 2) := by decide +kernel
theorem dX10_brokenOf_60 : decode cX10_brokenOf 60 = .ok (.iinc 6 1, 3) := by decide +kernel
theorem dX10_brokenOf_63 : decode cX10_brokenOf 63 = .ok (.goto (-51), 3) := by decide +kernel
theorem dX10_brokenOf_66 : decode cX10_brokenOf 66 = .ok (.iload_n 2, 1) := by decide +kernel
theorem dX10_brokenOf_67 : decode cX10_brokenOf 67 = .ok (.ifCond .ne 8, 3) := by decide +kernel
theorem dX10_brokenOf_70 : decode cX10_brokenOf 70 = .ok (.iload 5, 2) := by decide +kernel
theorem dX10_brokenOf_72 : decode cX10_brokenOf 72 = .ok (.goto 4, 3) := by decide +kernel
theorem dX10_brokenOf_75 : decode cX10_brokenOf 75 = .ok (.iload_n 3, 1) := by decide +kernel
theorem dX10_brokenOf_76 : decode cX10_brokenOf 76 = .ok (.ireturn, 1) := by decide +kernel
theorem dX10_broken_0 : decode cX10_broken 0 = .ok (.iload_n 1, 1) := by decide +kernel
theorem dX10_broken_1 : decode cX10_broken 1 = .ok (.iconst 0, 1) := by decide +kernel
theorem dX10_broken_2 : decode cX10_broken 2 = .ok (.bipush 40, 2) := by decide +kernel
theorem dX10_broken_4 : decode cX10_broken 4 = .ok (.invokestatic 89, 3) := by decide +kernel
theorem dX10_broken_7 : decode cX10_broken 7 = .ok (.ifCond .eq 21, 3) := by decide +kernel
theorem dX10_broken_10 : decode cX10_broken 10 = .ok (.iload_n 2, 1) := by decide +kernel
theorem dX10_broken_11 : decode cX10_broken 11 = .ok (.iconst 0, 1) := by decide +kernel
theorem dX10_broken_12 : decode cX10_broken 12 = .ok (.iconst 1, 1) := by decide +kernel
theorem dX10_broken_13 : decode cX10_broken 13 = .ok (.invokestatic 89, 3) := by decide +kernel
theorem dX10_broken_16 : decode cX10_broken 16 = .ok (.ifCond .eq 12, 3) := by decide +kernel
theorem dX10_broken_19 : decode cX10_broken 19 = .ok (.aload_n 0, 1) := by decide +kernel
theorem dX10_broken_20 : decode cX10_broken 20 = .ok (.iload_n 1, 1) := by decide +kernel
theorem dX10_broken_21 : decode cX10_broken 21 = .ok (.iload_n 2, 1) := by decide +kernel
theorem dX10_broken_22 : decode cX10_broken 22 = .ok (.invokevirtual 201, 3) := by decide +kernel
theorem dX10_broken_25 : decode cX10_broken 25 = .ok (.goto 5, 3) := by decide +kernel
theorem dX10_broken_28 : decode cX10_broken 28 = .ok (.bipush (-2), 2) := by decide +kernel
theorem dX10_broken_30 : decode cX10_broken 30 = .ok (.ireturn, 1) := by decide +kernel
theorem dX10_isPlot_0 : decode cX10_isPlot 0 = .ok (.iload_n 0, 1) := by decide +kernel
theorem dX10_isPlot_1 : decode cX10_isPlot 1 = .ok (.iconst 0, 1) := by decide +kernel
theorem dX10_isPlot_2 : decode cX10_isPlot 2 = .ok (.iconst 3, 1) := by decide +kernel
theorem dX10_isPlot_3 : decode cX10_isPlot 3 = .ok (.invokestatic 89, 3) := by decide +kernel
theorem dX10_isPlot_6 : decode cX10_isPlot 6 = .ok (.ifCond .eq 17, 3) := by decide +kernel
theorem dX10_isPlot_9 : decode cX10_isPlot 9 = .ok (.iload_n 1, 1) := by decide +kernel
theorem dX10_isPlot_10 : decode cX10_isPlot 10 = .ok (.iconst 0, 1) := by decide +kernel
theorem dX10_isPlot_11 : decode cX10_isPlot 11 = .ok (.bipush 99, 2) := by decide +kernel
theorem dX10_isPlot_13 : decode cX10_isPlot 13 = .ok (.invokestatic 89, 3) := by decide +kernel
theorem dX10_isPlot_16 : decode cX10_isPlot 16 = .ok (.ifCond .eq 7, 3) := by decide +kernel
theorem dX10_isPlot_19 : decode cX10_isPlot 19 = .ok (.iconst 1, 1) := by decide +kernel
theorem dX10_isPlot_20 : decode cX10_isPlot 20 = .ok (.goto 4, 3) := by decide +kernel
theorem dX10_isPlot_23 : decode cX10_isPlot 23 = .ok (.iconst 0, 1) := by decide +kernel
theorem dX10_isPlot_24 : decode cX10_isPlot 24 = .ok (.ireturn, 1) := by decide +kernel
theorem dX10_well_0 : decode cX10_well 0 = .ok (.iload_n 1, 1) := by decide +kernel
theorem dX10_well_1 : decode cX10_well 1 = .ok (.iload_n 2, 1) := by decide +kernel
theorem dX10_well_2 : decode cX10_well 2 = .ok (.invokestatic 204, 3) := by decide +kernel
theorem dX10_well_5 : decode cX10_well 5 = .ok (.ifCond .ne 6, 3) := by decide +kernel
theorem dX10_well_8 : decode cX10_well 8 = .ok (.bipush (-2), 2) := by decide +kernel
theorem dX10_well_10 : decode cX10_well 10 = .ok (.ireturn, 1) := by decide +kernel
theorem dX10_well_11 : decode cX10_well 11 = .ok (.aload_n 0, 1) := by decide +kernel
theorem dX10_well_12 : decode cX10_well 12 = .ok (.getfield 208, 3) := by decide +kernel
theorem dX10_well_15 : decode cX10_well 15 = .ok (.bipush 8, 2) := by decide +kernel
theorem dX10_well_17 : decode cX10_well 17 = .ok (.if_icmp .ne 6, 3) := by decide +kernel
theorem dX10_well_20 : decode cX10_well 20 = .ok (.bipush (-4), 2) := by decide +kernel
theorem dX10_well_22 : decode cX10_well 22 = .ok (.ireturn, 1) := by decide +kernel
theorem dX10_well_23 : decode cX10_well 23 = .ok (.aload_n 0, 1) := by decide +kernel
theorem dX10_well_24 : decode cX10_well 24 = .ok (.getfield 58, 3) := by decide +kernel
theorem dX10_well_27 : decode cX10_well 27 = .ok (.aload_n 0, 1) := by decide +kernel
theorem dX10_well_28 : decode cX10_well 28 = .ok (.getfield 208, 3) := by decide +kernel
theorem dX10_well_31 : decode cX10_well 31 = .ok (.iload_n 2, 1) := by decide +kernel
theorem dX10_well_32 : decode cX10_well 32 = .ok (.iastore, 1) := by decide +kernel
theorem dX10_well_33 : decode cX10_well 33 = .ok (.aload_n 0, 1) := by decide +kernel
theorem dX10_well_34 : decode cX10_well 34 = .ok (.dup, 1) := by decide +kernel
theorem dX10_well_35 : decode cX10_well 35 = .ok (.getfield 208, 3) := by decide +kernel
theorem dX10_well_38 : decode cX10_well 38 = .ok (.iconst 1, 1) := by decide +kernel
theorem dX10_well_39 : decode cX10_well 39 = .ok (.iadd, 1) := by decide +kernel
theorem dX10_well_40 : decode cX10_well 40 = .ok (.putfield 208, 3) := by decide +kernel
theorem dX10_well_43 : decode cX10_well 43 = .ok (.aload_n 0, 1) := by decide +kernel
theorem dX10_well_44 : decode cX10_well 44 = .ok (.getfield 208, 3) := by decide +kernel
theorem dX10_well_47 : decode cX10_well 47 = .ok (.iconst 1, 1) := by decide +kernel
theorem dX10_well_48 : decode cX10_well 48 = .ok (.isub, 1) := by decide +kernel
theorem dX10_well_49 : decode cX10_well 49 = .ok (.ireturn, 1) := by decide +kernel
theorem dX10_metOf_0 : decode cX10_metOf 0 = .ok (.aload_n 0, 1) := by decide +kernel
theorem dX10_metOf_1 : decode cX10_metOf 1 = .ok (.iload_n 1, 1) := by decide +kernel
theorem dX10_metOf_2 : decode cX10_metOf 2 = .ok (.invokevirtual 177, 3) := by decide +kernel
theorem dX10_metOf_5 : decode cX10_metOf 5 = .ok (.istore_n 2, 1) := by decide +kernel
theorem dX10_metOf_6 : decode cX10_metOf 6 = .ok (.iload_n 2, 1) := by decide +kernel
theorem dX10_metOf_7 : decode cX10_metOf 7 = .ok (.bipush (-3), 2) := by decide +kernel
theorem dX10_metOf_9 : decode cX10_metOf 9 = .ok (.if_icmp .ne 6, 3) := by decide +kernel
theorem dX10_metOf_12 : decode cX10_metOf 12 = .ok (.bipush (-3), 2) := by decide +kernel
theorem dX10_metOf_14 : decode cX10_metOf 14 = .ok (.ireturn, 1) := by decide +kernel
theorem dX10_metOf_15 : decode cX10_metOf 15 = .ok (.iconst (-1), 1) := by decide +kernel
theorem dX10_metOf_16 : decode cX10_metOf 16 = .ok (.istore_n 3, 1) := by decide +kernel
theorem dX10_metOf_17 : decode cX10_metOf 17 = .ok (.iconst 0, 1) := by decide +kernel
theorem dX10_metOf_18 : decode cX10_metOf 18 = .ok (.istore 4, 2) := by decide +kernel
theorem dX10_metOf_20 : decode cX10_metOf 20 = .ok (.iload 4, 2) := by decide +kernel
theorem dX10_metOf_22 : decode cX10_metOf 22 = .ok (.aload_n 0, 1) := by decide +kernel
theorem dX10_metOf_23 : decode cX10_metOf 23 = .ok (.getfield 111, 3) := by decide +kernel
theorem dX10_metOf_26 : decode cX10_metOf 26 = .ok (.if_icmp .ge 32, 3) := by decide +kernel
theorem dX10_metOf_29 : decode cX10_metOf 29 = .ok (.aload_n 0, 1) := by decide +kernel
theorem dX10_metOf_30 : decode cX10_metOf 30 = .ok (.getfield 37, 3) := by decide +kernel
theorem dX10_metOf_33 : decode cX10_metOf 33 = .ok (.iload 4, 2) := by decide +kernel
theorem dX10_metOf_35 : decode cX10_metOf 35 = .ok (.iaload, 1) := by decide +kernel
theorem dX10_metOf_36 : decode cX10_metOf 36 = .ok (.iload_n 3, 1) := by decide +kernel
theorem dX10_metOf_37 : decode cX10_metOf 37 = .ok (.if_icmp .le 13, 3) := by decide +kernel
theorem dX10_metOf_40 : decode cX10_metOf 40 = .ok (.aload_n 0, 1) := by decide +kernel
theorem dX10_metOf_41 : decode cX10_metOf 41 = .ok (.getfield 37, 3) := by decide +kernel
theorem dX10_metOf_44 : decode cX10_metOf 44 = .ok (.iload 4, 2) := by decide +kernel
theorem dX10_metOf_46 : decode cX10_metOf 46 = .ok (.iaload, 1) := by decide +kernel
theorem dX10_metOf_47 : decode cX10_metOf 47 = .ok (.goto 4, 3) := by decide +kernel
theorem dX10_metOf_50 : decode cX10_metOf 50 = .ok (.iload_n 3, 1) := by decide +kernel
theorem dX10_metOf_51 : decode cX10_metOf 51 = .ok (.istore_n 3, 1) := by decide +kernel
theorem dX10_metOf_52 : decode cX10_metOf 52 = .ok (.iinc 4 1, 3) := by decide +kernel
theorem dX10_metOf_55 : decode cX10_metOf 55 = .ok (.goto (-35), 3) := by decide +kernel
theorem dX10_metOf_58 : decode cX10_metOf 58 = .ok (.iconst 0, 1) := by decide +kernel
theorem dX10_metOf_59 : decode cX10_metOf 59 = .ok (.istore 4, 2) := by decide +kernel
theorem dX10_metOf_61 : decode cX10_metOf 61 = .ok (.iconst 0, 1) := by decide +kernel
theorem dX10_metOf_62 : decode cX10_metOf 62 = .ok (.istore 5, 2) := by decide +kernel
theorem dX10_metOf_64 : decode cX10_metOf 64 = .ok (.iload 5, 2) := by decide +kernel
theorem dX10_metOf_66 : decode cX10_metOf 66 = .ok (.aload_n 0, 1) := by decide +kernel
theorem dX10_metOf_67 : decode cX10_metOf 67 = .ok (.getfield 208, 3) := by decide +kernel
theorem dX10_metOf_70 : decode cX10_metOf 70 = .ok (.if_icmp .ge 45, 3) := by decide +kernel
theorem dX10_metOf_73 : decode cX10_metOf 73 = .ok (.iload 4, 2) := by decide +kernel
theorem dX10_metOf_75 : decode cX10_metOf 75 = .ok (.aload_n 0, 1) := by decide +kernel
theorem dX10_metOf_76 : decode cX10_metOf 76 = .ok (.getfield 58, 3) := by decide +kernel
theorem dX10_metOf_79 : decode cX10_metOf 79 = .ok (.iload 5, 2) := by decide +kernel
theorem dX10_metOf_81 : decode cX10_metOf 81 = .ok (.iaload, 1) := by decide +kernel
theorem dX10_metOf_82 : decode cX10_metOf 82 = .ok (.aload_n 0, 1) := by decide +kernel
theorem dX10_metOf_83 : decode cX10_metOf 83 = .ok (.iload_n 1, 1) := by decide +kernel
theorem dX10_metOf_84 : decode cX10_metOf 84 = .ok (.invokevirtual 104, 3) := by decide +kernel
theorem dX10_metOf_87 : decode cX10_metOf 87 = .ok (.if_icmp .lt 18, 3) := by decide +kernel
theorem dX10_metOf_90 : decode cX10_metOf 90 = .ok (.aload_n 0, 1) := by decide +kernel
theorem dX10_metOf_91 : decode cX10_metOf 91 = .ok (.getfield 58, 3) := by decide +kernel
theorem dX10_metOf_94 : decode cX10_metOf 94 = .ok (.iload 5, 2) := by decide +kernel
theorem dX10_metOf_96 : decode cX10_metOf 96 = .ok (.iaload, 1) := by decide +kernel
theorem dX10_metOf_97 : decode cX10_metOf 97 = .ok (.iload_n 3, 1) := by decide +kernel
theorem dX10_metOf_98 : decode cX10_metOf 98 = .ok (.if_icmp .gt 7, 3) := by decide +kernel
theorem dX10_metOf_101 : decode cX10_metOf 101 = .ok (.iconst 1, 1) := by decide +kernel
theorem dX10_metOf_102 : decode cX10_metOf 102 = .ok (.goto 4, 3) := by decide +kernel
theorem dX10_metOf_105 : decode cX10_metOf 105 = .ok (.iconst 0, 1) := by decide +kernel
theorem dX10_metOf_106 : decode cX10_metOf 106 = .ok (.iadd, 1) := by decide +kernel
theorem dX10_metOf_107 : decode cX10_metOf 107 = .ok (.istore 4, 2) := by decide +kernel
theorem dX10_metOf_109 : decode cX10_metOf 109 = .ok (.iinc 5 1, 3) := by decide +kernel
theorem dX10_metOf_112 : decode cX10_metOf 112 = .ok (.goto (-48), 3) := by decide +kernel
theorem dX10_metOf_115 : decode cX10_metOf 115 = .ok (.iload 4, 2) := by decide +kernel
theorem dX10_metOf_117 : decode cX10_metOf 117 = .ok (.ireturn, 1) := by decide +kernel
theorem dX10_met_0 : decode cX10_met 0 = .ok (.iload_n 1, 1) := by decide +kernel
theorem dX10_met_1 : decode cX10_met 1 = .ok (.invokestatic 93, 3) := by decide +kernel
theorem dX10_met_4 : decode cX10_met 4 = .ok (.ifCond .eq 11, 3) := by decide +kernel
theorem dX10_met_7 : decode cX10_met 7 = .ok (.aload_n 0, 1) := by decide +kernel
theorem dX10_met_8 : decode cX10_met 8 = .ok (.iload_n 1, 1) := by decide +kernel
theorem dX10_met_9 : decode cX10_met 9 = .ok (.invokevirtual 211, 3) := by decide +kernel
theorem dX10_met_12 : decode cX10_met 12 = .ok (.goto 5, 3) := by decide +kernel
theorem dX10_met_15 : decode cX10_met 15 = .ok (.bipush (-2), 2) := by decide +kernel
theorem dX10_met_17 : decode cX10_met 17 = .ok (.ireturn, 1) := by decide +kernel
theorem dX10_dryOf_0 : decode cX10_dryOf 0 = .ok (.iconst 0, 1) := by decide +kernel
theorem dX10_dryOf_1 : decode cX10_dryOf 1 = .ok (.istore_n 2, 1) := by decide +kernel
theorem dX10_dryOf_2 : decode cX10_dryOf 2 = .ok (.iconst 0, 1) := by decide +kernel
theorem dX10_dryOf_3 : decode cX10_dryOf 3 = .ok (.istore_n 3, 1) := by decide +kernel
theorem dX10_dryOf_4 : decode cX10_dryOf 4 = .ok (.iconst 0, 1) := by decide +kernel
theorem dX10_dryOf_5 : decode cX10_dryOf 5 = .ok (.istore 4, 2) := by decide +kernel
theorem dX10_dryOf_7 : decode cX10_dryOf 7 = .ok (.iload 4, 2) := by decide +kernel
theorem dX10_dryOf_9 : decode cX10_dryOf 9 = .ok (.iload_n 1, 1) := by decide +kernel
theorem dX10_dryOf_10 : decode cX10_dryOf 10 = .ok (.if_icmp .gt 51, 3) := by decide +kernel
theorem dX10_dryOf_13 : decode cX10_dryOf 13 = .ok (.aload_n 0, 1) := by decide +kernel
theorem dX10_dryOf_14 : decode cX10_dryOf 14 = .ok (.iload 4, 2) := by decide +kernel
theorem dX10_dryOf_16 : decode cX10_dryOf 16 = .ok (.invokevirtual 211, 3) := by decide +kernel
theorem dX10_dryOf_19 : decode cX10_dryOf 19 = .ok (.istore 5, 2) := by decide +kernel
theorem dX10_dryOf_21 : decode cX10_dryOf 21 = .ok (.iload 5, 2) := by decide +kernel
theorem dX10_dryOf_23 : decode cX10_dryOf 23 = .ok (.bipush (-3), 2) := by decide +kernel
theorem dX10_dryOf_25 : decode cX10_dryOf 25 = .ok (.if_icmp .ne 6, 3) := by decide +kernel
theorem dX10_dryOf_28 : decode cX10_dryOf 28 = .ok (.bipush (-3), 2) := by decide +kernel
theorem dX10_dryOf_30 : decode cX10_dryOf 30 = .ok (.ireturn, 1) := by decide +kernel
theorem dX10_dryOf_31 : decode cX10_dryOf 31 = .ok (.iload 5, 2) := by decide +kernel
theorem dX10_dryOf_33 : decode cX10_dryOf 33 = .ok (.ifCond .ne 9, 3) := by decide +kernel
theorem dX10_dryOf_36 : decode cX10_dryOf 36 = .ok (.iload_n 3, 1) := by decide +kernel
theorem dX10_dryOf_37 : decode cX10_dryOf 37 = .ok (.iconst 1, 1) := by decide +kernel
theorem dX10_dryOf_38 : decode cX10_dryOf 38 = .ok (.iadd, 1) := by decide +kernel
theorem dX10_dryOf_39 : decode cX10_dryOf 39 = .ok (.goto 4, 3) := by decide +kernel
theorem dX10_dryOf_42 : decode cX10_dryOf 42 = .ok (.iconst 0, 1) := by decide +kernel
theorem dX10_dryOf_43 : decode cX10_dryOf 43 = .ok (.istore_n 3, 1) := by decide +kernel
theorem dX10_dryOf_44 : decode cX10_dryOf 44 = .ok (.iload_n 3, 1) := by decide +kernel
theorem dX10_dryOf_45 : decode cX10_dryOf 45 = .ok (.iload_n 2, 1) := by decide +kernel
theorem dX10_dryOf_46 : decode cX10_dryOf 46 = .ok (.if_icmp .le 7, 3) := by decide +kernel
theorem dX10_dryOf_49 : decode cX10_dryOf 49 = .ok (.iload_n 3, 1) := by decide +kernel
theorem dX10_dryOf_50 : decode cX10_dryOf 50 = .ok (.goto 4, 3) := by decide +kernel
theorem dX10_dryOf_53 : decode cX10_dryOf 53 = .ok (.iload_n 2, 1) := by decide +kernel
theorem dX10_dryOf_54 : decode cX10_dryOf 54 = .ok (.istore_n 2, 1) := by decide +kernel
theorem dX10_dryOf_55 : decode cX10_dryOf 55 = .ok (.iinc 4 1, 3) := by decide +kernel
theorem dX10_dryOf_58 : decode cX10_dryOf 58 = .ok (.goto (-51), 3) := by decide +kernel
theorem dX10_dryOf_61 : decode cX10_dryOf 61 = .ok (.iload_n 2, 1) := by decide +kernel
theorem dX10_dryOf_62 : decode cX10_dryOf 62 = .ok (.ireturn, 1) := by decide +kernel
theorem dX10_dry_0 : decode cX10_dry 0 = .ok (.iload_n 1, 1) := by decide +kernel
theorem dX10_dry_1 : decode cX10_dry 1 = .ok (.invokestatic 93, 3) := by decide +kernel
theorem dX10_dry_4 : decode cX10_dry 4 = .ok (.ifCond .eq 11, 3) := by decide +kernel
theorem dX10_dry_7 : decode cX10_dry 7 = .ok (.aload_n 0, 1) := by decide +kernel
theorem dX10_dry_8 : decode cX10_dry 8 = .ok (.iload_n 1, 1) := by decide +kernel
theorem dX10_dry_9 : decode cX10_dry 9 = .ok (.invokevirtual 214, 3) := by decide +kernel
theorem dX10_dry_12 : decode cX10_dry 12 = .ok (.goto 5, 3) := by decide +kernel
theorem dX10_dry_15 : decode cX10_dry 15 = .ok (.bipush (-2), 2) := by decide +kernel
theorem dX10_dry_17 : decode cX10_dry 17 = .ok (.ireturn, 1) := by decide +kernel
theorem dX10_changes_0 : decode cX10_changes 0 = .ok (.aload_n 0, 1) := by decide +kernel
theorem dX10_changes_1 : decode cX10_changes 1 = .ok (.getfield 25, 3) := by decide +kernel
theorem dX10_changes_4 : decode cX10_changes 4 = .ok (.iload_n 1, 1) := by decide +kernel
theorem dX10_changes_5 : decode cX10_changes 5 = .ok (.iaload, 1) := by decide +kernel
theorem dX10_changes_6 : decode cX10_changes 6 = .ok (.istore_n 3, 1) := by decide +kernel
theorem dX10_changes_7 : decode cX10_changes 7 = .ok (.aload_n 0, 1) := by decide +kernel
theorem dX10_changes_8 : decode cX10_changes 8 = .ok (.getfield 28, 3) := by decide +kernel
theorem dX10_changes_11 : decode cX10_changes 11 = .ok (.iload_n 1, 1) := by decide +kernel
theorem dX10_changes_12 : decode cX10_changes 12 = .ok (.iaload, 1) := by decide +kernel
theorem dX10_changes_13 : decode cX10_changes 13 = .ok (.istore 4, 2) := by decide +kernel
theorem dX10_changes_15 : decode cX10_changes 15 = .ok (.aload_n 0, 1) := by decide +kernel
theorem dX10_changes_16 : decode cX10_changes 16 = .ok (.getfield 25, 3) := by decide +kernel
theorem dX10_changes_19 : decode cX10_changes 19 = .ok (.iload_n 1, 1) := by decide +kernel
theorem dX10_changes_20 : decode cX10_changes 20 = .ok (.aload_n 0, 1) := by decide +kernel
theorem dX10_changes_21 : decode cX10_changes 21 = .ok (.getfield 25, 3) := by decide +kernel
theorem dX10_changes_24 : decode cX10_changes 24 = .ok (.iload_n 2, 1) := by decide +kernel
theorem dX10_changes_25 : decode cX10_changes 25 = .ok (.iaload, 1) := by decide +kernel
theorem dX10_changes_26 : decode cX10_changes 26 = .ok (.iastore, 1) := by decide +kernel
theorem dX10_changes_27 : decode cX10_changes 27 = .ok (.aload_n 0, 1) := by decide +kernel
theorem dX10_changes_28 : decode cX10_changes 28 = .ok (.getfield 28, 3) := by decide +kernel
theorem dX10_changes_31 : decode cX10_changes 31 = .ok (.iload_n 1, 1) := by decide +kernel
theorem dX10_changes_32 : decode cX10_changes 32 = .ok (.aload_n 0, 1) := by decide +kernel
theorem dX10_changes_33 : decode cX10_changes 33 = .ok (.getfield 28, 3) := by decide +kernel
theorem dX10_changes_36 : decode cX10_changes 36 = .ok (.iload_n 2, 1) := by decide +kernel
theorem dX10_changes_37 : decode cX10_changes 37 = .ok (.iaload, 1) := by decide +kernel
theorem dX10_changes_38 : decode cX10_changes 38 = .ok (.iastore, 1) := by decide +kernel
theorem dX10_changes_39 : decode cX10_changes 39 = .ok (.aload_n 0, 1) := by decide +kernel
theorem dX10_changes_40 : decode cX10_changes 40 = .ok (.getfield 25, 3) := by decide +kernel
theorem dX10_changes_43 : decode cX10_changes 43 = .ok (.iload_n 2, 1) := by decide +kernel
theorem dX10_changes_44 : decode cX10_changes 44 = .ok (.iload_n 3, 1) := by decide +kernel
theorem dX10_changes_45 : decode cX10_changes 45 = .ok (.iastore, 1) := by decide +kernel
theorem dX10_changes_46 : decode cX10_changes 46 = .ok (.aload_n 0, 1) := by decide +kernel
theorem dX10_changes_47 : decode cX10_changes 47 = .ok (.getfield 28, 3) := by decide +kernel
theorem dX10_changes_50 : decode cX10_changes 50 = .ok (.iload_n 2, 1) := by decide +kernel
theorem dX10_changes_51 : decode cX10_changes 51 = .ok (.iload 4, 2) := by decide +kernel
theorem dX10_changes_53 : decode cX10_changes 53 = .ok (.iastore, 1) := by decide +kernel
theorem dX10_changes_54 : decode cX10_changes 54 = .ok (.return_, 1) := by decide +kernel
theorem dX10_soldOf_0 : decode cX10_soldOf 0 = .ok (.aload_n 0, 1) := by decide +kernel
theorem dX10_soldOf_1 : decode cX10_soldOf 1 = .ok (.iload_n 3, 1) := by decide +kernel
theorem dX10_soldOf_2 : decode cX10_soldOf 2 = .ok (.invokevirtual 186, 3) := by decide +kernel
theorem dX10_soldOf_5 : decode cX10_soldOf 5 = .ok (.istore 4, 2) := by decide +kernel
theorem dX10_soldOf_7 : decode cX10_soldOf 7 = .ok (.aload_n 0, 1) := by decide +kernel
theorem dX10_soldOf_8 : decode cX10_soldOf 8 = .ok (.iload_n 1, 1) := by decide +kernel
theorem dX10_soldOf_9 : decode cX10_soldOf 9 = .ok (.iload_n 2, 1) := by decide +kernel
theorem dX10_soldOf_10 : decode cX10_soldOf 10 = .ok (.invokevirtual 217, 3) := by decide +kernel
theorem dX10_soldOf_13 : decode cX10_soldOf 13 = .ok (.aload_n 0, 1) := by decide +kernel
theorem dX10_soldOf_14 : decode cX10_soldOf 14 = .ok (.iload_n 3, 1) := by decide +kernel
theorem dX10_soldOf_15 : decode cX10_soldOf 15 = .ok (.invokevirtual 183, 3) := by decide +kernel
theorem dX10_soldOf_18 : decode cX10_soldOf 18 = .ok (.istore 5, 2) := by decide +kernel
theorem dX10_soldOf_20 : decode cX10_soldOf 20 = .ok (.aload_n 0, 1) := by decide +kernel
theorem dX10_soldOf_21 : decode cX10_soldOf 21 = .ok (.iload_n 1, 1) := by decide +kernel
theorem dX10_soldOf_22 : decode cX10_soldOf 22 = .ok (.iload_n 2, 1) := by decide +kernel
theorem dX10_soldOf_23 : decode cX10_soldOf 23 = .ok (.invokevirtual 217, 3) := by decide +kernel
theorem dX10_soldOf_26 : decode cX10_soldOf 26 = .ok (.iload 4, 2) := by decide +kernel
theorem dX10_soldOf_28 : decode cX10_soldOf 28 = .ok (.bipush (-3), 2) := by decide +kernel
theorem dX10_soldOf_30 : decode cX10_soldOf 30 = .ok (.if_icmp .eq 10, 3) := by decide +kernel
theorem dX10_soldOf_33 : decode cX10_soldOf 33 = .ok (.iload 5, 2) := by decide +kernel
theorem dX10_soldOf_35 : decode cX10_soldOf 35 = .ok (.bipush (-3), 2) := by decide +kernel
theorem dX10_soldOf_37 : decode cX10_soldOf 37 = .ok (.if_icmp .ne 9, 3) := by decide +kernel
theorem dX10_soldOf_40 : decode cX10_soldOf 40 = .ok (.sipush (-10003), 3) := by decide +kernel
theorem dX10_soldOf_43 : decode cX10_soldOf 43 = .ok (.goto 8, 3) := by decide +kernel
theorem dX10_soldOf_46 : decode cX10_soldOf 46 = .ok (.iload 4, 2) := by decide +kernel
theorem dX10_soldOf_48 : decode cX10_soldOf 48 = .ok (.iload 5, 2) := by decide +kernel
theorem dX10_soldOf_50 : decode cX10_soldOf 50 = .ok (.isub, 1) := by decide +kernel
theorem dX10_soldOf_51 : decode cX10_soldOf 51 = .ok (.ireturn, 1) := by decide +kernel
theorem dX10_sold_0 : decode cX10_sold 0 = .ok (.aload_n 0, 1) := by decide +kernel
theorem dX10_sold_1 : decode cX10_sold 1 = .ok (.iload_n 1, 1) := by decide +kernel
theorem dX10_sold_2 : decode cX10_sold 2 = .ok (.invokevirtual 134, 3) := by decide +kernel
theorem dX10_sold_5 : decode cX10_sold 5 = .ok (.ifCond .eq 33, 3) := by decide +kernel
theorem dX10_sold_8 : decode cX10_sold 8 = .ok (.aload_n 0, 1) := by decide +kernel
theorem dX10_sold_9 : decode cX10_sold 9 = .ok (.iload_n 2, 1) := by decide +kernel
theorem dX10_sold_10 : decode cX10_sold 10 = .ok (.invokevirtual 134, 3) := by decide +kernel
theorem dX10_sold_13 : decode cX10_sold 13 = .ok (.ifCond .eq 25, 3) := by decide +kernel
theorem dX10_sold_16 : decode cX10_sold 16 = .ok (.iload_n 1, 1) := by decide +kernel
theorem dX10_sold_17 : decode cX10_sold 17 = .ok (.iload_n 2, 1) := by decide +kernel
theorem dX10_sold_18 : decode cX10_sold 18 = .ok (.if_icmp .eq 20, 3) := by decide +kernel
theorem dX10_sold_21 : decode cX10_sold 21 = .ok (.iload_n 3, 1) := by decide +kernel
theorem dX10_sold_22 : decode cX10_sold 22 = .ok (.invokestatic 93, 3) := by decide +kernel
theorem dX10_sold_25 : decode cX10_sold 25 = .ok (.ifCond .eq 13, 3) := by decide +kernel
theorem dX10_sold_28 : decode cX10_sold 28 = .ok (.aload_n 0, 1) := by decide +kernel
theorem dX10_sold_29 : decode cX10_sold 29 = .ok (.iload_n 1, 1) := by decide +kernel
theorem dX10_sold_30 : decode cX10_sold 30 = .ok (.iload_n 2, 1) := by decide +kernel
theorem dX10_sold_31 : decode cX10_sold 31 = .ok (.iload_n 3, 1) := by decide +kernel
theorem dX10_sold_32 : decode cX10_sold 32 = .ok (.invokevirtual 221, 3) := by decide +kernel
theorem dX10_sold_35 : decode cX10_sold 35 = .ok (.goto 6, 3) := by decide +kernel
theorem dX10_sold_38 : decode cX10_sold 38 = .ok (.sipush (-10002), 3) := by decide +kernel
theorem dX10_sold_41 : decode cX10_sold 41 = .ok (.ireturn, 1) := by decide +kernel
theorem dX10_debt_0 : decode cX10_debt 0 = .ok (.iload_n 1, 1) := by decide +kernel
theorem dX10_debt_1 : decode cX10_debt 1 = .ok (.iload_n 2, 1) := by decide +kernel
theorem dX10_debt_2 : decode cX10_debt 2 = .ok (.invokestatic 204, 3) := by decide +kernel
theorem dX10_debt_5 : decode cX10_debt 5 = .ok (.ifCond .eq 13, 3) := by decide +kernel
theorem dX10_debt_8 : decode cX10_debt 8 = .ok (.iload_n 3, 1) := by decide +kernel
theorem dX10_debt_9 : decode cX10_debt 9 = .ok (.iconst 1, 1) := by decide +kernel
theorem dX10_debt_10 : decode cX10_debt 10 = .ok (.bipush 99, 2) := by decide +kernel
theorem dX10_debt_12 : decode cX10_debt 12 = .ok (.invokestatic 89, 3) := by decide +kernel
theorem dX10_debt_15 : decode cX10_debt 15 = .ok (.ifCond .ne 6, 3) := by decide +kernel
theorem dX10_debt_18 : decode cX10_debt 18 = .ok (.bipush (-2), 2) := by decide +kernel
theorem dX10_debt_20 : decode cX10_debt 20 = .ok (.ireturn, 1) := by decide +kernel
theorem dX10_debt_21 : decode cX10_debt 21 = .ok (.aload_n 0, 1) := by decide +kernel
theorem dX10_debt_22 : decode cX10_debt 22 = .ok (.getfield 225, 3) := by decide +kernel
theorem dX10_debt_25 : decode cX10_debt 25 = .ok (.bipush 20, 2) := by decide +kernel
theorem dX10_debt_27 : decode cX10_debt 27 = .ok (.if_icmp .ne 6, 3) := by decide +kernel
theorem dX10_debt_30 : decode cX10_debt 30 = .ok (.bipush (-4), 2) := by decide +kernel
theorem dX10_debt_32 : decode cX10_debt 32 = .ok (.ireturn, 1) := by decide +kernel
theorem dX10_debt_33 : decode cX10_debt 33 = .ok (.aload_n 0, 1) := by decide +kernel
theorem dX10_debt_34 : decode cX10_debt 34 = .ok (.getfield 61, 3) := by decide +kernel
theorem dX10_debt_37 : decode cX10_debt 37 = .ok (.aload_n 0, 1) := by decide +kernel
theorem dX10_debt_38 : decode cX10_debt 38 = .ok (.getfield 225, 3) := by decide +kernel
theorem dX10_debt_41 : decode cX10_debt 41 = .ok (.bipush 100, 2) := by decide +kernel
theorem dX10_debt_43 : decode cX10_debt 43 = .ok (.iload_n 1, 1) := by decide +kernel
theorem dX10_debt_44 : decode cX10_debt 44 = .ok (.imul, 1) := by decide +kernel
theorem dX10_debt_45 : decode cX10_debt 45 = .ok (.iload_n 2, 1) := by decide +kernel
theorem dX10_debt_46 : decode cX10_debt 46 = .ok (.iadd, 1) := by decide +kernel
theorem dX10_debt_47 : decode cX10_debt 47 = .ok (.iastore, 1) := by decide +kernel
theorem dX10_debt_48 : decode cX10_debt 48 = .ok (.aload_n 0, 1) := by decide +kernel
theorem dX10_debt_49 : decode cX10_debt 49 = .ok (.getfield 64, 3) := by decide +kernel
theorem dX10_debt_52 : decode cX10_debt 52 = .ok (.aload_n 0, 1) := by decide +kernel
theorem dX10_debt_53 : decode cX10_debt 53 = .ok (.getfield 225, 3) := by decide +kernel
theorem dX10_debt_56 : decode cX10_debt 56 = .ok (.iload_n 3, 1) := by decide +kernel
theorem dX10_debt_57 : decode cX10_debt 57 = .ok (.iastore, 1) := by decide +kernel
theorem dX10_debt_58 : decode cX10_debt 58 = .ok (.aload_n 0, 1) := by decide +kernel
theorem dX10_debt_59 : decode cX10_debt 59 = .ok (.dup, 1) := by decide +kernel
theorem dX10_debt_60 : decode cX10_debt 60 = .ok (.getfield 225, 3) := by decide +kernel
theorem dX10_debt_63 : decode cX10_debt 63 = .ok (.iconst 1, 1) := by decide +kernel
theorem dX10_debt_64 : decode cX10_debt 64 = .ok (.iadd, 1) := by decide +kernel
theorem dX10_debt_65 : decode cX10_debt 65 = .ok (.putfield 225, 3) := by decide +kernel
theorem dX10_debt_68 : decode cX10_debt 68 = .ok (.aload_n 0, 1) := by decide +kernel
theorem dX10_debt_69 : decode cX10_debt 69 = .ok (.getfield 225, 3) := by decide +kernel
theorem dX10_debt_72 : decode cX10_debt 72 = .ok (.ireturn, 1) := by decide +kernel
theorem dX10_owesOf_0 : decode cX10_owesOf 0 = .ok (.aload_n 0, 1) := by decide +kernel
theorem dX10_owesOf_1 : decode cX10_owesOf 1 = .ok (.iload_n 2, 1) := by decide +kernel
theorem dX10_owesOf_2 : decode cX10_owesOf 2 = .ok (.invokevirtual 177, 3) := by decide +kernel
theorem dX10_owesOf_5 : decode cX10_owesOf 5 = .ok (.istore_n 3, 1) := by decide +kernel
theorem dX10_owesOf_6 : decode cX10_owesOf 6 = .ok (.iload_n 3, 1) := by decide +kernel
theorem dX10_owesOf_7 : decode cX10_owesOf 7 = .ok (.bipush (-3), 2) := by decide +kernel
theorem dX10_owesOf_9 : decode cX10_owesOf 9 = .ok (.if_icmp .ne 6, 3) := by decide +kernel
theorem dX10_owesOf_12 : decode cX10_owesOf 12 = .ok (.bipush (-3), 2) := by decide +kernel
theorem dX10_owesOf_14 : decode cX10_owesOf 14 = .ok (.ireturn, 1) := by decide +kernel
theorem dX10_owesOf_15 : decode cX10_owesOf 15 = .ok (.iconst 0, 1) := by decide +kernel
theorem dX10_owesOf_16 : decode cX10_owesOf 16 = .ok (.istore 4, 2) := by decide +kernel
theorem dX10_owesOf_18 : decode cX10_owesOf 18 = .ok (.iconst 0, 1) := by decide +kernel
theorem dX10_owesOf_19 : decode cX10_owesOf 19 = .ok (.istore 5, 2) := by decide +kernel
theorem dX10_owesOf_21 : decode cX10_owesOf 21 = .ok (.iload 5, 2) := by decide +kernel
theorem dX10_owesOf_23 : decode cX10_owesOf 23 = .ok (.aload_n 0, 1) := by decide +kernel
theorem dX10_owesOf_24 : decode cX10_owesOf 24 = .ok (.getfield 225, 3) := by decide +kernel
theorem dX10_owesOf_27 : decode cX10_owesOf 27 = .ok (.if_icmp .ge 65, 3) := by decide +kernel
theorem dX10_owesOf_30 : decode cX10_owesOf 30 = .ok (.iload 4, 2) := by decide +kernel
theorem dX10_owesOf_32 : decode cX10_owesOf 32 = .ok (.aload_n 0, 1) := by decide +kernel
theorem dX10_owesOf_33 : decode cX10_owesOf 33 = .ok (.getfield 61, 3) := by decide +kernel
theorem dX10_owesOf_36 : decode cX10_owesOf 36 = .ok (.iload 5, 2) := by decide +kernel
theorem dX10_owesOf_38 : decode cX10_owesOf 38 = .ok (.iaload, 1) := by decide +kernel
theorem dX10_owesOf_39 : decode cX10_owesOf 39 = .ok (.bipush 100, 2) := by decide +kernel
theorem dX10_owesOf_41 : decode cX10_owesOf 41 = .ok (.aload_n 0, 1) := by decide +kernel
theorem dX10_owesOf_42 : decode cX10_owesOf 42 = .ok (.getfield 25, 3) := by decide +kernel
theorem dX10_owesOf_45 : decode cX10_owesOf 45 = .ok (.iload_n 1, 1) := by decide +kernel
theorem dX10_owesOf_46 : decode cX10_owesOf 46 = .ok (.iaload, 1) := by decide +kernel
theorem dX10_owesOf_47 : decode cX10_owesOf 47 = .ok (.imul, 1) := by decide +kernel
theorem dX10_owesOf_48 : decode cX10_owesOf 48 = .ok (.aload_n 0, 1) := by decide +kernel
theorem dX10_owesOf_49 : decode cX10_owesOf 49 = .ok (.getfield 37, 3) := by decide +kernel
theorem dX10_owesOf_52 : decode cX10_owesOf 52 = .ok (.iload_n 1, 1) := by decide +kernel
theorem dX10_owesOf_53 : decode cX10_owesOf 53 = .ok (.iaload, 1) := by decide +kernel
theorem dX10_owesOf_54 : decode cX10_owesOf 54 = .ok (.iadd, 1) := by decide +kernel
theorem dX10_owesOf_55 : decode cX10_owesOf 55 = .ok (.if_icmp .ne 27, 3) := by decide +kernel
theorem dX10_owesOf_58 : decode cX10_owesOf 58 = .ok (.aload_n 0, 1) := by decide +kernel
theorem dX10_owesOf_59 : decode cX10_owesOf 59 = .ok (.getfield 37, 3) := by decide +kernel
theorem dX10_owesOf_62 : decode cX10_owesOf 62 = .ok (.iload_n 1, 1) := by decide +kernel
theorem dX10_owesOf_63 : decode cX10_owesOf 63 = .ok (.iaload, 1) := by decide +kernel
theorem dX10_owesOf_64 : decode cX10_owesOf 64 = .ok (.aload_n 0, 1) := by decide +kernel
theorem dX10_owesOf_65 : decode cX10_owesOf 65 = .ok (.iload_n 2, 1) := by decide +kernel
theorem dX10_owesOf_66 : decode cX10_owesOf 66 = .ok (.invokevirtual 104, 3) := by decide +kernel
theorem dX10_owesOf_69 : decode cX10_owesOf 69 = .ok (.if_icmp .lt 13, 3) := by decide +kernel
theorem dX10_owesOf_72 : decode cX10_owesOf 72 = .ok (.aload_n 0, 1) := by decide +kernel
theorem dX10_owesOf_73 : decode cX10_owesOf 73 = .ok (.getfield 64, 3) := by decide +kernel
theorem dX10_owesOf_76 : decode cX10_owesOf 76 = .ok (.iload 5, 2) := by decide +kernel
theorem dX10_owesOf_78 : decode cX10_owesOf 78 = .ok (.iaload, 1) := by decide +kernel
theorem dX10_owesOf_79 : decode cX10_owesOf 79 = .ok (.goto 4, 3) := by decide +kernel
theorem dX10_owesOf_82 : decode cX10_owesOf 82 = .ok (.iconst 0, 1) := by decide +kernel
theorem dX10_owesOf_83 : decode cX10_owesOf 83 = .ok (.iadd, 1) := by decide +kernel
theorem dX10_owesOf_84 : decode cX10_owesOf 84 = .ok (.istore 4, 2) := by decide +kernel
theorem dX10_owesOf_86 : decode cX10_owesOf 86 = .ok (.iinc 5 1, 3) := by decide +kernel
theorem dX10_owesOf_89 : decode cX10_owesOf 89 = .ok (.goto (-68), 3) := by decide +kernel
theorem dX10_owesOf_92 : decode cX10_owesOf 92 = .ok (.iload 4, 2) := by decide +kernel
theorem dX10_owesOf_94 : decode cX10_owesOf 94 = .ok (.ireturn, 1) := by decide +kernel
theorem dX10_owes_0 : decode cX10_owes 0 = .ok (.aload_n 0, 1) := by decide +kernel
theorem dX10_owes_1 : decode cX10_owes 1 = .ok (.iload_n 1, 1) := by decide +kernel
theorem dX10_owes_2 : decode cX10_owes 2 = .ok (.invokevirtual 134, 3) := by decide +kernel
theorem dX10_owes_5 : decode cX10_owes 5 = .ok (.ifCond .eq 19, 3) := by decide +kernel
theorem dX10_owes_8 : decode cX10_owes 8 = .ok (.iload_n 2, 1) := by decide +kernel
theorem dX10_owes_9 : decode cX10_owes 9 = .ok (.invokestatic 93, 3) := by decide +kernel
theorem dX10_owes_12 : decode cX10_owes 12 = .ok (.ifCond .eq 12, 3) := by decide +kernel
theorem dX10_owes_15 : decode cX10_owes 15 = .ok (.aload_n 0, 1) := by decide +kernel
theorem dX10_owes_16 : decode cX10_owes 16 = .ok (.iload_n 1, 1) := by decide +kernel
theorem dX10_owes_17 : decode cX10_owes 17 = .ok (.iload_n 2, 1) := by decide +kernel
theorem dX10_owes_18 : decode cX10_owes 18 = .ok (.invokevirtual 228, 3) := by decide +kernel
theorem dX10_owes_21 : decode cX10_owes 21 = .ok (.goto 5, 3) := by decide +kernel
theorem dX10_owes_24 : decode cX10_owes 24 = .ok (.bipush (-2), 2) := by decide +kernel
theorem dX10_owes_26 : decode cX10_owes 26 = .ok (.ireturn, 1) := by decide +kernel
theorem dX10_lostOf_0 : decode cX10_lostOf 0 = .ok (.iconst 0, 1) := by decide +kernel
theorem dX10_lostOf_1 : decode cX10_lostOf 1 = .ok (.istore_n 2, 1) := by decide +kernel
theorem dX10_lostOf_2 : decode cX10_lostOf 2 = .ok (.iconst 0, 1) := by decide +kernel
theorem dX10_lostOf_3 : decode cX10_lostOf 3 = .ok (.istore_n 3, 1) := by decide +kernel
theorem dX10_lostOf_4 : decode cX10_lostOf 4 = .ok (.iload_n 3, 1) := by decide +kernel
theorem dX10_lostOf_5 : decode cX10_lostOf 5 = .ok (.aload_n 0, 1) := by decide +kernel
theorem dX10_lostOf_6 : decode cX10_lostOf 6 = .ok (.getfield 225, 3) := by decide +kernel
theorem dX10_lostOf_9 : decode cX10_lostOf 9 = .ok (.if_icmp .ge 39, 3) := by decide +kernel
theorem dX10_lostOf_12 : decode cX10_lostOf 12 = .ok (.iload_n 2, 1) := by decide +kernel
theorem dX10_lostOf_13 : decode cX10_lostOf 13 = .ok (.aload_n 0, 1) := by decide +kernel
theorem dX10_lostOf_14 : decode cX10_lostOf 14 = .ok (.getfield 61, 3) := by decide +kernel
theorem dX10_lostOf_17 : decode cX10_lostOf 17 = .ok (.iload_n 3, 1) := by decide +kernel
theorem dX10_lostOf_18 : decode cX10_lostOf 18 = .ok (.iaload, 1) := by decide +kernel
theorem dX10_lostOf_19 : decode cX10_lostOf 19 = .ok (.bipush 100, 2) := by decide +kernel
theorem dX10_lostOf_21 : decode cX10_lostOf 21 = .ok (.irem, 1) := by decide +kernel
theorem dX10_lostOf_22 : decode cX10_lostOf 22 = .ok (.aload_n 0, 1) := by decide +kernel
theorem dX10_lostOf_23 : decode cX10_lostOf 23 = .ok (.iload_n 1, 1) := by decide +kernel
theorem dX10_lostOf_24 : decode cX10_lostOf 24 = .ok (.invokevirtual 104, 3) := by decide +kernel
theorem dX10_lostOf_27 : decode cX10_lostOf 27 = .ok (.if_icmp .ge 12, 3) := by decide +kernel
theorem dX10_lostOf_30 : decode cX10_lostOf 30 = .ok (.aload_n 0, 1) := by decide +kernel
theorem dX10_lostOf_31 : decode cX10_lostOf 31 = .ok (.getfield 64, 3) := by decide +kernel
theorem dX10_lostOf_34 : decode cX10_lostOf 34 = .ok (.iload_n 3, 1) := by decide +kernel
theorem dX10_lostOf_35 : decode cX10_lostOf 35 = .ok (.iaload, 1) := by decide +kernel
theorem dX10_lostOf_36 : decode cX10_lostOf 36 = .ok (.goto 4, 3) := by decide +kernel
theorem dX10_lostOf_39 : decode cX10_lostOf 39 = .ok (.iconst 0, 1) := by decide +kernel
theorem dX10_lostOf_40 : decode cX10_lostOf 40 = .ok (.iadd, 1) := by decide +kernel
theorem dX10_lostOf_41 : decode cX10_lostOf 41 = .ok (.istore_n 2, 1) := by decide +kernel
theorem dX10_lostOf_42 : decode cX10_lostOf 42 = .ok (.iinc 3 1, 3) := by decide +kernel
theorem dX10_lostOf_45 : decode cX10_lostOf 45 = .ok (.goto (-41), 3) := by decide +kernel
theorem dX10_lostOf_48 : decode cX10_lostOf 48 = .ok (.iload_n 2, 1) := by decide +kernel
theorem dX10_lostOf_49 : decode cX10_lostOf 49 = .ok (.ireturn, 1) := by decide +kernel
theorem dX10_lost_0 : decode cX10_lost 0 = .ok (.iload_n 1, 1) := by decide +kernel
theorem dX10_lost_1 : decode cX10_lost 1 = .ok (.invokestatic 93, 3) := by decide +kernel
theorem dX10_lost_4 : decode cX10_lost 4 = .ok (.ifCond .eq 11, 3) := by decide +kernel
theorem dX10_lost_7 : decode cX10_lost 7 = .ok (.aload_n 0, 1) := by decide +kernel
theorem dX10_lost_8 : decode cX10_lost 8 = .ok (.iload_n 1, 1) := by decide +kernel
theorem dX10_lost_9 : decode cX10_lost 9 = .ok (.invokevirtual 231, 3) := by decide +kernel
theorem dX10_lost_12 : decode cX10_lost 12 = .ok (.goto 5, 3) := by decide +kernel
theorem dX10_lost_15 : decode cX10_lost 15 = .ok (.bipush (-2), 2) := by decide +kernel
theorem dX10_lost_17 : decode cX10_lost 17 = .ok (.ireturn, 1) := by decide +kernel
theorem dX10_church_0 : decode cX10_church 0 = .ok (.iload_n 1, 1) := by decide +kernel
theorem dX10_church_1 : decode cX10_church 1 = .ok (.iconst 1, 1) := by decide +kernel
theorem dX10_church_2 : decode cX10_church 2 = .ok (.sipush 999, 3) := by decide +kernel
theorem dX10_church_5 : decode cX10_church 5 = .ok (.invokestatic 89, 3) := by decide +kernel
theorem dX10_church_8 : decode cX10_church 8 = .ok (.ifCond .eq 21, 3) := by decide +kernel
theorem dX10_church_11 : decode cX10_church 11 = .ok (.iload_n 2, 1) := by decide +kernel
theorem dX10_church_12 : decode cX10_church 12 = .ok (.iconst 0, 1) := by decide +kernel
theorem dX10_church_13 : decode cX10_church 13 = .ok (.sipush 999, 3) := by decide +kernel
theorem dX10_church_16 : decode cX10_church 16 = .ok (.invokestatic 89, 3) := by decide +kernel
theorem dX10_church_19 : decode cX10_church 19 = .ok (.ifCond .eq 10, 3) := by decide +kernel
theorem dX10_church_22 : decode cX10_church 22 = .ok (.iload_n 3, 1) := by decide +kernel
theorem dX10_church_23 : decode cX10_church 23 = .ok (.invokestatic 93, 3) := by decide +kernel
theorem dX10_church_26 : decode cX10_church 26 = .ok (.ifCond .ne 6, 3) := by decide +kernel
theorem dX10_church_29 : decode cX10_church 29 = .ok (.bipush (-2), 2) := by decide +kernel
theorem dX10_church_31 : decode cX10_church 31 = .ok (.ireturn, 1) := by decide +kernel
theorem dX10_church_32 : decode cX10_church 32 = .ok (.iconst 1, 1) := by decide +kernel
theorem dX10_church_33 : decode cX10_church 33 = .ok (.istore 4, 2) := by decide +kernel
theorem dX10_church_35 : decode cX10_church 35 = .ok (.iload 4, 2) := by decide +kernel
theorem dX10_church_37 : decode cX10_church 37 = .ok (.bipush 10, 2) := by decide +kernel
theorem dX10_church_39 : decode cX10_church 39 = .ok (.if_icmp .ge 36, 3) := by decide +kernel
theorem dX10_church_42 : decode cX10_church 42 = .ok (.iload 4, 2) := by decide +kernel
theorem dX10_church_44 : decode cX10_church 44 = .ok (.iload_n 3, 1) := by decide +kernel
theorem dX10_church_45 : decode cX10_church 45 = .ok (.iconst 1, 1) := by decide +kernel
theorem dX10_church_46 : decode cX10_church 46 = .ok (.iadd, 1) := by decide +kernel
theorem dX10_church_47 : decode cX10_church 47 = .ok (.if_icmp .gt 28, 3) := by decide +kernel
theorem dX10_church_50 : decode cX10_church 50 = .ok (.iload_n 1, 1) := by decide +kernel
theorem dX10_church_51 : decode cX10_church 51 = .ok (.iload 4, 2) := by decide +kernel
theorem dX10_church_53 : decode cX10_church 53 = .ok (.iadd, 1) := by decide +kernel
theorem dX10_church_54 : decode cX10_church 54 = .ok (.iconst 1, 1) := by decide +kernel
theorem dX10_church_55 : decode cX10_church 55 = .ok (.isub, 1) := by decide +kernel
theorem dX10_church_56 : decode cX10_church 56 = .ok (.iload 4, 2) := by decide +kernel
theorem dX10_church_58 : decode cX10_church 58 = .ok (.idiv, 1) := by decide +kernel
theorem dX10_church_59 : decode cX10_church 59 = .ok (.iload 4, 2) := by decide +kernel
theorem dX10_church_61 : decode cX10_church 61 = .ok (.iadd, 1) := by decide +kernel
theorem dX10_church_62 : decode cX10_church 62 = .ok (.iload_n 2, 1) := by decide +kernel
theorem dX10_church_63 : decode cX10_church 63 = .ok (.if_icmp .gt 6, 3) := by decide +kernel
theorem dX10_church_66 : decode cX10_church 66 = .ok (.iload 4, 2) := by decide +kernel
theorem dX10_church_68 : decode cX10_church 68 = .ok (.ireturn, 1) := by decide +kernel
theorem dX10_church_69 : decode cX10_church 69 = .ok (.iinc 4 1, 3) := by decide +kernel
theorem dX10_church_72 : decode cX10_church 72 = .ok (.goto (-37), 3) := by decide +kernel
theorem dX10_church_75 : decode cX10_church 75 = .ok (.iconst (-1), 1) := by decide +kernel
theorem dX10_church_76 : decode cX10_church 76 = .ok (.ireturn, 1) := by decide +kernel
theorem dX10_likely_0 : decode cX10_likely 0 = .ok (.iload_n 1, 1) := by decide +kernel
theorem dX10_likely_1 : decode cX10_likely 1 = .ok (.iconst 0, 1) := by decide +kernel
theorem dX10_likely_2 : decode cX10_likely 2 = .ok (.bipush 9, 2) := by decide +kernel
theorem dX10_likely_4 : decode cX10_likely 4 = .ok (.invokestatic 89, 3) := by decide +kernel
theorem dX10_likely_7 : decode cX10_likely 7 = .ok (.ifCond .eq 33, 3) := by decide +kernel
theorem dX10_likely_10 : decode cX10_likely 10 = .ok (.iload_n 2, 1) := by decide +kernel
theorem dX10_likely_11 : decode cX10_likely 11 = .ok (.iconst 0, 1) := by decide +kernel
theorem dX10_likely_12 : decode cX10_likely 12 = .ok (.bipush 99, 2) := by decide +kernel
theorem dX10_likely_14 : decode cX10_likely 14 = .ok (.invokestatic 89, 3) := by decide +kernel
theorem dX10_likely_17 : decode cX10_likely 17 = .ok (.ifCond .eq 23, 3) := by decide +kernel
theorem dX10_likely_20 : decode cX10_likely 20 = .ok (.iload_n 3, 1) := by decide +kernel
theorem dX10_likely_21 : decode cX10_likely 21 = .ok (.iconst 0, 1) := by decide +kernel
theorem dX10_likely_22 : decode cX10_likely 22 = .ok (.bipush 9, 2) := by decide +kernel
theorem dX10_likely_24 : decode cX10_likely 24 = .ok (.invokestatic 89, 3) := by decide +kernel
theorem dX10_likely_27 : decode cX10_likely 27 = .ok (.ifCond .eq 13, 3) := by decide +kernel
theorem dX10_likely_30 : decode cX10_likely 30 = .ok (.iload 4, 2) := by decide +kernel
theorem dX10_likely_32 : decode cX10_likely 32 = .ok (.iconst 0, 1) := by decide +kernel
theorem dX10_likely_33 : decode cX10_likely 33 = .ok (.iconst 1, 1) := by decide +kernel
theorem dX10_likely_34 : decode cX10_likely 34 = .ok (.invokestatic 89, 3) := by decide +kernel
theorem dX10_likely_37 : decode cX10_likely 37 = .ok (.ifCond .ne 9, 3) := by decide +kernel
theorem dX10_likely_40 : decode cX10_likely 40 = .ok (.bipush (-2), 2) := by decide +kernel
theorem dX10_likely_42 : decode cX10_likely 42 = .ok (.invokestatic 234, 3) := by decide +kernel
theorem dX10_likely_45 : decode cX10_likely 45 = .ok (.lreturn, 1) := by decide +kernel
theorem dX10_likely_46 : decode cX10_likely 46 = .ok (.iconst 0, 1) := by decide +kernel
theorem dX10_likely_47 : decode cX10_likely 47 = .ok (.istore 5, 2) := by decide +kernel
theorem dX10_likely_49 : decode cX10_likely 49 = .ok (.iload 5, 2) := by decide +kernel
theorem dX10_likely_51 : decode cX10_likely 51 = .ok (.bipush 100, 2) := by decide +kernel
theorem dX10_likely_53 : decode cX10_likely 53 = .ok (.if_icmp .ge 26, 3) := by decide +kernel
theorem dX10_likely_56 : decode cX10_likely 56 = .ok (.aload_n 0, 1) := by decide +kernel
theorem dX10_likely_57 : decode cX10_likely 57 = .ok (.getfield 67, 3) := by decide +kernel
theorem dX10_likely_60 : decode cX10_likely 60 = .ok (.iload 5, 2) := by decide +kernel
theorem dX10_likely_62 : decode cX10_likely 62 = .ok (.iload 5, 2) := by decide +kernel
theorem dX10_likely_64 : decode cX10_likely 64 = .ok (.ifCond .ne 7, 3) := by decide +kernel
theorem dX10_likely_67 : decode cX10_likely 67 = .ok (.lconst 1, 1) := by decide +kernel
theorem dX10_likely_68 : decode cX10_likely 68 = .ok (.goto 4, 3) := by decide +kernel
theorem dX10_likely_71 : decode cX10_likely 71 = .ok (.lconst 0, 1) := by decide +kernel
theorem dX10_likely_72 : decode cX10_likely 72 = .ok (.lastore, 1) := by decide +kernel
theorem dX10_likely_73 : decode cX10_likely 73 = .ok (.iinc 5 1, 3) := by decide +kernel
theorem dX10_likely_76 : decode cX10_likely 76 = .ok (.goto (-27), 3) := by decide +kernel
theorem dX10_likely_79 : decode cX10_likely 79 = .ok (.lconst 1, 1) := by decide +kernel
theorem dX10_likely_80 : decode cX10_likely 80 = .ok (.lstore 5, 2) := by decide +kernel
theorem dX10_likely_82 : decode cX10_likely 82 = .ok (.iconst 0, 1) := by decide +kernel
theorem dX10_likely_83 : decode cX10_likely 83 = .ok (.istore 7, 2) := by decide +kernel
theorem dX10_likely_85 : decode cX10_likely 85 = .ok (.iload 7, 2) := by decide +kernel
theorem dX10_likely_87 : decode cX10_likely 87 = .ok (.iload_n 3, 1) := by decide +kernel
theorem dX10_likely_88 : decode cX10_likely 88 = .ok (.if_icmp .ge 82, 3) := by decide +kernel
theorem dX10_likely_91 : decode cX10_likely 91 = .ok (.bipush 99, 2) := by decide +kernel
theorem dX10_likely_93 : decode cX10_likely 93 = .ok (.istore 8, 2) := by decide +kernel
theorem dX10_likely_95 : decode cX10_likely 95 = .ok (.iload 8, 2) := by decide +kernel
theorem dX10_likely_97 : decode cX10_likely 97 = .ok (.ifCond .lt 58, 3) := by decide +kernel
theorem dX10_likely_100 : decode cX10_likely 100 = .ok (.lconst 0, 1) := by decide +kernel
theorem dX10_likely_101 : decode cX10_likely 101 = .ok (.lstore 9, 2) := by decide +kernel
theorem dX10_likely_103 : decode cX10_likely 103 = .ok (.iconst 0, 1) := by decide +kernel
theorem dX10_likely_104 : decode cX10_likely 104 = .ok (.istore 11, 2) := by decide +kernel
theorem dX10_likely_106 : decode cX10_likely 106 = .ok (.iload 11, 2) := by decide +kernel
theorem dX10_likely_108 : decode cX10_likely 108 = .ok (.iload_n 1, 1) := by decide +kernel
theorem dX10_likely_109 : decode cX10_likely 109 = .ok (.if_icmp .gt 31, 3) := by decide +kernel
theorem dX10_likely_112 : decode cX10_likely 112 = .ok (.iload 11, 2) := by decide +kernel
theorem dX10_likely_114 : decode cX10_likely 114 = .ok (.iload 8, 2) := by decide +kernel
theorem dX10_likely_116 : decode cX10_likely 116 = .ok (.if_icmp .gt 24, 3) := by decide +kernel
theorem dX10_likely_119 : decode cX10_likely 119 = .ok (.lload 9, 2) := by decide +kernel
theorem dX10_likely_121 : decode cX10_likely 121 = .ok (.aload_n 0, 1) := by decide +kernel
theorem dX10_likely_122 : decode cX10_likely 122 = .ok (.getfield 67, 3) := by decide +kernel
theorem dX10_likely_125 : decode cX10_likely 125 = .ok (.iload 8, 2) := by decide +kernel
theorem dX10_likely_127 : decode cX10_likely 127 = .ok (.iload 11, 2) := by decide +kernel
theorem dX10_likely_129 : decode cX10_likely 129 = .ok (.isub, 1) := by decide +kernel
theorem dX10_likely_130 : decode cX10_likely 130 = .ok (.laload, 1) := by decide +kernel
theorem dX10_likely_131 : decode cX10_likely 131 = .ok (.ladd, 1) := by decide +kernel
theorem dX10_likely_132 : decode cX10_likely 132 = .ok (.lstore 9, 2) := by decide +kernel
theorem dX10_likely_134 : decode cX10_likely 134 = .ok (.iinc 11 1, 3) := by decide +kernel
theorem dX10_likely_137 : decode cX10_likely 137 = .ok (.goto (-31), 3) := by decide +kernel
theorem dX10_likely_140 : decode cX10_likely 140 = .ok (.aload_n 0, 1) := by decide +kernel
theorem dX10_likely_141 : decode cX10_likely 141 = .ok (.getfield 67, 3) := by decide +kernel
theorem dX10_likely_144 : decode cX10_likely 144 = .ok (.iload 8, 2) := by decide +kernel
theorem dX10_likely_146 : decode cX10_likely 146 = .ok (.lload 9, 2) := by decide +kernel
theorem dX10_likely_148 : decode cX10_likely 148 = .ok (.lastore, 1) := by decide +kernel
theorem dX10_likely_149 : decode cX10_likely 149 = .ok (.iinc 8 (-1), 3) := by decide +kernel
theorem dX10_likely_152 : decode cX10_likely 152 = .ok (.goto (-57), 3) := by decide +kernel
theorem dX10_likely_155 : decode cX10_likely 155 = .ok (.lload 5, 2) := by decide +kernel
theorem dX10_likely_157 : decode cX10_likely 157 = .ok (.iload_n 1, 1) := by decide +kernel
theorem dX10_likely_158 : decode cX10_likely 158 = .ok (.i2l, 1) := by decide +kernel
theorem dX10_likely_159 : decode cX10_likely 159 = .ok (.lconst 1, 1) := by decide +kernel
theorem dX10_likely_160 : decode cX10_likely 160 = .ok (.ladd, 1) := by decide +kernel
theorem dX10_likely_161 : decode cX10_likely 161 = .ok (.lmul, 1) := by decide +kernel
theorem dX10_likely_162 : decode cX10_likely 162 = .ok (.lstore 5, 2) := by decide +kernel
theorem dX10_likely_164 : decode cX10_likely 164 = .ok (.iinc 7 1, 3) := by decide +kernel
theorem dX10_likely_167 : decode cX10_likely 167 = .ok (.goto (-82), 3) := by decide +kernel
theorem dX10_likely_170 : decode cX10_likely 170 = .ok (.lconst 0, 1) := by decide +kernel
theorem dX10_likely_171 : decode cX10_likely 171 = .ok (.lstore 7, 2) := by decide +kernel
theorem dX10_likely_173 : decode cX10_likely 173 = .ok (.iconst 0, 1) := by decide +kernel
theorem dX10_likely_174 : decode cX10_likely 174 = .ok (.istore 9, 2) := by decide +kernel
theorem dX10_likely_176 : decode cX10_likely 176 = .ok (.iload 9, 2) := by decide +kernel
theorem dX10_likely_178 : decode cX10_likely 178 = .ok (.bipush 100, 2) := by decide +kernel
theorem dX10_likely_180 : decode cX10_likely 180 = .ok (.if_icmp .ge 38, 3) := by decide +kernel
theorem dX10_likely_183 : decode cX10_likely 183 = .ok (.lload 7, 2) := by decide +kernel
theorem dX10_likely_185 : decode cX10_likely 185 = .ok (.aload_n 0, 1) := by decide +kernel
theorem dX10_likely_186 : decode cX10_likely 186 = .ok (.getfield 13, 3) := by decide +kernel
theorem dX10_likely_189 : decode cX10_likely 189 = .ok (.iconst 0, 1) := by decide +kernel
theorem dX10_likely_190 : decode cX10_likely 190 = .ok (.iaload, 1) := by decide +kernel
theorem dX10_likely_191 : decode cX10_likely 191 = .ok (.iload 9, 2) := by decide +kernel
theorem dX10_likely_193 : decode cX10_likely 193 = .ok (.iadd, 1) := by decide +kernel
theorem dX10_likely_194 : decode cX10_likely 194 = .ok (.iload_n 2, 1) := by decide +kernel
theorem dX10_likely_195 : decode cX10_likely 195 = .ok (.if_icmp .le 13, 3) := by decide +kernel
theorem dX10_likely_198 : decode cX10_likely 198 = .ok (.aload_n 0, 1) := by decide +kernel
theorem dX10_likely_199 : decode cX10_likely 199 = .ok (.getfield 67, 3) := by decide +kernel
theorem dX10_likely_202 : decode cX10_likely 202 = .ok (.iload 9, 2) := by decide +kernel
theorem dX10_likely_204 : decode cX10_likely 204 = .ok (.laload, 1) := by decide +kernel
theorem dX10_likely_205 : decode cX10_likely 205 = .ok (.goto 4, 3) := by decide +kernel
theorem dX10_likely_208 : decode cX10_likely 208 = .ok (.lconst 0, 1) := by decide +kernel
theorem dX10_likely_209 : decode cX10_likely 209 = .ok (.ladd, 1) := by decide +kernel
theorem dX10_likely_210 : decode cX10_likely 210 = .ok (.lstore 7, 2) := by decide +kernel
theorem dX10_likely_212 : decode cX10_likely 212 = .ok (.iinc 9 1, 3) := by decide +kernel
theorem dX10_likely_215 : decode cX10_likely 215 = .ok (.goto (-39), 3) := by decide +kernel
theorem dX10_likely_218 : decode cX10_likely 218 = .ok (.lload 7, 2) := by decide +kernel
theorem dX10_likely_220 : decode cX10_likely 220 = .ok (.lload 5, 2) := by decide +kernel
theorem dX10_likely_222 : decode cX10_likely 222 = .ok (.iload 4, 2) := by decide +kernel
theorem dX10_likely_224 : decode cX10_likely 224 = .ok (.invokestatic 238, 3) := by decide +kernel
theorem dX10_likely_227 : decode cX10_likely 227 = .ok (.lreturn, 1) := by decide +kernel
theorem dX10_stone_0 : decode cX10_stone 0 = .ok (.iload_n 1, 1) := by decide +kernel
theorem dX10_stone_1 : decode cX10_stone 1 = .ok (.iconst 0, 1) := by decide +kernel
theorem dX10_stone_2 : decode cX10_stone 2 = .ok (.bipush 99, 2) := by decide +kernel
theorem dX10_stone_4 : decode cX10_stone 4 = .ok (.invokestatic 89, 3) := by decide +kernel
theorem dX10_stone_7 : decode cX10_stone 7 = .ok (.ifCond .eq 41, 3) := by decide +kernel
theorem dX10_stone_10 : decode cX10_stone 10 = .ok (.iload_n 2, 1) := by decide +kernel
theorem dX10_stone_11 : decode cX10_stone 11 = .ok (.invokestatic 93, 3) := by decide +kernel
theorem dX10_stone_14 : decode cX10_stone 14 = .ok (.ifCond .eq 34, 3) := by decide +kernel
theorem dX10_stone_17 : decode cX10_stone 17 = .ok (.iload 4, 2) := by decide +kernel
theorem dX10_stone_19 : decode cX10_stone 19 = .ok (.iconst 0, 1) := by decide +kernel
theorem dX10_stone_20 : decode cX10_stone 20 = .ok (.bipush 9, 2) := by decide +kernel
theorem dX10_stone_22 : decode cX10_stone 22 = .ok (.invokestatic 89, 3) := by decide +kernel
theorem dX10_stone_25 : decode cX10_stone 25 = .ok (.ifCond .eq 23, 3) := by decide +kernel
theorem dX10_stone_28 : decode cX10_stone 28 = .ok (.iload_n 3, 1) := by decide +kernel
theorem dX10_stone_29 : decode cX10_stone 29 = .ok (.iconst 0, 1) := by decide +kernel
theorem dX10_stone_30 : decode cX10_stone 30 = .ok (.iload 4, 2) := by decide +kernel
theorem dX10_stone_32 : decode cX10_stone 32 = .ok (.invokestatic 89, 3) := by decide +kernel
theorem dX10_stone_35 : decode cX10_stone 35 = .ok (.ifCond .eq 13, 3) := by decide +kernel
theorem dX10_stone_38 : decode cX10_stone 38 = .ok (.iload 5, 2) := by decide +kernel
theorem dX10_stone_40 : decode cX10_stone 40 = .ok (.iconst 0, 1) := by decide +kernel
theorem dX10_stone_41 : decode cX10_stone 41 = .ok (.iconst 1, 1) := by decide +kernel
theorem dX10_stone_42 : decode cX10_stone 42 = .ok (.invokestatic 89, 3) := by decide +kernel
theorem dX10_stone_45 : decode cX10_stone 45 = .ok (.ifCond .ne 6, 3) := by decide +kernel
theorem dX10_stone_48 : decode cX10_stone 48 = .ok (.bipush (-2), 2) := by decide +kernel
theorem dX10_stone_50 : decode cX10_stone 50 = .ok (.ireturn, 1) := by decide +kernel
theorem dX10_stone_51 : decode cX10_stone 51 = .ok (.aload_n 0, 1) := by decide +kernel
theorem dX10_stone_52 : decode cX10_stone 52 = .ok (.iload_n 2, 1) := by decide +kernel
theorem dX10_stone_53 : decode cX10_stone 53 = .ok (.invokevirtual 104, 3) := by decide +kernel
theorem dX10_stone_56 : decode cX10_stone 56 = .ok (.iload_n 1, 1) := by decide +kernel
theorem dX10_stone_57 : decode cX10_stone 57 = .ok (.isub, 1) := by decide +kernel
theorem dX10_stone_58 : decode cX10_stone 58 = .ok (.istore 6, 2) := by decide +kernel
theorem dX10_stone_60 : decode cX10_stone 60 = .ok (.iload 6, 2) := by decide +kernel
theorem dX10_stone_62 : decode cX10_stone 62 = .ok (.iconst 1, 1) := by decide +kernel
theorem dX10_stone_63 : decode cX10_stone 63 = .ok (.if_icmp .lt 8, 3) := by decide +kernel
theorem dX10_stone_66 : decode cX10_stone 66 = .ok (.iload 4, 2) := by decide +kernel
theorem dX10_stone_68 : decode cX10_stone 68 = .ok (.ifCond .ne 5, 3) := by decide +kernel
theorem dX10_stone_71 : decode cX10_stone 71 = .ok (.iconst (-1), 1) := by decide +kernel
theorem dX10_stone_72 : decode cX10_stone 72 = .ok (.ireturn, 1) := by decide +kernel
theorem dX10_stone_73 : decode cX10_stone 73 = .ok (.iload 5, 2) := by decide +kernel
theorem dX10_stone_75 : decode cX10_stone 75 = .ok (.ifCond .ne 18, 3) := by decide +kernel
theorem dX10_stone_78 : decode cX10_stone 78 = .ok (.iload 6, 2) := by decide +kernel
theorem dX10_stone_80 : decode cX10_stone 80 = .ok (.iload 4, 2) := by decide +kernel
theorem dX10_stone_82 : decode cX10_stone 82 = .ok (.iadd, 1) := by decide +kernel
theorem dX10_stone_83 : decode cX10_stone 83 = .ok (.iconst 1, 1) := by decide +kernel
theorem dX10_stone_84 : decode cX10_stone 84 = .ok (.isub, 1) := by decide +kernel
theorem dX10_stone_85 : decode cX10_stone 85 = .ok (.iload 4, 2) := by decide +kernel
theorem dX10_stone_87 : decode cX10_stone 87 = .ok (.idiv, 1) := by decide +kernel
theorem dX10_stone_88 : decode cX10_stone 88 = .ok (.iconst 1, 1) := by decide +kernel
theorem dX10_stone_89 : decode cX10_stone 89 = .ok (.isub, 1) := by decide +kernel
theorem dX10_stone_90 : decode cX10_stone 90 = .ok (.goto 19, 3) := by decide +kernel
theorem dX10_stone_93 : decode cX10_stone 93 = .ok (.iload_n 3, 1) := by decide +kernel
theorem dX10_stone_94 : decode cX10_stone 94 = .ok (.ifCond .ne 9, 3) := by decide +kernel
theorem dX10_stone_97 : decode cX10_stone 97 = .ok (.sipush 999, 3) := by decide +kernel
theorem dX10_stone_100 : decode cX10_stone 100 = .ok (.goto 9, 3) := by decide +kernel
theorem dX10_stone_103 : decode cX10_stone 103 = .ok (.iload 6, 2) := by decide +kernel
theorem dX10_stone_105 : decode cX10_stone 105 = .ok (.iconst 1, 1) := by decide +kernel
theorem dX10_stone_106 : decode cX10_stone 106 = .ok (.isub, 1) := by decide +kernel
theorem dX10_stone_107 : decode cX10_stone 107 = .ok (.iload_n 3, 1) := by decide +kernel
theorem dX10_stone_108 : decode cX10_stone 108 = .ok (.idiv, 1) := by decide +kernel
theorem dX10_stone_109 : decode cX10_stone 109 = .ok (.ireturn, 1) := by decide +kernel
theorem dX10_meets_0 : decode cX10_meets 0 = .ok (.aload_n 0, 1) := by decide +kernel
theorem dX10_meets_1 : decode cX10_meets 1 = .ok (.iload_n 1, 1) := by decide +kernel
theorem dX10_meets_2 : decode cX10_meets 2 = .ok (.putfield 242, 3) := by decide +kernel
theorem dX10_meets_5 : decode cX10_meets 5 = .ok (.bipush (-10), 2) := by decide +kernel
theorem dX10_meets_7 : decode cX10_meets 7 = .ok (.iload_n 1, 1) := by decide +kernel
theorem dX10_meets_8 : decode cX10_meets 8 = .ok (.isub, 1) := by decide +kernel
theorem dX10_meets_9 : decode cX10_meets 9 = .ok (.ireturn, 1) := by decide +kernel
theorem dX10_isSheet_0 : decode cX10_isSheet 0 = .ok (.iload_n 0, 1) := by decide +kernel
theorem dX10_isSheet_1 : decode cX10_isSheet 1 = .ok (.iconst 0, 1) := by decide +kernel
theorem dX10_isSheet_2 : decode cX10_isSheet 2 = .ok (.iconst 3, 1) := by decide +kernel
theorem dX10_isSheet_3 : decode cX10_isSheet 3 = .ok (.invokestatic 89, 3) := by decide +kernel
theorem dX10_isSheet_6 : decode cX10_isSheet 6 = .ok (.ireturn, 1) := by decide +kernel
theorem dX10_sheet_0 : decode cX10_sheet 0 = .ok (.iload_n 1, 1) := by decide +kernel
theorem dX10_sheet_1 : decode cX10_sheet 1 = .ok (.invokestatic 97, 3) := by decide +kernel
theorem dX10_sheet_4 : decode cX10_sheet 4 = .ok (.ifCond .eq 18, 3) := by decide +kernel
theorem dX10_sheet_7 : decode cX10_sheet 7 = .ok (.iload_n 2, 1) := by decide +kernel
theorem dX10_sheet_8 : decode cX10_sheet 8 = .ok (.iconst 0, 1) := by decide +kernel
theorem dX10_sheet_9 : decode cX10_sheet 9 = .ok (.iconst 2, 1) := by decide +kernel
theorem dX10_sheet_10 : decode cX10_sheet 10 = .ok (.invokestatic 89, 3) := by decide +kernel
theorem dX10_sheet_13 : decode cX10_sheet 13 = .ok (.ifCond .eq 9, 3) := by decide +kernel
theorem dX10_sheet_16 : decode cX10_sheet 16 = .ok (.iload_n 3, 1) := by decide +kernel
theorem dX10_sheet_17 : decode cX10_sheet 17 = .ok (.bipush 60, 2) := by decide +kernel
theorem dX10_sheet_19 : decode cX10_sheet 19 = .ok (.if_icmp .le 6, 3) := by decide +kernel
theorem dX10_sheet_22 : decode cX10_sheet 22 = .ok (.bipush (-2), 2) := by decide +kernel
theorem dX10_sheet_24 : decode cX10_sheet 24 = .ok (.ireturn, 1) := by decide +kernel
theorem dX10_sheet_25 : decode cX10_sheet 25 = .ok (.iload_n 3, 1) := by decide +kernel
theorem dX10_sheet_26 : decode cX10_sheet 26 = .ok (.ifCond .ge 9, 3) := by decide +kernel
theorem dX10_sheet_29 : decode cX10_sheet 29 = .ok (.aload_n 0, 1) := by decide +kernel
theorem dX10_sheet_30 : decode cX10_sheet 30 = .ok (.iconst 5, 1) := by decide +kernel
theorem dX10_sheet_31 : decode cX10_sheet 31 = .ok (.invokevirtual 100, 3) := by decide +kernel
theorem dX10_sheet_34 : decode cX10_sheet 34 = .ok (.ireturn, 1) := by decide +kernel
theorem dX10_sheet_35 : decode cX10_sheet 35 = .ok (.aload_n 0, 1) := by decide +kernel
theorem dX10_sheet_36 : decode cX10_sheet 36 = .ok (.getfield 71, 3) := by decide +kernel
theorem dX10_sheet_39 : decode cX10_sheet 39 = .ok (.iload_n 1, 1) := by decide +kernel
theorem dX10_sheet_40 : decode cX10_sheet 40 = .ok (.iconst 1, 1) := by decide +kernel
theorem dX10_sheet_41 : decode cX10_sheet 41 = .ok (.bastore, 1) := by decide +kernel
theorem dX10_sheet_42 : decode cX10_sheet 42 = .ok (.aload_n 0, 1) := by decide +kernel
theorem dX10_sheet_43 : decode cX10_sheet 43 = .ok (.getfield 75, 3) := by decide +kernel
theorem dX10_sheet_46 : decode cX10_sheet 46 = .ok (.iload_n 1, 1) := by decide +kernel
theorem dX10_sheet_47 : decode cX10_sheet 47 = .ok (.iload_n 2, 1) := by decide +kernel
theorem dX10_sheet_48 : decode cX10_sheet 48 = .ok (.iastore, 1) := by decide +kernel
theorem dX10_sheet_49 : decode cX10_sheet 49 = .ok (.aload_n 0, 1) := by decide +kernel
theorem dX10_sheet_50 : decode cX10_sheet 50 = .ok (.getfield 78, 3) := by decide +kernel
theorem dX10_sheet_53 : decode cX10_sheet 53 = .ok (.iload_n 1, 1) := by decide +kernel
theorem dX10_sheet_54 : decode cX10_sheet 54 = .ok (.iload_n 3, 1) := by decide +kernel
theorem dX10_sheet_55 : decode cX10_sheet 55 = .ok (.iastore, 1) := by decide +kernel
theorem dX10_sheet_56 : decode cX10_sheet 56 = .ok (.iconst 0, 1) := by decide +kernel
theorem dX10_sheet_57 : decode cX10_sheet 57 = .ok (.istore 4, 2) := by decide +kernel
theorem dX10_sheet_59 : decode cX10_sheet 59 = .ok (.iload 4, 2) := by decide +kernel
theorem dX10_sheet_61 : decode cX10_sheet 61 = .ok (.bipush 60, 2) := by decide +kernel
theorem dX10_sheet_63 : decode cX10_sheet 63 = .ok (.if_icmp .ge 22, 3) := by decide +kernel
theorem dX10_sheet_66 : decode cX10_sheet 66 = .ok (.aload_n 0, 1) := by decide +kernel
theorem dX10_sheet_67 : decode cX10_sheet 67 = .ok (.getfield 81, 3) := by decide +kernel
theorem dX10_sheet_70 : decode cX10_sheet 70 = .ok (.bipush 60, 2) := by decide +kernel
theorem dX10_sheet_72 : decode cX10_sheet 72 = .ok (.iload_n 1, 1) := by decide +kernel
theorem dX10_sheet_73 : decode cX10_sheet 73 = .ok (.imul, 1) := by decide +kernel
theorem dX10_sheet_74 : decode cX10_sheet 74 = .ok (.iload 4, 2) := by decide +kernel
theorem dX10_sheet_76 : decode cX10_sheet 76 = .ok (.iadd, 1) := by decide +kernel
theorem dX10_sheet_77 : decode cX10_sheet 77 = .ok (.iconst 0, 1) := by decide +kernel
theorem dX10_sheet_78 : decode cX10_sheet 78 = .ok (.iastore, 1) := by decide +kernel
theorem dX10_sheet_79 : decode cX10_sheet 79 = .ok (.iinc 4 1, 3) := by decide +kernel
theorem dX10_sheet_82 : decode cX10_sheet 82 = .ok (.goto (-23), 3) := by decide +kernel
theorem dX10_sheet_85 : decode cX10_sheet 85 = .ok (.iload_n 3, 1) := by decide +kernel
theorem dX10_sheet_86 : decode cX10_sheet 86 = .ok (.ireturn, 1) := by decide +kernel
theorem dX10_lose_0 : decode cX10_lose 0 = .ok (.iload_n 1, 1) := by decide +kernel
theorem dX10_lose_1 : decode cX10_lose 1 = .ok (.invokestatic 97, 3) := by decide +kernel
theorem dX10_lose_4 : decode cX10_lose 4 = .ok (.ifCond .ne 6, 3) := by decide +kernel
theorem dX10_lose_7 : decode cX10_lose 7 = .ok (.bipush (-2), 2) := by decide +kernel
theorem dX10_lose_9 : decode cX10_lose 9 = .ok (.ireturn, 1) := by decide +kernel
theorem dX10_lose_10 : decode cX10_lose 10 = .ok (.aload_n 0, 1) := by decide +kernel
theorem dX10_lose_11 : decode cX10_lose 11 = .ok (.getfield 71, 3) := by decide +kernel
theorem dX10_lose_14 : decode cX10_lose 14 = .ok (.iload_n 1, 1) := by decide +kernel
theorem dX10_lose_15 : decode cX10_lose 15 = .ok (.baload, 1) := by decide +kernel
theorem dX10_lose_16 : decode cX10_lose 16 = .ok (.ifCond .ne 9, 3) := by decide +kernel
theorem dX10_lose_19 : decode cX10_lose 19 = .ok (.aload_n 0, 1) := by decide +kernel
theorem dX10_lose_20 : decode cX10_lose 20 = .ok (.iconst 1, 1) := by decide +kernel
theorem dX10_lose_21 : decode cX10_lose 21 = .ok (.invokevirtual 100, 3) := by decide +kernel
theorem dX10_lose_24 : decode cX10_lose 24 = .ok (.ireturn, 1) := by decide +kernel
theorem dX10_lose_25 : decode cX10_lose 25 = .ok (.aload_n 0, 1) := by decide +kernel
theorem dX10_lose_26 : decode cX10_lose 26 = .ok (.getfield 71, 3) := by decide +kernel
theorem dX10_lose_29 : decode cX10_lose 29 = .ok (.iload_n 1, 1) := by decide +kernel
theorem dX10_lose_30 : decode cX10_lose 30 = .ok (.iconst 0, 1) := by decide +kernel
theorem dX10_lose_31 : decode cX10_lose 31 = .ok (.bastore, 1) := by decide +kernel
theorem dX10_lose_32 : decode cX10_lose 32 = .ok (.aload_n 0, 1) := by decide +kernel
theorem dX10_lose_33 : decode cX10_lose 33 = .ok (.getfield 78, 3) := by decide +kernel
theorem dX10_lose_36 : decode cX10_lose 36 = .ok (.iload_n 1, 1) := by decide +kernel
theorem dX10_lose_37 : decode cX10_lose 37 = .ok (.iaload, 1) := by decide +kernel
theorem dX10_lose_38 : decode cX10_lose 38 = .ok (.ireturn, 1) := by decide +kernel
theorem dX10_lacks_0 : decode cX10_lacks 0 = .ok (.aload_n 0, 1) := by decide +kernel
theorem dX10_lacks_1 : decode cX10_lacks 1 = .ok (.getfield 71, 3) := by decide +kernel
theorem dX10_lacks_4 : decode cX10_lacks 4 = .ok (.iload_n 1, 1) := by decide +kernel
theorem dX10_lacks_5 : decode cX10_lacks 5 = .ok (.baload, 1) := by decide +kernel
theorem dX10_lacks_6 : decode cX10_lacks 6 = .ok (.ifCond .ne 7, 3) := by decide +kernel
theorem dX10_lacks_9 : decode cX10_lacks 9 = .ok (.iconst 1, 1) := by decide +kernel
theorem dX10_lacks_10 : decode cX10_lacks 10 = .ok (.goto 38, 3) := by decide +kernel
theorem dX10_lacks_13 : decode cX10_lacks 13 = .ok (.aload_n 0, 1) := by decide +kernel
theorem dX10_lacks_14 : decode cX10_lacks 14 = .ok (.getfield 75, 3) := by decide +kernel
theorem dX10_lacks_17 : decode cX10_lacks 17 = .ok (.iload_n 1, 1) := by decide +kernel
theorem dX10_lacks_18 : decode cX10_lacks 18 = .ok (.iaload, 1) := by decide +kernel
theorem dX10_lacks_19 : decode cX10_lacks 19 = .ok (.iload_n 2, 1) := by decide +kernel
theorem dX10_lacks_20 : decode cX10_lacks 20 = .ok (.if_icmp .eq 7, 3) := by decide +kernel
theorem dX10_lacks_23 : decode cX10_lacks 23 = .ok (.iconst 3, 1) := by decide +kernel
theorem dX10_lacks_24 : decode cX10_lacks 24 = .ok (.goto 24, 3) := by decide +kernel
theorem dX10_lacks_27 : decode cX10_lacks 27 = .ok (.iload_n 3, 1) := by decide +kernel
theorem dX10_lacks_28 : decode cX10_lacks 28 = .ok (.iconst 0, 1) := by decide +kernel
theorem dX10_lacks_29 : decode cX10_lacks 29 = .ok (.aload_n 0, 1) := by decide +kernel
theorem dX10_lacks_30 : decode cX10_lacks 30 = .ok (.getfield 78, 3) := by decide +kernel
theorem dX10_lacks_33 : decode cX10_lacks 33 = .ok (.iload_n 1, 1) := by decide +kernel
theorem dX10_lacks_34 : decode cX10_lacks 34 = .ok (.iaload, 1) := by decide +kernel
theorem dX10_lacks_35 : decode cX10_lacks 35 = .ok (.iconst 1, 1) := by decide +kernel
theorem dX10_lacks_36 : decode cX10_lacks 36 = .ok (.isub, 1) := by decide +kernel
theorem dX10_lacks_37 : decode cX10_lacks 37 = .ok (.invokestatic 89, 3) := by decide +kernel
theorem dX10_lacks_40 : decode cX10_lacks 40 = .ok (.ifCond .eq 7, 3) := by decide +kernel
theorem dX10_lacks_43 : decode cX10_lacks 43 = .ok (.iconst 0, 1) := by decide +kernel
theorem dX10_lacks_44 : decode cX10_lacks 44 = .ok (.goto 4, 3) := by decide +kernel
theorem dX10_lacks_47 : decode cX10_lacks 47 = .ok (.iconst 2, 1) := by decide +kernel
theorem dX10_lacks_48 : decode cX10_lacks 48 = .ok (.ireturn, 1) := by decide +kernel
theorem dX10_keep_0 : decode cX10_keep 0 = .ok (.aload_n 0, 1) := by decide +kernel
theorem dX10_keep_1 : decode cX10_keep 1 = .ok (.getfield 81, 3) := by decide +kernel
theorem dX10_keep_4 : decode cX10_keep 4 = .ok (.bipush 60, 2) := by decide +kernel
theorem dX10_keep_6 : decode cX10_keep 6 = .ok (.iload_n 1, 1) := by decide +kernel
theorem dX10_keep_7 : decode cX10_keep 7 = .ok (.imul, 1) := by decide +kernel
theorem dX10_keep_8 : decode cX10_keep 8 = .ok (.iload_n 2, 1) := by decide +kernel
theorem dX10_keep_9 : decode cX10_keep 9 = .ok (.iadd, 1) := by decide +kernel
theorem dX10_keep_10 : decode cX10_keep 10 = .ok (.aload_n 0, 1) := by decide +kernel
theorem dX10_keep_11 : decode cX10_keep 11 = .ok (.getfield 75, 3) := by decide +kernel
theorem dX10_keep_14 : decode cX10_keep 14 = .ok (.iload_n 1, 1) := by decide +kernel
theorem dX10_keep_15 : decode cX10_keep 15 = .ok (.iaload, 1) := by decide +kernel
theorem dX10_keep_16 : decode cX10_keep 16 = .ok (.ifCond .ne 8, 3) := by decide +kernel
theorem dX10_keep_19 : decode cX10_keep 19 = .ok (.iload_n 3, 1) := by decide +kernel
theorem dX10_keep_20 : decode cX10_keep 20 = .ok (.i2b, 1) := by decide +kernel
theorem dX10_keep_21 : decode cX10_keep 21 = .ok (.goto 19, 3) := by decide +kernel
theorem dX10_keep_24 : decode cX10_keep 24 = .ok (.aload_n 0, 1) := by decide +kernel
theorem dX10_keep_25 : decode cX10_keep 25 = .ok (.getfield 75, 3) := by decide +kernel
theorem dX10_keep_28 : decode cX10_keep 28 = .ok (.iload_n 1, 1) := by decide +kernel
theorem dX10_keep_29 : decode cX10_keep 29 = .ok (.iaload, 1) := by decide +kernel
theorem dX10_keep_30 : decode cX10_keep 30 = .ok (.iconst 1, 1) := by decide +kernel
theorem dX10_keep_31 : decode cX10_keep 31 = .ok (.if_icmp .ne 8, 3) := by decide +kernel
theorem dX10_keep_34 : decode cX10_keep 34 = .ok (.iload_n 3, 1) := by decide +kernel
theorem dX10_keep_35 : decode cX10_keep 35 = .ok (.i2s, 1) := by decide +kernel
theorem dX10_keep_36 : decode cX10_keep 36 = .ok (.goto 4, 3) := by decide +kernel
theorem dX10_keep_39 : decode cX10_keep 39 = .ok (.iload_n 3, 1) := by decide +kernel
theorem dX10_keep_40 : decode cX10_keep 40 = .ok (.iastore, 1) := by decide +kernel
theorem dX10_keep_41 : decode cX10_keep 41 = .ok (.return_, 1) := by decide +kernel
theorem dX10_put_0 : decode cX10_put 0 = .ok (.iload_n 1, 1) := by decide +kernel
theorem dX10_put_1 : decode cX10_put 1 = .ok (.invokestatic 97, 3) := by decide +kernel
theorem dX10_put_4 : decode cX10_put 4 = .ok (.ifCond .eq 12, 3) := by decide +kernel
theorem dX10_put_7 : decode cX10_put 7 = .ok (.iload_n 2, 1) := by decide +kernel
theorem dX10_put_8 : decode cX10_put 8 = .ok (.iconst 0, 1) := by decide +kernel
theorem dX10_put_9 : decode cX10_put 9 = .ok (.iconst 2, 1) := by decide +kernel
theorem dX10_put_10 : decode cX10_put 10 = .ok (.invokestatic 89, 3) := by decide +kernel
theorem dX10_put_13 : decode cX10_put 13 = .ok (.ifCond .ne 6, 3) := by decide +kernel
theorem dX10_put_16 : decode cX10_put 16 = .ok (.bipush (-2), 2) := by decide +kernel
theorem dX10_put_18 : decode cX10_put 18 = .ok (.ireturn, 1) := by decide +kernel
theorem dX10_put_19 : decode cX10_put 19 = .ok (.aload_n 0, 1) := by decide +kernel
theorem dX10_put_20 : decode cX10_put 20 = .ok (.iload_n 1, 1) := by decide +kernel
theorem dX10_put_21 : decode cX10_put 21 = .ok (.iload_n 2, 1) := by decide +kernel
theorem dX10_put_22 : decode cX10_put 22 = .ok (.iload_n 3, 1) := by decide +kernel
theorem dX10_put_23 : decode cX10_put 23 = .ok (.invokevirtual 245, 3) := by decide +kernel
theorem dX10_put_26 : decode cX10_put 26 = .ok (.istore 5, 2) := by decide +kernel
theorem dX10_put_28 : decode cX10_put 28 = .ok (.iload 5, 2) := by decide +kernel
theorem dX10_put_30 : decode cX10_put 30 = .ok (.ifCond .le 10, 3) := by decide +kernel
theorem dX10_put_33 : decode cX10_put 33 = .ok (.aload_n 0, 1) := by decide +kernel
theorem dX10_put_34 : decode cX10_put 34 = .ok (.iload 5, 2) := by decide +kernel
theorem dX10_put_36 : decode cX10_put 36 = .ok (.invokevirtual 100, 3) := by decide +kernel
theorem dX10_put_39 : decode cX10_put 39 = .ok (.ireturn, 1) := by decide +kernel
theorem dX10_put_40 : decode cX10_put 40 = .ok (.aload_n 0, 1) := by decide +kernel
theorem dX10_put_41 : decode cX10_put 41 = .ok (.iload_n 1, 1) := by decide +kernel
theorem dX10_put_42 : decode cX10_put 42 = .ok (.iload_n 3, 1) := by decide +kernel
theorem dX10_put_43 : decode cX10_put 43 = .ok (.iload 4, 2) := by decide +kernel
theorem dX10_put_45 : decode cX10_put 45 = .ok (.invokevirtual 248, 3) := by decide +kernel
theorem dX10_put_48 : decode cX10_put 48 = .ok (.iconst 1, 1) := by decide +kernel
theorem dX10_put_49 : decode cX10_put 49 = .ok (.ireturn, 1) := by decide +kernel
theorem dX10_get_0 : decode cX10_get 0 = .ok (.iload_n 1, 1) := by decide +kernel
theorem dX10_get_1 : decode cX10_get 1 = .ok (.invokestatic 97, 3) := by decide +kernel
theorem dX10_get_4 : decode cX10_get 4 = .ok (.ifCond .eq 12, 3) := by decide +kernel
theorem dX10_get_7 : decode cX10_get 7 = .ok (.iload_n 2, 1) := by decide +kernel
theorem dX10_get_8 : decode cX10_get 8 = .ok (.iconst 0, 1) := by decide +kernel
theorem dX10_get_9 : decode cX10_get 9 = .ok (.iconst 2, 1) := by decide +kernel
theorem dX10_get_10 : decode cX10_get 10 = .ok (.invokestatic 89, 3) := by decide +kernel
theorem dX10_get_13 : decode cX10_get 13 = .ok (.ifCond .ne 6, 3) := by decide +kernel
theorem dX10_get_16 : decode cX10_get 16 = .ok (.ldc 252, 2) := by decide +kernel
theorem dX10_get_18 : decode cX10_get 18 = .ok (.ireturn, 1) := by decide +kernel
theorem dX10_get_19 : decode cX10_get 19 = .ok (.aload_n 0, 1) := by decide +kernel
theorem dX10_get_20 : decode cX10_get 20 = .ok (.iload_n 1, 1) := by decide +kernel
theorem dX10_get_21 : decode cX10_get 21 = .ok (.iload_n 2, 1) := by decide +kernel
theorem dX10_get_22 : decode cX10_get 22 = .ok (.iload_n 3, 1) := by decide +kernel
theorem dX10_get_23 : decode cX10_get 23 = .ok (.invokevirtual 245, 3) := by decide +kernel
theorem dX10_get_26 : decode cX10_get 26 = .ok (.istore 4, 2) := by decide +kernel
theorem dX10_get_28 : decode cX10_get 28 = .ok (.iload 4, 2) := by decide +kernel
theorem dX10_get_30 : decode cX10_get 30 = .ok (.ifCond .le 12, 3) := by decide +kernel
theorem dX10_get_33 : decode cX10_get 33 = .ok (.aload_n 0, 1) := by decide +kernel
theorem dX10_get_34 : decode cX10_get 34 = .ok (.iload 4, 2) := by decide +kernel
theorem dX10_get_36 : decode cX10_get 36 = .ok (.putfield 242, 3) := by decide +kernel
theorem dX10_get_39 : decode cX10_get 39 = .ok (.ldc 252, 2) := by decide +kernel
theorem dX10_get_41 : decode cX10_get 41 = .ok (.ireturn, 1) := by decide +kernel
theorem dX10_get_42 : decode cX10_get 42 = .ok (.aload_n 0, 1) := by decide +kernel
theorem dX10_get_43 : decode cX10_get 43 = .ok (.getfield 81, 3) := by decide +kernel
theorem dX10_get_46 : decode cX10_get 46 = .ok (.bipush 60, 2) := by decide +kernel
theorem dX10_get_48 : decode cX10_get 48 = .ok (.iload_n 1, 1) := by decide +kernel
theorem dX10_get_49 : decode cX10_get 49 = .ok (.imul, 1) := by decide +kernel
theorem dX10_get_50 : decode cX10_get 50 = .ok (.iload_n 3, 1) := by decide +kernel
theorem dX10_get_51 : decode cX10_get 51 = .ok (.iadd, 1) := by decide +kernel
theorem dX10_get_52 : decode cX10_get 52 = .ok (.iaload, 1) := by decide +kernel
theorem dX10_get_53 : decode cX10_get 53 = .ok (.ireturn, 1) := by decide +kernel
theorem dX10_copy_0 : decode cX10_copy 0 = .ok (.iload_n 1, 1) := by decide +kernel
theorem dX10_copy_1 : decode cX10_copy 1 = .ok (.invokestatic 97, 3) := by decide +kernel
theorem dX10_copy_4 : decode cX10_copy 4 = .ok (.ifCond .eq 10, 3) := by decide +kernel
theorem dX10_copy_7 : decode cX10_copy 7 = .ok (.iload_n 3, 1) := by decide +kernel
theorem dX10_copy_8 : decode cX10_copy 8 = .ok (.invokestatic 97, 3) := by decide +kernel
theorem dX10_copy_11 : decode cX10_copy 11 = .ok (.ifCond .ne 6, 3) := by decide +kernel
theorem dX10_copy_14 : decode cX10_copy 14 = .ok (.bipush (-2), 2) := by decide +kernel
theorem dX10_copy_16 : decode cX10_copy 16 = .ok (.ireturn, 1) := by decide +kernel
theorem dX10_copy_17 : decode cX10_copy 17 = .ok (.aload_n 0, 1) := by decide +kernel
theorem dX10_copy_18 : decode cX10_copy 18 = .ok (.getfield 71, 3) := by decide +kernel
theorem dX10_copy_21 : decode cX10_copy 21 = .ok (.iload_n 1, 1) := by decide +kernel
theorem dX10_copy_22 : decode cX10_copy 22 = .ok (.baload, 1) := by decide +kernel
theorem dX10_copy_23 : decode cX10_copy 23 = .ok (.ifCond .eq 12, 3) := by decide +kernel
theorem dX10_copy_26 : decode cX10_copy 26 = .ok (.aload_n 0, 1) := by decide +kernel
theorem dX10_copy_27 : decode cX10_copy 27 = .ok (.getfield 71, 3) := by decide +kernel
theorem dX10_copy_30 : decode cX10_copy 30 = .ok (.iload_n 3, 1) := by decide +kernel
theorem dX10_copy_31 : decode cX10_copy 31 = .ok (.baload, 1) := by decide +kernel
theorem dX10_copy_32 : decode cX10_copy 32 = .ok (.ifCond .ne 9, 3) := by decide +kernel
theorem dX10_copy_35 : decode cX10_copy 35 = .ok (.aload_n 0, 1) := by decide +kernel
theorem dX10_copy_36 : decode cX10_copy 36 = .ok (.iconst 1, 1) := by decide +kernel
theorem dX10_copy_37 : decode cX10_copy 37 = .ok (.invokevirtual 100, 3) := by decide +kernel
theorem dX10_copy_40 : decode cX10_copy 40 = .ok (.ireturn, 1) := by decide +kernel
theorem dX10_copy_41 : decode cX10_copy 41 = .ok (.aload_n 0, 1) := by decide +kernel
theorem dX10_copy_42 : decode cX10_copy 42 = .ok (.getfield 75, 3) := by decide +kernel
theorem dX10_copy_45 : decode cX10_copy 45 = .ok (.iload_n 1, 1) := by decide +kernel
theorem dX10_copy_46 : decode cX10_copy 46 = .ok (.iaload, 1) := by decide +kernel
theorem dX10_copy_47 : decode cX10_copy 47 = .ok (.aload_n 0, 1) := by decide +kernel
theorem dX10_copy_48 : decode cX10_copy 48 = .ok (.getfield 75, 3) := by decide +kernel
theorem dX10_copy_51 : decode cX10_copy 51 = .ok (.iload_n 3, 1) := by decide +kernel
theorem dX10_copy_52 : decode cX10_copy 52 = .ok (.iaload, 1) := by decide +kernel
theorem dX10_copy_53 : decode cX10_copy 53 = .ok (.if_icmp .eq 9, 3) := by decide +kernel
theorem dX10_copy_56 : decode cX10_copy 56 = .ok (.aload_n 0, 1) := by decide +kernel
theorem dX10_copy_57 : decode cX10_copy 57 = .ok (.iconst 4, 1) := by decide +kernel
theorem dX10_copy_58 : decode cX10_copy 58 = .ok (.invokevirtual 100, 3) := by decide +kernel
theorem dX10_copy_61 : decode cX10_copy 61 = .ok (.ireturn, 1) := by decide +kernel
theorem dX10_copy_62 : decode cX10_copy 62 = .ok (.iload_n 2, 1) := by decide +kernel
theorem dX10_copy_63 : decode cX10_copy 63 = .ok (.ifCond .lt 48, 3) := by decide +kernel
theorem dX10_copy_66 : decode cX10_copy 66 = .ok (.iload 4, 2) := by decide +kernel
theorem dX10_copy_68 : decode cX10_copy 68 = .ok (.ifCond .lt 43, 3) := by decide +kernel
theorem dX10_copy_71 : decode cX10_copy 71 = .ok (.iload 5, 2) := by decide +kernel
theorem dX10_copy_73 : decode cX10_copy 73 = .ok (.ifCond .lt 38, 3) := by decide +kernel
theorem dX10_copy_76 : decode cX10_copy 76 = .ok (.iload_n 2, 1) := by decide +kernel
theorem dX10_copy_77 : decode cX10_copy 77 = .ok (.i2l, 1) := by decide +kernel
theorem dX10_copy_78 : decode cX10_copy 78 = .ok (.iload 5, 2) := by decide +kernel
theorem dX10_copy_80 : decode cX10_copy 80 = .ok (.i2l, 1) := by decide +kernel
theorem dX10_copy_81 : decode cX10_copy 81 = .ok (.ladd, 1) := by decide +kernel
theorem dX10_copy_82 : decode cX10_copy 82 = .ok (.aload_n 0, 1) := by decide +kernel
theorem dX10_copy_83 : decode cX10_copy 83 = .ok (.getfield 78, 3) := by decide +kernel
theorem dX10_copy_86 : decode cX10_copy 86 = .ok (.iload_n 1, 1) := by decide +kernel
theorem dX10_copy_87 : decode cX10_copy 87 = .ok (.iaload, 1) := by decide +kernel
theorem dX10_copy_88 : decode cX10_copy 88 = .ok (.i2l, 1) := by decide +kernel
theorem dX10_copy_89 : decode cX10_copy 89 = .ok (.lcmp, 1) := by decide +kernel
theorem dX10_copy_90 : decode cX10_copy 90 = .ok (.ifCond .gt 21, 3) := by decide +kernel
theorem dX10_copy_93 : decode cX10_copy 93 = .ok (.iload 4, 2) := by decide +kernel
theorem dX10_copy_95 : decode cX10_copy 95 = .ok (.i2l, 1) := by decide +kernel
theorem dX10_copy_96 : decode cX10_copy 96 = .ok (.iload 5, 2) := by decide +kernel
theorem dX10_copy_98 : decode cX10_copy 98 = .ok (.i2l, 1) := by decide +kernel
theorem dX10_copy_99 : decode cX10_copy 99 = .ok (.ladd, 1) := by decide +kernel
theorem dX10_copy_100 : decode cX10_copy 100 = .ok (.aload_n 0, 1) := by decide +kernel
theorem dX10_copy_101 : decode cX10_copy 101 = .ok (.getfield 78, 3) := by decide +kernel
theorem dX10_copy_104 : decode cX10_copy 104 = .ok (.iload_n 3, 1) := by decide +kernel
theorem dX10_copy_105 : decode cX10_copy 105 = .ok (.iaload, 1) := by decide +kernel
theorem dX10_copy_106 : decode cX10_copy 106 = .ok (.i2l, 1) := by decide +kernel
theorem dX10_copy_107 : decode cX10_copy 107 = .ok (.lcmp, 1) := by decide +kernel
theorem dX10_copy_108 : decode cX10_copy 108 = .ok (.ifCond .le 9, 3) := by decide +kernel
theorem dX10_copy_111 : decode cX10_copy 111 = .ok (.aload_n 0, 1) := by decide +kernel
theorem dX10_copy_112 : decode cX10_copy 112 = .ok (.iconst 2, 1) := by decide +kernel
theorem dX10_copy_113 : decode cX10_copy 113 = .ok (.invokevirtual 100, 3) := by decide +kernel
theorem dX10_copy_116 : decode cX10_copy 116 = .ok (.ireturn, 1) := by decide +kernel
theorem dX10_copy_117 : decode cX10_copy 117 = .ok (.iconst 0, 1) := by decide +kernel
theorem dX10_copy_118 : decode cX10_copy 118 = .ok (.istore 6, 2) := by decide +kernel
theorem dX10_copy_120 : decode cX10_copy 120 = .ok (.iload 6, 2) := by decide +kernel
theorem dX10_copy_122 : decode cX10_copy 122 = .ok (.iload 5, 2) := by decide +kernel
theorem dX10_copy_124 : decode cX10_copy 124 = .ok (.if_icmp .ge 30, 3) := by decide +kernel
theorem dX10_copy_127 : decode cX10_copy 127 = .ok (.aload_n 0, 1) := by decide +kernel
theorem dX10_copy_128 : decode cX10_copy 128 = .ok (.getfield 84, 3) := by decide +kernel
theorem dX10_copy_131 : decode cX10_copy 131 = .ok (.iload 6, 2) := by decide +kernel
theorem dX10_copy_133 : decode cX10_copy 133 = .ok (.aload_n 0, 1) := by decide +kernel
theorem dX10_copy_134 : decode cX10_copy 134 = .ok (.getfield 81, 3) := by decide +kernel
theorem dX10_copy_137 : decode cX10_copy 137 = .ok (.bipush 60, 2) := by decide +kernel
theorem dX10_copy_139 : decode cX10_copy 139 = .ok (.iload_n 1, 1) := by decide +kernel
theorem dX10_copy_140 : decode cX10_copy 140 = .ok (.imul, 1) := by decide +kernel
theorem dX10_copy_141 : decode cX10_copy 141 = .ok (.iload_n 2, 1) := by decide +kernel
theorem dX10_copy_142 : decode cX10_copy 142 = .ok (.iadd, 1) := by decide +kernel
theorem dX10_copy_143 : decode cX10_copy 143 = .ok (.iload 6, 2) := by decide +kernel
theorem dX10_copy_145 : decode cX10_copy 145 = .ok (.iadd, 1) := by decide +kernel
theorem dX10_copy_146 : decode cX10_copy 146 = .ok (.iaload, 1) := by decide +kernel
theorem dX10_copy_147 : decode cX10_copy 147 = .ok (.iastore, 1) := by decide +kernel
theorem dX10_copy_148 : decode cX10_copy 148 = .ok (.iinc 6 1, 3) := by decide +kernel
theorem dX10_copy_151 : decode cX10_copy 151 = .ok (.goto (-31), 3) := by decide +kernel
theorem dX10_copy_154 : decode cX10_copy 154 = .ok (.iconst 0, 1) := by decide +kernel
theorem dX10_copy_155 : decode cX10_copy 155 = .ok (.istore 6, 2) := by decide +kernel
theorem dX10_copy_157 : decode cX10_copy 157 = .ok (.iload 6, 2) := by decide +kernel
theorem dX10_copy_159 : decode cX10_copy 159 = .ok (.iload 5, 2) := by decide +kernel
theorem dX10_copy_161 : decode cX10_copy 161 = .ok (.if_icmp .ge 31, 3) := by decide +kernel
theorem dX10_copy_164 : decode cX10_copy 164 = .ok (.aload_n 0, 1) := by decide +kernel
theorem dX10_copy_165 : decode cX10_copy 165 = .ok (.getfield 81, 3) := by decide +kernel
theorem dX10_copy_168 : decode cX10_copy 168 = .ok (.bipush 60, 2) := by decide +kernel
theorem dX10_copy_170 : decode cX10_copy 170 = .ok (.iload_n 3, 1) := by decide +kernel
theorem dX10_copy_171 : decode cX10_copy 171 = .ok (.imul, 1) := by decide +kernel
theorem dX10_copy_172 : decode cX10_copy 172 = .ok (.iload 4, 2) := by decide +kernel
theorem dX10_copy_174 : decode cX10_copy 174 = .ok (.iadd, 1) := by decide +kernel
theorem dX10_copy_175 : decode cX10_copy 175 = .ok (.iload 6, 2) := by decide +kernel
theorem dX10_copy_177 : decode cX10_copy 177 = .ok (.iadd, 1) := by decide +kernel
theorem dX10_copy_178 : decode cX10_copy 178 = .ok (.aload_n 0, 1) := by decide +kernel
theorem dX10_copy_179 : decode cX10_copy 179 = .ok (.getfield 84, 3) := by decide +kernel
theorem dX10_copy_182 : decode cX10_copy 182 = .ok (.iload 6, 2) := by decide +kernel
theorem dX10_copy_184 : decode cX10_copy 184 = .ok (.iaload, 1) := by decide +kernel
theorem dX10_copy_185 : decode cX10_copy 185 = .ok (.iastore, 1) := by decide +kernel
theorem dX10_copy_186 : decode cX10_copy 186 = .ok (.iinc 6 1, 3) := by decide +kernel
theorem dX10_copy_189 : decode cX10_copy 189 = .ok (.goto (-32), 3) := by decide +kernel
theorem dX10_copy_192 : decode cX10_copy 192 = .ok (.iconst 1, 1) := by decide +kernel
theorem dX10_copy_193 : decode cX10_copy 193 = .ok (.ireturn, 1) := by decide +kernel
theorem dX10_write_0 : decode cX10_write 0 = .ok (.iload_n 1, 1) := by decide +kernel
theorem dX10_write_1 : decode cX10_write 1 = .ok (.iconst 0, 1) := by decide +kernel
theorem dX10_write_2 : decode cX10_write 2 = .ok (.bipush 40, 2) := by decide +kernel
theorem dX10_write_4 : decode cX10_write 4 = .ok (.invokestatic 89, 3) := by decide +kernel
theorem dX10_write_7 : decode cX10_write 7 = .ok (.ifCond .eq 10, 3) := by decide +kernel
theorem dX10_write_10 : decode cX10_write 10 = .ok (.iload_n 2, 1) := by decide +kernel
theorem dX10_write_11 : decode cX10_write 11 = .ok (.invokestatic 97, 3) := by decide +kernel
theorem dX10_write_14 : decode cX10_write 14 = .ok (.ifCond .ne 6, 3) := by decide +kernel
theorem dX10_write_17 : decode cX10_write 17 = .ok (.bipush (-2), 2) := by decide +kernel
theorem dX10_write_19 : decode cX10_write 19 = .ok (.ireturn, 1) := by decide +kernel
theorem dX10_write_20 : decode cX10_write 20 = .ok (.aload_n 0, 1) := by decide +kernel
theorem dX10_write_21 : decode cX10_write 21 = .ok (.getfield 71, 3) := by decide +kernel
theorem dX10_write_24 : decode cX10_write 24 = .ok (.iload_n 2, 1) := by decide +kernel
theorem dX10_write_25 : decode cX10_write 25 = .ok (.baload, 1) := by decide +kernel
theorem dX10_write_26 : decode cX10_write 26 = .ok (.ifCond .ne 9, 3) := by decide +kernel
theorem dX10_write_29 : decode cX10_write 29 = .ok (.aload_n 0, 1) := by decide +kernel
theorem dX10_write_30 : decode cX10_write 30 = .ok (.iconst 1, 1) := by decide +kernel
theorem dX10_write_31 : decode cX10_write 31 = .ok (.invokevirtual 100, 3) := by decide +kernel
theorem dX10_write_34 : decode cX10_write 34 = .ok (.ireturn, 1) := by decide +kernel
theorem dX10_write_35 : decode cX10_write 35 = .ok (.aload_n 0, 1) := by decide +kernel
theorem dX10_write_36 : decode cX10_write 36 = .ok (.iload_n 1, 1) := by decide +kernel
theorem dX10_write_37 : decode cX10_write 37 = .ok (.invokevirtual 167, 3) := by decide +kernel
theorem dX10_write_40 : decode cX10_write 40 = .ok (.iconst 0, 1) := by decide +kernel
theorem dX10_write_41 : decode cX10_write 41 = .ok (.istore_n 3, 1) := by decide +kernel
theorem dX10_write_42 : decode cX10_write 42 = .ok (.iload_n 3, 1) := by decide +kernel
theorem dX10_write_43 : decode cX10_write 43 = .ok (.aload_n 0, 1) := by decide +kernel
theorem dX10_write_44 : decode cX10_write 44 = .ok (.getfield 78, 3) := by decide +kernel
theorem dX10_write_47 : decode cX10_write 47 = .ok (.iload_n 2, 1) := by decide +kernel
theorem dX10_write_48 : decode cX10_write 48 = .ok (.iaload, 1) := by decide +kernel
theorem dX10_write_49 : decode cX10_write 49 = .ok (.if_icmp .ge 29, 3) := by decide +kernel
theorem dX10_write_52 : decode cX10_write 52 = .ok (.iload_n 3, 1) := by decide +kernel
theorem dX10_write_53 : decode cX10_write 53 = .ok (.aload_n 0, 1) := by decide +kernel
theorem dX10_write_54 : decode cX10_write 54 = .ok (.getfield 111, 3) := by decide +kernel
theorem dX10_write_57 : decode cX10_write 57 = .ok (.if_icmp .ge 21, 3) := by decide +kernel
theorem dX10_write_60 : decode cX10_write 60 = .ok (.aload_n 0, 1) := by decide +kernel
theorem dX10_write_61 : decode cX10_write 61 = .ok (.iload_n 2, 1) := by decide +kernel
theorem dX10_write_62 : decode cX10_write 62 = .ok (.iload_n 3, 1) := by decide +kernel
theorem dX10_write_63 : decode cX10_write 63 = .ok (.aload_n 0, 1) := by decide +kernel
theorem dX10_write_64 : decode cX10_write 64 = .ok (.getfield 37, 3) := by decide +kernel
theorem dX10_write_67 : decode cX10_write 67 = .ok (.iload_n 3, 1) := by decide +kernel
theorem dX10_write_68 : decode cX10_write 68 = .ok (.iaload, 1) := by decide +kernel
theorem dX10_write_69 : decode cX10_write 69 = .ok (.invokevirtual 248, 3) := by decide +kernel
theorem dX10_write_72 : decode cX10_write 72 = .ok (.iinc 3 1, 3) := by decide +kernel
theorem dX10_write_75 : decode cX10_write 75 = .ok (.goto (-33), 3) := by decide +kernel
theorem dX10_write_78 : decode cX10_write 78 = .ok (.iload_n 3, 1) := by decide +kernel
theorem dX10_write_79 : decode cX10_write 79 = .ok (.ireturn, 1) := by decide +kernel
theorem dX10_movesNow_0 : decode cX10_movesNow 0 = .ok (.aload_n 0, 1) := by decide +kernel
theorem dX10_movesNow_1 : decode cX10_movesNow 1 = .ok (.invokevirtual 125, 3) := by decide +kernel
theorem dX10_movesNow_4 : decode cX10_movesNow 4 = .ok (.istore_n 1, 1) := by decide +kernel
theorem dX10_movesNow_5 : decode cX10_movesNow 5 = .ok (.aload_n 0, 1) := by decide +kernel
theorem dX10_movesNow_6 : decode cX10_movesNow 6 = .ok (.getfield 122, 3) := by decide +kernel
theorem dX10_movesNow_9 : decode cX10_movesNow 9 = .ok (.ireturn, 1) := by decide +kernel
theorem dX10_count_0 : decode cX10_count 0 = .ok (.iload_n 1, 1) := by decide +kernel
theorem dX10_count_1 : decode cX10_count 1 = .ok (.tableswitch 97 0 8 #[51, 56, 56, 65, 70, 75, 80, 85, 92], 51) := by decide +kernel
theorem dX10_count_52 : decode cX10_count 52 = .ok (.aload_n 0, 1) := by decide +kernel
theorem dX10_count_53 : decode cX10_count 53 = .ok (.invokevirtual 131, 3) := by decide +kernel
theorem dX10_count_56 : decode cX10_count 56 = .ok (.ireturn, 1) := by decide +kernel
theorem dX10_count_57 : decode cX10_count 57 = .ok (.aload_n 0, 1) := by decide +kernel
theorem dX10_count_58 : decode cX10_count 58 = .ok (.getfield 16, 3) := by decide +kernel
theorem dX10_count_61 : decode cX10_count 61 = .ok (.iload_n 1, 1) := by decide +kernel
theorem dX10_count_62 : decode cX10_count 62 = .ok (.iconst 1, 1) := by decide +kernel
theorem dX10_count_63 : decode cX10_count 63 = .ok (.isub, 1) := by decide +kernel
theorem dX10_count_64 : decode cX10_count 64 = .ok (.iaload, 1) := by decide +kernel
theorem dX10_count_65 : decode cX10_count 65 = .ok (.ireturn, 1) := by decide +kernel
theorem dX10_count_66 : decode cX10_count 66 = .ok (.aload_n 0, 1) := by decide +kernel
theorem dX10_count_67 : decode cX10_count 67 = .ok (.invokevirtual 253, 3) := by decide +kernel
theorem dX10_count_70 : decode cX10_count 70 = .ok (.ireturn, 1) := by decide +kernel
theorem dX10_count_71 : decode cX10_count 71 = .ok (.aload_n 0, 1) := by decide +kernel
theorem dX10_count_72 : decode cX10_count 72 = .ok (.getfield 192, 3) := by decide +kernel
theorem dX10_count_75 : decode cX10_count 75 = .ok (.ireturn, 1) := by decide +kernel
theorem dX10_count_76 : decode cX10_count 76 = .ok (.aload_n 0, 1) := by decide +kernel
theorem dX10_count_77 : decode cX10_count 77 = .ok (.getfield 208, 3) := by decide +kernel
theorem dX10_count_80 : decode cX10_count 80 = .ok (.ireturn, 1) := by decide +kernel
theorem dX10_count_81 : decode cX10_count 81 = .ok (.aload_n 0, 1) := by decide +kernel
theorem dX10_count_82 : decode cX10_count 82 = .ok (.getfield 225, 3) := by decide +kernel
theorem dX10_count_85 : decode cX10_count 85 = .ok (.ireturn, 1) := by decide +kernel
theorem dX10_count_86 : decode cX10_count 86 = .ok (.aload_n 0, 1) := by decide +kernel
theorem dX10_count_87 : decode cX10_count 87 = .ok (.getfield 13, 3) := by decide +kernel
theorem dX10_count_90 : decode cX10_count 90 = .ok (.iconst 1, 1) := by decide +kernel
theorem dX10_count_91 : decode cX10_count 91 = .ok (.iaload, 1) := by decide +kernel
theorem dX10_count_92 : decode cX10_count 92 = .ok (.ireturn, 1) := by decide +kernel
theorem dX10_count_93 : decode cX10_count 93 = .ok (.aload_n 0, 1) := by decide +kernel
theorem dX10_count_94 : decode cX10_count 94 = .ok (.getfield 242, 3) := by decide +kernel
theorem dX10_count_97 : decode cX10_count 97 = .ok (.ireturn, 1) := by decide +kernel
theorem dX10_count_98 : decode cX10_count 98 = .ok (.bipush (-2), 2) := by decide +kernel
theorem dX10_count_100 : decode cX10_count 100 = .ok (.ireturn, 1) := by decide +kernel
theorem dX10_digest_0 : decode cX10_digest 0 = .ok (.ldc2_w 256, 3) := by decide +kernel
theorem dX10_digest_3 : decode cX10_digest 3 = .ok (.lstore_n 1, 1) := by decide +kernel
theorem dX10_digest_4 : decode cX10_digest 4 = .ok (.iconst 0, 1) := by decide +kernel
theorem dX10_digest_5 : decode cX10_digest 5 = .ok (.istore_n 3, 1) := by decide +kernel
theorem dX10_digest_6 : decode cX10_digest 6 = .ok (.iload_n 3, 1) := by decide +kernel
theorem dX10_digest_7 : decode cX10_digest 7 = .ok (.bipush 8, 2) := by decide +kernel
theorem dX10_digest_9 : decode cX10_digest 9 = .ok (.if_icmp .ge 22, 3) := by decide +kernel
theorem dX10_digest_12 : decode cX10_digest 12 = .ok (.ldc2_w 258, 3) := by decide +kernel
theorem dX10_digest_15 : decode cX10_digest 15 = .ok (.lload_n 1, 1) := by decide +kernel
theorem dX10_digest_16 : decode cX10_digest 16 = .ok (.lmul, 1) := by decide +kernel
theorem dX10_digest_17 : decode cX10_digest 17 = .ok (.aload_n 0, 1) := by decide +kernel
theorem dX10_digest_18 : decode cX10_digest 18 = .ok (.iload_n 3, 1) := by decide +kernel
theorem dX10_digest_19 : decode cX10_digest 19 = .ok (.invokevirtual 260, 3) := by decide +kernel
theorem dX10_digest_22 : decode cX10_digest 22 = .ok (.i2l, 1) := by decide +kernel
theorem dX10_digest_23 : decode cX10_digest 23 = .ok (.ladd, 1) := by decide +kernel
theorem dX10_digest_24 : decode cX10_digest 24 = .ok (.lstore_n 1, 1) := by decide +kernel
theorem dX10_digest_25 : decode cX10_digest 25 = .ok (.iinc 3 1, 3) := by decide +kernel
theorem dX10_digest_28 : decode cX10_digest 28 = .ok (.goto (-22), 3) := by decide +kernel
theorem dX10_digest_31 : decode cX10_digest 31 = .ok (.ldc2_w 258, 3) := by decide +kernel
theorem dX10_digest_34 : decode cX10_digest 34 = .ok (.lload_n 1, 1) := by decide +kernel
theorem dX10_digest_35 : decode cX10_digest 35 = .ok (.lmul, 1) := by decide +kernel
theorem dX10_digest_36 : decode cX10_digest 36 = .ok (.aload_n 0, 1) := by decide +kernel
theorem dX10_digest_37 : decode cX10_digest 37 = .ok (.iconst 0, 1) := by decide +kernel
theorem dX10_digest_38 : decode cX10_digest 38 = .ok (.invokevirtual 128, 3) := by decide +kernel
theorem dX10_digest_41 : decode cX10_digest 41 = .ok (.i2l, 1) := by decide +kernel
theorem dX10_digest_42 : decode cX10_digest 42 = .ok (.ladd, 1) := by decide +kernel
theorem dX10_digest_43 : decode cX10_digest 43 = .ok (.lstore_n 1, 1) := by decide +kernel
theorem dX10_digest_44 : decode cX10_digest 44 = .ok (.ldc2_w 258, 3) := by decide +kernel
theorem dX10_digest_47 : decode cX10_digest 47 = .ok (.lload_n 1, 1) := by decide +kernel
theorem dX10_digest_48 : decode cX10_digest 48 = .ok (.lmul, 1) := by decide +kernel
theorem dX10_digest_49 : decode cX10_digest 49 = .ok (.aload_n 0, 1) := by decide +kernel
theorem dX10_digest_50 : decode cX10_digest 50 = .ok (.iconst 1, 1) := by decide +kernel
theorem dX10_digest_51 : decode cX10_digest 51 = .ok (.invokevirtual 128, 3) := by decide +kernel
theorem dX10_digest_54 : decode cX10_digest 54 = .ok (.i2l, 1) := by decide +kernel
theorem dX10_digest_55 : decode cX10_digest 55 = .ok (.ladd, 1) := by decide +kernel
theorem dX10_digest_56 : decode cX10_digest 56 = .ok (.lstore_n 1, 1) := by decide +kernel
theorem dX10_digest_57 : decode cX10_digest 57 = .ok (.iconst 0, 1) := by decide +kernel
theorem dX10_digest_58 : decode cX10_digest 58 = .ok (.istore_n 3, 1) := by decide +kernel
theorem dX10_digest_59 : decode cX10_digest 59 = .ok (.iload_n 3, 1) := by decide +kernel
theorem dX10_digest_60 : decode cX10_digest 60 = .ok (.aload_n 0, 1) := by decide +kernel
theorem dX10_digest_61 : decode cX10_digest 61 = .ok (.getfield 111, 3) := by decide +kernel
theorem dX10_digest_64 : decode cX10_digest 64 = .ok (.if_icmp .ge 82, 3) := by decide +kernel
theorem dX10_digest_67 : decode cX10_digest 67 = .ok (.iconst 0, 1) := by decide +kernel
theorem dX10_digest_68 : decode cX10_digest 68 = .ok (.istore 4, 2) := by decide +kernel
theorem dX10_digest_70 : decode cX10_digest 70 = .ok (.iload 4, 2) := by decide +kernel
theorem dX10_digest_72 : decode cX10_digest 72 = .ok (.iconst 3, 1) := by decide +kernel
theorem dX10_digest_73 : decode cX10_digest 73 = .ok (.if_icmp .ge 24, 3) := by decide +kernel
theorem dX10_digest_76 : decode cX10_digest 76 = .ok (.ldc2_w 258, 3) := by decide +kernel
theorem dX10_digest_79 : decode cX10_digest 79 = .ok (.lload_n 1, 1) := by decide +kernel
theorem dX10_digest_80 : decode cX10_digest 80 = .ok (.lmul, 1) := by decide +kernel
theorem dX10_digest_81 : decode cX10_digest 81 = .ok (.aload_n 0, 1) := by decide +kernel
theorem dX10_digest_82 : decode cX10_digest 82 = .ok (.iload_n 3, 1) := by decide +kernel
theorem dX10_digest_83 : decode cX10_digest 83 = .ok (.iload 4, 2) := by decide +kernel
theorem dX10_digest_85 : decode cX10_digest 85 = .ok (.invokevirtual 137, 3) := by decide +kernel
theorem dX10_digest_88 : decode cX10_digest 88 = .ok (.i2l, 1) := by decide +kernel
theorem dX10_digest_89 : decode cX10_digest 89 = .ok (.ladd, 1) := by decide +kernel
theorem dX10_digest_90 : decode cX10_digest 90 = .ok (.lstore_n 1, 1) := by decide +kernel
theorem dX10_digest_91 : decode cX10_digest 91 = .ok (.iinc 4 1, 3) := by decide +kernel
theorem dX10_digest_94 : decode cX10_digest 94 = .ok (.goto (-24), 3) := by decide +kernel
theorem dX10_digest_97 : decode cX10_digest 97 = .ok (.ldc2_w 258, 3) := by decide +kernel
theorem dX10_digest_100 : decode cX10_digest 100 = .ok (.lload_n 1, 1) := by decide +kernel
theorem dX10_digest_101 : decode cX10_digest 101 = .ok (.lmul, 1) := by decide +kernel
theorem dX10_digest_102 : decode cX10_digest 102 = .ok (.aload_n 0, 1) := by decide +kernel
theorem dX10_digest_103 : decode cX10_digest 103 = .ok (.iload_n 3, 1) := by decide +kernel
theorem dX10_digest_104 : decode cX10_digest 104 = .ok (.invokevirtual 161, 3) := by decide +kernel
theorem dX10_digest_107 : decode cX10_digest 107 = .ok (.i2l, 1) := by decide +kernel
theorem dX10_digest_108 : decode cX10_digest 108 = .ok (.ladd, 1) := by decide +kernel
theorem dX10_digest_109 : decode cX10_digest 109 = .ok (.lstore_n 1, 1) := by decide +kernel
theorem dX10_digest_110 : decode cX10_digest 110 = .ok (.ldc2_w 258, 3) := by decide +kernel
theorem dX10_digest_113 : decode cX10_digest 113 = .ok (.lload_n 1, 1) := by decide +kernel
theorem dX10_digest_114 : decode cX10_digest 114 = .ok (.lmul, 1) := by decide +kernel
theorem dX10_digest_115 : decode cX10_digest 115 = .ok (.aload_n 0, 1) := by decide +kernel
theorem dX10_digest_116 : decode cX10_digest 116 = .ok (.bipush 9, 2) := by decide +kernel
theorem dX10_digest_118 : decode cX10_digest 118 = .ok (.iload_n 3, 1) := by decide +kernel
theorem dX10_digest_119 : decode cX10_digest 119 = .ok (.invokevirtual 171, 3) := by decide +kernel
theorem dX10_digest_122 : decode cX10_digest 122 = .ok (.i2l, 1) := by decide +kernel
theorem dX10_digest_123 : decode cX10_digest 123 = .ok (.ladd, 1) := by decide +kernel
theorem dX10_digest_124 : decode cX10_digest 124 = .ok (.lstore_n 1, 1) := by decide +kernel
theorem dX10_digest_125 : decode cX10_digest 125 = .ok (.ldc2_w 258, 3) := by decide +kernel
theorem dX10_digest_128 : decode cX10_digest 128 = .ok (.lload_n 1, 1) := by decide +kernel
theorem dX10_digest_129 : decode cX10_digest 129 = .ok (.lmul, 1) := by decide +kernel
theorem dX10_digest_130 : decode cX10_digest 130 = .ok (.aload_n 0, 1) := by decide +kernel
theorem dX10_digest_131 : decode cX10_digest 131 = .ok (.iload_n 3, 1) := by decide +kernel
theorem dX10_digest_132 : decode cX10_digest 132 = .ok (.bipush 10, 2) := by decide +kernel
theorem dX10_digest_134 : decode cX10_digest 134 = .ok (.invokevirtual 228, 3) := by decide +kernel
theorem dX10_digest_137 : decode cX10_digest 137 = .ok (.i2l, 1) := by decide +kernel
theorem dX10_digest_138 : decode cX10_digest 138 = .ok (.ladd, 1) := by decide +kernel
theorem dX10_digest_139 : decode cX10_digest 139 = .ok (.lstore_n 1, 1) := by decide +kernel
theorem dX10_digest_140 : decode cX10_digest 140 = .ok (.iinc 3 1, 3) := by decide +kernel
theorem dX10_digest_143 : decode cX10_digest 143 = .ok (.goto (-84), 3) := by decide +kernel
theorem dX10_digest_146 : decode cX10_digest 146 = .ok (.ldc2_w 258, 3) := by decide +kernel
theorem dX10_digest_149 : decode cX10_digest 149 = .ok (.lload_n 1, 1) := by decide +kernel
theorem dX10_digest_150 : decode cX10_digest 150 = .ok (.lmul, 1) := by decide +kernel
theorem dX10_digest_151 : decode cX10_digest 151 = .ok (.aload_n 0, 1) := by decide +kernel
theorem dX10_digest_152 : decode cX10_digest 152 = .ok (.iconst 0, 1) := by decide +kernel
theorem dX10_digest_153 : decode cX10_digest 153 = .ok (.invokevirtual 158, 3) := by decide +kernel
theorem dX10_digest_156 : decode cX10_digest 156 = .ok (.i2l, 1) := by decide +kernel
theorem dX10_digest_157 : decode cX10_digest 157 = .ok (.ladd, 1) := by decide +kernel
theorem dX10_digest_158 : decode cX10_digest 158 = .ok (.lstore_n 1, 1) := by decide +kernel
theorem dX10_digest_159 : decode cX10_digest 159 = .ok (.ldc2_w 258, 3) := by decide +kernel
theorem dX10_digest_162 : decode cX10_digest 162 = .ok (.lload_n 1, 1) := by decide +kernel
theorem dX10_digest_163 : decode cX10_digest 163 = .ok (.lmul, 1) := by decide +kernel
theorem dX10_digest_164 : decode cX10_digest 164 = .ok (.aload_n 0, 1) := by decide +kernel
theorem dX10_digest_165 : decode cX10_digest 165 = .ok (.iconst 1, 1) := by decide +kernel
theorem dX10_digest_166 : decode cX10_digest 166 = .ok (.invokevirtual 158, 3) := by decide +kernel
theorem dX10_digest_169 : decode cX10_digest 169 = .ok (.i2l, 1) := by decide +kernel
theorem dX10_digest_170 : decode cX10_digest 170 = .ok (.ladd, 1) := by decide +kernel
theorem dX10_digest_171 : decode cX10_digest 171 = .ok (.lstore_n 1, 1) := by decide +kernel
theorem dX10_digest_172 : decode cX10_digest 172 = .ok (.iconst 0, 1) := by decide +kernel
theorem dX10_digest_173 : decode cX10_digest 173 = .ok (.istore_n 3, 1) := by decide +kernel
theorem dX10_digest_174 : decode cX10_digest 174 = .ok (.iload_n 3, 1) := by decide +kernel
theorem dX10_digest_175 : decode cX10_digest 175 = .ok (.iconst 3, 1) := by decide +kernel
theorem dX10_digest_176 : decode cX10_digest 176 = .ok (.if_icmp .ge 105, 3) := by decide +kernel
theorem dX10_digest_179 : decode cX10_digest 179 = .ok (.ldc2_w 258, 3) := by decide +kernel
theorem dX10_digest_182 : decode cX10_digest 182 = .ok (.lload_n 1, 1) := by decide +kernel
theorem dX10_digest_183 : decode cX10_digest 183 = .ok (.lmul, 1) := by decide +kernel
theorem dX10_digest_184 : decode cX10_digest 184 = .ok (.aload_n 0, 1) := by decide +kernel
theorem dX10_digest_185 : decode cX10_digest 185 = .ok (.bipush 10, 2) := by decide +kernel
theorem dX10_digest_187 : decode cX10_digest 187 = .ok (.iload_n 3, 1) := by decide +kernel
theorem dX10_digest_188 : decode cX10_digest 188 = .ok (.imul, 1) := by decide +kernel
theorem dX10_digest_189 : decode cX10_digest 189 = .ok (.invokevirtual 104, 3) := by decide +kernel
theorem dX10_digest_192 : decode cX10_digest 192 = .ok (.i2l, 1) := by decide +kernel
theorem dX10_digest_193 : decode cX10_digest 193 = .ok (.ladd, 1) := by decide +kernel
theorem dX10_digest_194 : decode cX10_digest 194 = .ok (.lstore_n 1, 1) := by decide +kernel
theorem dX10_digest_195 : decode cX10_digest 195 = .ok (.ldc2_w 258, 3) := by decide +kernel
theorem dX10_digest_198 : decode cX10_digest 198 = .ok (.lload_n 1, 1) := by decide +kernel
theorem dX10_digest_199 : decode cX10_digest 199 = .ok (.lmul, 1) := by decide +kernel
theorem dX10_digest_200 : decode cX10_digest 200 = .ok (.aload_n 0, 1) := by decide +kernel
theorem dX10_digest_201 : decode cX10_digest 201 = .ok (.bipush 10, 2) := by decide +kernel
theorem dX10_digest_203 : decode cX10_digest 203 = .ok (.iload_n 3, 1) := by decide +kernel
theorem dX10_digest_204 : decode cX10_digest 204 = .ok (.imul, 1) := by decide +kernel
theorem dX10_digest_205 : decode cX10_digest 205 = .ok (.invokevirtual 177, 3) := by decide +kernel
theorem dX10_digest_208 : decode cX10_digest 208 = .ok (.i2l, 1) := by decide +kernel
theorem dX10_digest_209 : decode cX10_digest 209 = .ok (.ladd, 1) := by decide +kernel
theorem dX10_digest_210 : decode cX10_digest 210 = .ok (.lstore_n 1, 1) := by decide +kernel
theorem dX10_digest_211 : decode cX10_digest 211 = .ok (.ldc2_w 258, 3) := by decide +kernel
theorem dX10_digest_214 : decode cX10_digest 214 = .ok (.lload_n 1, 1) := by decide +kernel
theorem dX10_digest_215 : decode cX10_digest 215 = .ok (.lmul, 1) := by decide +kernel
theorem dX10_digest_216 : decode cX10_digest 216 = .ok (.aload_n 0, 1) := by decide +kernel
theorem dX10_digest_217 : decode cX10_digest 217 = .ok (.bipush 10, 2) := by decide +kernel
theorem dX10_digest_219 : decode cX10_digest 219 = .ok (.iload_n 3, 1) := by decide +kernel
theorem dX10_digest_220 : decode cX10_digest 220 = .ok (.imul, 1) := by decide +kernel
theorem dX10_digest_221 : decode cX10_digest 221 = .ok (.invokevirtual 186, 3) := by decide +kernel
theorem dX10_digest_224 : decode cX10_digest 224 = .ok (.i2l, 1) := by decide +kernel
theorem dX10_digest_225 : decode cX10_digest 225 = .ok (.ladd, 1) := by decide +kernel
theorem dX10_digest_226 : decode cX10_digest 226 = .ok (.lstore_n 1, 1) := by decide +kernel
theorem dX10_digest_227 : decode cX10_digest 227 = .ok (.ldc2_w 258, 3) := by decide +kernel
theorem dX10_digest_230 : decode cX10_digest 230 = .ok (.lload_n 1, 1) := by decide +kernel
theorem dX10_digest_231 : decode cX10_digest 231 = .ok (.lmul, 1) := by decide +kernel
theorem dX10_digest_232 : decode cX10_digest 232 = .ok (.aload_n 0, 1) := by decide +kernel
theorem dX10_digest_233 : decode cX10_digest 233 = .ok (.bipush 10, 2) := by decide +kernel
theorem dX10_digest_235 : decode cX10_digest 235 = .ok (.iload_n 3, 1) := by decide +kernel
theorem dX10_digest_236 : decode cX10_digest 236 = .ok (.imul, 1) := by decide +kernel
theorem dX10_digest_237 : decode cX10_digest 237 = .ok (.invokevirtual 211, 3) := by decide +kernel
theorem dX10_digest_240 : decode cX10_digest 240 = .ok (.i2l, 1) := by decide +kernel
theorem dX10_digest_241 : decode cX10_digest 241 = .ok (.ladd, 1) := by decide +kernel
theorem dX10_digest_242 : decode cX10_digest 242 = .ok (.lstore_n 1, 1) := by decide +kernel
theorem dX10_digest_243 : decode cX10_digest 243 = .ok (.ldc2_w 258, 3) := by decide +kernel
theorem dX10_digest_246 : decode cX10_digest 246 = .ok (.lload_n 1, 1) := by decide +kernel
theorem dX10_digest_247 : decode cX10_digest 247 = .ok (.lmul, 1) := by decide +kernel
theorem dX10_digest_248 : decode cX10_digest 248 = .ok (.aload_n 0, 1) := by decide +kernel
theorem dX10_digest_249 : decode cX10_digest 249 = .ok (.bipush 10, 2) := by decide +kernel
theorem dX10_digest_251 : decode cX10_digest 251 = .ok (.iload_n 3, 1) := by decide +kernel
theorem dX10_digest_252 : decode cX10_digest 252 = .ok (.imul, 1) := by decide +kernel
theorem dX10_digest_253 : decode cX10_digest 253 = .ok (.invokevirtual 214, 3) := by decide +kernel
theorem dX10_digest_256 : decode cX10_digest 256 = .ok (.i2l, 1) := by decide +kernel
theorem dX10_digest_257 : decode cX10_digest 257 = .ok (.ladd, 1) := by decide +kernel
theorem dX10_digest_258 : decode cX10_digest 258 = .ok (.lstore_n 1, 1) := by decide +kernel
theorem dX10_digest_259 : decode cX10_digest 259 = .ok (.ldc2_w 258, 3) := by decide +kernel
theorem dX10_digest_262 : decode cX10_digest 262 = .ok (.lload_n 1, 1) := by decide +kernel
theorem dX10_digest_263 : decode cX10_digest 263 = .ok (.lmul, 1) := by decide +kernel
theorem dX10_digest_264 : decode cX10_digest 264 = .ok (.aload_n 0, 1) := by decide +kernel
theorem dX10_digest_265 : decode cX10_digest 265 = .ok (.bipush 10, 2) := by decide +kernel
theorem dX10_digest_267 : decode cX10_digest 267 = .ok (.iload_n 3, 1) := by decide +kernel
theorem dX10_digest_268 : decode cX10_digest 268 = .ok (.imul, 1) := by decide +kernel
theorem dX10_digest_269 : decode cX10_digest 269 = .ok (.invokevirtual 231, 3) := by decide +kernel
theorem dX10_digest_272 : decode cX10_digest 272 = .ok (.i2l, 1) := by decide +kernel
theorem dX10_digest_273 : decode cX10_digest 273 = .ok (.ladd, 1) := by decide +kernel
theorem dX10_digest_274 : decode cX10_digest 274 = .ok (.lstore_n 1, 1) := by decide +kernel
theorem dX10_digest_275 : decode cX10_digest 275 = .ok (.iinc 3 1, 3) := by decide +kernel
theorem dX10_digest_278 : decode cX10_digest 278 = .ok (.goto (-104), 3) := by decide +kernel
theorem dX10_digest_281 : decode cX10_digest 281 = .ok (.ldc2_w 258, 3) := by decide +kernel
theorem dX10_digest_284 : decode cX10_digest 284 = .ok (.lload_n 1, 1) := by decide +kernel
theorem dX10_digest_285 : decode cX10_digest 285 = .ok (.lmul, 1) := by decide +kernel
theorem dX10_digest_286 : decode cX10_digest 286 = .ok (.aload_n 0, 1) := by decide +kernel
theorem dX10_digest_287 : decode cX10_digest 287 = .ok (.bipush 20, 2) := by decide +kernel
theorem dX10_digest_289 : decode cX10_digest 289 = .ok (.iconst 0, 1) := by decide +kernel
theorem dX10_digest_290 : decode cX10_digest 290 = .ok (.invokevirtual 189, 3) := by decide +kernel
theorem dX10_digest_293 : decode cX10_digest 293 = .ok (.i2l, 1) := by decide +kernel
theorem dX10_digest_294 : decode cX10_digest 294 = .ok (.ladd, 1) := by decide +kernel
theorem dX10_digest_295 : decode cX10_digest 295 = .ok (.lstore_n 1, 1) := by decide +kernel
theorem dX10_digest_296 : decode cX10_digest 296 = .ok (.ldc2_w 258, 3) := by decide +kernel
theorem dX10_digest_299 : decode cX10_digest 299 = .ok (.lload_n 1, 1) := by decide +kernel
theorem dX10_digest_300 : decode cX10_digest 300 = .ok (.lmul, 1) := by decide +kernel
theorem dX10_digest_301 : decode cX10_digest 301 = .ok (.aload_n 0, 1) := by decide +kernel
theorem dX10_digest_302 : decode cX10_digest 302 = .ok (.bipush 20, 2) := by decide +kernel
theorem dX10_digest_304 : decode cX10_digest 304 = .ok (.iconst 5, 1) := by decide +kernel
theorem dX10_digest_305 : decode cX10_digest 305 = .ok (.invokevirtual 189, 3) := by decide +kernel
theorem dX10_digest_308 : decode cX10_digest 308 = .ok (.i2l, 1) := by decide +kernel
theorem dX10_digest_309 : decode cX10_digest 309 = .ok (.ladd, 1) := by decide +kernel
theorem dX10_digest_310 : decode cX10_digest 310 = .ok (.lstore_n 1, 1) := by decide +kernel
theorem dX10_digest_311 : decode cX10_digest 311 = .ok (.ldc2_w 258, 3) := by decide +kernel
theorem dX10_digest_314 : decode cX10_digest 314 = .ok (.lload_n 1, 1) := by decide +kernel
theorem dX10_digest_315 : decode cX10_digest 315 = .ok (.lmul, 1) := by decide +kernel
theorem dX10_digest_316 : decode cX10_digest 316 = .ok (.aload_n 0, 1) := by decide +kernel
theorem dX10_digest_317 : decode cX10_digest 317 = .ok (.bipush 9, 2) := by decide +kernel
theorem dX10_digest_319 : decode cX10_digest 319 = .ok (.iconst (-1), 1) := by decide +kernel
theorem dX10_digest_320 : decode cX10_digest 320 = .ok (.invokevirtual 171, 3) := by decide +kernel
theorem dX10_digest_323 : decode cX10_digest 323 = .ok (.i2l, 1) := by decide +kernel
theorem dX10_digest_324 : decode cX10_digest 324 = .ok (.ladd, 1) := by decide +kernel
theorem dX10_digest_325 : decode cX10_digest 325 = .ok (.lstore_n 1, 1) := by decide +kernel
theorem dX10_digest_326 : decode cX10_digest 326 = .ok (.ldc2_w 258, 3) := by decide +kernel
theorem dX10_digest_329 : decode cX10_digest 329 = .ok (.lload_n 1, 1) := by decide +kernel
theorem dX10_digest_330 : decode cX10_digest 330 = .ok (.lmul, 1) := by decide +kernel
theorem dX10_digest_331 : decode cX10_digest 331 = .ok (.aload_n 0, 1) := by decide +kernel
theorem dX10_digest_332 : decode cX10_digest 332 = .ok (.bipush 12, 2) := by decide +kernel
theorem dX10_digest_334 : decode cX10_digest 334 = .ok (.iconst 0, 1) := by decide +kernel
theorem dX10_digest_335 : decode cX10_digest 335 = .ok (.invokevirtual 201, 3) := by decide +kernel
theorem dX10_digest_338 : decode cX10_digest 338 = .ok (.i2l, 1) := by decide +kernel
theorem dX10_digest_339 : decode cX10_digest 339 = .ok (.ladd, 1) := by decide +kernel
theorem dX10_digest_340 : decode cX10_digest 340 = .ok (.lstore_n 1, 1) := by decide +kernel
theorem dX10_digest_341 : decode cX10_digest 341 = .ok (.ldc2_w 258, 3) := by decide +kernel
theorem dX10_digest_344 : decode cX10_digest 344 = .ok (.lload_n 1, 1) := by decide +kernel
theorem dX10_digest_345 : decode cX10_digest 345 = .ok (.lmul, 1) := by decide +kernel
theorem dX10_digest_346 : decode cX10_digest 346 = .ok (.aload_n 0, 1) := by decide +kernel
theorem dX10_digest_347 : decode cX10_digest 347 = .ok (.bipush 12, 2) := by decide +kernel
theorem dX10_digest_349 : decode cX10_digest 349 = .ok (.iconst 1, 1) := by decide +kernel
theorem dX10_digest_350 : decode cX10_digest 350 = .ok (.invokevirtual 201, 3) := by decide +kernel
theorem dX10_digest_353 : decode cX10_digest 353 = .ok (.i2l, 1) := by decide +kernel
theorem dX10_digest_354 : decode cX10_digest 354 = .ok (.ladd, 1) := by decide +kernel
theorem dX10_digest_355 : decode cX10_digest 355 = .ok (.lstore_n 1, 1) := by decide +kernel
theorem dX10_digest_356 : decode cX10_digest 356 = .ok (.aload_n 0, 1) := by decide +kernel
theorem dX10_digest_357 : decode cX10_digest 357 = .ok (.getfield 111, 3) := by decide +kernel
theorem dX10_digest_360 : decode cX10_digest 360 = .ok (.iconst 1, 1) := by decide +kernel
theorem dX10_digest_361 : decode cX10_digest 361 = .ok (.if_icmp .le 21, 3) := by decide +kernel
theorem dX10_digest_364 : decode cX10_digest 364 = .ok (.ldc2_w 258, 3) := by decide +kernel
theorem dX10_digest_367 : decode cX10_digest 367 = .ok (.lload_n 1, 1) := by decide +kernel
theorem dX10_digest_368 : decode cX10_digest 368 = .ok (.lmul, 1) := by decide +kernel
theorem dX10_digest_369 : decode cX10_digest 369 = .ok (.aload_n 0, 1) := by decide +kernel
theorem dX10_digest_370 : decode cX10_digest 370 = .ok (.iconst 0, 1) := by decide +kernel
theorem dX10_digest_371 : decode cX10_digest 371 = .ok (.iconst 1, 1) := by decide +kernel
theorem dX10_digest_372 : decode cX10_digest 372 = .ok (.bipush 20, 2) := by decide +kernel
theorem dX10_digest_374 : decode cX10_digest 374 = .ok (.invokevirtual 221, 3) := by decide +kernel
theorem dX10_digest_377 : decode cX10_digest 377 = .ok (.i2l, 1) := by decide +kernel
theorem dX10_digest_378 : decode cX10_digest 378 = .ok (.ladd, 1) := by decide +kernel
theorem dX10_digest_379 : decode cX10_digest 379 = .ok (.goto 4, 3) := by decide +kernel
theorem dX10_digest_382 : decode cX10_digest 382 = .ok (.lload_n 1, 1) := by decide +kernel
theorem dX10_digest_383 : decode cX10_digest 383 = .ok (.lreturn, 1) := by decide +kernel
theorem dJ9_abs_0f7a4_0 : decode cJ9_abs_0f7a4 0 = .ok (.iload_n 0, 1) := by decide +kernel
theorem dJ9_abs_0f7a4_1 : decode cJ9_abs_0f7a4 1 = .ok (.ifCond .ge 8, 3) := by decide +kernel
theorem dJ9_abs_0f7a4_4 : decode cJ9_abs_0f7a4 4 = .ok (.iload_n 0, 1) := by decide +kernel
theorem dJ9_abs_0f7a4_5 : decode cJ9_abs_0f7a4 5 = .ok (.ineg, 1) := by decide +kernel
theorem dJ9_abs_0f7a4_6 : decode cJ9_abs_0f7a4 6 = .ok (.goto 4, 3) := by decide +kernel
theorem dJ9_abs_0f7a4_9 : decode cJ9_abs_0f7a4 9 = .ok (.iload_n 0, 1) := by decide +kernel
theorem dJ9_abs_0f7a4_10 : decode cJ9_abs_0f7a4 10 = .ok (.ireturn, 1) := by decide +kernel
theorem dJ9_max_7cf53_0 : decode cJ9_max_7cf53 0 = .ok (.iload_n 0, 1) := by decide +kernel
theorem dJ9_max_7cf53_1 : decode cJ9_max_7cf53 1 = .ok (.iload_n 1, 1) := by decide +kernel
theorem dJ9_max_7cf53_2 : decode cJ9_max_7cf53 2 = .ok (.if_icmp .lt 7, 3) := by decide +kernel
theorem dJ9_max_7cf53_5 : decode cJ9_max_7cf53 5 = .ok (.iload_n 0, 1) := by decide +kernel
theorem dJ9_max_7cf53_6 : decode cJ9_max_7cf53 6 = .ok (.goto 4, 3) := by decide +kernel
theorem dJ9_max_7cf53_9 : decode cJ9_max_7cf53 9 = .ok (.iload_n 1, 1) := by decide +kernel
theorem dJ9_max_7cf53_10 : decode cJ9_max_7cf53 10 = .ok (.ireturn, 1) := by decide +kernel
theorem dJ9_max_f86c9_0 : decode cJ9_max_f86c9 0 = .ok (.lload_n 0, 1) := by decide +kernel
theorem dJ9_max_f86c9_1 : decode cJ9_max_f86c9 1 = .ok (.lload_n 2, 1) := by decide +kernel
theorem dJ9_max_f86c9_2 : decode cJ9_max_f86c9 2 = .ok (.lcmp, 1) := by decide +kernel
theorem dJ9_max_f86c9_3 : decode cJ9_max_f86c9 3 = .ok (.ifCond .lt 7, 3) := by decide +kernel
theorem dJ9_max_f86c9_6 : decode cJ9_max_f86c9 6 = .ok (.lload_n 0, 1) := by decide +kernel
theorem dJ9_max_f86c9_7 : decode cJ9_max_f86c9 7 = .ok (.goto 4, 3) := by decide +kernel
theorem dJ9_max_f86c9_10 : decode cJ9_max_f86c9 10 = .ok (.lload_n 2, 1) := by decide +kernel
theorem dJ9_max_f86c9_11 : decode cJ9_max_f86c9 11 = .ok (.lreturn, 1) := by decide +kernel
theorem dJ9_min_7cf53_0 : decode cJ9_min_7cf53 0 = .ok (.iload_n 0, 1) := by decide +kernel
theorem dJ9_min_7cf53_1 : decode cJ9_min_7cf53 1 = .ok (.iload_n 1, 1) := by decide +kernel
theorem dJ9_min_7cf53_2 : decode cJ9_min_7cf53 2 = .ok (.if_icmp .gt 7, 3) := by decide +kernel
theorem dJ9_min_7cf53_5 : decode cJ9_min_7cf53 5 = .ok (.iload_n 0, 1) := by decide +kernel
theorem dJ9_min_7cf53_6 : decode cJ9_min_7cf53 6 = .ok (.goto 4, 3) := by decide +kernel
theorem dJ9_min_7cf53_9 : decode cJ9_min_7cf53 9 = .ok (.iload_n 1, 1) := by decide +kernel
theorem dJ9_min_7cf53_10 : decode cJ9_min_7cf53 10 = .ok (.ireturn, 1) := by decide +kernel
theorem dJ7_fill_d0a16_0 : decode cJ7_fill_d0a16 0 = .ok (.iconst 0, 1) := by decide +kernel
theorem dJ7_fill_d0a16_1 : decode cJ7_fill_d0a16 1 = .ok (.istore_n 3, 1) := by decide +kernel
theorem dJ7_fill_d0a16_2 : decode cJ7_fill_d0a16 2 = .ok (.aload_n 0, 1) := by decide +kernel
theorem dJ7_fill_d0a16_3 : decode cJ7_fill_d0a16 3 = .ok (.arraylength, 1) := by decide +kernel
theorem dJ7_fill_d0a16_4 : decode cJ7_fill_d0a16 4 = .ok (.istore 4, 2) := by decide +kernel
theorem dJ7_fill_d0a16_6 : decode cJ7_fill_d0a16 6 = .ok (.iload_n 3, 1) := by decide +kernel
theorem dJ7_fill_d0a16_7 : decode cJ7_fill_d0a16 7 = .ok (.iload 4, 2) := by decide +kernel
theorem dJ7_fill_d0a16_9 : decode cJ7_fill_d0a16 9 = .ok (.if_icmp .ge 13, 3) := by decide +kernel
theorem dJ7_fill_d0a16_12 : decode cJ7_fill_d0a16 12 = .ok (.aload_n 0, 1) := by decide +kernel
theorem dJ7_fill_d0a16_13 : decode cJ7_fill_d0a16 13 = .ok (.iload_n 3, 1) := by decide +kernel
theorem dJ7_fill_d0a16_14 : decode cJ7_fill_d0a16 14 = .ok (.lload_n 1, 1) := by decide +kernel
theorem dJ7_fill_d0a16_15 : decode cJ7_fill_d0a16 15 = .ok (.lastore, 1) := by decide +kernel
theorem dJ7_fill_d0a16_16 : decode cJ7_fill_d0a16 16 = .ok (.iinc 3 1, 3) := by decide +kernel
theorem dJ7_fill_d0a16_19 : decode cJ7_fill_d0a16 19 = .ok (.goto (-13), 3) := by decide +kernel
theorem dJ7_fill_d0a16_22 : decode cJ7_fill_d0a16 22 = .ok (.return_, 1) := by decide +kernel
theorem dJ7_fill_53178_0 : decode cJ7_fill_53178 0 = .ok (.iconst 0, 1) := by decide +kernel
theorem dJ7_fill_53178_1 : decode cJ7_fill_53178 1 = .ok (.istore_n 2, 1) := by decide +kernel
theorem dJ7_fill_53178_2 : decode cJ7_fill_53178 2 = .ok (.aload_n 0, 1) := by decide +kernel
theorem dJ7_fill_53178_3 : decode cJ7_fill_53178 3 = .ok (.arraylength, 1) := by decide +kernel
theorem dJ7_fill_53178_4 : decode cJ7_fill_53178 4 = .ok (.istore_n 3, 1) := by decide +kernel
theorem dJ7_fill_53178_5 : decode cJ7_fill_53178 5 = .ok (.iload_n 2, 1) := by decide +kernel
theorem dJ7_fill_53178_6 : decode cJ7_fill_53178 6 = .ok (.iload_n 3, 1) := by decide +kernel
theorem dJ7_fill_53178_7 : decode cJ7_fill_53178 7 = .ok (.if_icmp .ge 13, 3) := by decide +kernel
theorem dJ7_fill_53178_10 : decode cJ7_fill_53178 10 = .ok (.aload_n 0, 1) := by decide +kernel
theorem dJ7_fill_53178_11 : decode cJ7_fill_53178 11 = .ok (.iload_n 2, 1) := by decide +kernel
theorem dJ7_fill_53178_12 : decode cJ7_fill_53178 12 = .ok (.iload_n 1, 1) := by decide +kernel
theorem dJ7_fill_53178_13 : decode cJ7_fill_53178 13 = .ok (.iastore, 1) := by decide +kernel
theorem dJ7_fill_53178_14 : decode cJ7_fill_53178 14 = .ok (.iinc 2 1, 3) := by decide +kernel
theorem dJ7_fill_53178_17 : decode cJ7_fill_53178 17 = .ok (.goto (-12), 3) := by decide +kernel
theorem dJ7_fill_53178_20 : decode cJ7_fill_53178 20 = .ok (.return_, 1) := by decide +kernel
end
section
theorem dL_law_0 : decode cL_law 0 = .ok (.new 7, 3) := by decide +kernel
theorem dL_law_3 : decode cL_law 3 = .ok (.dup, 1) := by decide +kernel
theorem dL_law_4 : decode cL_law 4 = .ok (.invokespecial 9, 3) := by decide +kernel
theorem dL_law_7 : decode cL_law 7 = .ok (.astore_n 1, 1) := by decide +kernel
theorem dL_law_8 : decode cL_law 8 = .ok (.new 10, 3) := by decide +kernel
theorem dL_law_11 : decode cL_law 11 = .ok (.dup, 1) := by decide +kernel
theorem dL_law_12 : decode cL_law 12 = .ok (.invokespecial 12, 3) := by decide +kernel
theorem dL_law_15 : decode cL_law 15 = .ok (.astore_n 2, 1) := by decide +kernel
theorem dL_law_16 : decode cL_law 16 = .ok (.iconst 0, 1) := by decide +kernel
theorem dL_law_17 : decode cL_law 17 = .ok (.istore_n 3, 1) := by decide +kernel
theorem dL_law_18 : decode cL_law 18 = .ok (.iload_n 3, 1) := by decide +kernel
theorem dL_law_19 : decode cL_law 19 = .ok (.aload_n 0, 1) := by decide +kernel
theorem dL_law_20 : decode cL_law 20 = .ok (.arraylength, 1) := by decide +kernel
theorem dL_law_21 : decode cL_law 21 = .ok (.bipush 6, 2) := by decide +kernel
theorem dL_law_23 : decode cL_law 23 = .ok (.isub, 1) := by decide +kernel
theorem dL_law_24 : decode cL_law 24 = .ok (.if_icmp .gt 1327, 3) := by decide +kernel
theorem dL_law_27 : decode cL_law 27 = .ok (.aload_n 0, 1) := by decide +kernel
theorem dL_law_28 : decode cL_law 28 = .ok (.iload_n 3, 1) := by decide +kernel
theorem dL_law_29 : decode cL_law 29 = .ok (.iaload, 1) := by decide +kernel
theorem dL_law_30 : decode cL_law 30 = .ok (.bipush 63, 2) := by decide +kernel
theorem dL_law_32 : decode cL_law 32 = .ok (.iand, 1) := by decide +kernel
theorem dL_law_33 : decode cL_law 33 = .ok (.tableswitch 1312 0 34 #[155, 188, 211, 244, 267, 300, 323, 346, 379, 412, 435, 458, 491, 514, 537, 570, 603, 636, 669, 692, 715, 758, 801, 834, 857, 900, 954, 1017, 1060, 1083, 1136, 1179, 1242, 1275, 1298], 155) := by decide +kernel
theorem dL_law_188 : decode cL_law 188 = .ok (.aload_n 1, 1) := by decide +kernel
theorem dL_law_189 : decode cL_law 189 = .ok (.aload_n 0, 1) := by decide +kernel
theorem dL_law_190 : decode cL_law 190 = .ok (.iload_n 3, 1) := by decide +kernel
theorem dL_law_191 : decode cL_law 191 = .ok (.iconst 1, 1) := by decide +kernel
theorem dL_law_192 : decode cL_law 192 = .ok (.iadd, 1) := by decide +kernel
theorem dL_law_193 : decode cL_law 193 = .ok (.iaload, 1) := by decide +kernel
theorem dL_law_194 : decode cL_law 194 = .ok (.aload_n 0, 1) := by decide +kernel
theorem dL_law_195 : decode cL_law 195 = .ok (.iload_n 3, 1) := by decide +kernel
theorem dL_law_196 : decode cL_law 196 = .ok (.iconst 2, 1) := by decide +kernel
theorem dL_law_197 : decode cL_law 197 = .ok (.iadd, 1) := by decide +kernel
theorem dL_law_198 : decode cL_law 198 = .ok (.iaload, 1) := by decide +kernel
theorem dL_law_199 : decode cL_law 199 = .ok (.invokevirtual 13, 3) := by decide +kernel
theorem dL_law_202 : decode cL_law 202 = .ok (.aload_n 2, 1) := by decide +kernel
theorem dL_law_203 : decode cL_law 203 = .ok (.aload_n 0, 1) := by decide +kernel
theorem dL_law_204 : decode cL_law 204 = .ok (.iload_n 3, 1) := by decide +kernel
theorem dL_law_205 : decode cL_law 205 = .ok (.iconst 1, 1) := by decide +kernel
theorem dL_law_206 : decode cL_law 206 = .ok (.iadd, 1) := by decide +kernel
theorem dL_law_207 : decode cL_law 207 = .ok (.iaload, 1) := by decide +kernel
theorem dL_law_208 : decode cL_law 208 = .ok (.aload_n 0, 1) := by decide +kernel
theorem dL_law_209 : decode cL_law 209 = .ok (.iload_n 3, 1) := by decide +kernel
theorem dL_law_210 : decode cL_law 210 = .ok (.iconst 2, 1) := by decide +kernel
theorem dL_law_211 : decode cL_law 211 = .ok (.iadd, 1) := by decide +kernel
theorem dL_law_212 : decode cL_law 212 = .ok (.iaload, 1) := by decide +kernel
theorem dL_law_213 : decode cL_law 213 = .ok (.invokevirtual 17, 3) := by decide +kernel
theorem dL_law_216 : decode cL_law 216 = .ok (.if_icmp .eq 1129, 3) := by decide +kernel
theorem dL_law_219 : decode cL_law 219 = .ok (.iconst 0, 1) := by decide +kernel
theorem dL_law_220 : decode cL_law 220 = .ok (.ireturn, 1) := by decide +kernel
theorem dL_law_221 : decode cL_law 221 = .ok (.aload_n 1, 1) := by decide +kernel
theorem dL_law_222 : decode cL_law 222 = .ok (.aload_n 0, 1) := by decide +kernel
theorem dL_law_223 : decode cL_law 223 = .ok (.iload_n 3, 1) := by decide +kernel
theorem dL_law_224 : decode cL_law 224 = .ok (.iconst 1, 1) := by decide +kernel
theorem dL_law_225 : decode cL_law 225 = .ok (.iadd, 1) := by decide +kernel
theorem dL_law_226 : decode cL_law 226 = .ok (.iaload, 1) := by decide +kernel
theorem dL_law_227 : decode cL_law 227 = .ok (.invokevirtual 18, 3) := by decide +kernel
theorem dL_law_230 : decode cL_law 230 = .ok (.aload_n 2, 1) := by decide +kernel
theorem dL_law_231 : decode cL_law 231 = .ok (.aload_n 0, 1) := by decide +kernel
theorem dL_law_232 : decode cL_law 232 = .ok (.iload_n 3, 1) := by decide +kernel
theorem dL_law_233 : decode cL_law 233 = .ok (.iconst 1, 1) := by decide +kernel
theorem dL_law_234 : decode cL_law 234 = .ok (.iadd, 1) := by decide +kernel
theorem dL_law_235 : decode cL_law 235 = .ok (.iaload, 1) := by decide +kernel
theorem dL_law_236 : decode cL_law 236 = .ok (.invokevirtual 22, 3) := by decide +kernel
theorem dL_law_239 : decode cL_law 239 = .ok (.if_icmp .eq 1106, 3) := by decide +kernel
theorem dL_law_242 : decode cL_law 242 = .ok (.iconst 0, 1) := by decide +kernel
theorem dL_law_243 : decode cL_law 243 = .ok (.ireturn, 1) := by decide +kernel
theorem dL_law_244 : decode cL_law 244 = .ok (.aload_n 1, 1) := by decide +kernel
theorem dL_law_245 : decode cL_law 245 = .ok (.aload_n 0, 1) := by decide +kernel
theorem dL_law_246 : decode cL_law 246 = .ok (.iload_n 3, 1) := by decide +kernel
theorem dL_law_247 : decode cL_law 247 = .ok (.iconst 1, 1) := by decide +kernel
theorem dL_law_248 : decode cL_law 248 = .ok (.iadd, 1) := by decide +kernel
theorem dL_law_249 : decode cL_law 249 = .ok (.iaload, 1) := by decide +kernel
theorem dL_law_250 : decode cL_law 250 = .ok (.aload_n 0, 1) := by decide +kernel
theorem dL_law_251 : decode cL_law 251 = .ok (.iload_n 3, 1) := by decide +kernel
theorem dL_law_252 : decode cL_law 252 = .ok (.iconst 2, 1) := by decide +kernel
theorem dL_law_253 : decode cL_law 253 = .ok (.iadd, 1) := by decide +kernel
theorem dL_law_254 : decode cL_law 254 = .ok (.iaload, 1) := by decide +kernel
theorem dL_law_255 : decode cL_law 255 = .ok (.invokevirtual 23, 3) := by decide +kernel
theorem dL_law_258 : decode cL_law 258 = .ok (.aload_n 2, 1) := by decide +kernel
theorem dL_law_259 : decode cL_law 259 = .ok (.aload_n 0, 1) := by decide +kernel
theorem dL_law_260 : decode cL_law 260 = .ok (.iload_n 3, 1) := by decide +kernel
theorem dL_law_261 : decode cL_law 261 = .ok (.iconst 1, 1) := by decide +kernel
theorem dL_law_262 : decode cL_law 262 = .ok (.iadd, 1) := by decide +kernel
theorem dL_law_263 : decode cL_law 263 = .ok (.iaload, 1) := by decide +kernel
theorem dL_law_264 : decode cL_law 264 = .ok (.aload_n 0, 1) := by decide +kernel
theorem dL_law_265 : decode cL_law 265 = .ok (.iload_n 3, 1) := by decide +kernel
theorem dL_law_266 : decode cL_law 266 = .ok (.iconst 2, 1) := by decide +kernel
theorem dL_law_267 : decode cL_law 267 = .ok (.iadd, 1) := by decide +kernel
theorem dL_law_268 : decode cL_law 268 = .ok (.iaload, 1) := by decide +kernel
theorem dL_law_269 : decode cL_law 269 = .ok (.invokevirtual 26, 3) := by decide +kernel
theorem dL_law_272 : decode cL_law 272 = .ok (.if_icmp .eq 1073, 3) := by decide +kernel
theorem dL_law_275 : decode cL_law 275 = .ok (.iconst 0, 1) := by decide +kernel
theorem dL_law_276 : decode cL_law 276 = .ok (.ireturn, 1) := by decide +kernel
theorem dL_law_277 : decode cL_law 277 = .ok (.aload_n 1, 1) := by decide +kernel
theorem dL_law_278 : decode cL_law 278 = .ok (.aload_n 0, 1) := by decide +kernel
theorem dL_law_279 : decode cL_law 279 = .ok (.iload_n 3, 1) := by decide +kernel
theorem dL_law_280 : decode cL_law 280 = .ok (.iconst 1, 1) := by decide +kernel
theorem dL_law_281 : decode cL_law 281 = .ok (.iadd, 1) := by decide +kernel
theorem dL_law_282 : decode cL_law 282 = .ok (.iaload, 1) := by decide +kernel
theorem dL_law_283 : decode cL_law 283 = .ok (.invokevirtual 27, 3) := by decide +kernel
theorem dL_law_286 : decode cL_law 286 = .ok (.aload_n 2, 1) := by decide +kernel
theorem dL_law_287 : decode cL_law 287 = .ok (.aload_n 0, 1) := by decide +kernel
theorem dL_law_288 : decode cL_law 288 = .ok (.iload_n 3, 1) := by decide +kernel
theorem dL_law_289 : decode cL_law 289 = .ok (.iconst 1, 1) := by decide +kernel
theorem dL_law_290 : decode cL_law 290 = .ok (.iadd, 1) := by decide +kernel
theorem dL_law_291 : decode cL_law 291 = .ok (.iaload, 1) := by decide +kernel
theorem dL_law_292 : decode cL_law 292 = .ok (.invokevirtual 30, 3) := by decide +kernel
theorem dL_law_295 : decode cL_law 295 = .ok (.if_icmp .eq 1050, 3) := by decide +kernel
theorem dL_law_298 : decode cL_law 298 = .ok (.iconst 0, 1) := by decide +kernel
theorem dL_law_299 : decode cL_law 299 = .ok (.ireturn, 1) := by decide +kernel
theorem dL_law_300 : decode cL_law 300 = .ok (.aload_n 1, 1) := by decide +kernel
theorem dL_law_301 : decode cL_law 301 = .ok (.aload_n 0, 1) := by decide +kernel
theorem dL_law_302 : decode cL_law 302 = .ok (.iload_n 3, 1) := by decide +kernel
theorem dL_law_303 : decode cL_law 303 = .ok (.iconst 1, 1) := by decide +kernel
theorem dL_law_304 : decode cL_law 304 = .ok (.iadd, 1) := by decide +kernel
theorem dL_law_305 : decode cL_law 305 = .ok (.iaload, 1) := by decide +kernel
theorem dL_law_306 : decode cL_law 306 = .ok (.aload_n 0, 1) := by decide +kernel
theorem dL_law_307 : decode cL_law 307 = .ok (.iload_n 3, 1) := by decide +kernel
theorem dL_law_308 : decode cL_law 308 = .ok (.iconst 2, 1) := by decide +kernel
theorem dL_law_309 : decode cL_law 309 = .ok (.iadd, 1) := by decide +kernel
theorem dL_law_310 : decode cL_law 310 = .ok (.iaload, 1) := by decide +kernel
theorem dL_law_311 : decode cL_law 311 = .ok (.invokevirtual 31, 3) := by decide +kernel
theorem dL_law_314 : decode cL_law 314 = .ok (.aload_n 2, 1) := by decide +kernel
theorem dL_law_315 : decode cL_law 315 = .ok (.aload_n 0, 1) := by decide +kernel
theorem dL_law_316 : decode cL_law 316 = .ok (.iload_n 3, 1) := by decide +kernel
theorem dL_law_317 : decode cL_law 317 = .ok (.iconst 1, 1) := by decide +kernel
theorem dL_law_318 : decode cL_law 318 = .ok (.iadd, 1) := by decide +kernel
theorem dL_law_319 : decode cL_law 319 = .ok (.iaload, 1) := by decide +kernel
theorem dL_law_320 : decode cL_law 320 = .ok (.aload_n 0, 1) := by decide +kernel
theorem dL_law_321 : decode cL_law 321 = .ok (.iload_n 3, 1) := by decide +kernel
theorem dL_law_322 : decode cL_law 322 = .ok (.iconst 2, 1) := by decide +kernel
theorem dL_law_323 : decode cL_law 323 = .ok (.iadd, 1) := by decide +kernel
theorem dL_law_324 : decode cL_law 324 = .ok (.iaload, 1) := by decide +kernel
theorem dL_law_325 : decode cL_law 325 = .ok (.invokevirtual 34, 3) := by decide +kernel
theorem dL_law_328 : decode cL_law 328 = .ok (.if_icmp .eq 1017, 3) := by decide +kernel
theorem dL_law_331 : decode cL_law 331 = .ok (.iconst 0, 1) := by decide +kernel
theorem dL_law_332 : decode cL_law 332 = .ok (.ireturn, 1) := by decide +kernel
theorem dL_law_333 : decode cL_law 333 = .ok (.aload_n 1, 1) := by decide +kernel
theorem dL_law_334 : decode cL_law 334 = .ok (.aload_n 0, 1) := by decide +kernel
theorem dL_law_335 : decode cL_law 335 = .ok (.iload_n 3, 1) := by decide +kernel
theorem dL_law_336 : decode cL_law 336 = .ok (.iconst 1, 1) := by decide +kernel
theorem dL_law_337 : decode cL_law 337 = .ok (.iadd, 1) := by decide +kernel
theorem dL_law_338 : decode cL_law 338 = .ok (.iaload, 1) := by decide +kernel
theorem dL_law_339 : decode cL_law 339 = .ok (.invokevirtual 35, 3) := by decide +kernel
theorem dL_law_342 : decode cL_law 342 = .ok (.aload_n 2, 1) := by decide +kernel
theorem dL_law_343 : decode cL_law 343 = .ok (.aload_n 0, 1) := by decide +kernel
theorem dL_law_344 : decode cL_law 344 = .ok (.iload_n 3, 1) := by decide +kernel
theorem dL_law_345 : decode cL_law 345 = .ok (.iconst 1, 1) := by decide +kernel
theorem dL_law_346 : decode cL_law 346 = .ok (.iadd, 1) := by decide +kernel
theorem dL_law_347 : decode cL_law 347 = .ok (.iaload, 1) := by decide +kernel
theorem dL_law_348 : decode cL_law 348 = .ok (.invokevirtual 38, 3) := by decide +kernel
theorem dL_law_351 : decode cL_law 351 = .ok (.if_icmp .eq 994, 3) := by decide +kernel
theorem dL_law_354 : decode cL_law 354 = .ok (.iconst 0, 1) := by decide +kernel
theorem dL_law_355 : decode cL_law 355 = .ok (.ireturn, 1) := by decide +kernel
theorem dL_law_356 : decode cL_law 356 = .ok (.aload_n 1, 1) := by decide +kernel
theorem dL_law_357 : decode cL_law 357 = .ok (.aload_n 0, 1) := by decide +kernel
theorem dL_law_358 : decode cL_law 358 = .ok (.iload_n 3, 1) := by decide +kernel
theorem dL_law_359 : decode cL_law 359 = .ok (.iconst 1, 1) := by decide +kernel
theorem dL_law_360 : decode cL_law 360 = .ok (.iadd, 1) := by decide +kernel
theorem dL_law_361 : decode cL_law 361 = .ok (.iaload, 1) := by decide +kernel
theorem dL_law_362 : decode cL_law 362 = .ok (.invokevirtual 39, 3) := by decide +kernel
theorem dL_law_365 : decode cL_law 365 = .ok (.aload_n 2, 1) := by decide +kernel
theorem dL_law_366 : decode cL_law 366 = .ok (.aload_n 0, 1) := by decide +kernel
theorem dL_law_367 : decode cL_law 367 = .ok (.iload_n 3, 1) := by decide +kernel
theorem dL_law_368 : decode cL_law 368 = .ok (.iconst 1, 1) := by decide +kernel
theorem dL_law_369 : decode cL_law 369 = .ok (.iadd, 1) := by decide +kernel
theorem dL_law_370 : decode cL_law 370 = .ok (.iaload, 1) := by decide +kernel
theorem dL_law_371 : decode cL_law 371 = .ok (.invokevirtual 42, 3) := by decide +kernel
theorem dL_law_374 : decode cL_law 374 = .ok (.if_icmp .eq 971, 3) := by decide +kernel
theorem dL_law_377 : decode cL_law 377 = .ok (.iconst 0, 1) := by decide +kernel
theorem dL_law_378 : decode cL_law 378 = .ok (.ireturn, 1) := by decide +kernel
theorem dL_law_379 : decode cL_law 379 = .ok (.aload_n 1, 1) := by decide +kernel
theorem dL_law_380 : decode cL_law 380 = .ok (.aload_n 0, 1) := by decide +kernel
theorem dL_law_381 : decode cL_law 381 = .ok (.iload_n 3, 1) := by decide +kernel
theorem dL_law_382 : decode cL_law 382 = .ok (.iconst 1, 1) := by decide +kernel
theorem dL_law_383 : decode cL_law 383 = .ok (.iadd, 1) := by decide +kernel
theorem dL_law_384 : decode cL_law 384 = .ok (.iaload, 1) := by decide +kernel
theorem dL_law_385 : decode cL_law 385 = .ok (.aload_n 0, 1) := by decide +kernel
theorem dL_law_386 : decode cL_law 386 = .ok (.iload_n 3, 1) := by decide +kernel
theorem dL_law_387 : decode cL_law 387 = .ok (.iconst 2, 1) := by decide +kernel
theorem dL_law_388 : decode cL_law 388 = .ok (.iadd, 1) := by decide +kernel
theorem dL_law_389 : decode cL_law 389 = .ok (.iaload, 1) := by decide +kernel
theorem dL_law_390 : decode cL_law 390 = .ok (.invokevirtual 43, 3) := by decide +kernel
theorem dL_law_393 : decode cL_law 393 = .ok (.aload_n 2, 1) := by decide +kernel
theorem dL_law_394 : decode cL_law 394 = .ok (.aload_n 0, 1) := by decide +kernel
theorem dL_law_395 : decode cL_law 395 = .ok (.iload_n 3, 1) := by decide +kernel
theorem dL_law_396 : decode cL_law 396 = .ok (.iconst 1, 1) := by decide +kernel
theorem dL_law_397 : decode cL_law 397 = .ok (.iadd, 1) := by decide +kernel
theorem dL_law_398 : decode cL_law 398 = .ok (.iaload, 1) := by decide +kernel
theorem dL_law_399 : decode cL_law 399 = .ok (.aload_n 0, 1) := by decide +kernel
theorem dL_law_400 : decode cL_law 400 = .ok (.iload_n 3, 1) := by decide +kernel
theorem dL_law_401 : decode cL_law 401 = .ok (.iconst 2, 1) := by decide +kernel
theorem dL_law_402 : decode cL_law 402 = .ok (.iadd, 1) := by decide +kernel
theorem dL_law_403 : decode cL_law 403 = .ok (.iaload, 1) := by decide +kernel
theorem dL_law_404 : decode cL_law 404 = .ok (.invokevirtual 46, 3) := by decide +kernel
theorem dL_law_407 : decode cL_law 407 = .ok (.if_icmp .eq 938, 3) := by decide +kernel
theorem dL_law_410 : decode cL_law 410 = .ok (.iconst 0, 1) := by decide +kernel
theorem dL_law_411 : decode cL_law 411 = .ok (.ireturn, 1) := by decide +kernel
theorem dL_law_412 : decode cL_law 412 = .ok (.aload_n 1, 1) := by decide +kernel
theorem dL_law_413 : decode cL_law 413 = .ok (.aload_n 0, 1) := by decide +kernel
theorem dL_law_414 : decode cL_law 414 = .ok (.iload_n 3, 1) := by decide +kernel
theorem dL_law_415 : decode cL_law 415 = .ok (.iconst 1, 1) := by decide +kernel
theorem dL_law_416 : decode cL_law 416 = .ok (.iadd, 1) := by decide +kernel
theorem dL_law_417 : decode cL_law 417 = .ok (.iaload, 1) := by decide +kernel
theorem dL_law_418 : decode cL_law 418 = .ok (.aload_n 0, 1) := by decide +kernel
theorem dL_law_419 : decode cL_law 419 = .ok (.iload_n 3, 1) := by decide +kernel
theorem dL_law_420 : decode cL_law 420 = .ok (.iconst 2, 1) := by decide +kernel
theorem dL_law_421 : decode cL_law 421 = .ok (.iadd, 1) := by decide +kernel
theorem dL_law_422 : decode cL_law 422 = .ok (.iaload, 1) := by decide +kernel
theorem dL_law_423 : decode cL_law 423 = .ok (.invokevirtual 47, 3) := by decide +kernel
theorem dL_law_426 : decode cL_law 426 = .ok (.aload_n 2, 1) := by decide +kernel
theorem dL_law_427 : decode cL_law 427 = .ok (.aload_n 0, 1) := by decide +kernel
theorem dL_law_428 : decode cL_law 428 = .ok (.iload_n 3, 1) := by decide +kernel
theorem dL_law_429 : decode cL_law 429 = .ok (.iconst 1, 1) := by decide +kernel
theorem dL_law_430 : decode cL_law 430 = .ok (.iadd, 1) := by decide +kernel
theorem dL_law_431 : decode cL_law 431 = .ok (.iaload, 1) := by decide +kernel
theorem dL_law_432 : decode cL_law 432 = .ok (.aload_n 0, 1) := by decide +kernel
theorem dL_law_433 : decode cL_law 433 = .ok (.iload_n 3, 1) := by decide +kernel
theorem dL_law_434 : decode cL_law 434 = .ok (.iconst 2, 1) := by decide +kernel
theorem dL_law_435 : decode cL_law 435 = .ok (.iadd, 1) := by decide +kernel
theorem dL_law_436 : decode cL_law 436 = .ok (.iaload, 1) := by decide +kernel
theorem dL_law_437 : decode cL_law 437 = .ok (.invokevirtual 50, 3) := by decide +kernel
theorem dL_law_440 : decode cL_law 440 = .ok (.if_icmp .eq 905, 3) := by decide +kernel
theorem dL_law_443 : decode cL_law 443 = .ok (.iconst 0, 1) := by decide +kernel
theorem dL_law_444 : decode cL_law 444 = .ok (.ireturn, 1) := by decide +kernel
theorem dL_law_445 : decode cL_law 445 = .ok (.aload_n 1, 1) := by decide +kernel
theorem dL_law_446 : decode cL_law 446 = .ok (.aload_n 0, 1) := by decide +kernel
theorem dL_law_447 : decode cL_law 447 = .ok (.iload_n 3, 1) := by decide +kernel
theorem dL_law_448 : decode cL_law 448 = .ok (.iconst 1, 1) := by decide +kernel
theorem dL_law_449 : decode cL_law 449 = .ok (.iadd, 1) := by decide +kernel
theorem dL_law_450 : decode cL_law 450 = .ok (.iaload, 1) := by decide +kernel
theorem dL_law_451 : decode cL_law 451 = .ok (.invokevirtual 51, 3) := by decide +kernel
theorem dL_law_454 : decode cL_law 454 = .ok (.aload_n 2, 1) := by decide +kernel
theorem dL_law_455 : decode cL_law 455 = .ok (.aload_n 0, 1) := by decide +kernel
theorem dL_law_456 : decode cL_law 456 = .ok (.iload_n 3, 1) := by decide +kernel
theorem dL_law_457 : decode cL_law 457 = .ok (.iconst 1, 1) := by decide +kernel
theorem dL_law_458 : decode cL_law 458 = .ok (.iadd, 1) := by decide +kernel
theorem dL_law_459 : decode cL_law 459 = .ok (.iaload, 1) := by decide +kernel
theorem dL_law_460 : decode cL_law 460 = .ok (.invokevirtual 54, 3) := by decide +kernel
theorem dL_law_463 : decode cL_law 463 = .ok (.if_icmp .eq 882, 3) := by decide +kernel
theorem dL_law_466 : decode cL_law 466 = .ok (.iconst 0, 1) := by decide +kernel
theorem dL_law_467 : decode cL_law 467 = .ok (.ireturn, 1) := by decide +kernel
theorem dL_law_468 : decode cL_law 468 = .ok (.aload_n 1, 1) := by decide +kernel
theorem dL_law_469 : decode cL_law 469 = .ok (.aload_n 0, 1) := by decide +kernel
theorem dL_law_470 : decode cL_law 470 = .ok (.iload_n 3, 1) := by decide +kernel
theorem dL_law_471 : decode cL_law 471 = .ok (.iconst 1, 1) := by decide +kernel
theorem dL_law_472 : decode cL_law 472 = .ok (.iadd, 1) := by decide +kernel
theorem dL_law_473 : decode cL_law 473 = .ok (.iaload, 1) := by decide +kernel
theorem dL_law_474 : decode cL_law 474 = .ok (.invokevirtual 55, 3) := by decide +kernel
theorem dL_law_477 : decode cL_law 477 = .ok (.aload_n 2, 1) := by decide +kernel
theorem dL_law_478 : decode cL_law 478 = .ok (.aload_n 0, 1) := by decide +kernel
theorem dL_law_479 : decode cL_law 479 = .ok (.iload_n 3, 1) := by decide +kernel
theorem dL_law_480 : decode cL_law 480 = .ok (.iconst 1, 1) := by decide +kernel
theorem dL_law_481 : decode cL_law 481 = .ok (.iadd, 1) := by decide +kernel
theorem dL_law_482 : decode cL_law 482 = .ok (.iaload, 1) := by decide +kernel
theorem dL_law_483 : decode cL_law 483 = .ok (.invokevirtual 58, 3) := by decide +kernel
theorem dL_law_486 : decode cL_law 486 = .ok (.if_icmp .eq 859, 3) := by decide +kernel
theorem dL_law_489 : decode cL_law 489 = .ok (.iconst 0, 1) := by decide +kernel
theorem dL_law_490 : decode cL_law 490 = .ok (.ireturn, 1) := by decide +kernel
theorem dL_law_491 : decode cL_law 491 = .ok (.aload_n 1, 1) := by decide +kernel
theorem dL_law_492 : decode cL_law 492 = .ok (.aload_n 0, 1) := by decide +kernel
theorem dL_law_493 : decode cL_law 493 = .ok (.iload_n 3, 1) := by decide +kernel
theorem dL_law_494 : decode cL_law 494 = .ok (.iconst 1, 1) := by decide +kernel
theorem dL_law_495 : decode cL_law 495 = .ok (.iadd, 1) := by decide +kernel
theorem dL_law_496 : decode cL_law 496 = .ok (.iaload, 1) := by decide +kernel
theorem dL_law_497 : decode cL_law 497 = .ok (.aload_n 0, 1) := by decide +kernel
theorem dL_law_498 : decode cL_law 498 = .ok (.iload_n 3, 1) := by decide +kernel
theorem dL_law_499 : decode cL_law 499 = .ok (.iconst 2, 1) := by decide +kernel
theorem dL_law_500 : decode cL_law 500 = .ok (.iadd, 1) := by decide +kernel
theorem dL_law_501 : decode cL_law 501 = .ok (.iaload, 1) := by decide +kernel
theorem dL_law_502 : decode cL_law 502 = .ok (.invokevirtual 59, 3) := by decide +kernel
theorem dL_law_505 : decode cL_law 505 = .ok (.aload_n 2, 1) := by decide +kernel
theorem dL_law_506 : decode cL_law 506 = .ok (.aload_n 0, 1) := by decide +kernel
theorem dL_law_507 : decode cL_law 507 = .ok (.iload_n 3, 1) := by decide +kernel
theorem dL_law_508 : decode cL_law 508 = .ok (.iconst 1, 1) := by decide +kernel
theorem dL_law_509 : decode cL_law 509 = .ok (.iadd, 1) := by decide +kernel
theorem dL_law_510 : decode cL_law 510 = .ok (.iaload, 1) := by decide +kernel
theorem dL_law_511 : decode cL_law 511 = .ok (.aload_n 0, 1) := by decide +kernel
theorem dL_law_512 : decode cL_law 512 = .ok (.iload_n 3, 1) := by decide +kernel
theorem dL_law_513 : decode cL_law 513 = .ok (.iconst 2, 1) := by decide +kernel
theorem dL_law_514 : decode cL_law 514 = .ok (.iadd, 1) := by decide +kernel
theorem dL_law_515 : decode cL_law 515 = .ok (.iaload, 1) := by decide +kernel
theorem dL_law_516 : decode cL_law 516 = .ok (.invokevirtual 62, 3) := by decide +kernel
theorem dL_law_519 : decode cL_law 519 = .ok (.if_icmp .eq 826, 3) := by decide +kernel
theorem dL_law_522 : decode cL_law 522 = .ok (.iconst 0, 1) := by decide +kernel
theorem dL_law_523 : decode cL_law 523 = .ok (.ireturn, 1) := by decide +kernel
theorem dL_law_524 : decode cL_law 524 = .ok (.aload_n 1, 1) := by decide +kernel
theorem dL_law_525 : decode cL_law 525 = .ok (.aload_n 0, 1) := by decide +kernel
theorem dL_law_526 : decode cL_law 526 = .ok (.iload_n 3, 1) := by decide +kernel
theorem dL_law_527 : decode cL_law 527 = .ok (.iconst 1, 1) := by decide +kernel
theorem dL_law_528 : decode cL_law 528 = .ok (.iadd, 1) := by decide +kernel
theorem dL_law_529 : decode cL_law 529 = .ok (.iaload, 1) := by decide +kernel
theorem dL_law_530 : decode cL_law 530 = .ok (.invokevirtual 63, 3) := by decide +kernel
theorem dL_law_533 : decode cL_law 533 = .ok (.aload_n 2, 1) := by decide +kernel
theorem dL_law_534 : decode cL_law 534 = .ok (.aload_n 0, 1) := by decide +kernel
theorem dL_law_535 : decode cL_law 535 = .ok (.iload_n 3, 1) := by decide +kernel
theorem dL_law_536 : decode cL_law 536 = .ok (.iconst 1, 1) := by decide +kernel
theorem dL_law_537 : decode cL_law 537 = .ok (.iadd, 1) := by decide +kernel
theorem dL_law_538 : decode cL_law 538 = .ok (.iaload, 1) := by decide +kernel
theorem dL_law_539 : decode cL_law 539 = .ok (.invokevirtual 66, 3) := by decide +kernel
theorem dL_law_542 : decode cL_law 542 = .ok (.if_icmp .eq 803, 3) := by decide +kernel
theorem dL_law_545 : decode cL_law 545 = .ok (.iconst 0, 1) := by decide +kernel
theorem dL_law_546 : decode cL_law 546 = .ok (.ireturn, 1) := by decide +kernel
theorem dL_law_547 : decode cL_law 547 = .ok (.aload_n 1, 1) := by decide +kernel
theorem dL_law_548 : decode cL_law 548 = .ok (.aload_n 0, 1) := by decide +kernel
theorem dL_law_549 : decode cL_law 549 = .ok (.iload_n 3, 1) := by decide +kernel
theorem dL_law_550 : decode cL_law 550 = .ok (.iconst 1, 1) := by decide +kernel
theorem dL_law_551 : decode cL_law 551 = .ok (.iadd, 1) := by decide +kernel
theorem dL_law_552 : decode cL_law 552 = .ok (.iaload, 1) := by decide +kernel
theorem dL_law_553 : decode cL_law 553 = .ok (.invokevirtual 67, 3) := by decide +kernel
theorem dL_law_556 : decode cL_law 556 = .ok (.aload_n 2, 1) := by decide +kernel
theorem dL_law_557 : decode cL_law 557 = .ok (.aload_n 0, 1) := by decide +kernel
theorem dL_law_558 : decode cL_law 558 = .ok (.iload_n 3, 1) := by decide +kernel
theorem dL_law_559 : decode cL_law 559 = .ok (.iconst 1, 1) := by decide +kernel
theorem dL_law_560 : decode cL_law 560 = .ok (.iadd, 1) := by decide +kernel
theorem dL_law_561 : decode cL_law 561 = .ok (.iaload, 1) := by decide +kernel
theorem dL_law_562 : decode cL_law 562 = .ok (.invokevirtual 70, 3) := by decide +kernel
theorem dL_law_565 : decode cL_law 565 = .ok (.if_icmp .eq 780, 3) := by decide +kernel
theorem dL_law_568 : decode cL_law 568 = .ok (.iconst 0, 1) := by decide +kernel
theorem dL_law_569 : decode cL_law 569 = .ok (.ireturn, 1) := by decide +kernel
theorem dL_law_570 : decode cL_law 570 = .ok (.aload_n 1, 1) := by decide +kernel
theorem dL_law_571 : decode cL_law 571 = .ok (.aload_n 0, 1) := by decide +kernel
theorem dL_law_572 : decode cL_law 572 = .ok (.iload_n 3, 1) := by decide +kernel
theorem dL_law_573 : decode cL_law 573 = .ok (.iconst 1, 1) := by decide +kernel
theorem dL_law_574 : decode cL_law 574 = .ok (.iadd, 1) := by decide +kernel
theorem dL_law_575 : decode cL_law 575 = .ok (.iaload, 1) := by decide +kernel
theorem dL_law_576 : decode cL_law 576 = .ok (.aload_n 0, 1) := by decide +kernel
theorem dL_law_577 : decode cL_law 577 = .ok (.iload_n 3, 1) := by decide +kernel
theorem dL_law_578 : decode cL_law 578 = .ok (.iconst 2, 1) := by decide +kernel
theorem dL_law_579 : decode cL_law 579 = .ok (.iadd, 1) := by decide +kernel
theorem dL_law_580 : decode cL_law 580 = .ok (.iaload, 1) := by decide +kernel
theorem dL_law_581 : decode cL_law 581 = .ok (.invokevirtual 71, 3) := by decide +kernel
theorem dL_law_584 : decode cL_law 584 = .ok (.aload_n 2, 1) := by decide +kernel
theorem dL_law_585 : decode cL_law 585 = .ok (.aload_n 0, 1) := by decide +kernel
theorem dL_law_586 : decode cL_law 586 = .ok (.iload_n 3, 1) := by decide +kernel
theorem dL_law_587 : decode cL_law 587 = .ok (.iconst 1, 1) := by decide +kernel
theorem dL_law_588 : decode cL_law 588 = .ok (.iadd, 1) := by decide +kernel
theorem dL_law_589 : decode cL_law 589 = .ok (.iaload, 1) := by decide +kernel
theorem dL_law_590 : decode cL_law 590 = .ok (.aload_n 0, 1) := by decide +kernel
theorem dL_law_591 : decode cL_law 591 = .ok (.iload_n 3, 1) := by decide +kernel
theorem dL_law_592 : decode cL_law 592 = .ok (.iconst 2, 1) := by decide +kernel
theorem dL_law_593 : decode cL_law 593 = .ok (.iadd, 1) := by decide +kernel
theorem dL_law_594 : decode cL_law 594 = .ok (.iaload, 1) := by decide +kernel
theorem dL_law_595 : decode cL_law 595 = .ok (.invokevirtual 74, 3) := by decide +kernel
theorem dL_law_598 : decode cL_law 598 = .ok (.if_icmp .eq 747, 3) := by decide +kernel
theorem dL_law_601 : decode cL_law 601 = .ok (.iconst 0, 1) := by decide +kernel
theorem dL_law_602 : decode cL_law 602 = .ok (.ireturn, 1) := by decide +kernel
theorem dL_law_603 : decode cL_law 603 = .ok (.aload_n 1, 1) := by decide +kernel
theorem dL_law_604 : decode cL_law 604 = .ok (.aload_n 0, 1) := by decide +kernel
theorem dL_law_605 : decode cL_law 605 = .ok (.iload_n 3, 1) := by decide +kernel
theorem dL_law_606 : decode cL_law 606 = .ok (.iconst 1, 1) := by decide +kernel
theorem dL_law_607 : decode cL_law 607 = .ok (.iadd, 1) := by decide +kernel
theorem dL_law_608 : decode cL_law 608 = .ok (.iaload, 1) := by decide +kernel
theorem dL_law_609 : decode cL_law 609 = .ok (.aload_n 0, 1) := by decide +kernel
theorem dL_law_610 : decode cL_law 610 = .ok (.iload_n 3, 1) := by decide +kernel
theorem dL_law_611 : decode cL_law 611 = .ok (.iconst 2, 1) := by decide +kernel
theorem dL_law_612 : decode cL_law 612 = .ok (.iadd, 1) := by decide +kernel
theorem dL_law_613 : decode cL_law 613 = .ok (.iaload, 1) := by decide +kernel
theorem dL_law_614 : decode cL_law 614 = .ok (.invokevirtual 75, 3) := by decide +kernel
theorem dL_law_617 : decode cL_law 617 = .ok (.aload_n 2, 1) := by decide +kernel
theorem dL_law_618 : decode cL_law 618 = .ok (.aload_n 0, 1) := by decide +kernel
theorem dL_law_619 : decode cL_law 619 = .ok (.iload_n 3, 1) := by decide +kernel
theorem dL_law_620 : decode cL_law 620 = .ok (.iconst 1, 1) := by decide +kernel
theorem dL_law_621 : decode cL_law 621 = .ok (.iadd, 1) := by decide +kernel
theorem dL_law_622 : decode cL_law 622 = .ok (.iaload, 1) := by decide +kernel
theorem dL_law_623 : decode cL_law 623 = .ok (.aload_n 0, 1) := by decide +kernel
theorem dL_law_624 : decode cL_law 624 = .ok (.iload_n 3, 1) := by decide +kernel
theorem dL_law_625 : decode cL_law 625 = .ok (.iconst 2, 1) := by decide +kernel
theorem dL_law_626 : decode cL_law 626 = .ok (.iadd, 1) := by decide +kernel
theorem dL_law_627 : decode cL_law 627 = .ok (.iaload, 1) := by decide +kernel
theorem dL_law_628 : decode cL_law 628 = .ok (.invokevirtual 78, 3) := by decide +kernel
theorem dL_law_631 : decode cL_law 631 = .ok (.if_icmp .eq 714, 3) := by decide +kernel
theorem dL_law_634 : decode cL_law 634 = .ok (.iconst 0, 1) := by decide +kernel
theorem dL_law_635 : decode cL_law 635 = .ok (.ireturn, 1) := by decide +kernel
theorem dL_law_636 : decode cL_law 636 = .ok (.aload_n 1, 1) := by decide +kernel
theorem dL_law_637 : decode cL_law 637 = .ok (.aload_n 0, 1) := by decide +kernel
theorem dL_law_638 : decode cL_law 638 = .ok (.iload_n 3, 1) := by decide +kernel
theorem dL_law_639 : decode cL_law 639 = .ok (.iconst 1, 1) := by decide +kernel
theorem dL_law_640 : decode cL_law 640 = .ok (.iadd, 1) := by decide +kernel
theorem dL_law_641 : decode cL_law 641 = .ok (.iaload, 1) := by decide +kernel
theorem dL_law_642 : decode cL_law 642 = .ok (.aload_n 0, 1) := by decide +kernel
theorem dL_law_643 : decode cL_law 643 = .ok (.iload_n 3, 1) := by decide +kernel
theorem dL_law_644 : decode cL_law 644 = .ok (.iconst 2, 1) := by decide +kernel
theorem dL_law_645 : decode cL_law 645 = .ok (.iadd, 1) := by decide +kernel
theorem dL_law_646 : decode cL_law 646 = .ok (.iaload, 1) := by decide +kernel
theorem dL_law_647 : decode cL_law 647 = .ok (.invokevirtual 79, 3) := by decide +kernel
theorem dL_law_650 : decode cL_law 650 = .ok (.aload_n 2, 1) := by decide +kernel
theorem dL_law_651 : decode cL_law 651 = .ok (.aload_n 0, 1) := by decide +kernel
theorem dL_law_652 : decode cL_law 652 = .ok (.iload_n 3, 1) := by decide +kernel
theorem dL_law_653 : decode cL_law 653 = .ok (.iconst 1, 1) := by decide +kernel
theorem dL_law_654 : decode cL_law 654 = .ok (.iadd, 1) := by decide +kernel
theorem dL_law_655 : decode cL_law 655 = .ok (.iaload, 1) := by decide +kernel
theorem dL_law_656 : decode cL_law 656 = .ok (.aload_n 0, 1) := by decide +kernel
theorem dL_law_657 : decode cL_law 657 = .ok (.iload_n 3, 1) := by decide +kernel
theorem dL_law_658 : decode cL_law 658 = .ok (.iconst 2, 1) := by decide +kernel
theorem dL_law_659 : decode cL_law 659 = .ok (.iadd, 1) := by decide +kernel
theorem dL_law_660 : decode cL_law 660 = .ok (.iaload, 1) := by decide +kernel
theorem dL_law_661 : decode cL_law 661 = .ok (.invokevirtual 82, 3) := by decide +kernel
theorem dL_law_664 : decode cL_law 664 = .ok (.if_icmp .eq 681, 3) := by decide +kernel
theorem dL_law_667 : decode cL_law 667 = .ok (.iconst 0, 1) := by decide +kernel
theorem dL_law_668 : decode cL_law 668 = .ok (.ireturn, 1) := by decide +kernel
theorem dL_law_669 : decode cL_law 669 = .ok (.aload_n 1, 1) := by decide +kernel
theorem dL_law_670 : decode cL_law 670 = .ok (.aload_n 0, 1) := by decide +kernel
theorem dL_law_671 : decode cL_law 671 = .ok (.iload_n 3, 1) := by decide +kernel
theorem dL_law_672 : decode cL_law 672 = .ok (.iconst 1, 1) := by decide +kernel
theorem dL_law_673 : decode cL_law 673 = .ok (.iadd, 1) := by decide +kernel
theorem dL_law_674 : decode cL_law 674 = .ok (.iaload, 1) := by decide +kernel
theorem dL_law_675 : decode cL_law 675 = .ok (.aload_n 0, 1) := by decide +kernel
theorem dL_law_676 : decode cL_law 676 = .ok (.iload_n 3, 1) := by decide +kernel
theorem dL_law_677 : decode cL_law 677 = .ok (.iconst 2, 1) := by decide +kernel
theorem dL_law_678 : decode cL_law 678 = .ok (.iadd, 1) := by decide +kernel
theorem dL_law_679 : decode cL_law 679 = .ok (.iaload, 1) := by decide +kernel
theorem dL_law_680 : decode cL_law 680 = .ok (.invokevirtual 83, 3) := by decide +kernel
theorem dL_law_683 : decode cL_law 683 = .ok (.aload_n 2, 1) := by decide +kernel
theorem dL_law_684 : decode cL_law 684 = .ok (.aload_n 0, 1) := by decide +kernel
theorem dL_law_685 : decode cL_law 685 = .ok (.iload_n 3, 1) := by decide +kernel
theorem dL_law_686 : decode cL_law 686 = .ok (.iconst 1, 1) := by decide +kernel
theorem dL_law_687 : decode cL_law 687 = .ok (.iadd, 1) := by decide +kernel
theorem dL_law_688 : decode cL_law 688 = .ok (.iaload, 1) := by decide +kernel
theorem dL_law_689 : decode cL_law 689 = .ok (.aload_n 0, 1) := by decide +kernel
theorem dL_law_690 : decode cL_law 690 = .ok (.iload_n 3, 1) := by decide +kernel
theorem dL_law_691 : decode cL_law 691 = .ok (.iconst 2, 1) := by decide +kernel
theorem dL_law_692 : decode cL_law 692 = .ok (.iadd, 1) := by decide +kernel
theorem dL_law_693 : decode cL_law 693 = .ok (.iaload, 1) := by decide +kernel
theorem dL_law_694 : decode cL_law 694 = .ok (.invokevirtual 86, 3) := by decide +kernel
theorem dL_law_697 : decode cL_law 697 = .ok (.if_icmp .eq 648, 3) := by decide +kernel
theorem dL_law_700 : decode cL_law 700 = .ok (.iconst 0, 1) := by decide +kernel
theorem dL_law_701 : decode cL_law 701 = .ok (.ireturn, 1) := by decide +kernel
theorem dL_law_702 : decode cL_law 702 = .ok (.aload_n 1, 1) := by decide +kernel
theorem dL_law_703 : decode cL_law 703 = .ok (.aload_n 0, 1) := by decide +kernel
theorem dL_law_704 : decode cL_law 704 = .ok (.iload_n 3, 1) := by decide +kernel
theorem dL_law_705 : decode cL_law 705 = .ok (.iconst 1, 1) := by decide +kernel
theorem dL_law_706 : decode cL_law 706 = .ok (.iadd, 1) := by decide +kernel
theorem dL_law_707 : decode cL_law 707 = .ok (.iaload, 1) := by decide +kernel
theorem dL_law_708 : decode cL_law 708 = .ok (.invokevirtual 87, 3) := by decide +kernel
theorem dL_law_711 : decode cL_law 711 = .ok (.aload_n 2, 1) := by decide +kernel
theorem dL_law_712 : decode cL_law 712 = .ok (.aload_n 0, 1) := by decide +kernel
theorem dL_law_713 : decode cL_law 713 = .ok (.iload_n 3, 1) := by decide +kernel
theorem dL_law_714 : decode cL_law 714 = .ok (.iconst 1, 1) := by decide +kernel
theorem dL_law_715 : decode cL_law 715 = .ok (.iadd, 1) := by decide +kernel
theorem dL_law_716 : decode cL_law 716 = .ok (.iaload, 1) := by decide +kernel
theorem dL_law_717 : decode cL_law 717 = .ok (.invokevirtual 90, 3) := by decide +kernel
theorem dL_law_720 : decode cL_law 720 = .ok (.if_icmp .eq 625, 3) := by decide +kernel
theorem dL_law_723 : decode cL_law 723 = .ok (.iconst 0, 1) := by decide +kernel
theorem dL_law_724 : decode cL_law 724 = .ok (.ireturn, 1) := by decide +kernel
theorem dL_law_725 : decode cL_law 725 = .ok (.aload_n 1, 1) := by decide +kernel
theorem dL_law_726 : decode cL_law 726 = .ok (.aload_n 0, 1) := by decide +kernel
theorem dL_law_727 : decode cL_law 727 = .ok (.iload_n 3, 1) := by decide +kernel
theorem dL_law_728 : decode cL_law 728 = .ok (.iconst 1, 1) := by decide +kernel
theorem dL_law_729 : decode cL_law 729 = .ok (.iadd, 1) := by decide +kernel
theorem dL_law_730 : decode cL_law 730 = .ok (.iaload, 1) := by decide +kernel
theorem dL_law_731 : decode cL_law 731 = .ok (.invokevirtual 91, 3) := by decide +kernel
theorem dL_law_734 : decode cL_law 734 = .ok (.aload_n 2, 1) := by decide +kernel
theorem dL_law_735 : decode cL_law 735 = .ok (.aload_n 0, 1) := by decide +kernel
theorem dL_law_736 : decode cL_law 736 = .ok (.iload_n 3, 1) := by decide +kernel
theorem dL_law_737 : decode cL_law 737 = .ok (.iconst 1, 1) := by decide +kernel
theorem dL_law_738 : decode cL_law 738 = .ok (.iadd, 1) := by decide +kernel
theorem dL_law_739 : decode cL_law 739 = .ok (.iaload, 1) := by decide +kernel
theorem dL_law_740 : decode cL_law 740 = .ok (.invokevirtual 94, 3) := by decide +kernel
theorem dL_law_743 : decode cL_law 743 = .ok (.if_icmp .eq 602, 3) := by decide +kernel
theorem dL_law_746 : decode cL_law 746 = .ok (.iconst 0, 1) := by decide +kernel
theorem dL_law_747 : decode cL_law 747 = .ok (.ireturn, 1) := by decide +kernel
theorem dL_law_748 : decode cL_law 748 = .ok (.aload_n 1, 1) := by decide +kernel
theorem dL_law_749 : decode cL_law 749 = .ok (.aload_n 0, 1) := by decide +kernel
theorem dL_law_750 : decode cL_law 750 = .ok (.iload_n 3, 1) := by decide +kernel
theorem dL_law_751 : decode cL_law 751 = .ok (.iconst 1, 1) := by decide +kernel
theorem dL_law_752 : decode cL_law 752 = .ok (.iadd, 1) := by decide +kernel
theorem dL_law_753 : decode cL_law 753 = .ok (.iaload, 1) := by decide +kernel
theorem dL_law_754 : decode cL_law 754 = .ok (.aload_n 0, 1) := by decide +kernel
theorem dL_law_755 : decode cL_law 755 = .ok (.iload_n 3, 1) := by decide +kernel
theorem dL_law_756 : decode cL_law 756 = .ok (.iconst 2, 1) := by decide +kernel
theorem dL_law_757 : decode cL_law 757 = .ok (.iadd, 1) := by decide +kernel
theorem dL_law_758 : decode cL_law 758 = .ok (.iaload, 1) := by decide +kernel
theorem dL_law_759 : decode cL_law 759 = .ok (.aload_n 0, 1) := by decide +kernel
theorem dL_law_760 : decode cL_law 760 = .ok (.iload_n 3, 1) := by decide +kernel
theorem dL_law_761 : decode cL_law 761 = .ok (.iconst 3, 1) := by decide +kernel
theorem dL_law_762 : decode cL_law 762 = .ok (.iadd, 1) := by decide +kernel
theorem dL_law_763 : decode cL_law 763 = .ok (.iaload, 1) := by decide +kernel
theorem dL_law_764 : decode cL_law 764 = .ok (.invokevirtual 95, 3) := by decide +kernel
theorem dL_law_767 : decode cL_law 767 = .ok (.aload_n 2, 1) := by decide +kernel
theorem dL_law_768 : decode cL_law 768 = .ok (.aload_n 0, 1) := by decide +kernel
theorem dL_law_769 : decode cL_law 769 = .ok (.iload_n 3, 1) := by decide +kernel
theorem dL_law_770 : decode cL_law 770 = .ok (.iconst 1, 1) := by decide +kernel
theorem dL_law_771 : decode cL_law 771 = .ok (.iadd, 1) := by decide +kernel
theorem dL_law_772 : decode cL_law 772 = .ok (.iaload, 1) := by decide +kernel
theorem dL_law_773 : decode cL_law 773 = .ok (.aload_n 0, 1) := by decide +kernel
theorem dL_law_774 : decode cL_law 774 = .ok (.iload_n 3, 1) := by decide +kernel
theorem dL_law_775 : decode cL_law 775 = .ok (.iconst 2, 1) := by decide +kernel
theorem dL_law_776 : decode cL_law 776 = .ok (.iadd, 1) := by decide +kernel
theorem dL_law_777 : decode cL_law 777 = .ok (.iaload, 1) := by decide +kernel
theorem dL_law_778 : decode cL_law 778 = .ok (.aload_n 0, 1) := by decide +kernel
theorem dL_law_779 : decode cL_law 779 = .ok (.iload_n 3, 1) := by decide +kernel
theorem dL_law_780 : decode cL_law 780 = .ok (.iconst 3, 1) := by decide +kernel
theorem dL_law_781 : decode cL_law 781 = .ok (.iadd, 1) := by decide +kernel
theorem dL_law_782 : decode cL_law 782 = .ok (.iaload, 1) := by decide +kernel
theorem dL_law_783 : decode cL_law 783 = .ok (.invokevirtual 99, 3) := by decide +kernel
theorem dL_law_786 : decode cL_law 786 = .ok (.if_icmp .eq 559, 3) := by decide +kernel
theorem dL_law_789 : decode cL_law 789 = .ok (.iconst 0, 1) := by decide +kernel
theorem dL_law_790 : decode cL_law 790 = .ok (.ireturn, 1) := by decide +kernel
theorem dL_law_791 : decode cL_law 791 = .ok (.aload_n 1, 1) := by decide +kernel
theorem dL_law_792 : decode cL_law 792 = .ok (.aload_n 0, 1) := by decide +kernel
theorem dL_law_793 : decode cL_law 793 = .ok (.iload_n 3, 1) := by decide +kernel
theorem dL_law_794 : decode cL_law 794 = .ok (.iconst 1, 1) := by decide +kernel
theorem dL_law_795 : decode cL_law 795 = .ok (.iadd, 1) := by decide +kernel
theorem dL_law_796 : decode cL_law 796 = .ok (.iaload, 1) := by decide +kernel
theorem dL_law_797 : decode cL_law 797 = .ok (.aload_n 0, 1) := by decide +kernel
theorem dL_law_798 : decode cL_law 798 = .ok (.iload_n 3, 1) := by decide +kernel
theorem dL_law_799 : decode cL_law 799 = .ok (.iconst 2, 1) := by decide +kernel
theorem dL_law_800 : decode cL_law 800 = .ok (.iadd, 1) := by decide +kernel
theorem dL_law_801 : decode cL_law 801 = .ok (.iaload, 1) := by decide +kernel
theorem dL_law_802 : decode cL_law 802 = .ok (.aload_n 0, 1) := by decide +kernel
theorem dL_law_803 : decode cL_law 803 = .ok (.iload_n 3, 1) := by decide +kernel
theorem dL_law_804 : decode cL_law 804 = .ok (.iconst 3, 1) := by decide +kernel
theorem dL_law_805 : decode cL_law 805 = .ok (.iadd, 1) := by decide +kernel
theorem dL_law_806 : decode cL_law 806 = .ok (.iaload, 1) := by decide +kernel
theorem dL_law_807 : decode cL_law 807 = .ok (.invokevirtual 100, 3) := by decide +kernel
theorem dL_law_810 : decode cL_law 810 = .ok (.aload_n 2, 1) := by decide +kernel
theorem dL_law_811 : decode cL_law 811 = .ok (.aload_n 0, 1) := by decide +kernel
theorem dL_law_812 : decode cL_law 812 = .ok (.iload_n 3, 1) := by decide +kernel
theorem dL_law_813 : decode cL_law 813 = .ok (.iconst 1, 1) := by decide +kernel
theorem dL_law_814 : decode cL_law 814 = .ok (.iadd, 1) := by decide +kernel
theorem dL_law_815 : decode cL_law 815 = .ok (.iaload, 1) := by decide +kernel
theorem dL_law_816 : decode cL_law 816 = .ok (.aload_n 0, 1) := by decide +kernel
theorem dL_law_817 : decode cL_law 817 = .ok (.iload_n 3, 1) := by decide +kernel
theorem dL_law_818 : decode cL_law 818 = .ok (.iconst 2, 1) := by decide +kernel
theorem dL_law_819 : decode cL_law 819 = .ok (.iadd, 1) := by decide +kernel
theorem dL_law_820 : decode cL_law 820 = .ok (.iaload, 1) := by decide +kernel
theorem dL_law_821 : decode cL_law 821 = .ok (.aload_n 0, 1) := by decide +kernel
theorem dL_law_822 : decode cL_law 822 = .ok (.iload_n 3, 1) := by decide +kernel
theorem dL_law_823 : decode cL_law 823 = .ok (.iconst 3, 1) := by decide +kernel
theorem dL_law_824 : decode cL_law 824 = .ok (.iadd, 1) := by decide +kernel
theorem dL_law_825 : decode cL_law 825 = .ok (.iaload, 1) := by decide +kernel
theorem dL_law_826 : decode cL_law 826 = .ok (.invokevirtual 103, 3) := by decide +kernel
theorem dL_law_829 : decode cL_law 829 = .ok (.if_icmp .eq 516, 3) := by decide +kernel
theorem dL_law_832 : decode cL_law 832 = .ok (.iconst 0, 1) := by decide +kernel
theorem dL_law_833 : decode cL_law 833 = .ok (.ireturn, 1) := by decide +kernel
theorem dL_law_834 : decode cL_law 834 = .ok (.aload_n 1, 1) := by decide +kernel
theorem dL_law_835 : decode cL_law 835 = .ok (.aload_n 0, 1) := by decide +kernel
theorem dL_law_836 : decode cL_law 836 = .ok (.iload_n 3, 1) := by decide +kernel
theorem dL_law_837 : decode cL_law 837 = .ok (.iconst 1, 1) := by decide +kernel
theorem dL_law_838 : decode cL_law 838 = .ok (.iadd, 1) := by decide +kernel
theorem dL_law_839 : decode cL_law 839 = .ok (.iaload, 1) := by decide +kernel
theorem dL_law_840 : decode cL_law 840 = .ok (.aload_n 0, 1) := by decide +kernel
theorem dL_law_841 : decode cL_law 841 = .ok (.iload_n 3, 1) := by decide +kernel
theorem dL_law_842 : decode cL_law 842 = .ok (.iconst 2, 1) := by decide +kernel
theorem dL_law_843 : decode cL_law 843 = .ok (.iadd, 1) := by decide +kernel
theorem dL_law_844 : decode cL_law 844 = .ok (.iaload, 1) := by decide +kernel
theorem dL_law_845 : decode cL_law 845 = .ok (.invokevirtual 104, 3) := by decide +kernel
theorem dL_law_848 : decode cL_law 848 = .ok (.aload_n 2, 1) := by decide +kernel
theorem dL_law_849 : decode cL_law 849 = .ok (.aload_n 0, 1) := by decide +kernel
theorem dL_law_850 : decode cL_law 850 = .ok (.iload_n 3, 1) := by decide +kernel
theorem dL_law_851 : decode cL_law 851 = .ok (.iconst 1, 1) := by decide +kernel
theorem dL_law_852 : decode cL_law 852 = .ok (.iadd, 1) := by decide +kernel
theorem dL_law_853 : decode cL_law 853 = .ok (.iaload, 1) := by decide +kernel
theorem dL_law_854 : decode cL_law 854 = .ok (.aload_n 0, 1) := by decide +kernel
theorem dL_law_855 : decode cL_law 855 = .ok (.iload_n 3, 1) := by decide +kernel
theorem dL_law_856 : decode cL_law 856 = .ok (.iconst 2, 1) := by decide +kernel
theorem dL_law_857 : decode cL_law 857 = .ok (.iadd, 1) := by decide +kernel
theorem dL_law_858 : decode cL_law 858 = .ok (.iaload, 1) := by decide +kernel
theorem dL_law_859 : decode cL_law 859 = .ok (.invokevirtual 107, 3) := by decide +kernel
theorem dL_law_862 : decode cL_law 862 = .ok (.if_icmp .eq 483, 3) := by decide +kernel
theorem dL_law_865 : decode cL_law 865 = .ok (.iconst 0, 1) := by decide +kernel
theorem dL_law_866 : decode cL_law 866 = .ok (.ireturn, 1) := by decide +kernel
theorem dL_law_867 : decode cL_law 867 = .ok (.aload_n 1, 1) := by decide +kernel
theorem dL_law_868 : decode cL_law 868 = .ok (.aload_n 0, 1) := by decide +kernel
theorem dL_law_869 : decode cL_law 869 = .ok (.iload_n 3, 1) := by decide +kernel
theorem dL_law_870 : decode cL_law 870 = .ok (.iconst 1, 1) := by decide +kernel
theorem dL_law_871 : decode cL_law 871 = .ok (.iadd, 1) := by decide +kernel
theorem dL_law_872 : decode cL_law 872 = .ok (.iaload, 1) := by decide +kernel
theorem dL_law_873 : decode cL_law 873 = .ok (.invokevirtual 108, 3) := by decide +kernel
theorem dL_law_876 : decode cL_law 876 = .ok (.aload_n 2, 1) := by decide +kernel
theorem dL_law_877 : decode cL_law 877 = .ok (.aload_n 0, 1) := by decide +kernel
theorem dL_law_878 : decode cL_law 878 = .ok (.iload_n 3, 1) := by decide +kernel
theorem dL_law_879 : decode cL_law 879 = .ok (.iconst 1, 1) := by decide +kernel
theorem dL_law_880 : decode cL_law 880 = .ok (.iadd, 1) := by decide +kernel
theorem dL_law_881 : decode cL_law 881 = .ok (.iaload, 1) := by decide +kernel
theorem dL_law_882 : decode cL_law 882 = .ok (.invokevirtual 111, 3) := by decide +kernel
theorem dL_law_885 : decode cL_law 885 = .ok (.if_icmp .eq 460, 3) := by decide +kernel
theorem dL_law_888 : decode cL_law 888 = .ok (.iconst 0, 1) := by decide +kernel
theorem dL_law_889 : decode cL_law 889 = .ok (.ireturn, 1) := by decide +kernel
theorem dL_law_890 : decode cL_law 890 = .ok (.aload_n 1, 1) := by decide +kernel
theorem dL_law_891 : decode cL_law 891 = .ok (.aload_n 0, 1) := by decide +kernel
theorem dL_law_892 : decode cL_law 892 = .ok (.iload_n 3, 1) := by decide +kernel
theorem dL_law_893 : decode cL_law 893 = .ok (.iconst 1, 1) := by decide +kernel
theorem dL_law_894 : decode cL_law 894 = .ok (.iadd, 1) := by decide +kernel
theorem dL_law_895 : decode cL_law 895 = .ok (.iaload, 1) := by decide +kernel
theorem dL_law_896 : decode cL_law 896 = .ok (.aload_n 0, 1) := by decide +kernel
theorem dL_law_897 : decode cL_law 897 = .ok (.iload_n 3, 1) := by decide +kernel
theorem dL_law_898 : decode cL_law 898 = .ok (.iconst 2, 1) := by decide +kernel
theorem dL_law_899 : decode cL_law 899 = .ok (.iadd, 1) := by decide +kernel
theorem dL_law_900 : decode cL_law 900 = .ok (.iaload, 1) := by decide +kernel
theorem dL_law_901 : decode cL_law 901 = .ok (.aload_n 0, 1) := by decide +kernel
theorem dL_law_902 : decode cL_law 902 = .ok (.iload_n 3, 1) := by decide +kernel
theorem dL_law_903 : decode cL_law 903 = .ok (.iconst 3, 1) := by decide +kernel
theorem dL_law_904 : decode cL_law 904 = .ok (.iadd, 1) := by decide +kernel
theorem dL_law_905 : decode cL_law 905 = .ok (.iaload, 1) := by decide +kernel
theorem dL_law_906 : decode cL_law 906 = .ok (.invokevirtual 112, 3) := by decide +kernel
theorem dL_law_909 : decode cL_law 909 = .ok (.aload_n 2, 1) := by decide +kernel
theorem dL_law_910 : decode cL_law 910 = .ok (.aload_n 0, 1) := by decide +kernel
theorem dL_law_911 : decode cL_law 911 = .ok (.iload_n 3, 1) := by decide +kernel
theorem dL_law_912 : decode cL_law 912 = .ok (.iconst 1, 1) := by decide +kernel
theorem dL_law_913 : decode cL_law 913 = .ok (.iadd, 1) := by decide +kernel
theorem dL_law_914 : decode cL_law 914 = .ok (.iaload, 1) := by decide +kernel
theorem dL_law_915 : decode cL_law 915 = .ok (.aload_n 0, 1) := by decide +kernel
theorem dL_law_916 : decode cL_law 916 = .ok (.iload_n 3, 1) := by decide +kernel
theorem dL_law_917 : decode cL_law 917 = .ok (.iconst 2, 1) := by decide +kernel
theorem dL_law_918 : decode cL_law 918 = .ok (.iadd, 1) := by decide +kernel
theorem dL_law_919 : decode cL_law 919 = .ok (.iaload, 1) := by decide +kernel
theorem dL_law_920 : decode cL_law 920 = .ok (.aload_n 0, 1) := by decide +kernel
theorem dL_law_921 : decode cL_law 921 = .ok (.iload_n 3, 1) := by decide +kernel
theorem dL_law_922 : decode cL_law 922 = .ok (.iconst 3, 1) := by decide +kernel
theorem dL_law_923 : decode cL_law 923 = .ok (.iadd, 1) := by decide +kernel
theorem dL_law_924 : decode cL_law 924 = .ok (.iaload, 1) := by decide +kernel
theorem dL_law_925 : decode cL_law 925 = .ok (.invokevirtual 115, 3) := by decide +kernel
theorem dL_law_928 : decode cL_law 928 = .ok (.if_icmp .eq 417, 3) := by decide +kernel
theorem dL_law_931 : decode cL_law 931 = .ok (.iconst 0, 1) := by decide +kernel
theorem dL_law_932 : decode cL_law 932 = .ok (.ireturn, 1) := by decide +kernel
theorem dL_law_933 : decode cL_law 933 = .ok (.aload_n 1, 1) := by decide +kernel
theorem dL_law_934 : decode cL_law 934 = .ok (.aload_n 0, 1) := by decide +kernel
theorem dL_law_935 : decode cL_law 935 = .ok (.iload_n 3, 1) := by decide +kernel
theorem dL_law_936 : decode cL_law 936 = .ok (.iconst 1, 1) := by decide +kernel
theorem dL_law_937 : decode cL_law 937 = .ok (.iadd, 1) := by decide +kernel
theorem dL_law_938 : decode cL_law 938 = .ok (.iaload, 1) := by decide +kernel
theorem dL_law_939 : decode cL_law 939 = .ok (.aload_n 0, 1) := by decide +kernel
theorem dL_law_940 : decode cL_law 940 = .ok (.iload_n 3, 1) := by decide +kernel
theorem dL_law_941 : decode cL_law 941 = .ok (.iconst 2, 1) := by decide +kernel
theorem dL_law_942 : decode cL_law 942 = .ok (.iadd, 1) := by decide +kernel
theorem dL_law_943 : decode cL_law 943 = .ok (.iaload, 1) := by decide +kernel
theorem dL_law_944 : decode cL_law 944 = .ok (.aload_n 0, 1) := by decide +kernel
theorem dL_law_945 : decode cL_law 945 = .ok (.iload_n 3, 1) := by decide +kernel
theorem dL_law_946 : decode cL_law 946 = .ok (.iconst 3, 1) := by decide +kernel
theorem dL_law_947 : decode cL_law 947 = .ok (.iadd, 1) := by decide +kernel
theorem dL_law_948 : decode cL_law 948 = .ok (.iaload, 1) := by decide +kernel
theorem dL_law_949 : decode cL_law 949 = .ok (.aload_n 0, 1) := by decide +kernel
theorem dL_law_950 : decode cL_law 950 = .ok (.iload_n 3, 1) := by decide +kernel
theorem dL_law_951 : decode cL_law 951 = .ok (.iconst 4, 1) := by decide +kernel
theorem dL_law_952 : decode cL_law 952 = .ok (.iadd, 1) := by decide +kernel
theorem dL_law_953 : decode cL_law 953 = .ok (.iaload, 1) := by decide +kernel
theorem dL_law_954 : decode cL_law 954 = .ok (.invokevirtual 116, 3) := by decide +kernel
theorem dL_law_957 : decode cL_law 957 = .ok (.aload_n 2, 1) := by decide +kernel
theorem dL_law_958 : decode cL_law 958 = .ok (.aload_n 0, 1) := by decide +kernel
theorem dL_law_959 : decode cL_law 959 = .ok (.iload_n 3, 1) := by decide +kernel
theorem dL_law_960 : decode cL_law 960 = .ok (.iconst 1, 1) := by decide +kernel
theorem dL_law_961 : decode cL_law 961 = .ok (.iadd, 1) := by decide +kernel
theorem dL_law_962 : decode cL_law 962 = .ok (.iaload, 1) := by decide +kernel
theorem dL_law_963 : decode cL_law 963 = .ok (.aload_n 0, 1) := by decide +kernel
theorem dL_law_964 : decode cL_law 964 = .ok (.iload_n 3, 1) := by decide +kernel
theorem dL_law_965 : decode cL_law 965 = .ok (.iconst 2, 1) := by decide +kernel
theorem dL_law_966 : decode cL_law 966 = .ok (.iadd, 1) := by decide +kernel
theorem dL_law_967 : decode cL_law 967 = .ok (.iaload, 1) := by decide +kernel
theorem dL_law_968 : decode cL_law 968 = .ok (.aload_n 0, 1) := by decide +kernel
theorem dL_law_969 : decode cL_law 969 = .ok (.iload_n 3, 1) := by decide +kernel
theorem dL_law_970 : decode cL_law 970 = .ok (.iconst 3, 1) := by decide +kernel
theorem dL_law_971 : decode cL_law 971 = .ok (.iadd, 1) := by decide +kernel
theorem dL_law_972 : decode cL_law 972 = .ok (.iaload, 1) := by decide +kernel
theorem dL_law_973 : decode cL_law 973 = .ok (.aload_n 0, 1) := by decide +kernel
theorem dL_law_974 : decode cL_law 974 = .ok (.iload_n 3, 1) := by decide +kernel
theorem dL_law_975 : decode cL_law 975 = .ok (.iconst 4, 1) := by decide +kernel
theorem dL_law_976 : decode cL_law 976 = .ok (.iadd, 1) := by decide +kernel
theorem dL_law_977 : decode cL_law 977 = .ok (.iaload, 1) := by decide +kernel
theorem dL_law_978 : decode cL_law 978 = .ok (.invokevirtual 120, 3) := by decide +kernel
theorem dL_law_981 : decode cL_law 981 = .ok (.lcmp, 1) := by decide +kernel
theorem dL_law_982 : decode cL_law 982 = .ok (.ifCond .eq 363, 3) := by decide +kernel
theorem dL_law_985 : decode cL_law 985 = .ok (.iconst 0, 1) := by decide +kernel
theorem dL_law_986 : decode cL_law 986 = .ok (.ireturn, 1) := by decide +kernel
theorem dL_law_987 : decode cL_law 987 = .ok (.aload_n 1, 1) := by decide +kernel
theorem dL_law_988 : decode cL_law 988 = .ok (.aload_n 0, 1) := by decide +kernel
theorem dL_law_989 : decode cL_law 989 = .ok (.iload_n 3, 1) := by decide +kernel
theorem dL_law_990 : decode cL_law 990 = .ok (.iconst 1, 1) := by decide +kernel
theorem dL_law_991 : decode cL_law 991 = .ok (.iadd, 1) := by decide +kernel
theorem dL_law_992 : decode cL_law 992 = .ok (.iaload, 1) := by decide +kernel
theorem dL_law_993 : decode cL_law 993 = .ok (.aload_n 0, 1) := by decide +kernel
theorem dL_law_994 : decode cL_law 994 = .ok (.iload_n 3, 1) := by decide +kernel
theorem dL_law_995 : decode cL_law 995 = .ok (.iconst 2, 1) := by decide +kernel
theorem dL_law_996 : decode cL_law 996 = .ok (.iadd, 1) := by decide +kernel
theorem dL_law_997 : decode cL_law 997 = .ok (.iaload, 1) := by decide +kernel
theorem dL_law_998 : decode cL_law 998 = .ok (.aload_n 0, 1) := by decide +kernel
theorem dL_law_999 : decode cL_law 999 = .ok (.iload_n 3, 1) := by decide +kernel
theorem dL_law_1000 : decode cL_law 1000 = .ok (.iconst 3, 1) := by decide +kernel
theorem dL_law_1001 : decode cL_law 1001 = .ok (.iadd, 1) := by decide +kernel
theorem dL_law_1002 : decode cL_law 1002 = .ok (.iaload, 1) := by decide +kernel
theorem dL_law_1003 : decode cL_law 1003 = .ok (.aload_n 0, 1) := by decide +kernel
theorem dL_law_1004 : decode cL_law 1004 = .ok (.iload_n 3, 1) := by decide +kernel
theorem dL_law_1005 : decode cL_law 1005 = .ok (.iconst 4, 1) := by decide +kernel
theorem dL_law_1006 : decode cL_law 1006 = .ok (.iadd, 1) := by decide +kernel
theorem dL_law_1007 : decode cL_law 1007 = .ok (.iaload, 1) := by decide +kernel
theorem dL_law_1008 : decode cL_law 1008 = .ok (.aload_n 0, 1) := by decide +kernel
theorem dL_law_1009 : decode cL_law 1009 = .ok (.iload_n 3, 1) := by decide +kernel
theorem dL_law_1010 : decode cL_law 1010 = .ok (.iconst 5, 1) := by decide +kernel
theorem dL_law_1011 : decode cL_law 1011 = .ok (.iadd, 1) := by decide +kernel
theorem dL_law_1012 : decode cL_law 1012 = .ok (.iaload, 1) := by decide +kernel
theorem dL_law_1013 : decode cL_law 1013 = .ok (.invokevirtual 121, 3) := by decide +kernel
theorem dL_law_1016 : decode cL_law 1016 = .ok (.aload_n 2, 1) := by decide +kernel
theorem dL_law_1017 : decode cL_law 1017 = .ok (.aload_n 0, 1) := by decide +kernel
theorem dL_law_1018 : decode cL_law 1018 = .ok (.iload_n 3, 1) := by decide +kernel
theorem dL_law_1019 : decode cL_law 1019 = .ok (.iconst 1, 1) := by decide +kernel
theorem dL_law_1020 : decode cL_law 1020 = .ok (.iadd, 1) := by decide +kernel
theorem dL_law_1021 : decode cL_law 1021 = .ok (.iaload, 1) := by decide +kernel
theorem dL_law_1022 : decode cL_law 1022 = .ok (.aload_n 0, 1) := by decide +kernel
theorem dL_law_1023 : decode cL_law 1023 = .ok (.iload_n 3, 1) := by decide +kernel
theorem dL_law_1024 : decode cL_law 1024 = .ok (.iconst 2, 1) := by decide +kernel
theorem dL_law_1025 : decode cL_law 1025 = .ok (.iadd, 1) := by decide +kernel
theorem dL_law_1026 : decode cL_law 1026 = .ok (.iaload, 1) := by decide +kernel
theorem dL_law_1027 : decode cL_law 1027 = .ok (.aload_n 0, 1) := by decide +kernel
theorem dL_law_1028 : decode cL_law 1028 = .ok (.iload_n 3, 1) := by decide +kernel
theorem dL_law_1029 : decode cL_law 1029 = .ok (.iconst 3, 1) := by decide +kernel
theorem dL_law_1030 : decode cL_law 1030 = .ok (.iadd, 1) := by decide +kernel
theorem dL_law_1031 : decode cL_law 1031 = .ok (.iaload, 1) := by decide +kernel
theorem dL_law_1032 : decode cL_law 1032 = .ok (.aload_n 0, 1) := by decide +kernel
theorem dL_law_1033 : decode cL_law 1033 = .ok (.iload_n 3, 1) := by decide +kernel
theorem dL_law_1034 : decode cL_law 1034 = .ok (.iconst 4, 1) := by decide +kernel
theorem dL_law_1035 : decode cL_law 1035 = .ok (.iadd, 1) := by decide +kernel
theorem dL_law_1036 : decode cL_law 1036 = .ok (.iaload, 1) := by decide +kernel
theorem dL_law_1037 : decode cL_law 1037 = .ok (.aload_n 0, 1) := by decide +kernel
theorem dL_law_1038 : decode cL_law 1038 = .ok (.iload_n 3, 1) := by decide +kernel
theorem dL_law_1039 : decode cL_law 1039 = .ok (.iconst 5, 1) := by decide +kernel
theorem dL_law_1040 : decode cL_law 1040 = .ok (.iadd, 1) := by decide +kernel
theorem dL_law_1041 : decode cL_law 1041 = .ok (.iaload, 1) := by decide +kernel
theorem dL_law_1042 : decode cL_law 1042 = .ok (.invokevirtual 125, 3) := by decide +kernel
theorem dL_law_1045 : decode cL_law 1045 = .ok (.if_icmp .eq 300, 3) := by decide +kernel
theorem dL_law_1048 : decode cL_law 1048 = .ok (.iconst 0, 1) := by decide +kernel
theorem dL_law_1049 : decode cL_law 1049 = .ok (.ireturn, 1) := by decide +kernel
theorem dL_law_1050 : decode cL_law 1050 = .ok (.aload_n 1, 1) := by decide +kernel
theorem dL_law_1051 : decode cL_law 1051 = .ok (.aload_n 0, 1) := by decide +kernel
theorem dL_law_1052 : decode cL_law 1052 = .ok (.iload_n 3, 1) := by decide +kernel
theorem dL_law_1053 : decode cL_law 1053 = .ok (.iconst 1, 1) := by decide +kernel
theorem dL_law_1054 : decode cL_law 1054 = .ok (.iadd, 1) := by decide +kernel
theorem dL_law_1055 : decode cL_law 1055 = .ok (.iaload, 1) := by decide +kernel
theorem dL_law_1056 : decode cL_law 1056 = .ok (.aload_n 0, 1) := by decide +kernel
theorem dL_law_1057 : decode cL_law 1057 = .ok (.iload_n 3, 1) := by decide +kernel
theorem dL_law_1058 : decode cL_law 1058 = .ok (.iconst 2, 1) := by decide +kernel
theorem dL_law_1059 : decode cL_law 1059 = .ok (.iadd, 1) := by decide +kernel
theorem dL_law_1060 : decode cL_law 1060 = .ok (.iaload, 1) := by decide +kernel
theorem dL_law_1061 : decode cL_law 1061 = .ok (.aload_n 0, 1) := by decide +kernel
theorem dL_law_1062 : decode cL_law 1062 = .ok (.iload_n 3, 1) := by decide +kernel
theorem dL_law_1063 : decode cL_law 1063 = .ok (.iconst 3, 1) := by decide +kernel
theorem dL_law_1064 : decode cL_law 1064 = .ok (.iadd, 1) := by decide +kernel
theorem dL_law_1065 : decode cL_law 1065 = .ok (.iaload, 1) := by decide +kernel
theorem dL_law_1066 : decode cL_law 1066 = .ok (.invokevirtual 126, 3) := by decide +kernel
theorem dL_law_1069 : decode cL_law 1069 = .ok (.aload_n 2, 1) := by decide +kernel
theorem dL_law_1070 : decode cL_law 1070 = .ok (.aload_n 0, 1) := by decide +kernel
theorem dL_law_1071 : decode cL_law 1071 = .ok (.iload_n 3, 1) := by decide +kernel
theorem dL_law_1072 : decode cL_law 1072 = .ok (.iconst 1, 1) := by decide +kernel
theorem dL_law_1073 : decode cL_law 1073 = .ok (.iadd, 1) := by decide +kernel
theorem dL_law_1074 : decode cL_law 1074 = .ok (.iaload, 1) := by decide +kernel
theorem dL_law_1075 : decode cL_law 1075 = .ok (.aload_n 0, 1) := by decide +kernel
theorem dL_law_1076 : decode cL_law 1076 = .ok (.iload_n 3, 1) := by decide +kernel
theorem dL_law_1077 : decode cL_law 1077 = .ok (.iconst 2, 1) := by decide +kernel
theorem dL_law_1078 : decode cL_law 1078 = .ok (.iadd, 1) := by decide +kernel
theorem dL_law_1079 : decode cL_law 1079 = .ok (.iaload, 1) := by decide +kernel
theorem dL_law_1080 : decode cL_law 1080 = .ok (.aload_n 0, 1) := by decide +kernel
theorem dL_law_1081 : decode cL_law 1081 = .ok (.iload_n 3, 1) := by decide +kernel
theorem dL_law_1082 : decode cL_law 1082 = .ok (.iconst 3, 1) := by decide +kernel
theorem dL_law_1083 : decode cL_law 1083 = .ok (.iadd, 1) := by decide +kernel
theorem dL_law_1084 : decode cL_law 1084 = .ok (.iaload, 1) := by decide +kernel
theorem dL_law_1085 : decode cL_law 1085 = .ok (.invokevirtual 129, 3) := by decide +kernel
theorem dL_law_1088 : decode cL_law 1088 = .ok (.if_icmp .eq 257, 3) := by decide +kernel
theorem dL_law_1091 : decode cL_law 1091 = .ok (.iconst 0, 1) := by decide +kernel
theorem dL_law_1092 : decode cL_law 1092 = .ok (.ireturn, 1) := by decide +kernel
theorem dL_law_1093 : decode cL_law 1093 = .ok (.aload_n 1, 1) := by decide +kernel
theorem dL_law_1094 : decode cL_law 1094 = .ok (.aload_n 0, 1) := by decide +kernel
theorem dL_law_1095 : decode cL_law 1095 = .ok (.iload_n 3, 1) := by decide +kernel
theorem dL_law_1096 : decode cL_law 1096 = .ok (.iconst 1, 1) := by decide +kernel
theorem dL_law_1097 : decode cL_law 1097 = .ok (.iadd, 1) := by decide +kernel
theorem dL_law_1098 : decode cL_law 1098 = .ok (.iaload, 1) := by decide +kernel
theorem dL_law_1099 : decode cL_law 1099 = .ok (.invokevirtual 130, 3) := by decide +kernel
theorem dL_law_1102 : decode cL_law 1102 = .ok (.aload_n 2, 1) := by decide +kernel
theorem dL_law_1103 : decode cL_law 1103 = .ok (.aload_n 0, 1) := by decide +kernel
theorem dL_law_1104 : decode cL_law 1104 = .ok (.iload_n 3, 1) := by decide +kernel
theorem dL_law_1105 : decode cL_law 1105 = .ok (.iconst 1, 1) := by decide +kernel
theorem dL_law_1106 : decode cL_law 1106 = .ok (.iadd, 1) := by decide +kernel
theorem dL_law_1107 : decode cL_law 1107 = .ok (.iaload, 1) := by decide +kernel
theorem dL_law_1108 : decode cL_law 1108 = .ok (.invokevirtual 133, 3) := by decide +kernel
theorem dL_law_1111 : decode cL_law 1111 = .ok (.if_icmp .eq 234, 3) := by decide +kernel
theorem dL_law_1114 : decode cL_law 1114 = .ok (.iconst 0, 1) := by decide +kernel
theorem dL_law_1115 : decode cL_law 1115 = .ok (.ireturn, 1) := by decide +kernel
theorem dL_law_1116 : decode cL_law 1116 = .ok (.aload_n 1, 1) := by decide +kernel
theorem dL_law_1117 : decode cL_law 1117 = .ok (.aload_n 0, 1) := by decide +kernel
theorem dL_law_1118 : decode cL_law 1118 = .ok (.iload_n 3, 1) := by decide +kernel
theorem dL_law_1119 : decode cL_law 1119 = .ok (.iconst 1, 1) := by decide +kernel
theorem dL_law_1120 : decode cL_law 1120 = .ok (.iadd, 1) := by decide +kernel
theorem dL_law_1121 : decode cL_law 1121 = .ok (.iaload, 1) := by decide +kernel
theorem dL_law_1122 : decode cL_law 1122 = .ok (.aload_n 0, 1) := by decide +kernel
theorem dL_law_1123 : decode cL_law 1123 = .ok (.iload_n 3, 1) := by decide +kernel
theorem dL_law_1124 : decode cL_law 1124 = .ok (.iconst 2, 1) := by decide +kernel
theorem dL_law_1125 : decode cL_law 1125 = .ok (.iadd, 1) := by decide +kernel
theorem dL_law_1126 : decode cL_law 1126 = .ok (.iaload, 1) := by decide +kernel
theorem dL_law_1127 : decode cL_law 1127 = .ok (.aload_n 0, 1) := by decide +kernel
theorem dL_law_1128 : decode cL_law 1128 = .ok (.iload_n 3, 1) := by decide +kernel
theorem dL_law_1129 : decode cL_law 1129 = .ok (.iconst 3, 1) := by decide +kernel
theorem dL_law_1130 : decode cL_law 1130 = .ok (.iadd, 1) := by decide +kernel
theorem dL_law_1131 : decode cL_law 1131 = .ok (.iaload, 1) := by decide +kernel
theorem dL_law_1132 : decode cL_law 1132 = .ok (.aload_n 0, 1) := by decide +kernel
theorem dL_law_1133 : decode cL_law 1133 = .ok (.iload_n 3, 1) := by decide +kernel
theorem dL_law_1134 : decode cL_law 1134 = .ok (.iconst 4, 1) := by decide +kernel
theorem dL_law_1135 : decode cL_law 1135 = .ok (.iadd, 1) := by decide +kernel
theorem dL_law_1136 : decode cL_law 1136 = .ok (.iaload, 1) := by decide +kernel
theorem dL_law_1137 : decode cL_law 1137 = .ok (.invokevirtual 134, 3) := by decide +kernel
theorem dL_law_1140 : decode cL_law 1140 = .ok (.aload_n 2, 1) := by decide +kernel
theorem dL_law_1141 : decode cL_law 1141 = .ok (.aload_n 0, 1) := by decide +kernel
theorem dL_law_1142 : decode cL_law 1142 = .ok (.iload_n 3, 1) := by decide +kernel
theorem dL_law_1143 : decode cL_law 1143 = .ok (.iconst 1, 1) := by decide +kernel
theorem dL_law_1144 : decode cL_law 1144 = .ok (.iadd, 1) := by decide +kernel
theorem dL_law_1145 : decode cL_law 1145 = .ok (.iaload, 1) := by decide +kernel
theorem dL_law_1146 : decode cL_law 1146 = .ok (.aload_n 0, 1) := by decide +kernel
theorem dL_law_1147 : decode cL_law 1147 = .ok (.iload_n 3, 1) := by decide +kernel
theorem dL_law_1148 : decode cL_law 1148 = .ok (.iconst 2, 1) := by decide +kernel
theorem dL_law_1149 : decode cL_law 1149 = .ok (.iadd, 1) := by decide +kernel
theorem dL_law_1150 : decode cL_law 1150 = .ok (.iaload, 1) := by decide +kernel
theorem dL_law_1151 : decode cL_law 1151 = .ok (.aload_n 0, 1) := by decide +kernel
theorem dL_law_1152 : decode cL_law 1152 = .ok (.iload_n 3, 1) := by decide +kernel
theorem dL_law_1153 : decode cL_law 1153 = .ok (.iconst 3, 1) := by decide +kernel
theorem dL_law_1154 : decode cL_law 1154 = .ok (.iadd, 1) := by decide +kernel
theorem dL_law_1155 : decode cL_law 1155 = .ok (.iaload, 1) := by decide +kernel
theorem dL_law_1156 : decode cL_law 1156 = .ok (.aload_n 0, 1) := by decide +kernel
theorem dL_law_1157 : decode cL_law 1157 = .ok (.iload_n 3, 1) := by decide +kernel
theorem dL_law_1158 : decode cL_law 1158 = .ok (.iconst 4, 1) := by decide +kernel
theorem dL_law_1159 : decode cL_law 1159 = .ok (.iadd, 1) := by decide +kernel
theorem dL_law_1160 : decode cL_law 1160 = .ok (.iaload, 1) := by decide +kernel
theorem dL_law_1161 : decode cL_law 1161 = .ok (.invokevirtual 138, 3) := by decide +kernel
theorem dL_law_1164 : decode cL_law 1164 = .ok (.if_icmp .eq 181, 3) := by decide +kernel
theorem dL_law_1167 : decode cL_law 1167 = .ok (.iconst 0, 1) := by decide +kernel
theorem dL_law_1168 : decode cL_law 1168 = .ok (.ireturn, 1) := by decide +kernel
theorem dL_law_1169 : decode cL_law 1169 = .ok (.aload_n 1, 1) := by decide +kernel
theorem dL_law_1170 : decode cL_law 1170 = .ok (.aload_n 0, 1) := by decide +kernel
theorem dL_law_1171 : decode cL_law 1171 = .ok (.iload_n 3, 1) := by decide +kernel
theorem dL_law_1172 : decode cL_law 1172 = .ok (.iconst 1, 1) := by decide +kernel
theorem dL_law_1173 : decode cL_law 1173 = .ok (.iadd, 1) := by decide +kernel
theorem dL_law_1174 : decode cL_law 1174 = .ok (.iaload, 1) := by decide +kernel
theorem dL_law_1175 : decode cL_law 1175 = .ok (.aload_n 0, 1) := by decide +kernel
theorem dL_law_1176 : decode cL_law 1176 = .ok (.iload_n 3, 1) := by decide +kernel
theorem dL_law_1177 : decode cL_law 1177 = .ok (.iconst 2, 1) := by decide +kernel
theorem dL_law_1178 : decode cL_law 1178 = .ok (.iadd, 1) := by decide +kernel
theorem dL_law_1179 : decode cL_law 1179 = .ok (.iaload, 1) := by decide +kernel
theorem dL_law_1180 : decode cL_law 1180 = .ok (.aload_n 0, 1) := by decide +kernel
theorem dL_law_1181 : decode cL_law 1181 = .ok (.iload_n 3, 1) := by decide +kernel
theorem dL_law_1182 : decode cL_law 1182 = .ok (.iconst 3, 1) := by decide +kernel
theorem dL_law_1183 : decode cL_law 1183 = .ok (.iadd, 1) := by decide +kernel
theorem dL_law_1184 : decode cL_law 1184 = .ok (.iaload, 1) := by decide +kernel
theorem dL_law_1185 : decode cL_law 1185 = .ok (.invokevirtual 139, 3) := by decide +kernel
theorem dL_law_1188 : decode cL_law 1188 = .ok (.aload_n 2, 1) := by decide +kernel
theorem dL_law_1189 : decode cL_law 1189 = .ok (.aload_n 0, 1) := by decide +kernel
theorem dL_law_1190 : decode cL_law 1190 = .ok (.iload_n 3, 1) := by decide +kernel
theorem dL_law_1191 : decode cL_law 1191 = .ok (.iconst 1, 1) := by decide +kernel
theorem dL_law_1192 : decode cL_law 1192 = .ok (.iadd, 1) := by decide +kernel
theorem dL_law_1193 : decode cL_law 1193 = .ok (.iaload, 1) := by decide +kernel
theorem dL_law_1194 : decode cL_law 1194 = .ok (.aload_n 0, 1) := by decide +kernel
theorem dL_law_1195 : decode cL_law 1195 = .ok (.iload_n 3, 1) := by decide +kernel
theorem dL_law_1196 : decode cL_law 1196 = .ok (.iconst 2, 1) := by decide +kernel
theorem dL_law_1197 : decode cL_law 1197 = .ok (.iadd, 1) := by decide +kernel
theorem dL_law_1198 : decode cL_law 1198 = .ok (.iaload, 1) := by decide +kernel
theorem dL_law_1199 : decode cL_law 1199 = .ok (.aload_n 0, 1) := by decide +kernel
theorem dL_law_1200 : decode cL_law 1200 = .ok (.iload_n 3, 1) := by decide +kernel
theorem dL_law_1201 : decode cL_law 1201 = .ok (.iconst 3, 1) := by decide +kernel
theorem dL_law_1202 : decode cL_law 1202 = .ok (.iadd, 1) := by decide +kernel
theorem dL_law_1203 : decode cL_law 1203 = .ok (.iaload, 1) := by decide +kernel
theorem dL_law_1204 : decode cL_law 1204 = .ok (.invokevirtual 142, 3) := by decide +kernel
theorem dL_law_1207 : decode cL_law 1207 = .ok (.if_icmp .eq 138, 3) := by decide +kernel
theorem dL_law_1210 : decode cL_law 1210 = .ok (.iconst 0, 1) := by decide +kernel
theorem dL_law_1211 : decode cL_law 1211 = .ok (.ireturn, 1) := by decide +kernel
theorem dL_law_1212 : decode cL_law 1212 = .ok (.aload_n 1, 1) := by decide +kernel
theorem dL_law_1213 : decode cL_law 1213 = .ok (.aload_n 0, 1) := by decide +kernel
theorem dL_law_1214 : decode cL_law 1214 = .ok (.iload_n 3, 1) := by decide +kernel
theorem dL_law_1215 : decode cL_law 1215 = .ok (.iconst 1, 1) := by decide +kernel
theorem dL_law_1216 : decode cL_law 1216 = .ok (.iadd, 1) := by decide +kernel
theorem dL_law_1217 : decode cL_law 1217 = .ok (.iaload, 1) := by decide +kernel
theorem dL_law_1218 : decode cL_law 1218 = .ok (.aload_n 0, 1) := by decide +kernel
theorem dL_law_1219 : decode cL_law 1219 = .ok (.iload_n 3, 1) := by decide +kernel
theorem dL_law_1220 : decode cL_law 1220 = .ok (.iconst 2, 1) := by decide +kernel
theorem dL_law_1221 : decode cL_law 1221 = .ok (.iadd, 1) := by decide +kernel
theorem dL_law_1222 : decode cL_law 1222 = .ok (.iaload, 1) := by decide +kernel
theorem dL_law_1223 : decode cL_law 1223 = .ok (.aload_n 0, 1) := by decide +kernel
theorem dL_law_1224 : decode cL_law 1224 = .ok (.iload_n 3, 1) := by decide +kernel
theorem dL_law_1225 : decode cL_law 1225 = .ok (.iconst 3, 1) := by decide +kernel
theorem dL_law_1226 : decode cL_law 1226 = .ok (.iadd, 1) := by decide +kernel
theorem dL_law_1227 : decode cL_law 1227 = .ok (.iaload, 1) := by decide +kernel
theorem dL_law_1228 : decode cL_law 1228 = .ok (.aload_n 0, 1) := by decide +kernel
theorem dL_law_1229 : decode cL_law 1229 = .ok (.iload_n 3, 1) := by decide +kernel
theorem dL_law_1230 : decode cL_law 1230 = .ok (.iconst 4, 1) := by decide +kernel
theorem dL_law_1231 : decode cL_law 1231 = .ok (.iadd, 1) := by decide +kernel
theorem dL_law_1232 : decode cL_law 1232 = .ok (.iaload, 1) := by decide +kernel
theorem dL_law_1233 : decode cL_law 1233 = .ok (.aload_n 0, 1) := by decide +kernel
theorem dL_law_1234 : decode cL_law 1234 = .ok (.iload_n 3, 1) := by decide +kernel
theorem dL_law_1235 : decode cL_law 1235 = .ok (.iconst 5, 1) := by decide +kernel
theorem dL_law_1236 : decode cL_law 1236 = .ok (.iadd, 1) := by decide +kernel
theorem dL_law_1237 : decode cL_law 1237 = .ok (.iaload, 1) := by decide +kernel
theorem dL_law_1238 : decode cL_law 1238 = .ok (.invokevirtual 143, 3) := by decide +kernel
theorem dL_law_1241 : decode cL_law 1241 = .ok (.aload_n 2, 1) := by decide +kernel
theorem dL_law_1242 : decode cL_law 1242 = .ok (.aload_n 0, 1) := by decide +kernel
theorem dL_law_1243 : decode cL_law 1243 = .ok (.iload_n 3, 1) := by decide +kernel
theorem dL_law_1244 : decode cL_law 1244 = .ok (.iconst 1, 1) := by decide +kernel
theorem dL_law_1245 : decode cL_law 1245 = .ok (.iadd, 1) := by decide +kernel
theorem dL_law_1246 : decode cL_law 1246 = .ok (.iaload, 1) := by decide +kernel
theorem dL_law_1247 : decode cL_law 1247 = .ok (.aload_n 0, 1) := by decide +kernel
theorem dL_law_1248 : decode cL_law 1248 = .ok (.iload_n 3, 1) := by decide +kernel
theorem dL_law_1249 : decode cL_law 1249 = .ok (.iconst 2, 1) := by decide +kernel
theorem dL_law_1250 : decode cL_law 1250 = .ok (.iadd, 1) := by decide +kernel
theorem dL_law_1251 : decode cL_law 1251 = .ok (.iaload, 1) := by decide +kernel
theorem dL_law_1252 : decode cL_law 1252 = .ok (.aload_n 0, 1) := by decide +kernel
theorem dL_law_1253 : decode cL_law 1253 = .ok (.iload_n 3, 1) := by decide +kernel
theorem dL_law_1254 : decode cL_law 1254 = .ok (.iconst 3, 1) := by decide +kernel
theorem dL_law_1255 : decode cL_law 1255 = .ok (.iadd, 1) := by decide +kernel
theorem dL_law_1256 : decode cL_law 1256 = .ok (.iaload, 1) := by decide +kernel
theorem dL_law_1257 : decode cL_law 1257 = .ok (.aload_n 0, 1) := by decide +kernel
theorem dL_law_1258 : decode cL_law 1258 = .ok (.iload_n 3, 1) := by decide +kernel
theorem dL_law_1259 : decode cL_law 1259 = .ok (.iconst 4, 1) := by decide +kernel
theorem dL_law_1260 : decode cL_law 1260 = .ok (.iadd, 1) := by decide +kernel
theorem dL_law_1261 : decode cL_law 1261 = .ok (.iaload, 1) := by decide +kernel
theorem dL_law_1262 : decode cL_law 1262 = .ok (.aload_n 0, 1) := by decide +kernel
theorem dL_law_1263 : decode cL_law 1263 = .ok (.iload_n 3, 1) := by decide +kernel
theorem dL_law_1264 : decode cL_law 1264 = .ok (.iconst 5, 1) := by decide +kernel
theorem dL_law_1265 : decode cL_law 1265 = .ok (.iadd, 1) := by decide +kernel
theorem dL_law_1266 : decode cL_law 1266 = .ok (.iaload, 1) := by decide +kernel
theorem dL_law_1267 : decode cL_law 1267 = .ok (.invokevirtual 146, 3) := by decide +kernel
theorem dL_law_1270 : decode cL_law 1270 = .ok (.if_icmp .eq 75, 3) := by decide +kernel
theorem dL_law_1273 : decode cL_law 1273 = .ok (.iconst 0, 1) := by decide +kernel
theorem dL_law_1274 : decode cL_law 1274 = .ok (.ireturn, 1) := by decide +kernel
theorem dL_law_1275 : decode cL_law 1275 = .ok (.aload_n 1, 1) := by decide +kernel
theorem dL_law_1276 : decode cL_law 1276 = .ok (.aload_n 0, 1) := by decide +kernel
theorem dL_law_1277 : decode cL_law 1277 = .ok (.iload_n 3, 1) := by decide +kernel
theorem dL_law_1278 : decode cL_law 1278 = .ok (.iconst 1, 1) := by decide +kernel
theorem dL_law_1279 : decode cL_law 1279 = .ok (.iadd, 1) := by decide +kernel
theorem dL_law_1280 : decode cL_law 1280 = .ok (.iaload, 1) := by decide +kernel
theorem dL_law_1281 : decode cL_law 1281 = .ok (.aload_n 0, 1) := by decide +kernel
theorem dL_law_1282 : decode cL_law 1282 = .ok (.iload_n 3, 1) := by decide +kernel
theorem dL_law_1283 : decode cL_law 1283 = .ok (.iconst 2, 1) := by decide +kernel
theorem dL_law_1284 : decode cL_law 1284 = .ok (.iadd, 1) := by decide +kernel
theorem dL_law_1285 : decode cL_law 1285 = .ok (.iaload, 1) := by decide +kernel
theorem dL_law_1286 : decode cL_law 1286 = .ok (.invokevirtual 147, 3) := by decide +kernel
theorem dL_law_1289 : decode cL_law 1289 = .ok (.aload_n 2, 1) := by decide +kernel
theorem dL_law_1290 : decode cL_law 1290 = .ok (.aload_n 0, 1) := by decide +kernel
theorem dL_law_1291 : decode cL_law 1291 = .ok (.iload_n 3, 1) := by decide +kernel
theorem dL_law_1292 : decode cL_law 1292 = .ok (.iconst 1, 1) := by decide +kernel
theorem dL_law_1293 : decode cL_law 1293 = .ok (.iadd, 1) := by decide +kernel
theorem dL_law_1294 : decode cL_law 1294 = .ok (.iaload, 1) := by decide +kernel
theorem dL_law_1295 : decode cL_law 1295 = .ok (.aload_n 0, 1) := by decide +kernel
theorem dL_law_1296 : decode cL_law 1296 = .ok (.iload_n 3, 1) := by decide +kernel
theorem dL_law_1297 : decode cL_law 1297 = .ok (.iconst 2, 1) := by decide +kernel
theorem dL_law_1298 : decode cL_law 1298 = .ok (.iadd, 1) := by decide +kernel
theorem dL_law_1299 : decode cL_law 1299 = .ok (.iaload, 1) := by decide +kernel
theorem dL_law_1300 : decode cL_law 1300 = .ok (.invokevirtual 150, 3) := by decide +kernel
theorem dL_law_1303 : decode cL_law 1303 = .ok (.if_icmp .eq 42, 3) := by decide +kernel
theorem dL_law_1306 : decode cL_law 1306 = .ok (.iconst 0, 1) := by decide +kernel
theorem dL_law_1307 : decode cL_law 1307 = .ok (.ireturn, 1) := by decide +kernel
theorem dL_law_1308 : decode cL_law 1308 = .ok (.aload_n 1, 1) := by decide +kernel
theorem dL_law_1309 : decode cL_law 1309 = .ok (.aload_n 0, 1) := by decide +kernel
theorem dL_law_1310 : decode cL_law 1310 = .ok (.iload_n 3, 1) := by decide +kernel
theorem dL_law_1311 : decode cL_law 1311 = .ok (.iconst 1, 1) := by decide +kernel
theorem dL_law_1312 : decode cL_law 1312 = .ok (.iadd, 1) := by decide +kernel
theorem dL_law_1313 : decode cL_law 1313 = .ok (.iaload, 1) := by decide +kernel
theorem dL_law_1314 : decode cL_law 1314 = .ok (.invokevirtual 151, 3) := by decide +kernel
theorem dL_law_1317 : decode cL_law 1317 = .ok (.aload_n 2, 1) := by decide +kernel
theorem dL_law_1318 : decode cL_law 1318 = .ok (.aload_n 0, 1) := by decide +kernel
theorem dL_law_1319 : decode cL_law 1319 = .ok (.iload_n 3, 1) := by decide +kernel
theorem dL_law_1320 : decode cL_law 1320 = .ok (.iconst 1, 1) := by decide +kernel
theorem dL_law_1321 : decode cL_law 1321 = .ok (.iadd, 1) := by decide +kernel
theorem dL_law_1322 : decode cL_law 1322 = .ok (.iaload, 1) := by decide +kernel
theorem dL_law_1323 : decode cL_law 1323 = .ok (.invokevirtual 154, 3) := by decide +kernel
theorem dL_law_1326 : decode cL_law 1326 = .ok (.if_icmp .eq 19, 3) := by decide +kernel
theorem dL_law_1329 : decode cL_law 1329 = .ok (.iconst 0, 1) := by decide +kernel
theorem dL_law_1330 : decode cL_law 1330 = .ok (.ireturn, 1) := by decide +kernel
theorem dL_law_1331 : decode cL_law 1331 = .ok (.aload_n 1, 1) := by decide +kernel
theorem dL_law_1332 : decode cL_law 1332 = .ok (.invokevirtual 155, 3) := by decide +kernel
theorem dL_law_1335 : decode cL_law 1335 = .ok (.aload_n 2, 1) := by decide +kernel
theorem dL_law_1336 : decode cL_law 1336 = .ok (.invokevirtual 159, 3) := by decide +kernel
theorem dL_law_1339 : decode cL_law 1339 = .ok (.lcmp, 1) := by decide +kernel
theorem dL_law_1340 : decode cL_law 1340 = .ok (.ifCond .eq 5, 3) := by decide +kernel
theorem dL_law_1343 : decode cL_law 1343 = .ok (.iconst 0, 1) := by decide +kernel
theorem dL_law_1344 : decode cL_law 1344 = .ok (.ireturn, 1) := by decide +kernel
theorem dL_law_1345 : decode cL_law 1345 = .ok (.iinc 3 6, 3) := by decide +kernel
theorem dL_law_1348 : decode cL_law 1348 = .ok (.goto (-1330), 3) := by decide +kernel
theorem dL_law_1351 : decode cL_law 1351 = .ok (.iconst 1, 1) := by decide +kernel
theorem dL_law_1352 : decode cL_law 1352 = .ok (.ireturn, 1) := by decide +kernel
end
section
/-! ===== the layer: a world of fixed shape, its contents as whole numbers ===== -/
abbrev zV : Type := Int ⊕ (Int ⊕ Nat)
abbrev zI (x : Int) : zV := .inl x
abbrev zL (x : Int) : zV := .inr (.inl x)
abbrev zR (k : Nat) : zV := .inr (.inr k)
abbrev zS : Type := Nat → Nat → Int
abbrev zSh : Type := Nat × Nat × List (Option Nat)
def z32 (x : Int) : Prop := -2147483648 ≤ x ∧ x ≤ 2147483647
def z64 (x : Int) : Prop := -9223372036854775808 ≤ x ∧ x ≤ 9223372036854775807
def zTv (ad : Nat → Nat) (v : zV) : Value := match v with
  | .inl x => .int (Int32.ofInt x)
  | .inr (.inl x) => .long (Int64.ofInt x)
  | .inr (.inr k) => .ref (ad k)
def zOv (v : zV) : Prop := match v with
  | .inl x => z32 x
  | .inr (.inl x) => z64 x
  | .inr (.inr _) => True
def zUp (σ : zS) (k i : Nat) (v : Int) : zS := fun a => if a = k then (fun b => if b = i then v else σ k b) else σ a
def zFs (ad : Nat → Nat) (f : Nat → Int) : Nat → List (Option Nat) → List Value
  | _, [] => []
  | j, some q :: rs => .ref (ad q) :: zFs ad f (j + 1) rs
  | j, none :: rs => .int (Int32.ofInt (f j)) :: zFs ad f (j + 1) rs
def zCell (cA : Nat → ClassId) (ad : Nat → Nat) (f : Nat → Int) (sh : zSh) : va_E := match sh with
  | (0, ci, rs) => .inr (ci, zFs ad f 0 rs)
  | (1, n, _) => .inl (cA 0, n, .inl (fun j => Int32.ofInt (f j)))
  | (2, n, _) => .inl (cA 1, n, .inr (.inl (fun j => Int64.ofInt (f j))))
  | (3, n, _) => .inl (cA 2, n, .inl (fun j => Int32.ofInt (f j)))
  | (_, n, rs) => .inl (cA 3, n, .inr (.inr (.inr (.inr (fun j => (rs.getD j none).map ad)))))
def zAt (Λ : List zSh) (k : Nat) : zSh := Λ.getD k (1, 0, [])
def zWs (Λ : List zSh) (cA : Nat → ClassId) (ad : Nat → Nat) (σ : zS) : va_W := (List.range Λ.length).map (fun k => (ad k, zCell cA ad (σ k) (zAt Λ k)))
def zTy (cA : Nat → ClassId) : List (ClassId × FieldType) := [(cA 0, .int), (cA 1, .long), (cA 2, .boolean), (cA 3, .object "WalkingTown$Sheet")]
def zOk (Λ : List zSh) (σ : zS) : Prop := ∀ k j, z64 (σ k j) ∧ ((zAt Λ k).1 ≠ 2 → z32 (σ k j))
def zIsN (w : Cond) : Bool := match w with
  | .fieldLinkNest .. => true
  | .methodLinkNest .. => true
  | _ => false
def zG : List Cond := lw_tbl.filter goodWord
def zN : List Cond := lw_tbl.filter zIsN
theorem zG_in {w : Cond} (i : Nat) (h : lw_tbl[i]? = some w) (hg : goodWord w = true) : w ∈ zG := List.mem_filter.mpr ⟨List.mem_of_getElem? h, hg⟩
theorem zN_in {w : Cond} (i : Nat) (h : lw_tbl[i]? = some w) (hg : zIsN w = true) : w ∈ zN := List.mem_filter.mpr ⟨List.mem_of_getElem? h, hg⟩
theorem zN_tab {w : Cond} (h : w ∈ zN) : w.onTables = true := by
  have h2 := (List.mem_filter.mp h).2
  cases w <;> first | rfl | (simp [zIsN] at h2)
theorem zN_warm {s U : State} (hW : s.WarmedH U.vm) (h : ∀ w ∈ zN, va_Nw w s) : ∀ w ∈ zN, va_Nw w U := by
  intro w hw
  have h2 := (List.mem_filter.mp hw).2
  have h3 := h w hw
  cases w with
  | fieldLinkNest a i b n d hh => exact va_Nw.warmF hW h3
  | methodLinkNest a i x hh => exact va_Nw.warmM hW h3
  | _ => simp [zIsN] at h2
abbrev zM : Type := MethodName × ByteArray × Nat × Option FieldType × Nat × Nat
def zWd (M : zM) : List Cond := Cond.code M.1 M.2.1 M.2.2.1 M.2.2.2.1 :: zG
def zRm (M : zM) : Room := { frames := M.2.2.2.2.1, cells := 0, slots := 0, locals := M.2.2.2.2.2 }
def zLs (ad : Nat → Nat) (ls : Array Slot) (nL : Nat) (L : List (Option zV)) : Prop := ls.size = nL ∧ lv_wf ls ∧ ∀ (i : Nat) (v : zV), L[i]? = some (some v) → ls[i]? = some (.val (zTv ad v))
def zCx (M : zM) (p : Program) (s : State) (m : MethodId) (args : Array Value) (meth : Method) (c : Code) (D : va_G) (cA : Nat → ClassId) : Prop :=
  p.tables.exec = Jvm.exec ∧ c.code = M.2.1 ∧ meth.sig.returnType = M.2.2.2.1 ∧ c.maxLocals = M.2.2.1 ∧ s.vm.findClass M.1.cls = some m.cls ∧ (∀ w ∈ zG, w.before args s = true) ∧ (∀ w ∈ zN, va_Nw w s) ∧ meth.locks = false ∧ va_K D vwCl (zTy cA) s
def zA (Λ : List zSh) (ad : Nat → Nat) : Nat → Prop := fun q => ∃ k, k < Λ.length ∧ q = ad k
def zInj (Λ : List zSh) (ad : Nat → Nat) : Prop := ∀ i j, i < Λ.length → j < Λ.length → ad i = ad j → i = j
def zOo (r : Option zV) : Prop := match r with
  | none => True
  | some v => zOv v
def zQc (Λ : List zSh) (D : va_G) (cA : Nat → ClassId) (ad : Nat → Nat) (Q : Option zV → zS → Prop) : Array Value → State → Outcome → State → Prop := fun _ st oc t =>
  (∃ (r : Option zV) (σ' : zS), oc = .returned (r.map (zTv ad)) ∧ Q r σ' ∧ zOo r ∧ zOk Λ σ' ∧ va_P D vwCl (zWs Λ cA ad σ') t.heap) ∧ va_F (zA Λ ad) st t
def zPc (Λ : List zSh) (D : va_G) (cA : Nat → ClassId) (ad : Nat → Nat) (as : List zV) (σ : zS) : Array Value → State → Prop :=
  va_Pc (as.map (zTv ad)) (fun U => va_P D vwCl (zWs Λ cA ad σ) U.heap ∧ va_K D vwCl (zTy cA) U ∧ ∀ w ∈ zN, va_Nw w U)
/-- from the frame at pc, with these locals, this stack and this world, the method comes to its end with Q -/
def zW (Λ : List zSh) (M : zM) (pc : Nat) (L : List (Option zV)) (st : List zV) (σ : zS) (Q : Option zV → zS → Prop) : Prop :=
  ∀ (p : Program) (l : Launch) (e : Env) (s : State) (m : MethodId) (args : Array Value) (below : List Frame) (meth : Method) (c : Code) (D : va_G) (cA : Nat → ClassId) (ad : Nat → Nat),
    zCx M p s m args meth c D cA → zInj Λ ad → zOk Λ σ → (∀ v, some v ∈ L → zOv v) → (∀ v ∈ st, zOv v) →
    ∀ (H : Heap) (locs : List Loc) (ls : Array Slot), va_P D vwCl (zWs Λ cA ad σ) H → va_S (zA Λ ad) s.heap H locs → zLs ad ls M.2.2.1 L →
      W p l e (zRm M) s m args below meth c H locs 0 0 (MQ below (zQc Λ D cA ad Q) args s 0 0 (zA Λ ad)) (F0 m pc ls (st.map (zTv ad)))
/-- a method's contract -/
def zSpec (Λ : List zSh) (M : zM) (as : List zV) (σ : zS) (Q : Option zV → zS → Prop) : Prop :=
  ∀ (l : Launch) (D : va_G) (cA : Nat → ClassId) (ad : Nat → Nat), zInj Λ ad → (∀ v ∈ as, zOv v) → zOk Λ σ →
    Met l M.1 (zWd M) (zRm M) (zPc Λ D cA ad as σ) (zQc Λ D cA ad Q) 0 0 (zA Λ ad)

-- ---- the world's list
theorem zWs_at {Λ : List zSh} {k : Nat} {sh : zSh} (h : Λ[k]? = some sh) (cA : Nat → ClassId) (ad : Nat → Nat) (σ : zS) : (zWs Λ cA ad σ)[k]? = some (ad k, zCell cA ad (σ k) sh) := by
  have hk : k < Λ.length := (List.getElem?_eq_some_iff.mp h).1
  have h2 : zAt Λ k = sh := by simp [zAt, h]
  simp [zWs, hk, h2]
theorem zAt_of {Λ : List zSh} {k : Nat} {sh : zSh} (h : Λ[k]? = some sh) : zAt Λ k = sh := by simp [zAt, h]
theorem zD {Λ : List zSh} {cA : Nat → ClassId} {ad : Nat → Nat} {σ : zS} (hI : zInj Λ ad) : va_D (zA Λ ad) (zWs Λ cA ad σ) := by
  have key : ∀ (k : Nat) (q : Nat × va_E), (zWs Λ cA ad σ)[k]? = some q → k < Λ.length ∧ q.1 = ad k := by
    intro k q hq
    have hk : k < Λ.length := by
      have := (List.getElem?_eq_some_iff.mp hq).1
      simpa [zWs] using this
    simp [zWs, hk] at hq
    exact ⟨hk, by rw [← hq]⟩
  refine ⟨fun i j p q hi hj hpq => ?_, fun k q hq => ⟨k, key k q hq⟩⟩
  obtain ⟨h1, h2⟩ := key i p hi
  obtain ⟨h3, h4⟩ := key j q hj
  exact hI i j h1 h3 (by rw [← h2, ← h4, hpq])
theorem zWs_set {Λ : List zSh} {k : Nat} {sh : zSh} (h : Λ[k]? = some sh) (cA : Nat → ClassId) (ad : Nat → Nat) (σ : zS) (g : Nat → Int) :
    (zWs Λ cA ad σ).set k (ad k, zCell cA ad g sh) = zWs Λ cA ad (fun a => if a = k then g else σ a) := by
  have hk : k < Λ.length := (List.getElem?_eq_some_iff.mp h).1
  apply List.ext_getElem?
  intro j
  by_cases hj : k = j
  · subst hj
    rw [List.getElem?_set_self (by simpa [zWs] using hk), zWs_at h]
    simp
  · rw [List.getElem?_set_ne hj]
    by_cases hl : j < Λ.length
    · have hj2 : ¬ j = k := fun q => hj q.symm
      simp [zWs, hl, hj2]
    · have h1 : (zWs Λ cA ad σ).length ≤ j := by simp [zWs]; omega
      have h2 : (zWs Λ cA ad (fun a => if a = k then g else σ a)).length ≤ j := by simp [zWs]; omega
      rw [List.getElem?_eq_none h1, List.getElem?_eq_none h2]
theorem zFs_len (ad : Nat → Nat) (f : Nat → Int) : ∀ (rs : List (Option Nat)) (j : Nat), (zFs ad f j rs).length = rs.length
  | [], _ => rfl
  | some _ :: rs, j => by simp [zFs, zFs_len ad f rs]
  | none :: rs, j => by simp [zFs, zFs_len ad f rs]
theorem zFs_ref (ad : Nat → Nat) (f : Nat → Int) : ∀ (rs : List (Option Nat)) (j i q : Nat), rs[i]? = some (some q) → (zFs ad f j rs)[i]? = some (.ref (ad q))
  | [], _, _, _, h => by simp at h
  | o :: rs, j, 0, q, h => by
    simp at h
    subst h
    rfl
  | some a :: rs, j, i + 1, q, h => by
    rw [List.getElem?_cons_succ] at h
    simpa [zFs] using zFs_ref ad f rs (j + 1) i q h
  | none :: rs, j, i + 1, q, h => by
    rw [List.getElem?_cons_succ] at h
    simpa [zFs] using zFs_ref ad f rs (j + 1) i q h
theorem zFs_int (ad : Nat → Nat) (f : Nat → Int) : ∀ (rs : List (Option Nat)) (j i : Nat), rs[i]? = some none → (zFs ad f j rs)[i]? = some (.int (Int32.ofInt (f (j + i))))
  | [], _, _, h => by simp at h
  | o :: rs, j, 0, h => by
    simp at h
    subst h
    rfl
  | some a :: rs, j, i + 1, h => by
    rw [List.getElem?_cons_succ] at h
    have := zFs_int ad f rs (j + 1) i h
    simp only [zFs, List.getElem?_cons_succ]
    rw [this, show j + 1 + i = j + (i + 1) by omega]
  | none :: rs, j, i + 1, h => by
    rw [List.getElem?_cons_succ] at h
    have := zFs_int ad f rs (j + 1) i h
    simp only [zFs, List.getElem?_cons_succ]
    rw [this, show j + 1 + i = j + (i + 1) by omega]
theorem zFs_same (ad : Nat → Nat) (f g : Nat → Int) : ∀ (rs : List (Option Nat)) (j : Nat), (∀ i, j ≤ i → f i = g i) → zFs ad f j rs = zFs ad g j rs
  | [], _, _ => rfl
  | some a :: rs, j, h => by simp only [zFs]; rw [zFs_same ad f g rs (j + 1) (fun i hi => h i (by omega))]
  | none :: rs, j, h => by simp only [zFs]; rw [zFs_same ad f g rs (j + 1) (fun i hi => h i (by omega)), h j (Nat.le_refl j)]
theorem zFs_set (ad : Nat → Nat) (v : Int) : ∀ (rs : List (Option Nat)) (f : Nat → Int) (j i : Nat), rs[i]? = some none → (zFs ad f j rs).set i (.int (Int32.ofInt v)) = zFs ad (fun b => if b = j + i then v else f b) j rs
  | [], _, _, _, h => by simp at h
  | o :: rs, f, j, 0, h => by
    simp at h
    subst h
    simp only [zFs, List.set_cons_zero, Nat.add_zero]
    rw [zFs_same ad f (fun b => if b = j then v else f b) rs (j + 1) (fun i hi => by rw [if_neg (by omega)]), if_pos trivial]
  | some a :: rs, f, j, i + 1, h => by
    rw [List.getElem?_cons_succ] at h
    simp only [zFs, List.set_cons_succ]
    rw [zFs_set ad v rs f (j + 1) i h, show j + 1 + i = j + (i + 1) by omega]
  | none :: rs, f, j, i + 1, h => by
    rw [List.getElem?_cons_succ] at h
    simp only [zFs, List.set_cons_succ]
    rw [zFs_set ad v rs f (j + 1) i h, show j + 1 + i = j + (i + 1) by omega, if_neg (by omega)]
-- ---- numbers
theorem zi_T {x : Int} (h : z32 x) : (Int32.ofInt x).toInt = x := Int32.toInt_ofInt_of_le (by have := h.1; omega) (by have := h.2; omega)
theorem zl_T {x : Int} (h : z64 x) : (Int64.ofInt x).toInt = x := Int64.toInt_ofInt_of_le (by have := h.1; omega) (by have := h.2; omega)
theorem zi_lt {x y : Int} (hx : z32 x) (hy : z32 y) : Int32.ofInt x < Int32.ofInt y ↔ x < y := by rw [Int32.lt_iff_toInt_lt, zi_T hx, zi_T hy]
theorem zi_le {x y : Int} (hx : z32 x) (hy : z32 y) : Int32.ofInt x ≤ Int32.ofInt y ↔ x ≤ y := by rw [Int32.le_iff_toInt_le, zi_T hx, zi_T hy]
theorem zi_eq {x y : Int} (hx : z32 x) (hy : z32 y) : Int32.ofInt x = Int32.ofInt y ↔ x = y := by rw [← Int32.toInt_inj, zi_T hx, zi_T hy]
theorem zi_c {x : Int} (h : z32 x) : (Int32.ofInt x).toNatClampNeg = x.toNat := by rw [Int32.toNatClampNeg, zi_T h]
theorem zi_in {x : Int} {n : Nat} (h : z32 x) (h0 : 0 ≤ x) (h1 : x < n) : vp_in (Int32.ofInt x) n := vp_in_iff.mpr (by rw [zi_T h]; exact ⟨h0, h1⟩)
theorem z0_32 : z32 0 := ⟨by decide, by decide⟩
theorem zi_0 : Int32.ofInt 0 = 0 := rfl
theorem zi_div {x y : Int} (hx : z32 x) (hy : z32 y) (h0 : 0 ≤ x) (h1 : 0 < y) : Int32.ofInt x / Int32.ofInt y = Int32.ofInt (x / y) := by
  have hq : z32 (x / y) := by
    have a : 0 ≤ x / y := Int.ediv_nonneg h0 (by omega)
    have b : x / y ≤ x := Int.ediv_le_self y h0
    exact ⟨by omega, by have := hx.2; omega⟩
  apply Int32.toInt_inj.mp
  rw [Int32.toInt_div_of_ne_right _ _ (fun h => by rw [← Int32.toInt_inj, zi_T hy] at h; have : (-1 : Int32).toInt = -1 := by decide
                                                   omega), zi_T hx, zi_T hy, zi_T hq, Int.tdiv_eq_ediv_of_nonneg h0]
theorem zi_rem {x y : Int} (hx : z32 x) (hy : z32 y) (h0 : 0 ≤ x) (h1 : 0 < y) : Int32.ofInt x - Int32.ofInt x / Int32.ofInt y * Int32.ofInt y = Int32.ofInt (x % y) := by
  rw [zi_div hx hy h0 h1, ← Int32.ofInt_mul, ← Int32.ofInt_sub]
  congr 1
  have h2 := Int.mul_ediv_add_emod x y
  have h3 : x / y * y = y * (x / y) := Int.mul_comm _ _
  omega
theorem zl_div {x y : Int} (hx : z64 x) (hy : z64 y) (h0 : 0 ≤ x) (h1 : 0 < y) : Int64.ofInt x / Int64.ofInt y = Int64.ofInt (x / y) := by
  have hq : z64 (x / y) := by
    have a : 0 ≤ x / y := Int.ediv_nonneg h0 (by omega)
    have b : x / y ≤ x := Int.ediv_le_self y h0
    exact ⟨by omega, by have := hx.2; omega⟩
  apply Int64.toInt_inj.mp
  rw [Int64.toInt_div_of_ne_right _ _ (fun h => by rw [← Int64.toInt_inj, zl_T hy] at h; have : (-1 : Int64).toInt = -1 := by decide
                                                   omega), zl_T hx, zl_T hy, zl_T hq, Int.tdiv_eq_ediv_of_nonneg h0]
theorem zl_rem {x y : Int} (hx : z64 x) (hy : z64 y) (h0 : 0 ≤ x) (h1 : 0 < y) : Int64.ofInt x - Int64.ofInt x / Int64.ofInt y * Int64.ofInt y = Int64.ofInt (x % y) := by
  rw [zl_div hx hy h0 h1, ← Int64.ofInt_mul, ← Int64.ofInt_sub]
  congr 1
  have h2 := Int.mul_ediv_add_emod x y
  have h3 : x / y * y = y * (x / y) := Int.mul_comm _ _
  omega
/-- longs wrap -/
def zw (x : Int) : Int := Int.bmod x 18446744073709551616
theorem zw_64 (x : Int) : z64 (zw x) := by
  unfold zw z64
  have h1 : -((18446744073709551616 : Nat) : Int) ≤ 2 * Int.bmod x 18446744073709551616 := by have := Int.le_bmod (x := x) (m := 18446744073709551616) (by decide); omega
  have h2 : 2 * Int.bmod x 18446744073709551616 < ((18446744073709551616 : Nat) : Int) := by have := Int.bmod_lt (x := x) (m := 18446744073709551616) (by decide); omega
  omega
theorem zw_of (x : Int) : Int64.ofInt (zw x) = Int64.ofInt x := by
  apply Int64.toInt_inj.mp
  rw [zl_T (zw_64 x), Int64.toInt_ofInt]
  rfl
theorem zw_id {x : Int} (h : z64 x) : zw x = x := by
  have := zw_of x
  rw [← Int64.toInt_inj, zl_T (zw_64 x), zl_T h] at this
  exact this
theorem zi_l {x : Int} (h : z32 x) : (Int32.ofInt x).toInt64 = Int64.ofInt x := by
  apply Int64.toInt_inj.mp
  rw [Int32.toInt_toInt64, zi_T h, zl_T ⟨by have := h.1; omega, by have := h.2; omega⟩]
def zb8 (x : Int) : Int := Int.bmod x 256
def zb16 (x : Int) : Int := Int.bmod x 65536
theorem zb8_32 (x : Int) : z32 (zb8 x) := by
  unfold zb8 z32
  have h1 := Int.le_bmod (x := x) (m := 256) (by decide)
  have h2 := Int.bmod_lt (x := x) (m := 256) (by decide)
  omega
theorem zb16_32 (x : Int) : z32 (zb16 x) := by
  unfold zb16 z32
  have h1 := Int.le_bmod (x := x) (m := 65536) (by decide)
  have h2 := Int.bmod_lt (x := x) (m := 65536) (by decide)
  omega
theorem zi_b {x : Int} (h : z32 x) : (Int32.ofInt x).toInt8.toInt32 = Int32.ofInt (zb8 x) := by
  apply Int32.toInt_inj.mp
  rw [Int8.toInt_toInt32, Int32.toInt_toInt8, zi_T h, zi_T (zb8_32 x)]
  rfl
theorem zi_s {x : Int} (h : z32 x) : (Int32.ofInt x).toInt16.toInt32 = Int32.ofInt (zb16 x) := by
  apply Int32.toInt_inj.mp
  rw [Int16.toInt_toInt32, Int32.toInt_toInt16, zi_T h, zi_T (zb16_32 x)]
  rfl
def zc (x y : Int) : Int := if y < x then 1 else if x = y then 0 else -1
theorem zc_32 (x y : Int) : z32 (zc x y) := by
  unfold zc z32
  split
  · omega
  · split <;> omega
theorem zc_of {x y : Int} (hx : z64 x) (hy : z64 y) : lg_cmp (Int64.ofInt x) (Int64.ofInt y) = Int32.ofInt (zc x y) := by
  unfold lg_cmp zc
  simp only [gt_iff_lt, Int64.lt_iff_toInt_lt, ← Int64.toInt_inj, zl_T hx, zl_T hy]
  split
  · rfl
  · split <;> rfl
end
section
/-! ===== the layer's rules, a row an instruction ===== -/
section zRules
variable {Λ : List zSh} {M : zM} {pc pc' : Nat} {L L' : List (Option zV)} {st : List zV} {σ : zS} {Q : Option zV → zS → Prop}
theorem zOv_c {v : zV} {st : List zV} (hv : zOv v) (h : ∀ w ∈ st, zOv w) : ∀ w ∈ v :: st, zOv w := List.forall_mem_cons.mpr ⟨hv, h⟩
theorem zOv_t {v : zV} {st : List zV} (h : ∀ w ∈ v :: st, zOv w) : ∀ w ∈ st, zOv w := (List.forall_mem_cons.mp h).2
theorem zOv_h {v : zV} {st : List zV} (h : ∀ w ∈ v :: st, zOv w) : zOv v := (List.forall_mem_cons.mp h).1
/-- a step that leaves world and locals, and moves the stack -/
theorem zW_iconst {n : Int} (hd : decode M.2.1 pc = .ok (.iconst n, 1)) (hp : pc + 1 = pc') (hn : z32 n) (k : zW Λ M pc' L (zI n :: st) σ Q) : zW Λ M pc L st σ Q := by
  subst hp
  intro p l e s m args below meth c D cA ad C hI hσ hL hs H locs ls hP hS hl
  exact lv_iconst (v := Int32.ofInt n) C.1 C.2.1 hd rfl (k p l e s m args below meth c D cA ad C hI hσ hL (zOv_c hn hs) H locs ls hP hS hl)
theorem zW_bipush {n : Int} (hd : decode M.2.1 pc = .ok (.bipush n, 2)) (hp : pc + 2 = pc') (hn : z32 n) (he : (Int8.ofInt n).toInt32 = Int32.ofInt n) (k : zW Λ M pc' L (zI n :: st) σ Q) : zW Λ M pc L st σ Q := by
  subst hp
  intro p l e s m args below meth c D cA ad C hI hσ hL hs H locs ls hP hS hl
  exact lv_bipush (v := Int32.ofInt n) C.1 C.2.1 hd he (k p l e s m args below meth c D cA ad C hI hσ hL (zOv_c hn hs) H locs ls hP hS hl)
theorem zW_sipush {n : Int} (hd : decode M.2.1 pc = .ok (.sipush n, 3)) (hp : pc + 3 = pc') (hn : z32 n) (he : (Int16.ofInt n).toInt32 = Int32.ofInt n) (k : zW Λ M pc' L (zI n :: st) σ Q) : zW Λ M pc L st σ Q := by
  subst hp
  intro p l e s m args below meth c D cA ad C hI hσ hL hs H locs ls hP hS hl
  exact lv_sipush (v := Int32.ofInt n) C.1 C.2.1 hd he (k p l e s m args below meth c D cA ad C hI hσ hL (zOv_c hn hs) H locs ls hP hS hl)
theorem zW_ldc {idx : Nat} {n : Int} (hc : Cond.constant M.1.cls idx (Int32.ofInt n) ∈ zG) (hd : decode M.2.1 pc = .ok (.ldc idx, 2)) (hp : pc + 2 = pc') (hn : z32 n) (k : zW Λ M pc' L (zI n :: st) σ Q) : zW Λ M pc L st σ Q := by
  subst hp
  intro p l e s m args below meth c D cA ad C hI hσ hL hs H locs ls hP hS hl
  exact lv_ldc C.1 C.2.1 C.2.2.2.2.1 (C.2.2.2.2.2.1 _ hc) hd (k p l e s m args below meth c D cA ad C hI hσ hL (zOv_c hn hs) H locs ls hP hS hl)
theorem zW_ldcw {idx : Nat} {n : Int} (hc : Cond.constant M.1.cls idx (Int32.ofInt n) ∈ zG) (hd : decode M.2.1 pc = .ok (.ldc_w idx, 3)) (hp : pc + 3 = pc') (hn : z32 n) (k : zW Λ M pc' L (zI n :: st) σ Q) : zW Λ M pc L st σ Q := by
  subst hp
  intro p l e s m args below meth c D cA ad C hI hσ hL hs H locs ls hP hS hl
  exact lv_ldcw C.1 C.2.1 C.2.2.2.2.1 (C.2.2.2.2.2.1 _ hc) hd (k p l e s m args below meth c D cA ad C hI hσ hL (zOv_c hn hs) H locs ls hP hS hl)
theorem zW_ldc2 {idx : Nat} {n : Int} (hc : Cond.constantLong M.1.cls idx (Int64.ofInt n) ∈ zG) (hd : decode M.2.1 pc = .ok (.ldc2_w idx, 3)) (hp : pc + 3 = pc') (hn : z64 n) (k : zW Λ M pc' L (zL n :: st) σ Q) : zW Λ M pc L st σ Q := by
  subst hp
  intro p l e s m args below meth c D cA ad C hI hσ hL hs H locs ls hP hS hl
  exact lv_ldc2 C.1 C.2.1 C.2.2.2.2.1 (C.2.2.2.2.2.1 _ hc) hd (k p l e s m args below meth c D cA ad C hI hσ hL (zOv_c hn hs) H locs ls hP hS hl)
theorem zW_lconst {n : Fin 2} {x : Int} (hd : decode M.2.1 pc = .ok (.lconst n, 1)) (hp : pc + 1 = pc') (hn : z64 x) (he : Int64.ofNat (n : Nat) = Int64.ofInt x) (k : zW Λ M pc' L (zL x :: st) σ Q) : zW Λ M pc L st σ Q := by
  subst hp
  intro p l e s m args below meth c D cA ad C hI hσ hL hs H locs ls hP hS hl
  exact lv_lconst (v := Int64.ofInt x) C.1 C.2.1 hd he (k p l e s m args below meth c D cA ad C hI hσ hL (zOv_c hn hs) H locs ls hP hS hl)
theorem zW_iload_n {j : Fin 4} {i : Nat} {x : Int} (hd : decode M.2.1 pc = .ok (.iload_n j, 1)) (hj : (j : Nat) = i) (hp : pc + 1 = pc') (hx : L[i]? = some (some (zI x))) (k : zW Λ M pc' L (zI x :: st) σ Q) : zW Λ M pc L st σ Q := by
  subst hp
  intro p l e s m args below meth c D cA ad C hI hσ hL hs H locs ls hP hS hl
  exact lv_iload_n C.1 C.2.1 hd hj (hl.2.2 i _ hx) (k p l e s m args below meth c D cA ad C hI hσ hL (zOv_c (hL _ (List.mem_of_getElem? hx)) hs) H locs ls hP hS hl)
theorem zW_iload {i : Nat} {x : Int} (hd : decode M.2.1 pc = .ok (.iload i, 2)) (hp : pc + 2 = pc') (hx : L[i]? = some (some (zI x))) (k : zW Λ M pc' L (zI x :: st) σ Q) : zW Λ M pc L st σ Q := by
  subst hp
  intro p l e s m args below meth c D cA ad C hI hσ hL hs H locs ls hP hS hl
  exact lv_iload C.1 C.2.1 hd (hl.2.2 i _ hx) (k p l e s m args below meth c D cA ad C hI hσ hL (zOv_c (hL _ (List.mem_of_getElem? hx)) hs) H locs ls hP hS hl)
theorem zW_lload_n {j : Fin 4} {i : Nat} {x : Int} (hd : decode M.2.1 pc = .ok (.lload_n j, 1)) (hj : (j : Nat) = i) (hp : pc + 1 = pc') (hx : L[i]? = some (some (zL x))) (k : zW Λ M pc' L (zL x :: st) σ Q) : zW Λ M pc L st σ Q := by
  subst hp
  intro p l e s m args below meth c D cA ad C hI hσ hL hs H locs ls hP hS hl
  exact lv_lload_n C.1 C.2.1 hd hj (hl.2.2 i _ hx) (k p l e s m args below meth c D cA ad C hI hσ hL (zOv_c (hL _ (List.mem_of_getElem? hx)) hs) H locs ls hP hS hl)
theorem zW_lload {i : Nat} {x : Int} (hd : decode M.2.1 pc = .ok (.lload i, 2)) (hp : pc + 2 = pc') (hx : L[i]? = some (some (zL x))) (k : zW Λ M pc' L (zL x :: st) σ Q) : zW Λ M pc L st σ Q := by
  subst hp
  intro p l e s m args below meth c D cA ad C hI hσ hL hs H locs ls hP hS hl
  exact lv_lload C.1 C.2.1 hd (hl.2.2 i _ hx) (k p l e s m args below meth c D cA ad C hI hσ hL (zOv_c (hL _ (List.mem_of_getElem? hx)) hs) H locs ls hP hS hl)
theorem zW_aload_n {j : Fin 4} {i : Nat} {x : Nat} (hd : decode M.2.1 pc = .ok (.aload_n j, 1)) (hj : (j : Nat) = i) (hp : pc + 1 = pc') (hx : L[i]? = some (some (zR x))) (k : zW Λ M pc' L (zR x :: st) σ Q) : zW Λ M pc L st σ Q := by
  subst hp
  intro p l e s m args below meth c D cA ad C hI hσ hL hs H locs ls hP hS hl
  exact lv_aload_n C.1 C.2.1 hd hj (hl.2.2 i _ hx) (k p l e s m args below meth c D cA ad C hI hσ hL (zOv_c trivial hs) H locs ls hP hS hl)
theorem zW_aload {i : Nat} {x : Nat} (hd : decode M.2.1 pc = .ok (.aload i, 2)) (hp : pc + 2 = pc') (hx : L[i]? = some (some (zR x))) (k : zW Λ M pc' L (zR x :: st) σ Q) : zW Λ M pc L st σ Q := by
  subst hp
  intro p l e s m args below meth c D cA ad C hI hσ hL hs H locs ls hP hS hl
  exact lv_aload C.1 C.2.1 hd (hl.2.2 i _ hx) (k p l e s m args below meth c D cA ad C hI hσ hL (zOv_c trivial hs) H locs ls hP hS hl)
-- ---- stores to locals
def zIsL (o : Option zV) : Bool := match o with
  | some (.inr (.inl _)) => true
  | _ => false
def zs1 : List (Option zV) → Nat → zV → List (Option zV)
  | [], _, _ => []
  | _ :: L, 0, v => some v :: L
  | o :: L, 1, v => (if zIsL o then none else o) :: zs1 L 0 v
  | o :: L, i + 2, v => o :: zs1 L (i + 1) v
def zs2 : List (Option zV) → Nat → zV → List (Option zV)
  | [], _, _ => []
  | [_], 0, v => [some v]
  | _ :: _ :: L, 0, v => some v :: none :: L
  | o :: L, 1, v => (if zIsL o then none else o) :: zs2 L 0 v
  | o :: L, i + 2, v => o :: zs2 L (i + 1) v
theorem zs1_mem {v w : zV} : ∀ (L : List (Option zV)) (i : Nat), some w ∈ zs1 L i v → w = v ∨ some w ∈ L
  | [], i, h => by cases i <;> simp [zs1] at h
  | o :: L, 0, h => by
    simp only [zs1, List.mem_cons, Option.some.injEq] at h ⊢
    rcases h with h | h
    · exact Or.inl h
    · exact Or.inr (Or.inr h)
  | o :: L, 1, h => by
    simp only [zs1, List.mem_cons] at h ⊢
    rcases h with h | h
    · split at h
      · cases h
      · exact Or.inr (Or.inl h)
    · rcases zs1_mem L 0 h with h | h
      · exact Or.inl h
      · exact Or.inr (Or.inr h)
  | o :: L, i + 2, h => by
    simp only [zs1, List.mem_cons] at h ⊢
    rcases h with h | h
    · exact Or.inr (Or.inl h)
    · rcases zs1_mem L (i + 1) h with h | h
      · exact Or.inl h
      · exact Or.inr (Or.inr h)
theorem zs2_mem {v w : zV} : ∀ (L : List (Option zV)) (i : Nat), some w ∈ zs2 L i v → w = v ∨ some w ∈ L
  | [], i, h => by cases i <;> simp [zs2] at h
  | [o], 0, h => by
    simp only [zs2, List.mem_cons, Option.some.injEq, List.not_mem_nil, or_false] at h
    exact Or.inl h
  | o :: o2 :: L, 0, h => by
    simp only [zs2, List.mem_cons, Option.some.injEq, reduceCtorEq, false_or] at h ⊢
    rcases h with h | h
    · exact Or.inl h
    · exact Or.inr (Or.inr (Or.inr h))
  | o :: L, 1, h => by
    simp only [zs2, List.mem_cons] at h ⊢
    rcases h with h | h
    · split at h
      · cases h
      · exact Or.inr (Or.inl h)
    · rcases zs2_mem L 0 h with h | h
      · exact Or.inl h
      · exact Or.inr (Or.inr h)
  | o :: L, i + 2, h => by
    simp only [zs2, List.mem_cons] at h ⊢
    rcases h with h | h
    · exact Or.inr (Or.inl h)
    · rcases zs2_mem L (i + 1) h with h | h
      · exact Or.inl h
      · exact Or.inr (Or.inr h)
/-- what a place holds behind a store -/
theorem zs1_at {v w : zV} : ∀ (L : List (Option zV)) (i j : Nat), (zs1 L i v)[j]? = some (some w) → (j = i ∧ w = v) ∨ (j ≠ i ∧ L[j]? = some (some w) ∧ ¬ (j + 1 = i ∧ zIsL (some w) = true))
  | [], i, j, h => by cases i <;> simp [zs1] at h
  | o :: L, 0, j, h => by
    cases j with
    | zero => simp [zs1] at h; exact Or.inl ⟨rfl, h.symm⟩
    | succ j => simp [zs1] at h; exact Or.inr ⟨by omega, by simpa using h, by omega⟩
  | o :: L, 1, j, h => by
    cases j with
    | zero =>
      simp only [zs1, List.getElem?_cons_zero, Option.some.injEq] at h
      split at h
      · cases h
      · next hn => exact Or.inr ⟨by omega, by simpa using h, fun q => hn (by rw [h]; exact q.2)⟩
    | succ j =>
      simp only [zs1, List.getElem?_cons_succ] at h
      rcases zs1_at L 0 j h with ⟨h1, h2⟩ | ⟨h1, h2, h3⟩
      · exact Or.inl ⟨by omega, h2⟩
      · exact Or.inr ⟨by omega, by simpa using h2, by omega⟩
  | o :: L, i + 2, j, h => by
    cases j with
    | zero => simp [zs1] at h; exact Or.inr ⟨by omega, by simpa using h, by omega⟩
    | succ j =>
      simp only [zs1, List.getElem?_cons_succ] at h
      rcases zs1_at L (i + 1) j h with ⟨h1, h2⟩ | ⟨h1, h2, h3⟩
      · exact Or.inl ⟨by omega, h2⟩
      · exact Or.inr ⟨by omega, by simpa using h2, fun q => h3 ⟨by omega, q.2⟩⟩
theorem zs2_at {v w : zV} : ∀ (L : List (Option zV)) (i j : Nat), (zs2 L i v)[j]? = some (some w) → (j = i ∧ w = v) ∨ (j ≠ i ∧ j ≠ i + 1 ∧ L[j]? = some (some w) ∧ ¬ (j + 1 = i ∧ zIsL (some w) = true))
  | [], i, j, h => by cases i <;> simp [zs2] at h
  | [o], 0, j, h => by
    cases j with
    | zero => simp [zs2] at h; exact Or.inl ⟨rfl, h.symm⟩
    | succ j => simp [zs2] at h
  | o :: o2 :: L, 0, j, h => by
    match j, h with
    | 0, h => simp [zs2] at h; exact Or.inl ⟨rfl, h.symm⟩
    | 1, h => simp [zs2] at h
    | j + 2, h => simp [zs2] at h; exact Or.inr ⟨by omega, by omega, by simpa using h, by omega⟩
  | o :: L, 1, j, h => by
    cases j with
    | zero =>
      simp only [zs2, List.getElem?_cons_zero, Option.some.injEq] at h
      split at h
      · cases h
      · next hn => exact Or.inr ⟨by omega, by omega, by simpa using h, fun q => hn (by rw [h]; exact q.2)⟩
    | succ j =>
      simp only [zs2, List.getElem?_cons_succ] at h
      rcases zs2_at L 0 j h with ⟨h1, h2⟩ | ⟨h1, h1', h2, h3⟩
      · exact Or.inl ⟨by omega, h2⟩
      · exact Or.inr ⟨by omega, by omega, by simpa using h2, by omega⟩
  | o :: L, i + 2, j, h => by
    cases j with
    | zero => simp [zs2] at h; exact Or.inr ⟨by omega, by omega, by simpa using h, by omega⟩
    | succ j =>
      simp only [zs2, List.getElem?_cons_succ] at h
      rcases zs2_at L (i + 1) j h with ⟨h1, h2⟩ | ⟨h1, h1', h2, h3⟩
      · exact Or.inl ⟨by omega, h2⟩
      · exact Or.inr ⟨by omega, by omega, by simpa using h2, fun q => h3 ⟨by omega, q.2⟩⟩
/-- the locals as the kit lists them -/
def zLl (ad : Nat → Nat) (L : List (Option zV)) : List (Nat × Value) := (List.range L.length).filterMap (fun i => match L[i]? with
  | some (some v) => some (i, zTv ad v)
  | _ => none)
theorem zLl_in {ad : Nat → Nat} {L : List (Option zV)} {i : Nat} {v : zV} (h : L[i]? = some (some v)) : (i, zTv ad v) ∈ zLl ad L := by
  refine List.mem_filterMap.mpr ⟨i, List.mem_range.mpr (List.getElem?_eq_some_iff.mp h).1, ?_⟩
  rw [h]
theorem zLl_has {ad : Nat → Nat} {ls : Array Slot} {nL : Nat} {L : List (Option zV)} (h : zLs ad ls nL L) : lv_has ls nL (zLl ad L) := by
  refine ⟨h.1, h.2.1, fun q hq => ?_⟩
  obtain ⟨i, -, hi⟩ := List.mem_filterMap.mp hq
  split at hi
  · next v hv =>
    cases hi
    exact h.2.2 i v hv
  · cases hi
theorem zTv_cat (ad : Nat → Nat) (v : zV) : (zTv ad v).category = if zIsL (some v) then 2 else 1 := by
  rcases v with x | x | x <;> rfl
theorem zLs_s1 {ad : Nat → Nat} {ls' : Array Slot} {nL i : Nat} {L : List (Option zV)} {v : zV} (h : lv_has ls' nL ((i, zTv ad v) :: (zLl ad L).filter (fun q => !(q.1 == i) && !(q.1 + 1 == i && q.2.category == 2)))) : zLs ad ls' nL (zs1 L i v) := by
  refine ⟨h.1, h.2.1, fun j w hw => ?_⟩
  rcases zs1_at L i j hw with ⟨rfl, rfl⟩ | ⟨h1, h2, h3⟩
  · exact h.2.2 _ List.mem_cons_self
  · refine h.2.2 (j, zTv ad w) (List.mem_cons_of_mem _ (List.mem_filter.mpr ⟨zLl_in h2, ?_⟩))
    have h4 : ¬ (j + 1 = i ∧ (zTv ad w).category = 2) := fun q => h3 ⟨q.1, by
      have := q.2
      rw [zTv_cat] at this
      split at this
      · assumption
      · omega⟩
    simp only [Bool.and_eq_true, Bool.not_eq_true', beq_eq_false_iff_ne, ne_eq, Bool.and_eq_false_iff, beq_eq_false_iff_ne]
    refine ⟨h1, ?_⟩
    by_cases hj : j + 1 = i
    · exact Or.inr fun q => h4 ⟨hj, q⟩
    · exact Or.inl hj
theorem zLs_s2 {ad : Nat → Nat} {ls' : Array Slot} {nL i : Nat} {L : List (Option zV)} {v : zV} (h : lv_has ls' nL ((i, zTv ad v) :: (zLl ad L).filter (fun q => !(q.1 == i) && (!(q.1 == i + 1) && !(q.1 + 1 == i && q.2.category == 2))))) : zLs ad ls' nL (zs2 L i v) := by
  refine ⟨h.1, h.2.1, fun j w hw => ?_⟩
  rcases zs2_at L i j hw with ⟨rfl, rfl⟩ | ⟨h1, h1', h2, h3⟩
  · exact h.2.2 _ List.mem_cons_self
  · refine h.2.2 (j, zTv ad w) (List.mem_cons_of_mem _ (List.mem_filter.mpr ⟨zLl_in h2, ?_⟩))
    have h4 : ¬ (j + 1 = i ∧ (zTv ad w).category = 2) := fun q => h3 ⟨q.1, by
      have := q.2
      rw [zTv_cat] at this
      split at this
      · assumption
      · omega⟩
    simp only [Bool.and_eq_true, Bool.not_eq_true', beq_eq_false_iff_ne, ne_eq, Bool.and_eq_false_iff, beq_eq_false_iff_ne]
    refine ⟨h1, h1', ?_⟩
    by_cases hj : j + 1 = i
    · exact Or.inr fun q => h4 ⟨hj, q⟩
    · exact Or.inl hj
theorem zL_s1 {v : zV} {i : Nat} (hL : ∀ w, some w ∈ L → zOv w) (hv : zOv v) : ∀ w, some w ∈ zs1 L i v → zOv w := fun w h => (zs1_mem L i h).elim (fun e => e ▸ hv) (hL w)
theorem zL_s2 {v : zV} {i : Nat} (hL : ∀ w, some w ∈ L → zOv w) (hv : zOv v) : ∀ w, some w ∈ zs2 L i v → zOv w := fun w h => (zs2_mem L i h).elim (fun e => e ▸ hv) (hL w)
theorem zW_istore_n {j : Fin 4} {i : Nat} {x : Int} (hd : decode M.2.1 pc = .ok (.istore_n j, 1)) (hj : (j : Nat) = i) (hp : pc + 1 = pc') (hi : i < M.2.2.1) (hL' : zs1 L i (zI x) = L') (k : zW Λ M pc' L' st σ Q) : zW Λ M pc L (zI x :: st) σ Q := by
  subst hp; subst hL'
  intro p l e s m args below meth c D cA ad C hI hσ hL hs H locs ls hP hS hl
  exact lv_istore_n (x := Int32.ofInt x) C.1 C.2.1 hd hj (zLl_has hl) hi rfl (fun ls' hl' => k p l e s m args below meth c D cA ad C hI hσ (zL_s1 hL (zOv_h hs)) (zOv_t hs) H locs ls' hP hS (zLs_s1 hl'))
theorem zW_istore {i : Nat} {x : Int} (hd : decode M.2.1 pc = .ok (.istore i, 2)) (hp : pc + 2 = pc') (hi : i < M.2.2.1) (hL' : zs1 L i (zI x) = L') (k : zW Λ M pc' L' st σ Q) : zW Λ M pc L (zI x :: st) σ Q := by
  subst hp; subst hL'
  intro p l e s m args below meth c D cA ad C hI hσ hL hs H locs ls hP hS hl
  exact lv_istore (x := Int32.ofInt x) C.1 C.2.1 hd (zLl_has hl) hi rfl (fun ls' hl' => k p l e s m args below meth c D cA ad C hI hσ (zL_s1 hL (zOv_h hs)) (zOv_t hs) H locs ls' hP hS (zLs_s1 hl'))
theorem zW_astore_n {j : Fin 4} {i : Nat} {x : Nat} (hd : decode M.2.1 pc = .ok (.astore_n j, 1)) (hj : (j : Nat) = i) (hp : pc + 1 = pc') (hi : i < M.2.2.1) (hL' : zs1 L i (zR x) = L') (k : zW Λ M pc' L' st σ Q) : zW Λ M pc L (zR x :: st) σ Q := by
  subst hp; subst hL'
  intro p l e s m args below meth c D cA ad C hI hσ hL hs H locs ls hP hS hl
  exact lv_astore_n (x := ad x) C.1 C.2.1 hd hj (zLl_has hl) hi rfl (fun ls' hl' => k p l e s m args below meth c D cA ad C hI hσ (zL_s1 hL (zOv_h hs)) (zOv_t hs) H locs ls' hP hS (zLs_s1 (v := zR x) hl'))
theorem zW_astore {i : Nat} {x : Nat} (hd : decode M.2.1 pc = .ok (.astore i, 2)) (hp : pc + 2 = pc') (hi : i < M.2.2.1) (hL' : zs1 L i (zR x) = L') (k : zW Λ M pc' L' st σ Q) : zW Λ M pc L (zR x :: st) σ Q := by
  subst hp; subst hL'
  intro p l e s m args below meth c D cA ad C hI hσ hL hs H locs ls hP hS hl
  exact lv_astore (x := ad x) C.1 C.2.1 hd (zLl_has hl) hi rfl (fun ls' hl' => k p l e s m args below meth c D cA ad C hI hσ (zL_s1 hL (zOv_h hs)) (zOv_t hs) H locs ls' hP hS (zLs_s1 (v := zR x) hl'))
theorem zW_lstore_n {j : Fin 4} {i : Nat} {x : Int} (hd : decode M.2.1 pc = .ok (.lstore_n j, 1)) (hj : (j : Nat) = i) (hp : pc + 1 = pc') (hi : i + 1 < M.2.2.1) (hL' : zs2 L i (zL x) = L') (k : zW Λ M pc' L' st σ Q) : zW Λ M pc L (zL x :: st) σ Q := by
  subst hp; subst hL'
  intro p l e s m args below meth c D cA ad C hI hσ hL hs H locs ls hP hS hl
  exact lv_lstore_n (x := Int64.ofInt x) C.1 C.2.1 hd hj (zLl_has hl) hi rfl (fun ls' hl' => k p l e s m args below meth c D cA ad C hI hσ (zL_s2 hL (zOv_h hs)) (zOv_t hs) H locs ls' hP hS (zLs_s2 (v := zL x) hl'))
theorem zW_lstore {i : Nat} {x : Int} (hd : decode M.2.1 pc = .ok (.lstore i, 2)) (hp : pc + 2 = pc') (hi : i + 1 < M.2.2.1) (hL' : zs2 L i (zL x) = L') (k : zW Λ M pc' L' st σ Q) : zW Λ M pc L (zL x :: st) σ Q := by
  subst hp; subst hL'
  intro p l e s m args below meth c D cA ad C hI hσ hL hs H locs ls hP hS hl
  exact lv_lstore (x := Int64.ofInt x) C.1 C.2.1 hd (zLl_has hl) hi rfl (fun ls' hl' => k p l e s m args below meth c D cA ad C hI hσ (zL_s2 hL (zOv_h hs)) (zOv_t hs) H locs ls' hP hS (zLs_s2 (v := zL x) hl'))
theorem zW_iinc {i : Nat} {n x : Int} (hd : decode M.2.1 pc = .ok (.iinc i n, 3)) (hp : pc + 3 = pc') (hi : i < M.2.2.1) (hx : L[i]? = some (some (zI x))) (hr : z32 (x + n)) (hL' : zs1 L i (zI (x + n)) = L') (k : zW Λ M pc' L' st σ Q) : zW Λ M pc L st σ Q := by
  subst hp; subst hL'
  intro p l e s m args below meth c D cA ad C hI hσ hL hs H locs ls hP hS hl
  obtain ⟨q, hq⟩ := List.getElem?_of_mem (zLl_in (ad := ad) hx)
  exact lv_iinc (x := Int32.ofInt x) (v := Int32.ofInt (x + n)) C.1 C.2.1 hd (zLl_has hl) hq (by rw [Int32.ofInt_add]) hi rfl (fun ls' hl' => k p l e s m args below meth c D cA ad C hI hσ (zL_s1 hL hr) hs H locs ls' hP hS (zLs_s1 (v := zI (x + n)) hl'))
end zRules
end
section
/-! ===== the layer's rules: arithmetic, branches ===== -/
section zRules2
variable {Λ : List zSh} {M : zM} {pc pc' : Nat} {L L' : List (Option zV)} {st : List zV} {σ : zS} {Q : Option zV → zS → Prop}
theorem zW_iadd {x y : Int} (hd : decode M.2.1 pc = .ok (.iadd, 1)) (hp : pc + 1 = pc') (hr : z32 (x + y)) (k : zW Λ M pc' L (zI (x + y) :: st) σ Q) : zW Λ M pc L (zI y :: zI x :: st) σ Q := by
  subst hp
  intro p l e s m args below meth c D cA ad C hI hσ hL hs H locs ls hP hS hl
  refine lv_iadd C.1 C.2.1 hd ?_
  have h := k p l e s m args below meth c D cA ad C hI hσ hL (zOv_c hr (zOv_t (zOv_t hs))) H locs ls hP hS hl
  simpa only [List.map_cons, zTv, Int32.ofInt_add] using h
theorem zW_isub {x y : Int} (hd : decode M.2.1 pc = .ok (.isub, 1)) (hp : pc + 1 = pc') (hr : z32 (x - y)) (k : zW Λ M pc' L (zI (x - y) :: st) σ Q) : zW Λ M pc L (zI y :: zI x :: st) σ Q := by
  subst hp
  intro p l e s m args below meth c D cA ad C hI hσ hL hs H locs ls hP hS hl
  refine lv_isub C.1 C.2.1 hd ?_
  have h := k p l e s m args below meth c D cA ad C hI hσ hL (zOv_c hr (zOv_t (zOv_t hs))) H locs ls hP hS hl
  simpa only [List.map_cons, zTv, Int32.ofInt_sub] using h
theorem zW_imul {x y : Int} (hd : decode M.2.1 pc = .ok (.imul, 1)) (hp : pc + 1 = pc') (hr : z32 (x * y)) (k : zW Λ M pc' L (zI (x * y) :: st) σ Q) : zW Λ M pc L (zI y :: zI x :: st) σ Q := by
  subst hp
  intro p l e s m args below meth c D cA ad C hI hσ hL hs H locs ls hP hS hl
  refine lv_imul C.1 C.2.1 hd ?_
  have h := k p l e s m args below meth c D cA ad C hI hσ hL (zOv_c hr (zOv_t (zOv_t hs))) H locs ls hP hS hl
  simpa only [List.map_cons, zTv, Int32.ofInt_mul] using h
theorem zW_ineg {x : Int} (hd : decode M.2.1 pc = .ok (.ineg, 1)) (hp : pc + 1 = pc') (hr : z32 (-x)) (k : zW Λ M pc' L (zI (-x) :: st) σ Q) : zW Λ M pc L (zI x :: st) σ Q := by
  subst hp
  intro p l e s m args below meth c D cA ad C hI hσ hL hs H locs ls hP hS hl
  refine lv_ineg C.1 C.2.1 hd ?_
  have h := k p l e s m args below meth c D cA ad C hI hσ hL (zOv_c hr (zOv_t hs)) H locs ls hP hS hl
  simpa only [List.map_cons, zTv, Int32.ofInt_neg] using h
theorem zW_idiv {x y : Int} (hd : decode M.2.1 pc = .ok (.idiv, 1)) (hp : pc + 1 = pc') (h0 : 0 ≤ x) (h1 : 0 < y) (k : zW Λ M pc' L (zI (x / y) :: st) σ Q) : zW Λ M pc L (zI y :: zI x :: st) σ Q := by
  subst hp
  intro p l e s m args below meth c D cA ad C hI hσ hL hs H locs ls hP hS hl
  have hy : z32 y := zOv_h hs
  have hx : z32 x := zOv_h (zOv_t hs)
  have hr : z32 (x / y) := ⟨by have := Int.ediv_nonneg h0 (Int.le_of_lt h1); omega, by have := Int.ediv_le_self y h0; have := hx.2; omega⟩
  refine lv_idiv C.1 C.2.1 hd (fun h => by rw [show (0 : Int32) = Int32.ofInt 0 from rfl, zi_eq hy z0_32] at h; omega) ?_
  have h := k p l e s m args below meth c D cA ad C hI hσ hL (zOv_c hr (zOv_t (zOv_t hs))) H locs ls hP hS hl
  simpa only [List.map_cons, zTv, zi_div hx hy h0 h1] using h
theorem zW_irem {x y : Int} (hd : decode M.2.1 pc = .ok (.irem, 1)) (hp : pc + 1 = pc') (h0 : 0 ≤ x) (h1 : 0 < y) (k : zW Λ M pc' L (zI (x % y) :: st) σ Q) : zW Λ M pc L (zI y :: zI x :: st) σ Q := by
  subst hp
  intro p l e s m args below meth c D cA ad C hI hσ hL hs H locs ls hP hS hl
  have hy : z32 y := zOv_h hs
  have hx : z32 x := zOv_h (zOv_t hs)
  have hr : z32 (x % y) := ⟨by have := Int.emod_nonneg x (show y ≠ 0 by omega); omega, by have := Int.emod_lt_of_pos x h1; have := hy.2; omega⟩
  refine lv_irem C.1 C.2.1 hd (fun h => by rw [show (0 : Int32) = Int32.ofInt 0 from rfl, zi_eq hy z0_32] at h; omega) ?_
  have h := k p l e s m args below meth c D cA ad C hI hσ hL (zOv_c hr (zOv_t (zOv_t hs))) H locs ls hP hS hl
  simpa only [List.map_cons, zTv, zi_rem hx hy h0 h1] using h
theorem zW_ladd {x y : Int} (hd : decode M.2.1 pc = .ok (.ladd, 1)) (hp : pc + 1 = pc') (k : zW Λ M pc' L (zL (zw (x + y)) :: st) σ Q) : zW Λ M pc L (zL y :: zL x :: st) σ Q := by
  subst hp
  intro p l e s m args below meth c D cA ad C hI hσ hL hs H locs ls hP hS hl
  refine lv_ladd C.1 C.2.1 hd ?_
  have h := k p l e s m args below meth c D cA ad C hI hσ hL (zOv_c (zw_64 _) (zOv_t (zOv_t hs))) H locs ls hP hS hl
  simpa only [List.map_cons, zTv, zw_of, Int64.ofInt_add] using h
theorem zW_lsub {x y : Int} (hd : decode M.2.1 pc = .ok (.lsub, 1)) (hp : pc + 1 = pc') (k : zW Λ M pc' L (zL (zw (x - y)) :: st) σ Q) : zW Λ M pc L (zL y :: zL x :: st) σ Q := by
  subst hp
  intro p l e s m args below meth c D cA ad C hI hσ hL hs H locs ls hP hS hl
  refine lv_lsub C.1 C.2.1 hd ?_
  have h := k p l e s m args below meth c D cA ad C hI hσ hL (zOv_c (zw_64 _) (zOv_t (zOv_t hs))) H locs ls hP hS hl
  simpa only [List.map_cons, zTv, zw_of, Int64.ofInt_sub] using h
theorem zW_lmul {x y : Int} (hd : decode M.2.1 pc = .ok (.lmul, 1)) (hp : pc + 1 = pc') (k : zW Λ M pc' L (zL (zw (x * y)) :: st) σ Q) : zW Λ M pc L (zL y :: zL x :: st) σ Q := by
  subst hp
  intro p l e s m args below meth c D cA ad C hI hσ hL hs H locs ls hP hS hl
  refine lv_lmul C.1 C.2.1 hd ?_
  have h := k p l e s m args below meth c D cA ad C hI hσ hL (zOv_c (zw_64 _) (zOv_t (zOv_t hs))) H locs ls hP hS hl
  simpa only [List.map_cons, zTv, zw_of, Int64.ofInt_mul] using h
theorem zW_ldiv {x y : Int} (hd : decode M.2.1 pc = .ok (.ldiv, 1)) (hp : pc + 1 = pc') (h0 : 0 ≤ x) (h1 : 0 < y) (k : zW Λ M pc' L (zL (x / y) :: st) σ Q) : zW Λ M pc L (zL y :: zL x :: st) σ Q := by
  subst hp
  intro p l e s m args below meth c D cA ad C hI hσ hL hs H locs ls hP hS hl
  have hy : z64 y := zOv_h hs
  have hx : z64 x := zOv_h (zOv_t hs)
  have hr : z64 (x / y) := ⟨by have := Int.ediv_nonneg h0 (Int.le_of_lt h1); omega, by have := Int.ediv_le_self y h0; have := hx.2; omega⟩
  refine lv_ldiv C.1 C.2.1 hd (fun h => by rw [show (0 : Int64) = Int64.ofInt 0 from rfl, ← Int64.toInt_inj, zl_T hy, zl_T ⟨by decide, by decide⟩] at h; omega) ?_
  have h := k p l e s m args below meth c D cA ad C hI hσ hL (zOv_c hr (zOv_t (zOv_t hs))) H locs ls hP hS hl
  simpa only [List.map_cons, zTv, zl_div hx hy h0 h1] using h
theorem zW_lrem {x y : Int} (hd : decode M.2.1 pc = .ok (.lrem, 1)) (hp : pc + 1 = pc') (h0 : 0 ≤ x) (h1 : 0 < y) (k : zW Λ M pc' L (zL (x % y) :: st) σ Q) : zW Λ M pc L (zL y :: zL x :: st) σ Q := by
  subst hp
  intro p l e s m args below meth c D cA ad C hI hσ hL hs H locs ls hP hS hl
  have hy : z64 y := zOv_h hs
  have hx : z64 x := zOv_h (zOv_t hs)
  have hr : z64 (x % y) := ⟨by have := Int.emod_nonneg x (show y ≠ 0 by omega); omega, by have := Int.emod_lt_of_pos x h1; have := hy.2; omega⟩
  refine lv_lrem C.1 C.2.1 hd (fun h => by rw [show (0 : Int64) = Int64.ofInt 0 from rfl, ← Int64.toInt_inj, zl_T hy, zl_T ⟨by decide, by decide⟩] at h; omega) ?_
  have h := k p l e s m args below meth c D cA ad C hI hσ hL (zOv_c hr (zOv_t (zOv_t hs))) H locs ls hP hS hl
  simpa only [List.map_cons, zTv, zl_rem hx hy h0 h1] using h
theorem zW_lcmp {x y : Int} (hd : decode M.2.1 pc = .ok (.lcmp, 1)) (hp : pc + 1 = pc') (k : zW Λ M pc' L (zI (zc x y) :: st) σ Q) : zW Λ M pc L (zL y :: zL x :: st) σ Q := by
  subst hp
  intro p l e s m args below meth c D cA ad C hI hσ hL hs H locs ls hP hS hl
  have hy : z64 y := zOv_h hs
  have hx : z64 x := zOv_h (zOv_t hs)
  refine W.lcmp C.1 C.2.1 hd ?_
  have h := k p l e s m args below meth c D cA ad C hI hσ hL (zOv_c (zc_32 x y) (zOv_t (zOv_t hs))) H locs ls hP hS hl
  rw [zc_of hx hy]
  exact h
theorem zW_i2l {x : Int} (hd : decode M.2.1 pc = .ok (.i2l, 1)) (hp : pc + 1 = pc') (k : zW Λ M pc' L (zL x :: st) σ Q) : zW Λ M pc L (zI x :: st) σ Q := by
  subst hp
  intro p l e s m args below meth c D cA ad C hI hσ hL hs H locs ls hP hS hl
  have hx : z32 x := zOv_h hs
  exact lv_i2l C.1 C.2.1 hd (zi_l hx) (k p l e s m args below meth c D cA ad C hI hσ hL (zOv_c (v := zL x) ⟨by have := hx.1; omega, by have := hx.2; omega⟩ (zOv_t hs)) H locs ls hP hS hl)
theorem zW_i2b {x : Int} (hd : decode M.2.1 pc = .ok (.i2b, 1)) (hp : pc + 1 = pc') (k : zW Λ M pc' L (zI (zb8 x) :: st) σ Q) : zW Λ M pc L (zI x :: st) σ Q := by
  subst hp
  intro p l e s m args below meth c D cA ad C hI hσ hL hs H locs ls hP hS hl
  have hx : z32 x := zOv_h hs
  exact lv_i2b C.1 C.2.1 hd (zi_b hx) (k p l e s m args below meth c D cA ad C hI hσ hL (zOv_c (v := zI (zb8 x)) (zb8_32 x) (zOv_t hs)) H locs ls hP hS hl)
theorem zW_i2s {x : Int} (hd : decode M.2.1 pc = .ok (.i2s, 1)) (hp : pc + 1 = pc') (k : zW Λ M pc' L (zI (zb16 x) :: st) σ Q) : zW Λ M pc L (zI x :: st) σ Q := by
  subst hp
  intro p l e s m args below meth c D cA ad C hI hσ hL hs H locs ls hP hS hl
  have hx : z32 x := zOv_h hs
  exact lv_i2s C.1 C.2.1 hd (zi_s hx) (k p l e s m args below meth c D cA ad C hI hσ hL (zOv_c (v := zI (zb16 x)) (zb16_32 x) (zOv_t hs)) H locs ls hP hS hl)
theorem zTv_1 (ad : Nat → Nat) {v : zV} (h : zIsL (some v) = false) : (zTv ad v).category = 1 := by rw [zTv_cat, h]; rfl
theorem zW_dup {v : zV} (hd : decode M.2.1 pc = .ok (.dup, 1)) (hp : pc + 1 = pc') (hv : zIsL (some v) = false) (k : zW Λ M pc' L (v :: v :: st) σ Q) : zW Λ M pc L (v :: st) σ Q := by
  subst hp
  intro p l e s m args below meth c D cA ad C hI hσ hL hs H locs ls hP hS hl
  exact lv_dup C.1 C.2.1 hd (zTv_1 ad hv) (k p l e s m args below meth c D cA ad C hI hσ hL (zOv_c (zOv_h hs) hs) H locs ls hP hS hl)
theorem zW_pop {v : zV} (hd : decode M.2.1 pc = .ok (.pop, 1)) (hp : pc + 1 = pc') (hv : zIsL (some v) = false) (k : zW Λ M pc' L st σ Q) : zW Λ M pc L (v :: st) σ Q := by
  subst hp
  intro p l e s m args below meth c D cA ad C hI hσ hL hs H locs ls hP hS hl
  exact lv_pop C.1 C.2.1 hd (zTv_1 ad hv) (k p l e s m args below meth c D cA ad C hI hσ hL (zOv_t hs) H locs ls hP hS hl)
theorem zW_dup2 {v w : zV} (hd : decode M.2.1 pc = .ok (.dup2, 1)) (hp : pc + 1 = pc') (hv : zIsL (some v) = false) (hw : zIsL (some w) = false) (k : zW Λ M pc' L (v :: w :: v :: w :: st) σ Q) : zW Λ M pc L (v :: w :: st) σ Q := by
  subst hp
  intro p l e s m args below meth c D cA ad C hI hσ hL hs H locs ls hP hS hl
  exact lv_dup2_11 C.1 C.2.1 hd (zTv_1 ad hv) (zTv_1 ad hw) (k p l e s m args below meth c D cA ad C hI hσ hL (zOv_c (zOv_h hs) (zOv_c (zOv_h (zOv_t hs)) hs)) H locs ls hP hS hl)
theorem zW_goto {off : Int} (hd : decode M.2.1 pc = .ok (.goto off, 3)) (ht : (pc : Int) + off = (pc' : Int)) (k : zW Λ M pc' L st σ Q) : zW Λ M pc L st σ Q := by
  intro p l e s m args below meth c D cA ad C hI hσ hL hs H locs ls hP hS hl
  exact lv_goto C.1 C.2.1 hd ht (k p l e s m args below meth c D cA ad C hI hσ hL hs H locs ls hP hS hl)
theorem zW_icmp_eq {x y off : Int} {tgt : Nat} (hd : decode M.2.1 pc = .ok (.if_icmp .eq off, 3)) (ht : (pc : Int) + off = (tgt : Int)) (hp : pc + 3 = pc') (kt : x = y → zW Λ M tgt L st σ Q) (kf : ¬ (x = y) → zW Λ M pc' L st σ Q) : zW Λ M pc L (zI y :: zI x :: st) σ Q := by
  subst hp
  intro p l e s m args below meth c D cA ad C hI hσ hL hs H locs ls hP hS hl
  have hy : z32 y := zOv_h hs
  have hx : z32 x := zOv_h (zOv_t hs)
  exact lv_icmp_eq C.1 C.2.1 hd ht (fun q => kt ((zi_eq hx hy).mp q) p l e s m args below meth c D cA ad C hI hσ hL (zOv_t (zOv_t hs)) H locs ls hP hS hl) (fun q => kf (fun z => q ((zi_eq hx hy).mpr z)) p l e s m args below meth c D cA ad C hI hσ hL (zOv_t (zOv_t hs)) H locs ls hP hS hl)
theorem zW_if_eq {x off : Int} {tgt : Nat} (hd : decode M.2.1 pc = .ok (.ifCond .eq off, 3)) (ht : (pc : Int) + off = (tgt : Int)) (hp : pc + 3 = pc') (kt : x = 0 → zW Λ M tgt L st σ Q) (kf : ¬ (x = 0) → zW Λ M pc' L st σ Q) : zW Λ M pc L (zI x :: st) σ Q := by
  subst hp
  intro p l e s m args below meth c D cA ad C hI hσ hL hs H locs ls hP hS hl
  have hx : z32 x := zOv_h hs
  exact lv_if_eq C.1 C.2.1 hd ht (fun q => kt ((zi_eq hx z0_32).mp q) p l e s m args below meth c D cA ad C hI hσ hL (zOv_t hs) H locs ls hP hS hl) (fun q => kf (fun z => q ((zi_eq hx z0_32).mpr z)) p l e s m args below meth c D cA ad C hI hσ hL (zOv_t hs) H locs ls hP hS hl)
theorem zW_icmp_ne {x y off : Int} {tgt : Nat} (hd : decode M.2.1 pc = .ok (.if_icmp .ne off, 3)) (ht : (pc : Int) + off = (tgt : Int)) (hp : pc + 3 = pc') (kt : ¬ x = y → zW Λ M tgt L st σ Q) (kf : x = y → zW Λ M pc' L st σ Q) : zW Λ M pc L (zI y :: zI x :: st) σ Q := by
  subst hp
  intro p l e s m args below meth c D cA ad C hI hσ hL hs H locs ls hP hS hl
  have hy : z32 y := zOv_h hs
  have hx : z32 x := zOv_h (zOv_t hs)
  exact lv_icmp_ne C.1 C.2.1 hd ht (fun q => kt ((not_congr (zi_eq hx hy)).mp q) p l e s m args below meth c D cA ad C hI hσ hL (zOv_t (zOv_t hs)) H locs ls hP hS hl) (fun q => kf ((zi_eq hx hy).mp q) p l e s m args below meth c D cA ad C hI hσ hL (zOv_t (zOv_t hs)) H locs ls hP hS hl)
theorem zW_if_ne {x off : Int} {tgt : Nat} (hd : decode M.2.1 pc = .ok (.ifCond .ne off, 3)) (ht : (pc : Int) + off = (tgt : Int)) (hp : pc + 3 = pc') (kt : ¬ x = 0 → zW Λ M tgt L st σ Q) (kf : x = 0 → zW Λ M pc' L st σ Q) : zW Λ M pc L (zI x :: st) σ Q := by
  subst hp
  intro p l e s m args below meth c D cA ad C hI hσ hL hs H locs ls hP hS hl
  have hx : z32 x := zOv_h hs
  exact lv_if_ne C.1 C.2.1 hd ht (fun q => kt ((not_congr (zi_eq hx z0_32)).mp q) p l e s m args below meth c D cA ad C hI hσ hL (zOv_t hs) H locs ls hP hS hl) (fun q => kf ((zi_eq hx z0_32).mp q) p l e s m args below meth c D cA ad C hI hσ hL (zOv_t hs) H locs ls hP hS hl)
theorem zW_icmp_lt {x y off : Int} {tgt : Nat} (hd : decode M.2.1 pc = .ok (.if_icmp .lt off, 3)) (ht : (pc : Int) + off = (tgt : Int)) (hp : pc + 3 = pc') (kt : x < y → zW Λ M tgt L st σ Q) (kf : ¬ (x < y) → zW Λ M pc' L st σ Q) : zW Λ M pc L (zI y :: zI x :: st) σ Q := by
  subst hp
  intro p l e s m args below meth c D cA ad C hI hσ hL hs H locs ls hP hS hl
  have hy : z32 y := zOv_h hs
  have hx : z32 x := zOv_h (zOv_t hs)
  exact lv_icmp_lt C.1 C.2.1 hd ht (fun q => kt ((zi_lt hx hy).mp q) p l e s m args below meth c D cA ad C hI hσ hL (zOv_t (zOv_t hs)) H locs ls hP hS hl) (fun q => kf (fun z => q ((zi_lt hx hy).mpr z)) p l e s m args below meth c D cA ad C hI hσ hL (zOv_t (zOv_t hs)) H locs ls hP hS hl)
theorem zW_if_lt {x off : Int} {tgt : Nat} (hd : decode M.2.1 pc = .ok (.ifCond .lt off, 3)) (ht : (pc : Int) + off = (tgt : Int)) (hp : pc + 3 = pc') (kt : x < 0 → zW Λ M tgt L st σ Q) (kf : ¬ (x < 0) → zW Λ M pc' L st σ Q) : zW Λ M pc L (zI x :: st) σ Q := by
  subst hp
  intro p l e s m args below meth c D cA ad C hI hσ hL hs H locs ls hP hS hl
  have hx : z32 x := zOv_h hs
  exact lv_if_lt C.1 C.2.1 hd ht (fun q => kt ((zi_lt hx z0_32).mp q) p l e s m args below meth c D cA ad C hI hσ hL (zOv_t hs) H locs ls hP hS hl) (fun q => kf (fun z => q ((zi_lt hx z0_32).mpr z)) p l e s m args below meth c D cA ad C hI hσ hL (zOv_t hs) H locs ls hP hS hl)
theorem zW_icmp_ge {x y off : Int} {tgt : Nat} (hd : decode M.2.1 pc = .ok (.if_icmp .ge off, 3)) (ht : (pc : Int) + off = (tgt : Int)) (hp : pc + 3 = pc') (kt : y ≤ x → zW Λ M tgt L st σ Q) (kf : ¬ (y ≤ x) → zW Λ M pc' L st σ Q) : zW Λ M pc L (zI y :: zI x :: st) σ Q := by
  subst hp
  intro p l e s m args below meth c D cA ad C hI hσ hL hs H locs ls hP hS hl
  have hy : z32 y := zOv_h hs
  have hx : z32 x := zOv_h (zOv_t hs)
  exact lv_icmp_ge C.1 C.2.1 hd ht (fun q => kt ((zi_le hy hx).mp q) p l e s m args below meth c D cA ad C hI hσ hL (zOv_t (zOv_t hs)) H locs ls hP hS hl) (fun q => kf (fun z => q ((zi_le hy hx).mpr z)) p l e s m args below meth c D cA ad C hI hσ hL (zOv_t (zOv_t hs)) H locs ls hP hS hl)
theorem zW_if_ge {x off : Int} {tgt : Nat} (hd : decode M.2.1 pc = .ok (.ifCond .ge off, 3)) (ht : (pc : Int) + off = (tgt : Int)) (hp : pc + 3 = pc') (kt : 0 ≤ x → zW Λ M tgt L st σ Q) (kf : ¬ (0 ≤ x) → zW Λ M pc' L st σ Q) : zW Λ M pc L (zI x :: st) σ Q := by
  subst hp
  intro p l e s m args below meth c D cA ad C hI hσ hL hs H locs ls hP hS hl
  have hx : z32 x := zOv_h hs
  exact lv_if_ge C.1 C.2.1 hd ht (fun q => kt ((zi_le z0_32 hx).mp q) p l e s m args below meth c D cA ad C hI hσ hL (zOv_t hs) H locs ls hP hS hl) (fun q => kf (fun z => q ((zi_le z0_32 hx).mpr z)) p l e s m args below meth c D cA ad C hI hσ hL (zOv_t hs) H locs ls hP hS hl)
theorem zW_icmp_gt {x y off : Int} {tgt : Nat} (hd : decode M.2.1 pc = .ok (.if_icmp .gt off, 3)) (ht : (pc : Int) + off = (tgt : Int)) (hp : pc + 3 = pc') (kt : y < x → zW Λ M tgt L st σ Q) (kf : ¬ (y < x) → zW Λ M pc' L st σ Q) : zW Λ M pc L (zI y :: zI x :: st) σ Q := by
  subst hp
  intro p l e s m args below meth c D cA ad C hI hσ hL hs H locs ls hP hS hl
  have hy : z32 y := zOv_h hs
  have hx : z32 x := zOv_h (zOv_t hs)
  exact lv_icmp_gt C.1 C.2.1 hd ht (fun q => kt ((zi_lt hy hx).mp q) p l e s m args below meth c D cA ad C hI hσ hL (zOv_t (zOv_t hs)) H locs ls hP hS hl) (fun q => kf (fun z => q ((zi_lt hy hx).mpr z)) p l e s m args below meth c D cA ad C hI hσ hL (zOv_t (zOv_t hs)) H locs ls hP hS hl)
theorem zW_if_gt {x off : Int} {tgt : Nat} (hd : decode M.2.1 pc = .ok (.ifCond .gt off, 3)) (ht : (pc : Int) + off = (tgt : Int)) (hp : pc + 3 = pc') (kt : 0 < x → zW Λ M tgt L st σ Q) (kf : ¬ (0 < x) → zW Λ M pc' L st σ Q) : zW Λ M pc L (zI x :: st) σ Q := by
  subst hp
  intro p l e s m args below meth c D cA ad C hI hσ hL hs H locs ls hP hS hl
  have hx : z32 x := zOv_h hs
  exact lv_if_gt C.1 C.2.1 hd ht (fun q => kt ((zi_lt z0_32 hx).mp q) p l e s m args below meth c D cA ad C hI hσ hL (zOv_t hs) H locs ls hP hS hl) (fun q => kf (fun z => q ((zi_lt z0_32 hx).mpr z)) p l e s m args below meth c D cA ad C hI hσ hL (zOv_t hs) H locs ls hP hS hl)
theorem zW_icmp_le {x y off : Int} {tgt : Nat} (hd : decode M.2.1 pc = .ok (.if_icmp .le off, 3)) (ht : (pc : Int) + off = (tgt : Int)) (hp : pc + 3 = pc') (kt : x ≤ y → zW Λ M tgt L st σ Q) (kf : ¬ (x ≤ y) → zW Λ M pc' L st σ Q) : zW Λ M pc L (zI y :: zI x :: st) σ Q := by
  subst hp
  intro p l e s m args below meth c D cA ad C hI hσ hL hs H locs ls hP hS hl
  have hy : z32 y := zOv_h hs
  have hx : z32 x := zOv_h (zOv_t hs)
  exact lv_icmp_le C.1 C.2.1 hd ht (fun q => kt ((zi_le hx hy).mp q) p l e s m args below meth c D cA ad C hI hσ hL (zOv_t (zOv_t hs)) H locs ls hP hS hl) (fun q => kf (fun z => q ((zi_le hx hy).mpr z)) p l e s m args below meth c D cA ad C hI hσ hL (zOv_t (zOv_t hs)) H locs ls hP hS hl)
theorem zW_if_le {x off : Int} {tgt : Nat} (hd : decode M.2.1 pc = .ok (.ifCond .le off, 3)) (ht : (pc : Int) + off = (tgt : Int)) (hp : pc + 3 = pc') (kt : x ≤ 0 → zW Λ M tgt L st σ Q) (kf : ¬ (x ≤ 0) → zW Λ M pc' L st σ Q) : zW Λ M pc L (zI x :: st) σ Q := by
  subst hp
  intro p l e s m args below meth c D cA ad C hI hσ hL hs H locs ls hP hS hl
  have hx : z32 x := zOv_h hs
  exact lv_if_le C.1 C.2.1 hd ht (fun q => kt ((zi_le hx z0_32).mp q) p l e s m args below meth c D cA ad C hI hσ hL (zOv_t hs) H locs ls hP hS hl) (fun q => kf (fun z => q ((zi_le hx z0_32).mpr z)) p l e s m args below meth c D cA ad C hI hσ hL (zOv_t hs) H locs ls hP hS hl)
theorem zW_tabOut {dflt lo hi x : Int} {offs : Array Int} {len tgt : Nat} (hd : decode M.2.1 pc = .ok (.tableswitch dflt lo hi offs, len)) (h : x < lo ∨ hi < x) (ht : (pc : Int) + dflt = (tgt : Int)) (k : zW Λ M tgt L st σ Q) : zW Λ M pc L (zI x :: st) σ Q := by
  intro p l e s m args below meth c D cA ad C hI hσ hL hs H locs ls hP hS hl
  have hx : z32 x := zOv_h hs
  exact lv_tableOut C.1 C.2.1 hd (by rw [zi_T hx]; exact h) ht (k p l e s m args below meth c D cA ad C hI hσ hL (zOv_t hs) H locs ls hP hS hl)
theorem zW_tabIn {dflt lo hi x off : Int} {offs : Array Int} {len tgt : Nat} (hd : decode M.2.1 pc = .ok (.tableswitch dflt lo hi offs, len)) (h1 : ¬ x < lo) (h2 : ¬ hi < x) (ho : offs[(x - lo).toNat]? = some off) (ht : (pc : Int) + off = (tgt : Int)) (k : zW Λ M tgt L st σ Q) : zW Λ M pc L (zI x :: st) σ Q := by
  intro p l e s m args below meth c D cA ad C hI hσ hL hs H locs ls hP hS hl
  have hx : z32 x := zOv_h hs
  exact lv_tableIn C.1 C.2.1 hd (by rw [zi_T hx]; exact h1) (by rw [zi_T hx]; exact h2) (by rw [zi_T hx]; exact ho) ht (k p l e s m args below meth c D cA ad C hI hσ hL (zOv_t hs) H locs ls hP hS hl)
theorem zW_lookup {dflt x off : Int} {ps : Array (Int × Int)} {len tgt : Nat} (hd : decode M.2.1 pc = .ok (.lookupswitch dflt ps, len)) (hq : (ps.toList.zip (ps.toList.drop 1)).all (fun (a, next) => a.1 < next.1) = true) (ho : Op.lookupswitch.offset ps.toList dflt x = off) (ht : (pc : Int) + off = (tgt : Int)) (k : zW Λ M tgt L st σ Q) : zW Λ M pc L (zI x :: st) σ Q := by
  intro p l e s m args below meth c D cA ad C hI hσ hL hs H locs ls hP hS hl
  have hx : z32 x := zOv_h hs
  exact lv_lookup C.1 C.2.1 hd hq (by rw [zi_T hx]; exact ho) ht (k p l e s m args below meth c D cA ad C hI hσ hL (zOv_t hs) H locs ls hP hS hl)
end zRules2
end
section
/-! ===== the layer's rules: fields, arrays, ends ===== -/
/-- what the rows need of a class -/
def zCi (ci : Nat) (C : String) (T : u_T) (N : Nat) : Prop := vwCl[ci]? = some (C, T, N) ∧ (∀ w ∈ u_ws C T N, w ∈ zG) ∧ ∃ ty0 : Nat → FieldType, (∀ k, k < N → parseFieldDescriptor (T k).2.2.1 = some (ty0 k)) ∧ ∀ a, a < N → ∀ b, b < N → a ≠ b → (T a).2.1 ≠ (T b).2.1
section zRules3
variable {Λ : List zSh} {M : zM} {pc pc' : Nat} {L L' : List (Option zV)} {st : List zV} {σ : zS} {Q : Option zV → zS → Prop}
theorem zOk_up {k i : Nat} {v : Int} (h : zOk Λ σ) (h64 : z64 v) (h32 : (zAt Λ k).1 ≠ 2 → z32 v) : zOk Λ (zUp σ k i v) := by
  intro a b
  unfold zUp
  by_cases ha : a = k
  · subst ha
    simp only [if_true]
    by_cases hb : b = i
    · rw [if_pos hb]; exact ⟨h64, h32⟩
    · rw [if_neg hb]; exact h a b
  · rw [if_neg ha]; exact h a b
theorem z32_64 {x : Int} (h : z32 x) : z64 x := ⟨by have := h.1; omega, by have := h.2; omega⟩
theorem zOk_up32 {k i : Nat} {v : Int} (h : zOk Λ σ) (h32 : z32 v) : zOk Λ (zUp σ k i v) := zOk_up h (z32_64 h32) (fun _ => h32)
theorem zW_getI {C : String} {T : u_T} {N ci idx k i : Nat} {rs : List (Option Nat)} (hc : zCi ci C T N) (hk : Λ[k]? = some (0, ci, rs)) (hr : rs[i]? = some none) (hi : i < N) (hlink : Cond.fieldLink M.1.cls idx (T i).1 (T i).2.1 (T i).2.2.1 ∈ zG) (hd : decode M.2.1 pc = .ok (.getfield idx, 3)) (hp : pc + 3 = pc') (kk : zW Λ M pc' L (zI (σ k i) :: st) σ Q) : zW Λ M pc L (zR k :: st) σ Q := by
  subst hp
  intro p l e s m args below meth c D cA ad C0 hI hσ hL hs H locs ls hP hS hl
  obtain ⟨hx, hb, -, -, ho, hts, -, -, hK⟩ := id C0
  refine va_get hx hb hts hc.2.1 ho hK hP k (zWs_at hk cA ad σ) hc.1 i hi (hts _ hlink) (fun _ h => h) (v := .int (Int32.ofInt (σ k i))) ?_ hd ?_
  · have := zFs_int ad (σ k) rs 0 i hr
    rw [Nat.zero_add] at this
    exact this
  · exact kk p l e s m args below meth c D cA ad C0 hI hσ hL (zOv_c (v := zI (σ k i)) ((hσ k i).2 (by rw [zAt_of hk]; exact fun q => by cases q)) (zOv_t hs)) H locs ls hP hS hl
theorem zW_getR {C : String} {T : u_T} {N ci idx k i q : Nat} {rs : List (Option Nat)} (hc : zCi ci C T N) (hk : Λ[k]? = some (0, ci, rs)) (hr : rs[i]? = some (some q)) (hi : i < N) (hlink : Cond.fieldLink M.1.cls idx (T i).1 (T i).2.1 (T i).2.2.1 ∈ zG) (hd : decode M.2.1 pc = .ok (.getfield idx, 3)) (hp : pc + 3 = pc') (kk : zW Λ M pc' L (zR q :: st) σ Q) : zW Λ M pc L (zR k :: st) σ Q := by
  subst hp
  intro p l e s m args below meth c D cA ad C0 hI hσ hL hs H locs ls hP hS hl
  obtain ⟨hx, hb, -, -, ho, hts, -, -, hK⟩ := id C0
  refine va_get hx hb hts hc.2.1 ho hK hP k (zWs_at hk cA ad σ) hc.1 i hi (hts _ hlink) (fun _ h => h) (v := .ref (ad q)) (zFs_ref ad (σ k) rs 0 i q hr) hd ?_
  exact kk p l e s m args below meth c D cA ad C0 hI hσ hL (zOv_c (v := zR q) trivial (zOv_t hs)) H locs ls hP hS hl
theorem zW_getIN {C host : String} {T : u_T} {N ci idx k i : Nat} {rs : List (Option Nat)} (hc : zCi ci C T N) (hk : Λ[k]? = some (0, ci, rs)) (hr : rs[i]? = some none) (hi : i < N) (hlink : Cond.fieldLinkNest M.1.cls idx (T i).1 (T i).2.1 (T i).2.2.1 host ∈ zN) (hd : decode M.2.1 pc = .ok (.getfield idx, 3)) (hp : pc + 3 = pc') (kk : zW Λ M pc' L (zI (σ k i) :: st) σ Q) : zW Λ M pc L (zR k :: st) σ Q := by
  subst hp
  intro p l e s m args below meth c D cA ad C0 hI hσ hL hs H locs ls hP hS hl
  obtain ⟨hx, hb, -, -, ho, hts, hn, -, hK⟩ := id C0
  refine va_getN hx hb hts hc.2.1 ho hK hP k (zWs_at hk cA ad σ) hc.1 i hi (va_Nw.use rfl (hn _ hlink)) (fun _ h => h) (v := .int (Int32.ofInt (σ k i))) ?_ hd ?_
  · have := zFs_int ad (σ k) rs 0 i hr
    rw [Nat.zero_add] at this
    exact this
  · exact kk p l e s m args below meth c D cA ad C0 hI hσ hL (zOv_c (v := zI (σ k i)) ((hσ k i).2 (by rw [zAt_of hk]; exact fun q => by cases q)) (zOv_t hs)) H locs ls hP hS hl
theorem zW_getRN {C host : String} {T : u_T} {N ci idx k i q : Nat} {rs : List (Option Nat)} (hc : zCi ci C T N) (hk : Λ[k]? = some (0, ci, rs)) (hr : rs[i]? = some (some q)) (hi : i < N) (hlink : Cond.fieldLinkNest M.1.cls idx (T i).1 (T i).2.1 (T i).2.2.1 host ∈ zN) (hd : decode M.2.1 pc = .ok (.getfield idx, 3)) (hp : pc + 3 = pc') (kk : zW Λ M pc' L (zR q :: st) σ Q) : zW Λ M pc L (zR k :: st) σ Q := by
  subst hp
  intro p l e s m args below meth c D cA ad C0 hI hσ hL hs H locs ls hP hS hl
  obtain ⟨hx, hb, -, -, ho, hts, hn, -, hK⟩ := id C0
  refine va_getN hx hb hts hc.2.1 ho hK hP k (zWs_at hk cA ad σ) hc.1 i hi (va_Nw.use rfl (hn _ hlink)) (fun _ h => h) (v := .ref (ad q)) (zFs_ref ad (σ k) rs 0 i q hr) hd ?_
  exact kk p l e s m args below meth c D cA ad C0 hI hσ hL (zOv_c (v := zR q) trivial (zOv_t hs)) H locs ls hP hS hl
/-- what fits a field: an int, or a boolean -/
def zFit (ty : FieldType) (v : Int) : Prop := ty = .int ∨ (ty = .boolean ∧ (v = 0 ∨ v = 1))
theorem zFit_n {ty : FieldType} {v : Int} (h : zFit ty v) : narrow ty (.int (Int32.ofInt v)) = .int (Int32.ofInt v) ∧ fits ty (.int (Int32.ofInt v)) = true := by
  rcases h with rfl | ⟨rfl, rfl | rfl⟩
  · exact ⟨rfl, rfl⟩
  · exact ⟨by decide, by decide⟩
  · exact ⟨by decide, by decide⟩
theorem zUp_eq (σ : zS) (k i : Nat) (v : Int) : (fun a => if a = k then (fun b => if b = i then v else σ k b) else σ a) = zUp σ k i v := rfl
theorem zW_put {C : String} {T : u_T} {N ci idx k i : Nat} {v : Int} {ty : FieldType} {rs : List (Option Nat)} (hc : zCi ci C T N) (hk : Λ[k]? = some (0, ci, rs)) (hr : rs[i]? = some none) (hi : i < N) (hlink : Cond.fieldLink M.1.cls idx (T i).1 (T i).2.1 (T i).2.2.1 ∈ zG) (hfin : (T i).2.2.2 = false) (hty : parseFieldDescriptor (T i).2.2.1 = some ty) (hf : zFit ty v) (hd : decode M.2.1 pc = .ok (.putfield idx, 3)) (hp : pc + 3 = pc') (kk : zW Λ M pc' L st (zUp σ k i v) Q) : zW Λ M pc L (zI v :: zR k :: st) σ Q := by
  subst hp
  intro p l e s m args below meth c D cA ad C0 hI hσ hL hs H locs ls hP hS hl
  obtain ⟨hx, hb, -, -, ho, hts, -, -, hK⟩ := id C0
  obtain ⟨ty0, h1, h2⟩ := hc.2.2
  refine va_put hx hb hts hc.2.1 ty0 h1 h2 ho hK hP (zD hI) hS k (zWs_at hk cA ad σ) hc.1 i hi (hts _ hlink) (fun _ h => h) hfin hty (zFit_n hf).1 (zFit_n hf).2 (by rw [zFs_len]; exact (List.getElem?_eq_some_iff.mp hr).1) hd (fun H1 locs1 hP1 hD1 hS1 => ?_)
  have e1 : ((zFs ad (σ k) 0 rs).set i (.int (Int32.ofInt v))) = zFs ad (fun b => if b = i then v else σ k b) 0 rs := by
    have := zFs_set ad v rs (σ k) 0 i hr
    rw [Nat.zero_add] at this
    exact this
  have hP2 : va_P D vwCl ((zWs Λ cA ad σ).set k (ad k, zCell cA ad (fun b => if b = i then v else σ k b) (0, ci, rs))) H1 := by
    have e2 : zCell cA ad (fun b => if b = i then v else σ k b) (0, ci, rs) = .inr (ci, (zFs ad (σ k) 0 rs).set i (.int (Int32.ofInt v))) := by rw [e1]; rfl
    rw [e2]; exact hP1
  rw [zWs_set hk, zUp_eq] at hP2
  exact kk p l e s m args below meth c D cA ad C0 hI (zOk_up32 hσ (zOv_h hs)) hL (zOv_t (zOv_t hs)) H1 locs1 ls hP2 hS1 hl
theorem zW_putN {C host : String} {T : u_T} {N ci idx k i : Nat} {v : Int} {ty : FieldType} {rs : List (Option Nat)} (hc : zCi ci C T N) (hk : Λ[k]? = some (0, ci, rs)) (hr : rs[i]? = some none) (hi : i < N) (hlink : Cond.fieldLinkNest M.1.cls idx (T i).1 (T i).2.1 (T i).2.2.1 host ∈ zN) (hfin : (T i).2.2.2 = false) (hty : parseFieldDescriptor (T i).2.2.1 = some ty) (hf : zFit ty v) (hd : decode M.2.1 pc = .ok (.putfield idx, 3)) (hp : pc + 3 = pc') (kk : zW Λ M pc' L st (zUp σ k i v) Q) : zW Λ M pc L (zI v :: zR k :: st) σ Q := by
  subst hp
  intro p l e s m args below meth c D cA ad C0 hI hσ hL hs H locs ls hP hS hl
  obtain ⟨hx, hb, -, -, ho, hts, hn, -, hK⟩ := id C0
  obtain ⟨ty0, h1, h2⟩ := hc.2.2
  refine va_putN hx hb hts hc.2.1 ty0 h1 h2 ho hK hP (zD hI) hS k (zWs_at hk cA ad σ) hc.1 i hi (va_Nw.use rfl (hn _ hlink)) (fun _ h => h) hfin hty (zFit_n hf).1 (zFit_n hf).2 (by rw [zFs_len]; exact (List.getElem?_eq_some_iff.mp hr).1) hd (fun H1 locs1 hP1 hD1 hS1 => ?_)
  have e1 : ((zFs ad (σ k) 0 rs).set i (.int (Int32.ofInt v))) = zFs ad (fun b => if b = i then v else σ k b) 0 rs := by
    have := zFs_set ad v rs (σ k) 0 i hr
    rw [Nat.zero_add] at this
    exact this
  have hP2 : va_P D vwCl ((zWs Λ cA ad σ).set k (ad k, zCell cA ad (fun b => if b = i then v else σ k b) (0, ci, rs))) H1 := by
    have e2 : zCell cA ad (fun b => if b = i then v else σ k b) (0, ci, rs) = .inr (ci, (zFs ad (σ k) 0 rs).set i (.int (Int32.ofInt v))) := by rw [e1]; rfl
    rw [e2]; exact hP1
  rw [zWs_set hk, zUp_eq] at hP2
  exact kk p l e s m args below meth c D cA ad C0 hI (zOk_up32 hσ (zOv_h hs)) hL (zOv_t (zOv_t hs)) H1 locs1 ls hP2 hS1 hl
-- ---- arrays
theorem zW_iald {k n : Nat} {i : Int} {rs : List (Option Nat)} (hk : Λ[k]? = some (1, n, rs)) (hd : decode M.2.1 pc = .ok (.iaload, 1)) (hp : pc + 1 = pc') (h0 : 0 ≤ i) (h1 : i < n) (kk : zW Λ M pc' L (zI (σ k i.toNat) :: st) σ Q) : zW Λ M pc L (zI i :: zR k :: st) σ Q := by
  subst hp
  intro p l e s m args below meth c D cA ad C0 hI hσ hL hs H locs ls hP hS hl
  have hi : z32 i := zOv_h hs
  refine va_iald C0.1 C0.2.1 C0.2.2.2.2.2.2.2.2 hP k 0 (zWs_at hk cA ad σ) rfl (zi_in hi h0 h1) hd ?_
  rw [zi_c hi]
  exact kk p l e s m args below meth c D cA ad C0 hI hσ hL (zOv_c (v := zI (σ k i.toNat)) ((hσ k i.toNat).2 (by rw [zAt_of hk]; exact fun q => by cases q)) (zOv_t (zOv_t hs))) H locs ls hP hS hl
theorem zW_bald {k n : Nat} {i : Int} {rs : List (Option Nat)} (hk : Λ[k]? = some (3, n, rs)) (hd : decode M.2.1 pc = .ok (.baload, 1)) (hp : pc + 1 = pc') (h0 : 0 ≤ i) (h1 : i < n) (kk : zW Λ M pc' L (zI (σ k i.toNat) :: st) σ Q) : zW Λ M pc L (zI i :: zR k :: st) σ Q := by
  subst hp
  intro p l e s m args below meth c D cA ad C0 hI hσ hL hs H locs ls hP hS hl
  have hi : z32 i := zOv_h hs
  refine va_zald C0.1 C0.2.1 C0.2.2.2.2.2.2.2.2 hP k 2 (zWs_at hk cA ad σ) rfl (zi_in hi h0 h1) hd ?_
  rw [zi_c hi]
  exact kk p l e s m args below meth c D cA ad C0 hI hσ hL (zOv_c (v := zI (σ k i.toNat)) ((hσ k i.toNat).2 (by rw [zAt_of hk]; exact fun q => by cases q)) (zOv_t (zOv_t hs))) H locs ls hP hS hl
theorem zW_lald {k n : Nat} {i : Int} {rs : List (Option Nat)} (hk : Λ[k]? = some (2, n, rs)) (hd : decode M.2.1 pc = .ok (.laload, 1)) (hp : pc + 1 = pc') (h0 : 0 ≤ i) (h1 : i < n) (kk : zW Λ M pc' L (zL (σ k i.toNat) :: st) σ Q) : zW Λ M pc L (zI i :: zR k :: st) σ Q := by
  subst hp
  intro p l e s m args below meth c D cA ad C0 hI hσ hL hs H locs ls hP hS hl
  have hi : z32 i := zOv_h hs
  refine va_lald C0.1 C0.2.1 C0.2.2.2.2.2.2.2.2 hP k 1 (zWs_at hk cA ad σ) rfl (zi_in hi h0 h1) hd ?_
  rw [zi_c hi]
  exact kk p l e s m args below meth c D cA ad C0 hI hσ hL (zOv_c (v := zL (σ k i.toNat)) (hσ k i.toNat).1 (zOv_t (zOv_t hs))) H locs ls hP hS hl
theorem zW_aald {k n q : Nat} {i : Int} {rs : List (Option Nat)} (hk : Λ[k]? = some (4, n, rs)) (hd : decode M.2.1 pc = .ok (.aaload, 1)) (hp : pc + 1 = pc') (h0 : 0 ≤ i) (h1 : i < n) (hq : rs.getD i.toNat none = some q) (kk : zW Λ M pc' L (zR q :: st) σ Q) : zW Λ M pc L (zI i :: zR k :: st) σ Q := by
  subst hp
  intro p l e s m args below meth c D cA ad C0 hI hσ hL hs H locs ls hP hS hl
  have hi : z32 i := zOv_h hs
  refine va_aldq C0.1 C0.2.1 C0.2.2.2.2.2.2.2.2 hP k 3 (zWs_at hk cA ad σ) rfl (zi_in hi h0 h1) hd ?_
  rw [zi_c hi, hq]
  exact kk p l e s m args below meth c D cA ad C0 hI hσ hL (zOv_c (v := zR q) trivial (zOv_t (zOv_t hs))) H locs ls hP hS hl
theorem zW_alen {k n : Nat} {rs : List (Option Nat)} (hk : Λ[k]? = some (1, n, rs)) (hn : n ≤ 1000) (hd : decode M.2.1 pc = .ok (.arraylength, 1)) (hp : pc + 1 = pc') (kk : zW Λ M pc' L (zI n :: st) σ Q) : zW Λ M pc L (zR k :: st) σ Q := by
  subst hp
  intro p l e s m args below meth c D cA ad C0 hI hσ hL hs H locs ls hP hS hl
  refine va_alen C0.1 C0.2.1 C0.2.2.2.2.2.2.2.2 hP k 0 (zWs_at hk cA ad σ) rfl (v := Int32.ofInt n) Int32.ofInt_eq_ofNat.symm hd ?_
  exact kk p l e s m args below meth c D cA ad C0 hI hσ hL (zOv_c (v := zI n) ⟨by omega, by omega⟩ (zOv_t hs)) H locs ls hP hS hl
theorem zW_alenL {k n : Nat} {rs : List (Option Nat)} (hk : Λ[k]? = some (2, n, rs)) (hn : n ≤ 1000) (hd : decode M.2.1 pc = .ok (.arraylength, 1)) (hp : pc + 1 = pc') (kk : zW Λ M pc' L (zI n :: st) σ Q) : zW Λ M pc L (zR k :: st) σ Q := by
  subst hp
  intro p l e s m args below meth c D cA ad C0 hI hσ hL hs H locs ls hP hS hl
  refine va_alen C0.1 C0.2.1 C0.2.2.2.2.2.2.2.2 hP k 1 (zWs_at hk cA ad σ) rfl (v := Int32.ofInt n) Int32.ofInt_eq_ofNat.symm hd ?_
  exact kk p l e s m args below meth c D cA ad C0 hI hσ hL (zOv_c (v := zI n) ⟨by omega, by omega⟩ (zOv_t hs)) H locs ls hP hS hl
theorem zW_iast {k n : Nat} {i v : Int} {rs : List (Option Nat)} (hk : Λ[k]? = some (1, n, rs)) (hd : decode M.2.1 pc = .ok (.iastore, 1)) (hp : pc + 1 = pc') (h0 : 0 ≤ i) (h1 : i < n) (kk : zW Λ M pc' L st (zUp σ k i.toNat v) Q) : zW Λ M pc L (zI v :: zI i :: zR k :: st) σ Q := by
  subst hp
  intro p l e s m args below meth c D cA ad C0 hI hσ hL hs H locs ls hP hS hl
  have hi : z32 i := zOv_h (zOv_t hs)
  refine va_iast C0.1 C0.2.1 C0.2.2.2.2.2.2.2.2 hP (zD hI) hS k 0 (zWs_at hk cA ad σ) rfl (zi_in hi h0 h1) hd (fun H1 locs1 hP1 hD1 hS1 => ?_)
  rw [zi_c hi] at hP1
  have hP2 : va_P D vwCl ((zWs Λ cA ad σ).set k (ad k, zCell cA ad (fun b => if b = i.toNat then v else σ k b) (1, n, rs))) H1 := by
    have e2 : zCell cA ad (fun b => if b = i.toNat then v else σ k b) (1, n, rs) = .inl (cA 0, n, .inl (upd (fun j => Int32.ofInt (σ k j)) i.toNat (Int32.ofInt v))) := by
      show (.inl (cA 0, n, .inl _) : va_E) = _
      congr 4
      funext b
      simp only [upd]
      split <;> rfl
    rw [e2]; exact hP1
  rw [zWs_set hk, zUp_eq] at hP2
  exact kk p l e s m args below meth c D cA ad C0 hI (zOk_up32 hσ (zOv_h hs)) hL (zOv_t (zOv_t (zOv_t hs))) H1 locs1 ls hP2 hS1 hl
theorem zW_last {k n : Nat} {i v : Int} {rs : List (Option Nat)} (hk : Λ[k]? = some (2, n, rs)) (hd : decode M.2.1 pc = .ok (.lastore, 1)) (hp : pc + 1 = pc') (h0 : 0 ≤ i) (h1 : i < n) (kk : zW Λ M pc' L st (zUp σ k i.toNat v) Q) : zW Λ M pc L (zL v :: zI i :: zR k :: st) σ Q := by
  subst hp
  intro p l e s m args below meth c D cA ad C0 hI hσ hL hs H locs ls hP hS hl
  have hi : z32 i := zOv_h (zOv_t hs)
  refine va_last C0.1 C0.2.1 C0.2.2.2.2.2.2.2.2 hP (zD hI) hS k 1 (zWs_at hk cA ad σ) rfl (zi_in hi h0 h1) hd (fun H1 locs1 hP1 hD1 hS1 => ?_)
  rw [zi_c hi] at hP1
  have hP2 : va_P D vwCl ((zWs Λ cA ad σ).set k (ad k, zCell cA ad (fun b => if b = i.toNat then v else σ k b) (2, n, rs))) H1 := by
    have e2 : zCell cA ad (fun b => if b = i.toNat then v else σ k b) (2, n, rs) = .inl (cA 1, n, .inr (.inl (vp_updL (fun j => Int64.ofInt (σ k j)) i.toNat (Int64.ofInt v)))) := by
      show (.inl (cA 1, n, .inr (.inl _)) : va_E) = _
      congr 5
      funext b
      simp only [vp_updL]
      split <;> rfl
    rw [e2]; exact hP1
  rw [zWs_set hk, zUp_eq] at hP2
  exact kk p l e s m args below meth c D cA ad C0 hI (zOk_up hσ (zOv_h hs) (fun q => absurd (by rw [zAt_of hk]) q)) hL (zOv_t (zOv_t (zOv_t hs))) H1 locs1 ls hP2 hS1 hl
theorem zW_bast {k n : Nat} {i v : Int} {rs : List (Option Nat)} (hk : Λ[k]? = some (3, n, rs)) (hv : v = 0 ∨ v = 1) (hd : decode M.2.1 pc = .ok (.bastore, 1)) (hp : pc + 1 = pc') (h0 : 0 ≤ i) (h1 : i < n) (kk : zW Λ M pc' L st (zUp σ k i.toNat v) Q) : zW Λ M pc L (zI v :: zI i :: zR k :: st) σ Q := by
  subst hp
  intro p l e s m args below meth c D cA ad C0 hI hσ hL hs H locs ls hP hS hl
  have hi : z32 i := zOv_h (zOv_t hs)
  refine va_zast C0.1 C0.2.1 C0.2.2.2.2.2.2.2.2 hP (zD hI) hS k 2 (zWs_at hk cA ad σ) rfl (zi_in hi h0 h1) hd (fun H1 locs1 hP1 hD1 hS1 => ?_)
  have e0 : vp_nar .boolean (Int32.ofInt v) = Int32.ofInt v := by rcases hv with rfl | rfl <;> decide
  rw [zi_c hi, e0] at hP1
  have hP2 : va_P D vwCl ((zWs Λ cA ad σ).set k (ad k, zCell cA ad (fun b => if b = i.toNat then v else σ k b) (3, n, rs))) H1 := by
    have e2 : zCell cA ad (fun b => if b = i.toNat then v else σ k b) (3, n, rs) = .inl (cA 2, n, .inl (upd (fun j => Int32.ofInt (σ k j)) i.toNat (Int32.ofInt v))) := by
      show (.inl (cA 2, n, .inl _) : va_E) = _
      congr 4
      funext b
      simp only [upd]
      split <;> rfl
    rw [e2]; exact hP1
  rw [zWs_set hk, zUp_eq] at hP2
  exact kk p l e s m args below meth c D cA ad C0 hI (zOk_up32 hσ (zOv_h hs)) hL (zOv_t (zOv_t (zOv_t hs))) H1 locs1 ls hP2 hS1 hl
/-- part of an array over another -/
def zCp (σ : zS) (k sp q dp n : Nat) : zS := fun a => if a = q then (fun b => if dp ≤ b ∧ b < dp + n then σ k (sp + (b - dp)) else σ q b) else σ a
-- ---- ends
theorem zW_ret (hd : decode M.2.1 pc = .ok (.return_, 1)) (hr : M.2.2.2.1 = none) (hq : Q none σ) : zW Λ M pc L [] σ Q := by
  intro p l e s m args below meth c D cA ad C0 hI hσ hL hs H locs ls hP hS hl
  obtain ⟨hx, hb, hr2, -, -, -, -, hlk, -⟩ := id C0
  exact W.vret hx hb (hr2.trans hr) (fun t ht _ => ⟨⟨none, σ, rfl, hq, trivial, hσ, by rw [ht]; exact hP⟩, hS.F ht⟩) hS.2.2 hd hlk
theorem zW_iret {x : Int} (hd : decode M.2.1 pc = .ok (.ireturn, 1)) (hr : M.2.2.2.1 = some .int) (hq : Q (some (zI x)) σ) : zW Λ M pc L [zI x] σ Q := by
  intro p l e s m args below meth c D cA ad C0 hI hσ hL hs H locs ls hP hS hl
  obtain ⟨hx, hb, hr2, -, -, -, -, hlk, -⟩ := id C0
  exact W.iret hx hb (hr2.trans hr) (fun t ht _ => ⟨⟨some (zI x), σ, rfl, hq, zOv_h hs, hσ, by rw [ht]; exact hP⟩, hS.F ht⟩) hS.2.2 hd hlk
theorem zW_zret {x : Int} (hd : decode M.2.1 pc = .ok (.ireturn, 1)) (hr : M.2.2.2.1 = some .boolean) (hv : x = 0 ∨ x = 1) (hq : Q (some (zI x)) σ) : zW Λ M pc L [zI x] σ Q := by
  intro p l e s m args below meth c D cA ad C0 hI hσ hL hs H locs ls hP hS hl
  obtain ⟨hx, hb, hr2, -, -, -, -, hlk, -⟩ := id C0
  exact W.zret hx hb (hr2.trans hr) (zFit_n (Or.inr ⟨rfl, hv⟩)).1 (fun t ht _ => ⟨⟨some (zI x), σ, rfl, hq, zOv_h hs, hσ, by rw [ht]; exact hP⟩, hS.F ht⟩) hS.2.2 hd hlk
theorem zW_lret {x : Int} (hd : decode M.2.1 pc = .ok (.lreturn, 1)) (hr : M.2.2.2.1 = some .long) (hq : Q (some (zL x)) σ) : zW Λ M pc L [zL x] σ Q := by
  intro p l e s m args below meth c D cA ad C0 hI hσ hL hs H locs ls hP hS hl
  obtain ⟨hx, hb, hr2, -, -, -, -, hlk, -⟩ := id C0
  exact W.lret hx hb (hr2.trans hr) (fun t ht _ => ⟨⟨some (zL x), σ, rfl, hq, zOv_h hs, hσ, by rw [ht]; exact hP⟩, hS.F ht⟩) hS.2.2 hd hlk
theorem zW_aret {q : Nat} {n : String} (hd : decode M.2.1 pc = .ok (.areturn, 1)) (hr : M.2.2.2.1 = some (.object n)) (hq : Q (some (zR q)) σ) : zW Λ M pc L [zR q] σ Q := by
  intro p l e s m args below meth c D cA ad C0 hI hσ hL hs H locs ls hP hS hl
  obtain ⟨hx, hb, hr2, -, -, -, -, hlk, -⟩ := id C0
  exact W.aret hx hb (hr2.trans hr) (Or.inl ⟨_, rfl⟩) (Or.inr ⟨ad q, rfl⟩) (fun t ht _ => ⟨⟨some (zR q), σ, rfl, hq, trivial, hσ, by rw [ht]; exact hP⟩, hS.F ht⟩) hS.2.2 hd hlk
end zRules3
end
section
/-! ===== the layer's rules: a contract out of a walk, calls ===== -/
section zCalls
variable {Λ : List zSh} {M M2 : zM} {pc pc' : Nat} {L L' : List (Option zV)} {st as : List zV} {σ : zS} {Q Q2 : Option zV → zS → Prop}
def zEa : List zV → List (Option zV)
  | [] => []
  | .inl x :: as => some (.inl x) :: zEa as
  | .inr (.inl x) :: as => some (.inr (.inl x)) :: none :: zEa as
  | .inr (.inr k) :: as => some (.inr (.inr k)) :: zEa as
theorem zEa_mem {w : zV} : ∀ (as : List zV), some w ∈ zEa as → w ∈ as
  | [], h => by simp [zEa] at h
  | .inl x :: as, h => by
    simp only [zEa, List.mem_cons, Option.some.injEq] at h ⊢
    exact h.imp id (zEa_mem as)
  | .inr (.inl x) :: as, h => by
    simp only [zEa, List.mem_cons, Option.some.injEq, reduceCtorEq, false_or] at h ⊢
    exact h.imp id (zEa_mem as)
  | .inr (.inr x) :: as, h => by
    simp only [zEa, List.mem_cons, Option.some.injEq] at h ⊢
    exact h.imp id (zEa_mem as)
theorem zEa_at (ad : Nat → Nat) {w : zV} : ∀ (as : List zV) (j i : Nat), (zEa as)[i]? = some (some w) → (j + i, zTv ad w) ∈ lv_args j (as.map (zTv ad))
  | [], j, i, h => by simp [zEa] at h
  | .inl x :: as, j, 0, h => by
    simp only [zEa, List.getElem?_cons_zero, Option.some.injEq] at h
    subst h
    exact List.mem_cons_self
  | .inl x :: as, j, i + 1, h => by
    simp only [zEa, List.getElem?_cons_succ] at h
    have := zEa_at ad as (j + 1) i h
    rw [show j + (i + 1) = j + 1 + i by omega]
    exact List.mem_cons_of_mem _ this
  | .inr (.inr x) :: as, j, 0, h => by
    simp only [zEa, List.getElem?_cons_zero, Option.some.injEq] at h
    subst h
    exact List.mem_cons_self
  | .inr (.inr x) :: as, j, i + 1, h => by
    simp only [zEa, List.getElem?_cons_succ] at h
    have := zEa_at ad as (j + 1) i h
    rw [show j + (i + 1) = j + 1 + i by omega]
    exact List.mem_cons_of_mem _ this
  | .inr (.inl x) :: as, j, 0, h => by
    simp only [zEa, List.getElem?_cons_zero, Option.some.injEq] at h
    subst h
    exact List.mem_cons_self
  | .inr (.inl x) :: as, j, 1, h => by
    simp [zEa] at h
  | .inr (.inl x) :: as, j, i + 2, h => by
    simp only [zEa, List.getElem?_cons_succ] at h
    have := zEa_at ad as (j + 2) i h
    rw [show j + (i + 2) = j + 2 + i by omega]
    exact List.mem_cons_of_mem _ this
theorem zlg_c (v : Value) (vs : List Value) : lg_sl (v :: vs) = (if v.category = 2 then [.val v, .second] else [.val v]) ++ lg_sl vs := by simp only [lg_sl, List.flatMap_cons]
theorem zEa_len (ad : Nat → Nat) : ∀ (as : List zV), (lg_sl (as.map (zTv ad))).length = (zEa as).length
  | [] => rfl
  | .inl x :: as => by
    rw [List.map_cons, zlg_c, List.length_append, zEa_len ad as, if_neg (by rw [zTv_cat]; exact fun q => by cases q)]
    simp only [zEa, List.length_cons, List.length_nil]; omega
  | .inr (.inl x) :: as => by
    rw [List.map_cons, zlg_c, List.length_append, zEa_len ad as, if_pos (by rw [zTv_cat]; rfl)]
    simp only [zEa, List.length_cons, List.length_nil]; omega
  | .inr (.inr x) :: as => by
    rw [List.map_cons, zlg_c, List.length_append, zEa_len ad as, if_neg (by rw [zTv_cat]; exact fun q => by cases q)]
    simp only [zEa, List.length_cons, List.length_nil]; omega
/-- the locals with which a method begins -/
def zEn (M : zM) (as : List zV) : List (Option zV) := zEa as ++ List.replicate (M.2.2.1 - (zEa as).length) none
theorem zSpec_of (hy : plainName M.1.cls = true) (hlen : (zEa as).length ≤ M.2.2.1) (hL : zEn M as = L) (h : zW Λ M 0 L [] σ Q) : zSpec Λ M as σ Q := by
  subst hL
  intro l D cA ad hI has hσ
  refine Met.ofW (cc := M.2.1) (maxL := M.2.2.1) (ret := M.2.2.2.1) hy rfl ?_
  intro p e s m args below meth c s₁ B hml hv
  obtain ⟨rfl, hP, hK, hN⟩ := hv
  have hts := atoms_spec (ws := zWd M) B.pre
  rw [lg_entry_eq]
  have hle := lv_entry (as.map (zTv ad)) (n := M.2.2.1) (by rw [zEa_len]; exact hlen)
  refine h p l e s m _ below meth c D cA ad ⟨B.exec, B.bytes, B.returns, hml, findClass_of_methodNamed B.named, fun w hw => hts w (List.mem_cons_of_mem _ hw), hN, B.notSynchronized, hK⟩ hI hσ ?_ (fun _ hv => by cases hv) s.heap [] _ hP va_S.rf ⟨hle.1, hle.2.1, fun i v hi => ?_⟩
  · intro v hv
    rcases List.mem_append.mp hv with hv | hv
    · exact has v (zEa_mem as hv)
    · exact absurd (List.eq_of_mem_replicate hv) (by simp)
  · have hi2 : (zEa as)[i]? = some (some v) := by
      unfold zEn at hi
      by_cases hl : i < (zEa as).length
      · rwa [List.getElem?_append_left hl] at hi
      · rw [List.getElem?_append_right (by omega)] at hi
        exact absurd (List.eq_of_mem_replicate (List.mem_of_getElem? hi)) (by simp)
    have := zEa_at ad as 0 i hi2
    rw [Nat.zero_add] at this
    exact hle.2.2 _ this
/-- what a call needs, whatever its kind: the callee's words are in the tables, its room fits -/
def zCw (M M2 : zM) (n : Nat) : Prop := Cond.code M2.1 M2.2.1 M2.2.2.1 M2.2.2.2.1 ∈ zG ∧ Cond.initialized M2.1.cls ∈ zG ∧ (M2.1.cls ≠ "java/lang/invoke/MethodHandle" ∧ M2.1.cls ≠ "java/lang/invoke/VarHandle" ∧ (parseMethodDescriptor M2.1.desc).map (fun d => d.parameters.length) = some n) ∧ M2.2.2.2.2.1 + 1 ≤ M.2.2.2.2.1 ∧ 8 + (M2.2.2.1 + 11) + M2.2.2.2.2.2 ≤ M.2.2.2.2.2
theorem zG_good : GoodIn zG zG := fun _ hw => ⟨hw, good_of_word (List.mem_filter.mp hw).2⟩
theorem zG_wd (h : Cond.code M2.1 M2.2.1 M2.2.2.1 M2.2.2.2.1 ∈ zG) : GoodIn zG (zWd M2) := fun w hw => by
  rcases List.mem_cons.mp hw with rfl | hw
  · exact zG_good _ h
  · exact zG_good w hw
theorem zPc_blind {D : va_G} {cA : Nat → ClassId} {ad : Nat → Nat} : FrameBlind (zPc Λ D cA ad as σ) := by
  intro a U g mk q
  obtain ⟨q0, qP, qK, qN⟩ := q
  exact ⟨q0, qP, va_K.moved (u := U) (U := U.calling g mk a) (Vm.Alike.refl U.vm) qK, fun w hw => va_Nw.same (u := U) (U := U.calling g mk a) (zN_tab hw) rfl (qN w hw)⟩
theorem zPc_at {s : State} {H : Heap} {D : va_G} {cA : Nat → ClassId} {ad : Nat → Nat} (hK : va_K D vwCl (zTy cA) s) (hN : ∀ w ∈ zN, va_Nw w s) (hP : va_P D vwCl (zWs Λ cA ad σ) H) : ∀ U : State, U.heap = H → s.WarmedH U.vm → zPc Λ D cA ad as σ (as.map (zTv ad)).toArray U :=
  fun U hU hW => ⟨rfl, by rw [hU]; exact hP, va_K.moved hW.alike hK, zN_warm hW hN⟩
/-- behind a call -/
theorem zCall_go {p : Program} {l : Launch} {e : Env} {R : Room} {s : State} {m : MethodId} {args : Array Value} {below : List Frame} {meth : Method} {c : Code} {H : Heap} {locs : List Loc} {D : va_G} {cA : Nat → ClassId} {ad : Nat → Nat} {a : Array Value} {ls : Array Slot} {st0 rest : List Value} {QQ : State → Prop}
    (hr : va_Run p l e R s m args below meth c H locs 0 0 0 0 (F0 m pc ls st0) rest (zQc Λ D cA ad Q2 a) (zA Λ ad)) (hS : va_S (zA Λ ad) s.heap H locs)
    (kk : ∀ (r : Option zV) (σ' : zS) (H1 : Heap) (locs1 : List Loc), Q2 r σ' → zOo r → zOk Λ σ' → va_P D vwCl (zWs Λ cA ad σ') H1 → va_S (zA Λ ad) s.heap H1 locs1 → W p l e R s m args below meth c H1 locs1 0 0 QQ (F0 m (pc + 3) ls ((r.map (zTv ad)).toList ++ rest))) :
    W p l e R s m args below meth c H locs 0 0 QQ (F0 m pc ls st0) := by
  intro T hT X
  obtain ⟨v, st₀, t, T', Lc, h0, X', hL, e1, e2, ⟨⟨r, σ', hv, hQ, hr0, hσ, hP⟩, hz, hk⟩, hgo⟩ := hr T hT X
  cases hv
  rw [h0] at hz hk
  obtain ⟨t2, a1, b1⟩ := kk r σ' T'.heap (locs ++ Lc) hQ hr0 hσ (by rw [e1]; exact hP)
    ⟨Nat.le_trans hS.1 (by rw [e1]; exact hz), fun q h1 h2 => by rw [e1, hk q (Nat.lt_of_lt_of_le h1 hS.1) h2]; exact hS.2.1 q h1 h2, fun q hq => by
      rcases List.mem_append.mp hq with h | h
      · exact hS.2.2 q h
      · exact hL q h⟩ T' rfl X'
  exact ⟨t2, hgo t2 a1, b1⟩
theorem zTo_ok {r : Option zV} {st : List zV} (hr : zOo r) (hs : ∀ v ∈ st, zOv v) : ∀ v ∈ r.toList ++ st, zOv v := by
  intro v hv
  rcases List.mem_append.mp hv with h | h
  · cases r with
    | none => cases h
    | some w =>
      rw [Option.toList_some, List.mem_singleton] at h
      subst h
      exact hr
  · exact hs v h
theorem zTo_map {ad : Nat → Nat} {r : Option zV} {st : List zV} : (r.toList ++ st).map (zTv ad) = (r.map (zTv ad)).toList ++ st.map (zTv ad) := by
  cases r <;> rfl
def zCat (st : List zV) : Nat := (st.map (fun v => if zIsL (some v) then 2 else 1)).sum
theorem zCat_eq (ad : Nat → Nat) (st : List zV) : ((st.map (zTv ad)).map fun v => v.category).sum = zCat st := by
  unfold zCat
  rw [List.map_map]
  congr 2
  funext v
  exact zTv_cat ad v
theorem zSplit {st1 st2 : List zV} (h : ∀ v ∈ st1 ++ st2, zOv v) : (∀ v ∈ st1, zOv v) ∧ ∀ v ∈ st2, zOv v := ⟨fun v hv => h v (List.mem_append_left _ hv), fun v hv => h v (List.mem_append_right _ hv)⟩
theorem zW_callV {idx n k ci : Nat} {rs : List (Option Nat)} {T : u_T} {N : Nat} {stk : List zV} (cw : zCw M M2 n) (hl : Cond.methodLink M.1.cls idx M2.1 ∈ zG) (hin : Cond.instanceMethod M2.1 ∈ zG) (hsel : Cond.selects M2.1.cls M2.1 M2.1 ∈ zG) (hc : vwCl[ci]? = some (M2.1.cls, T, N)) (hk : Λ[k]? = some (0, ci, rs))
    (hd : decode M.2.1 pc = .ok (.invokevirtual idx, 3)) (hp : pc + 3 = pc') (hst : stk = as.reverse ++ zR k :: st) (hn : as.length = n) (hw : zCat st ≤ 8) (hS2 : zSpec Λ M2 (zR k :: as) σ Q2) (kk : ∀ r σ', Q2 r σ' → zW Λ M pc' L (r.toList ++ st) σ' Q) : zW Λ M pc L stk σ Q := by
  subst hp; subst hst
  intro p l e s m args below meth c D cA ad C0 hI hσ hL hs H locs ls hP hS hl2
  obtain ⟨hx, hb, hr, hml, ho, hts, hN, hlk, hK⟩ := id C0
  obtain ⟨hcode, hini, hd3, hf1, hf2⟩ := cw
  have hsA := zSplit hs
  have hM := hS2 l D cA ad hI (zOv_c trivial (fun v hv => hsA.1 v (List.mem_reverse.mpr hv))) hσ
  have hCB : CallW (zRm M) s args M.1.cls M2.1.cls idx M2.1 M2.2.1 M2.2.2.1 M2.2.2.2.1 (zWd M2) (zRm M2) 0 0 n :=
    ⟨callB_of n hts (zG_wd hcode) rfl rfl rfl (hts _ hini) (hts _ hl) hd3 ⟨hf1, hf2⟩, hts _ hin, hts _ hsel⟩
  have hrun := va_runV (As := as.map (zTv ad)) (rest := st.map (zTv ad)) (g := F0 m pc ls ((as.reverse ++ zR k :: st).map (zTv ad))) (locs := locs) (cells := 0) (slots := 0) (e := e) (below := below) (meth := meth) (b := ad k) (H := H) ⟨hx, hb, hml, ho, hts⟩ hM hCB
    ⟨zPc_blind, va_recv hK hP hc (zWs_at hk cA ad σ), zPc_at (as := zR k :: as) hK hN hP⟩ rfl (by rw [List.length_map]; exact hn) hl2.1 (by simp [zTv]) (lv_room (by rw [zCat_eq]; exact hw)) hd ⟨Nat.le_refl _, Nat.le_refl _⟩
  refine zCall_go hrun hS (fun r σ' H1 locs1 hQ hr0 hσ' hP1 hS1 => ?_)
  rw [← zTo_map]
  exact kk r σ' hQ p l e s m args below meth c D cA ad C0 hI hσ' hL (zTo_ok hr0 (zOv_t hsA.2)) H1 locs1 ls hP1 hS1 hl2
theorem zW_callS {idx n : Nat} {stk : List zV} (cw : zCw M M2 n) (hl : Cond.methodLink M.1.cls idx M2.1 ∈ zG) (hin : Cond.static M2.1 ∈ zG)
    (hd : decode M.2.1 pc = .ok (.invokestatic idx, 3)) (hp : pc + 3 = pc') (hst : stk = as.reverse ++ st) (hn : as.length = n) (hw : zCat st ≤ 8) (hS2 : zSpec Λ M2 as σ Q2) (kk : ∀ r σ', Q2 r σ' → zW Λ M pc' L (r.toList ++ st) σ' Q) : zW Λ M pc L stk σ Q := by
  subst hp; subst hst
  intro p l e s m args below meth c D cA ad C0 hI hσ hL hs H locs ls hP hS hl2
  obtain ⟨hx, hb, hr, hml, ho, hts, hN, hlk, hK⟩ := id C0
  obtain ⟨hcode, hini, hd3, hf1, hf2⟩ := cw
  have hsA := zSplit hs
  have hM := hS2 l D cA ad hI (fun v hv => hsA.1 v (List.mem_reverse.mpr hv)) hσ
  have hCB : CallB (zRm M) s args M.1.cls idx M2.1 M2.2.1 M2.2.2.1 M2.2.2.2.1 (zWd M2) (zRm M2) 0 0 n ∧ (Cond.static M2.1).before args s = true :=
    ⟨callB_of n hts (zG_wd hcode) rfl rfl rfl (hts _ hini) (hts _ hl) hd3 ⟨hf1, hf2⟩, hts _ hin⟩
  have hrun := va_runS (As := as.map (zTv ad)) (rest := st.map (zTv ad)) (g := F0 m pc ls ((as.reverse ++ st).map (zTv ad))) (locs := locs) (cells := 0) (slots := 0) (e := e) (below := below) (meth := meth) (H := H) ⟨hx, hb, hml, ho, hts⟩ hM hCB
    ⟨zPc_blind, zPc_at hK hN hP⟩ rfl (by rw [List.length_map]; exact hn) hl2.1 (by simp) (lv_room (by rw [zCat_eq]; exact hw)) hd ⟨Nat.le_refl _, Nat.le_refl _⟩
  refine zCall_go hrun hS (fun r σ' H1 locs1 hQ hr0 hσ' hP1 hS1 => ?_)
  rw [← zTo_map]
  exact kk r σ' hQ p l e s m args below meth c D cA ad C0 hI hσ' hL (zTo_ok hr0 hsA.2) H1 locs1 ls hP1 hS1 hl2
theorem zW_callSN {idx n : Nat} {stk : List zV} {host : String} (cw : zCw M M2 n) (hl : Cond.methodLinkNest M.1.cls idx M2.1 host ∈ zN) (hin : Cond.static M2.1 ∈ zG)
    (hd : decode M.2.1 pc = .ok (.invokestatic idx, 3)) (hp : pc + 3 = pc') (hst : stk = as.reverse ++ st) (hn : as.length = n) (hw : zCat st ≤ 8) (hS2 : zSpec Λ M2 as σ Q2) (kk : ∀ r σ', Q2 r σ' → zW Λ M pc' L (r.toList ++ st) σ' Q) : zW Λ M pc L stk σ Q := by
  subst hp; subst hst
  intro p l e s m args below meth c D cA ad C0 hI hσ hL hs H locs ls hP hS hl2
  obtain ⟨hx, hb, hr, hml, ho, hts, hN, hlk, hK⟩ := id C0
  obtain ⟨hcode, hini, hd3, hf1, hf2⟩ := cw
  have hsA := zSplit hs
  have hM := hS2 l D cA ad hI (fun v hv => hsA.1 v (List.mem_reverse.mpr hv)) hσ
  have hCB : va_CN (zRm M) s args M.1.cls idx M2.1 host M2.2.1 M2.2.2.1 M2.2.2.2.1 (zWd M2) (zRm M2) 0 0 n ∧ (Cond.static M2.1).before args s = true ∧ True :=
    ⟨va_cnB n hts (zG_wd hcode) rfl rfl rfl (hN _ hl) (hts _ hini) hd3 ⟨hf1, hf2⟩, hts _ hin, trivial⟩
  have hrun := va_runSN (As := as.map (zTv ad)) (rest := st.map (zTv ad)) (g := F0 m pc ls ((as.reverse ++ st).map (zTv ad))) (locs := locs) (cells := 0) (slots := 0) (e := e) (below := below) (meth := meth) (H := H) ⟨hx, hb, hml, ho, hts⟩ hM hCB
    ⟨zPc_blind, zPc_at hK hN hP⟩ rfl (by rw [List.length_map]; exact hn) hl2.1 (by simp) (lv_room (by rw [zCat_eq]; exact hw)) hd ⟨Nat.le_refl _, Nat.le_refl _⟩
  refine zCall_go hrun hS (fun r σ' H1 locs1 hQ hr0 hσ' hP1 hS1 => ?_)
  rw [← zTo_map]
  exact kk r σ' hQ p l e s m args below meth c D cA ad C0 hI hσ' hL (zTo_ok hr0 hsA.2) H1 locs1 ls hP1 hS1 hl2
end zCalls
end
section
/-! ===== the layer's rules: fewer locals, arraycopy, calls by what they answer ===== -/
section zMore
variable {Λ : List zSh} {M M2 : zM} {pc pc' : Nat} {L L' : List (Option zV)} {st as : List zV} {σ : zS} {Q : Option zV → zS → Prop}
def zLe : List (Option zV) → List (Option zV) → Prop
  | [], _ => True
  | none :: a, [] => zLe a []
  | none :: a, _ :: b => zLe a b
  | some v :: a, some w :: b => v = w ∧ zLe a b
  | some _ :: _, _ => False
theorem zLe_at : ∀ (a b : List (Option zV)), zLe a b → ∀ (i : Nat) (v : zV), a[i]? = some (some v) → b[i]? = some (some v)
  | [], _, _, i, v, h => by simp at h
  | none :: a, [], hle, i, v, h => by
    cases i with
    | zero => simp at h
    | succ i =>
      rw [List.getElem?_cons_succ] at h
      have := zLe_at a [] hle i v h
      simp at this
  | none :: a, o :: b, hle, i, v, h => by
    cases i with
    | zero => simp at h
    | succ i =>
      rw [List.getElem?_cons_succ] at h ⊢
      exact zLe_at a b hle i v h
  | some w :: a, some u :: b, hle, i, v, h => by
    cases i with
    | zero =>
      rw [List.getElem?_cons_zero] at h ⊢
      rw [← hle.1]; exact h
    | succ i =>
      rw [List.getElem?_cons_succ] at h ⊢
      exact zLe_at a b hle.2 i v h
  | some w :: a, none :: b, hle, i, v, h => hle.elim
  | some w :: a, [], hle, i, v, h => hle.elim
theorem zW_forget (h : zLe L' L) (k : zW Λ M pc L' st σ Q) : zW Λ M pc L st σ Q := by
  intro p l e s m args below meth c D cA ad C hI hσ hL hs H locs ls hP hS hl
  refine k p l e s m args below meth c D cA ad C hI hσ (fun v hv => ?_) hs H locs ls hP hS ⟨hl.1, hl.2.1, fun i v hi => hl.2.2 i v (zLe_at _ _ h i v hi)⟩
  obtain ⟨i, hi⟩ := List.getElem?_of_mem hv
  exact hL v (List.mem_of_getElem? (zLe_at _ _ h i v hi))
theorem zOk_cp {k q sp dp n n0 : Nat} {rs : List (Option Nat)} (h : zOk Λ σ) (hk : Λ[k]? = some (1, n0, rs)) : zOk Λ (zCp σ k sp q dp n) := by
  intro a b
  unfold zCp
  by_cases ha : a = q
  · subst ha
    simp only [if_true]
    split
    · exact ⟨(h k _).1, fun _ => (h k _).2 (by rw [zAt_of hk]; exact fun q => by cases q)⟩
    · exact h a b
  · rw [if_neg ha]; exact h a b
theorem zW_copy {idx k q n0 n1 : Nat} {sp dp n : Int} {rs rs1 : List (Option Nat)} (hk : Λ[k]? = some (1, n0, rs)) (hq : Λ[q]? = some (1, n1, rs1)) (hl : Cond.methodLink M.1.cls idx arraycopyName ∈ zG) (hnat : Cond.native arraycopyName ∈ zG) (hstat : Cond.static arraycopyName ∈ zG) (hini : Cond.initialized "java/lang/System" ∈ zG)
    (hf : 1 ≤ M.2.2.2.2.1) (hlo : zCat st + (nativeFrameWords "java/lang/System" "arraycopy" 5 + 11) ≤ M.2.2.2.2.2) (hd : decode M.2.1 pc = .ok (.invokestatic idx, 3)) (hp : pc + 3 = pc') (h1 : 0 ≤ sp) (h2 : 0 ≤ dp) (h3 : 0 ≤ n) (h4 : sp + n ≤ n0) (h5 : dp + n ≤ n1)
    (kk : zW Λ M pc' L st (zCp σ k sp.toNat q dp.toNat n.toNat) Q) : zW Λ M pc L (zI n :: zI dp :: zR q :: zI sp :: zR k :: st) σ Q := by
  subst hp
  intro p l e s m args below meth c D cA ad C0 hI hσ hL hs H locs ls hP hS hl2
  obtain ⟨hx, hb, hr, hml, ho, hts, hN, hlk, hK⟩ := id C0
  have zn : z32 n := zOv_h hs
  have zd : z32 dp := zOv_h (zOv_t hs)
  have zs : z32 sp := zOv_h (zOv_t (zOv_t (zOv_t hs)))
  have neg : ∀ {x : Int}, z32 x → 0 ≤ x → ¬ Int32.ofInt x < 0 := fun hx h0 q => by
    rw [show (0 : Int32) = Int32.ofInt 0 from rfl, zi_lt hx z0_32] at q
    omega
  refine va_copyi hx hb (hml.trans hl2.1.symm) ho (hts _ hl) (hts _ hnat) (hts _ hstat) (hts _ hini) hK hP (zD hI) hS k q 0 0 (zWs_at hk cA ad σ) (zWs_at hq cA ad σ) rfl rfl rfl (neg zs h1) (neg zd h2) (neg zn h3) (by rw [zi_c zs, zi_c zn]; omega) (by rw [zi_c zd, zi_c zn]; omega) (fun _ _ => rfl) hf (by rw [zCat_eq]; exact hlo) hd (fun H1 locs1 hP1 hD1 hS1 => ?_)
  rw [zi_c zs, zi_c zd, zi_c zn] at hP1
  have hP2 : va_P D vwCl ((zWs Λ cA ad σ).set q (ad q, zCell cA ad (fun b => if dp.toNat ≤ b ∧ b < dp.toNat + n.toNat then σ k (sp.toNat + (b - dp.toNat)) else σ q b) (1, n1, rs1))) H1 := by
    have e2 : zCell cA ad (fun b => if dp.toNat ≤ b ∧ b < dp.toNat + n.toNat then σ k (sp.toNat + (b - dp.toNat)) else σ q b) (1, n1, rs1) = .inl (cA 0, n1, .inl (va_cpy (fun j => Int32.ofInt (σ k j)) (fun j => Int32.ofInt (σ q j)) sp.toNat dp.toNat n.toNat)) := by
      show (.inl (cA 0, n1, .inl _) : va_E) = _
      congr 4
      funext b
      simp only [va_cpy]
      split <;> rfl
    rw [e2]; exact hP1
  rw [zWs_set hq] at hP2
  exact kk p l e s m args below meth c D cA ad C0 hI (zOk_cp hσ hk) hL (zOv_t (zOv_t (zOv_t (zOv_t (zOv_t hs))))) H1 locs1 ls hP2 hS1 hl2
-- ---- by what a call answers
def zqI (Q : Int → zS → Prop) : Option zV → zS → Prop := fun r σ => ∃ x, r = some (zI x) ∧ Q x σ
def zqL (Q : Int → zS → Prop) : Option zV → zS → Prop := fun r σ => ∃ x, r = some (zL x) ∧ Q x σ
def zqR (Q : Nat → zS → Prop) : Option zV → zS → Prop := fun r σ => ∃ x, r = some (zR x) ∧ Q x σ
def zqV (Q : zS → Prop) : Option zV → zS → Prop := fun r σ => r = none ∧ Q σ
theorem zW_callVI {Q2 : Int → zS → Prop} {idx n k ci : Nat} {rs : List (Option Nat)} {T : u_T} {N : Nat} {stk : List zV} (cw : zCw M M2 n) (hl : Cond.methodLink M.1.cls idx M2.1 ∈ zG) (hin : Cond.instanceMethod M2.1 ∈ zG) (hsel : Cond.selects M2.1.cls M2.1 M2.1 ∈ zG) (hc : vwCl[ci]? = some (M2.1.cls, T, N)) (hk : Λ[k]? = some (0, ci, rs)) (hd : decode M.2.1 pc = .ok (.invokevirtual idx, 3)) (hp : pc + 3 = pc') (hst : stk = as.reverse ++ zR k :: st) (hn : as.length = n) (hw : zCat st ≤ 8) (hS2 : zSpec Λ M2 (zR k :: as) σ (zqI Q2)) (kk : ∀ x σ', Q2 x σ' → zW Λ M pc' L (zI x :: st) σ' Q) : zW Λ M pc L stk σ Q :=
  zW_callV cw hl hin hsel hc hk hd hp hst hn hw hS2 (fun r σ' hq => by obtain ⟨x, rfl, h⟩ := hq; exact kk x σ' h)
theorem zW_callVL {Q2 : Int → zS → Prop} {idx n k ci : Nat} {rs : List (Option Nat)} {T : u_T} {N : Nat} {stk : List zV} (cw : zCw M M2 n) (hl : Cond.methodLink M.1.cls idx M2.1 ∈ zG) (hin : Cond.instanceMethod M2.1 ∈ zG) (hsel : Cond.selects M2.1.cls M2.1 M2.1 ∈ zG) (hc : vwCl[ci]? = some (M2.1.cls, T, N)) (hk : Λ[k]? = some (0, ci, rs)) (hd : decode M.2.1 pc = .ok (.invokevirtual idx, 3)) (hp : pc + 3 = pc') (hst : stk = as.reverse ++ zR k :: st) (hn : as.length = n) (hw : zCat st ≤ 8) (hS2 : zSpec Λ M2 (zR k :: as) σ (zqL Q2)) (kk : ∀ x σ', Q2 x σ' → zW Λ M pc' L (zL x :: st) σ' Q) : zW Λ M pc L stk σ Q :=
  zW_callV cw hl hin hsel hc hk hd hp hst hn hw hS2 (fun r σ' hq => by obtain ⟨x, rfl, h⟩ := hq; exact kk x σ' h)
theorem zW_callVR {Q2 : Nat → zS → Prop} {idx n k ci : Nat} {rs : List (Option Nat)} {T : u_T} {N : Nat} {stk : List zV} (cw : zCw M M2 n) (hl : Cond.methodLink M.1.cls idx M2.1 ∈ zG) (hin : Cond.instanceMethod M2.1 ∈ zG) (hsel : Cond.selects M2.1.cls M2.1 M2.1 ∈ zG) (hc : vwCl[ci]? = some (M2.1.cls, T, N)) (hk : Λ[k]? = some (0, ci, rs)) (hd : decode M.2.1 pc = .ok (.invokevirtual idx, 3)) (hp : pc + 3 = pc') (hst : stk = as.reverse ++ zR k :: st) (hn : as.length = n) (hw : zCat st ≤ 8) (hS2 : zSpec Λ M2 (zR k :: as) σ (zqR Q2)) (kk : ∀ x σ', Q2 x σ' → zW Λ M pc' L (zR x :: st) σ' Q) : zW Λ M pc L stk σ Q :=
  zW_callV cw hl hin hsel hc hk hd hp hst hn hw hS2 (fun r σ' hq => by obtain ⟨x, rfl, h⟩ := hq; exact kk x σ' h)
theorem zW_callVV {Q2 : zS → Prop} {idx n k ci : Nat} {rs : List (Option Nat)} {T : u_T} {N : Nat} {stk : List zV} (cw : zCw M M2 n) (hl : Cond.methodLink M.1.cls idx M2.1 ∈ zG) (hin : Cond.instanceMethod M2.1 ∈ zG) (hsel : Cond.selects M2.1.cls M2.1 M2.1 ∈ zG) (hc : vwCl[ci]? = some (M2.1.cls, T, N)) (hk : Λ[k]? = some (0, ci, rs)) (hd : decode M.2.1 pc = .ok (.invokevirtual idx, 3)) (hp : pc + 3 = pc') (hst : stk = as.reverse ++ zR k :: st) (hn : as.length = n) (hw : zCat st ≤ 8) (hS2 : zSpec Λ M2 (zR k :: as) σ (zqV Q2)) (kk : ∀ σ', Q2 σ' → zW Λ M pc' L st σ' Q) : zW Λ M pc L stk σ Q :=
  zW_callV cw hl hin hsel hc hk hd hp hst hn hw hS2 (fun r σ' hq => by obtain ⟨rfl, h⟩ := hq; exact kk σ' h)
theorem zW_callSI {Q2 : Int → zS → Prop} {idx n : Nat} {stk : List zV} (cw : zCw M M2 n) (hl : Cond.methodLink M.1.cls idx M2.1 ∈ zG) (hin : Cond.static M2.1 ∈ zG) (hd : decode M.2.1 pc = .ok (.invokestatic idx, 3)) (hp : pc + 3 = pc') (hst : stk = as.reverse ++ st) (hn : as.length = n) (hw : zCat st ≤ 8) (hS2 : zSpec Λ M2 (as) σ (zqI Q2)) (kk : ∀ x σ', Q2 x σ' → zW Λ M pc' L (zI x :: st) σ' Q) : zW Λ M pc L stk σ Q :=
  zW_callS cw hl hin hd hp hst hn hw hS2 (fun r σ' hq => by obtain ⟨x, rfl, h⟩ := hq; exact kk x σ' h)
theorem zW_callSL {Q2 : Int → zS → Prop} {idx n : Nat} {stk : List zV} (cw : zCw M M2 n) (hl : Cond.methodLink M.1.cls idx M2.1 ∈ zG) (hin : Cond.static M2.1 ∈ zG) (hd : decode M.2.1 pc = .ok (.invokestatic idx, 3)) (hp : pc + 3 = pc') (hst : stk = as.reverse ++ st) (hn : as.length = n) (hw : zCat st ≤ 8) (hS2 : zSpec Λ M2 (as) σ (zqL Q2)) (kk : ∀ x σ', Q2 x σ' → zW Λ M pc' L (zL x :: st) σ' Q) : zW Λ M pc L stk σ Q :=
  zW_callS cw hl hin hd hp hst hn hw hS2 (fun r σ' hq => by obtain ⟨x, rfl, h⟩ := hq; exact kk x σ' h)
theorem zW_callSR {Q2 : Nat → zS → Prop} {idx n : Nat} {stk : List zV} (cw : zCw M M2 n) (hl : Cond.methodLink M.1.cls idx M2.1 ∈ zG) (hin : Cond.static M2.1 ∈ zG) (hd : decode M.2.1 pc = .ok (.invokestatic idx, 3)) (hp : pc + 3 = pc') (hst : stk = as.reverse ++ st) (hn : as.length = n) (hw : zCat st ≤ 8) (hS2 : zSpec Λ M2 (as) σ (zqR Q2)) (kk : ∀ x σ', Q2 x σ' → zW Λ M pc' L (zR x :: st) σ' Q) : zW Λ M pc L stk σ Q :=
  zW_callS cw hl hin hd hp hst hn hw hS2 (fun r σ' hq => by obtain ⟨x, rfl, h⟩ := hq; exact kk x σ' h)
theorem zW_callSV {Q2 : zS → Prop} {idx n : Nat} {stk : List zV} (cw : zCw M M2 n) (hl : Cond.methodLink M.1.cls idx M2.1 ∈ zG) (hin : Cond.static M2.1 ∈ zG) (hd : decode M.2.1 pc = .ok (.invokestatic idx, 3)) (hp : pc + 3 = pc') (hst : stk = as.reverse ++ st) (hn : as.length = n) (hw : zCat st ≤ 8) (hS2 : zSpec Λ M2 (as) σ (zqV Q2)) (kk : ∀ σ', Q2 σ' → zW Λ M pc' L st σ' Q) : zW Λ M pc L stk σ Q :=
  zW_callS cw hl hin hd hp hst hn hw hS2 (fun r σ' hq => by obtain ⟨rfl, h⟩ := hq; exact kk σ' h)
theorem zW_callSNI {Q2 : Int → zS → Prop} {idx n : Nat} {stk : List zV} {host : String} (cw : zCw M M2 n) (hl : Cond.methodLinkNest M.1.cls idx M2.1 host ∈ zN) (hin : Cond.static M2.1 ∈ zG) (hd : decode M.2.1 pc = .ok (.invokestatic idx, 3)) (hp : pc + 3 = pc') (hst : stk = as.reverse ++ st) (hn : as.length = n) (hw : zCat st ≤ 8) (hS2 : zSpec Λ M2 (as) σ (zqI Q2)) (kk : ∀ x σ', Q2 x σ' → zW Λ M pc' L (zI x :: st) σ' Q) : zW Λ M pc L stk σ Q :=
  zW_callSN cw hl hin hd hp hst hn hw hS2 (fun r σ' hq => by obtain ⟨x, rfl, h⟩ := hq; exact kk x σ' h)
theorem zW_callSNL {Q2 : Int → zS → Prop} {idx n : Nat} {stk : List zV} {host : String} (cw : zCw M M2 n) (hl : Cond.methodLinkNest M.1.cls idx M2.1 host ∈ zN) (hin : Cond.static M2.1 ∈ zG) (hd : decode M.2.1 pc = .ok (.invokestatic idx, 3)) (hp : pc + 3 = pc') (hst : stk = as.reverse ++ st) (hn : as.length = n) (hw : zCat st ≤ 8) (hS2 : zSpec Λ M2 (as) σ (zqL Q2)) (kk : ∀ x σ', Q2 x σ' → zW Λ M pc' L (zL x :: st) σ' Q) : zW Λ M pc L stk σ Q :=
  zW_callSN cw hl hin hd hp hst hn hw hS2 (fun r σ' hq => by obtain ⟨x, rfl, h⟩ := hq; exact kk x σ' h)
theorem zW_callSNR {Q2 : Nat → zS → Prop} {idx n : Nat} {stk : List zV} {host : String} (cw : zCw M M2 n) (hl : Cond.methodLinkNest M.1.cls idx M2.1 host ∈ zN) (hin : Cond.static M2.1 ∈ zG) (hd : decode M.2.1 pc = .ok (.invokestatic idx, 3)) (hp : pc + 3 = pc') (hst : stk = as.reverse ++ st) (hn : as.length = n) (hw : zCat st ≤ 8) (hS2 : zSpec Λ M2 (as) σ (zqR Q2)) (kk : ∀ x σ', Q2 x σ' → zW Λ M pc' L (zR x :: st) σ' Q) : zW Λ M pc L stk σ Q :=
  zW_callSN cw hl hin hd hp hst hn hw hS2 (fun r σ' hq => by obtain ⟨x, rfl, h⟩ := hq; exact kk x σ' h)
theorem zW_callSNV {Q2 : zS → Prop} {idx n : Nat} {stk : List zV} {host : String} (cw : zCw M M2 n) (hl : Cond.methodLinkNest M.1.cls idx M2.1 host ∈ zN) (hin : Cond.static M2.1 ∈ zG) (hd : decode M.2.1 pc = .ok (.invokestatic idx, 3)) (hp : pc + 3 = pc') (hst : stk = as.reverse ++ st) (hn : as.length = n) (hw : zCat st ≤ 8) (hS2 : zSpec Λ M2 (as) σ (zqV Q2)) (kk : ∀ σ', Q2 σ' → zW Λ M pc' L st σ' Q) : zW Λ M pc L stk σ Q :=
  zW_callSN cw hl hin hd hp hst hn hw hS2 (fun r σ' hq => by obtain ⟨rfl, h⟩ := hq; exact kk σ' h)
end zMore
end
section
/-! ===== layouts (by program) ===== -/
def zC : List zSh := [(0, 9, [some 1, some 3, some 5, some 9, some 12, some 21, some 25, some 34, some 37, some 40, some 43, some 47, some 51, none, none]), (0, 5, [some 2, none]), (1, 60, []), (0, 5, [some 4, none]), (1, 60, []), (0, 7, [some 6, some 7, some 8, none, none]), (1, 10, []), (1, 10, []), (1, 10, []), (0, 6, [some 10, some 11, none, none]), (1, 15, []), (1, 15, []), (0, 8, [some 13, some 14, some 15, some 16, some 17, some 18, none]), (1, 400, []), (1, 400, []), (1, 400, []), (1, 400, []), (1, 400, []), (0, 4, [some 19, some 20, none]), (1, 10, []), (1, 10, []), (0, 7, [some 22, some 23, some 24, none, none]), (1, 10, []), (1, 10, []), (1, 10, []), (0, 8, [some 26, some 27, some 28, some 29, some 30, some 31, none]), (1, 400, []), (1, 400, []), (1, 400, []), (1, 400, []), (1, 400, []), (0, 4, [some 32, some 33, none]), (1, 10, []), (1, 10, []), (0, 4, [some 35, some 36, none]), (1, 10, []), (1, 10, []), (0, 2, [some 38, some 39, none]), (1, 52, []), (2, 82, []), (0, 1, [some 41, some 42, none]), (1, 10, []), (1, 10, []), (0, 0, [some 44, some 45, some 46, none]), (1, 8, []), (1, 8, []), (1, 8, []), (0, 0, [some 48, some 49, some 50, none]), (1, 20, []), (1, 20, []), (1, 20, []), (4, 4, [some 52, some 54, some 56, some 58]), (0, 3, [some 53, none, none, none]), (1, 60, []), (0, 3, [some 55, none, none, none]), (1, 60, []), (0, 3, [some 57, none, none, none]), (1, 60, []), (0, 3, [some 59, none, none, none]), (1, 60, [])]
def zMo : List zSh := [(0, 10, [some 1, some 2, some 3, some 4, none, some 5, some 6, some 7, none, some 8, some 9, some 10, some 11, none, none, some 12, some 13, some 14, none, some 15, some 16, none, some 17, none, some 18, some 19, some 20, some 21, some 22, some 23, some 24, some 25, none]), (1, 52, []), (1, 2, []), (1, 2, []), (1, 120, []), (1, 11, []), (1, 11, []), (1, 11, []), (1, 20, []), (1, 20, []), (1, 11, []), (1, 11, []), (1, 512, []), (1, 52, []), (1, 512, []), (1, 10, []), (1, 10, []), (1, 8, []), (1, 20, []), (1, 20, []), (2, 100, []), (3, 4, []), (1, 4, []), (1, 4, []), (1, 240, []), (1, 60, [])]
theorem hC0 : zC[0]? = some (0, 9, [some 1, some 3, some 5, some 9, some 12, some 21, some 25, some 34, some 37, some 40, some 43, some 47, some 51, none, none]) := rfl
theorem hC1 : zC[1]? = some (0, 5, [some 2, none]) := rfl
theorem hC2 : zC[2]? = some (1, 60, []) := rfl
theorem hC3 : zC[3]? = some (0, 5, [some 4, none]) := rfl
theorem hC4 : zC[4]? = some (1, 60, []) := rfl
theorem hC5 : zC[5]? = some (0, 7, [some 6, some 7, some 8, none, none]) := rfl
theorem hC6 : zC[6]? = some (1, 10, []) := rfl
theorem hC7 : zC[7]? = some (1, 10, []) := rfl
theorem hC8 : zC[8]? = some (1, 10, []) := rfl
theorem hC9 : zC[9]? = some (0, 6, [some 10, some 11, none, none]) := rfl
theorem hC10 : zC[10]? = some (1, 15, []) := rfl
theorem hC11 : zC[11]? = some (1, 15, []) := rfl
theorem hC12 : zC[12]? = some (0, 8, [some 13, some 14, some 15, some 16, some 17, some 18, none]) := rfl
theorem hC13 : zC[13]? = some (1, 400, []) := rfl
theorem hC14 : zC[14]? = some (1, 400, []) := rfl
theorem hC15 : zC[15]? = some (1, 400, []) := rfl
theorem hC16 : zC[16]? = some (1, 400, []) := rfl
theorem hC17 : zC[17]? = some (1, 400, []) := rfl
theorem hC18 : zC[18]? = some (0, 4, [some 19, some 20, none]) := rfl
theorem hC19 : zC[19]? = some (1, 10, []) := rfl
theorem hC20 : zC[20]? = some (1, 10, []) := rfl
theorem hC21 : zC[21]? = some (0, 7, [some 22, some 23, some 24, none, none]) := rfl
theorem hC22 : zC[22]? = some (1, 10, []) := rfl
theorem hC23 : zC[23]? = some (1, 10, []) := rfl
theorem hC24 : zC[24]? = some (1, 10, []) := rfl
theorem hC25 : zC[25]? = some (0, 8, [some 26, some 27, some 28, some 29, some 30, some 31, none]) := rfl
theorem hC26 : zC[26]? = some (1, 400, []) := rfl
theorem hC27 : zC[27]? = some (1, 400, []) := rfl
theorem hC28 : zC[28]? = some (1, 400, []) := rfl
theorem hC29 : zC[29]? = some (1, 400, []) := rfl
theorem hC30 : zC[30]? = some (1, 400, []) := rfl
theorem hC31 : zC[31]? = some (0, 4, [some 32, some 33, none]) := rfl
theorem hC32 : zC[32]? = some (1, 10, []) := rfl
theorem hC33 : zC[33]? = some (1, 10, []) := rfl
theorem hC34 : zC[34]? = some (0, 4, [some 35, some 36, none]) := rfl
theorem hC35 : zC[35]? = some (1, 10, []) := rfl
theorem hC36 : zC[36]? = some (1, 10, []) := rfl
theorem hC37 : zC[37]? = some (0, 2, [some 38, some 39, none]) := rfl
theorem hC38 : zC[38]? = some (1, 52, []) := rfl
theorem hC39 : zC[39]? = some (2, 82, []) := rfl
theorem hC40 : zC[40]? = some (0, 1, [some 41, some 42, none]) := rfl
theorem hC41 : zC[41]? = some (1, 10, []) := rfl
theorem hC42 : zC[42]? = some (1, 10, []) := rfl
theorem hC43 : zC[43]? = some (0, 0, [some 44, some 45, some 46, none]) := rfl
theorem hC44 : zC[44]? = some (1, 8, []) := rfl
theorem hC45 : zC[45]? = some (1, 8, []) := rfl
theorem hC46 : zC[46]? = some (1, 8, []) := rfl
theorem hC47 : zC[47]? = some (0, 0, [some 48, some 49, some 50, none]) := rfl
theorem hC48 : zC[48]? = some (1, 20, []) := rfl
theorem hC49 : zC[49]? = some (1, 20, []) := rfl
theorem hC50 : zC[50]? = some (1, 20, []) := rfl
theorem hC51 : zC[51]? = some (4, 4, [some 52, some 54, some 56, some 58]) := rfl
theorem hC52 : zC[52]? = some (0, 3, [some 53, none, none, none]) := rfl
theorem hC53 : zC[53]? = some (1, 60, []) := rfl
theorem hC54 : zC[54]? = some (0, 3, [some 55, none, none, none]) := rfl
theorem hC55 : zC[55]? = some (1, 60, []) := rfl
theorem hC56 : zC[56]? = some (0, 3, [some 57, none, none, none]) := rfl
theorem hC57 : zC[57]? = some (1, 60, []) := rfl
theorem hC58 : zC[58]? = some (0, 3, [some 59, none, none, none]) := rfl
theorem hC59 : zC[59]? = some (1, 60, []) := rfl
theorem hM0 : zMo[0]? = some (0, 10, [some 1, some 2, some 3, some 4, none, some 5, some 6, some 7, none, some 8, some 9, some 10, some 11, none, none, some 12, some 13, some 14, none, some 15, some 16, none, some 17, none, some 18, some 19, some 20, some 21, some 22, some 23, some 24, some 25, none]) := rfl
theorem hM1 : zMo[1]? = some (1, 52, []) := rfl
theorem hM2 : zMo[2]? = some (1, 2, []) := rfl
theorem hM3 : zMo[3]? = some (1, 2, []) := rfl
theorem hM4 : zMo[4]? = some (1, 120, []) := rfl
theorem hM5 : zMo[5]? = some (1, 11, []) := rfl
theorem hM6 : zMo[6]? = some (1, 11, []) := rfl
theorem hM7 : zMo[7]? = some (1, 11, []) := rfl
theorem hM8 : zMo[8]? = some (1, 20, []) := rfl
theorem hM9 : zMo[9]? = some (1, 20, []) := rfl
theorem hM10 : zMo[10]? = some (1, 11, []) := rfl
theorem hM11 : zMo[11]? = some (1, 11, []) := rfl
theorem hM12 : zMo[12]? = some (1, 512, []) := rfl
theorem hM13 : zMo[13]? = some (1, 52, []) := rfl
theorem hM14 : zMo[14]? = some (1, 512, []) := rfl
theorem hM15 : zMo[15]? = some (1, 10, []) := rfl
theorem hM16 : zMo[16]? = some (1, 10, []) := rfl
theorem hM17 : zMo[17]? = some (1, 8, []) := rfl
theorem hM18 : zMo[18]? = some (1, 20, []) := rfl
theorem hM19 : zMo[19]? = some (1, 20, []) := rfl
theorem hM20 : zMo[20]? = some (2, 100, []) := rfl
theorem hM21 : zMo[21]? = some (3, 4, []) := rfl
theorem hM22 : zMo[22]? = some (1, 4, []) := rfl
theorem hM23 : zMo[23]? = some (1, 4, []) := rfl
theorem hM24 : zMo[24]? = some (1, 240, []) := rfl
theorem hM25 : zMo[25]? = some (1, 60, []) := rfl
def okMarks (k : Nat) (n : Nat) : Prop := zC[k]? = some (0, 0, [some (k + 1), some (k + 2), some (k + 3), none]) ∧ zC[k + 1]? = some (1, n, []) ∧ zC[k + 2]? = some (1, n, []) ∧ zC[k + 3]? = some (1, n, [])
def okPairs (k : Nat) : Prop := zC[k]? = some (0, 1, [some (k + 1), some (k + 2), none]) ∧ zC[k + 1]? = some (1, 10, []) ∧ zC[k + 2]? = some (1, 10, [])
def okSand (k : Nat) : Prop := zC[k]? = some (0, 2, [some (k + 1), some (k + 2), none]) ∧ zC[k + 1]? = some (1, 52, []) ∧ zC[k + 2]? = some (2, 82, [])
def okSheet (k : Nat) : Prop := zC[k]? = some (0, 3, [some (k + 1), none, none, none]) ∧ zC[k + 1]? = some (1, 60, [])
def okStand (k : Nat) : Prop := zC[k]? = some (0, 4, [some (k + 1), some (k + 2), none]) ∧ zC[k + 1]? = some (1, 10, []) ∧ zC[k + 2]? = some (1, 10, [])
def okText (k : Nat) : Prop := zC[k]? = some (0, 5, [some (k + 1), none]) ∧ zC[k + 1]? = some (1, 60, [])
def okTold (k : Nat) : Prop := zC[k]? = some (0, 6, [some (k + 1), some (k + 2), none, none]) ∧ zC[k + 1]? = some (1, 15, []) ∧ zC[k + 2]? = some (1, 15, [])
def okTown (k : Nat) : Prop := zC[k]? = some (0, 7, [some (k + 1), some (k + 2), some (k + 3), none, none]) ∧ zC[k + 1]? = some (1, 10, []) ∧ zC[k + 2]? = some (1, 10, []) ∧ zC[k + 3]? = some (1, 10, [])
def okWalk (k : Nat) : Prop := zC[k]? = some (0, 8, [some (k + 1), some (k + 2), some (k + 3), some (k + 4), some (k + 5), some (k + 6), none]) ∧ zC[k + 1]? = some (1, 400, []) ∧ zC[k + 2]? = some (1, 400, []) ∧ zC[k + 3]? = some (1, 400, []) ∧ zC[k + 4]? = some (1, 400, []) ∧ zC[k + 5]? = some (1, 400, []) ∧ okStand (k + 6)
theorem ok_1 : okText 1 := ⟨rfl, rfl⟩
theorem ok_3 : okText 3 := ⟨rfl, rfl⟩
theorem ok_5 : okTown 5 := ⟨rfl, rfl, rfl, rfl⟩
theorem ok_9 : okTold 9 := ⟨rfl, rfl, rfl⟩
theorem ok_12 : okWalk 12 := ⟨rfl, rfl, rfl, rfl, rfl, rfl, ⟨rfl, rfl, rfl⟩⟩
theorem ok_21 : okTown 21 := ⟨rfl, rfl, rfl, rfl⟩
theorem ok_25 : okWalk 25 := ⟨rfl, rfl, rfl, rfl, rfl, rfl, ⟨rfl, rfl, rfl⟩⟩
theorem ok_34 : okStand 34 := ⟨rfl, rfl, rfl⟩
theorem ok_37 : okSand 37 := ⟨rfl, rfl, rfl⟩
theorem ok_40 : okPairs 40 := ⟨rfl, rfl, rfl⟩
theorem ok_43 : okMarks 43 8 := ⟨rfl, rfl, rfl, rfl⟩
theorem ok_47 : okMarks 47 20 := ⟨rfl, rfl, rfl, rfl⟩
theorem ok_52 : okSheet 52 := ⟨rfl, rfl⟩
theorem ok_54 : okSheet 54 := ⟨rfl, rfl⟩
theorem ok_56 : okSheet 56 := ⟨rfl, rfl⟩
theorem ok_58 : okSheet 58 := ⟨rfl, rfl⟩
theorem zSheetAt {i : Int} (h0 : 0 ≤ i) (h1 : i < ((4 : Nat) : Int)) : ([some 52, some 54, some 56, some 58] : List (Option Nat)).getD i.toNat none = some (52 + 2 * i.toNat) ∧ okSheet (52 + 2 * i.toNat) := by
  have h : i.toNat = 0 ∨ i.toNat = 1 ∨ i.toNat = 2 ∨ i.toNat = 3 := by omega
  rcases h with h | h | h | h <;> rw [h]
  · exact ⟨rfl, ok_52⟩
  · exact ⟨rfl, ok_54⟩
  · exact ⟨rfl, ok_56⟩
  · exact ⟨rfl, ok_58⟩
theorem zci_0_in : ∀ w ∈ u_ws RX0 TX0 4, w ∈ zG := by
  have h : (u_ws RX0 TX0 4).all (fun w => decide (w ∈ lw_tbl) && goodWord w) = true := by decide +kernel
  intro w hw
  have h1 := List.all_eq_true.mp h w hw
  simp only [Bool.and_eq_true, decide_eq_true_eq] at h1
  exact List.mem_filter.mpr h1
theorem zci_0 : zCi 0 RX0 TX0 4 := ⟨rfl, zci_0_in, tyX0, tyX0_ok, nmX0⟩
theorem zci_1_in : ∀ w ∈ u_ws RX1 TX1 3, w ∈ zG := by
  have h : (u_ws RX1 TX1 3).all (fun w => decide (w ∈ lw_tbl) && goodWord w) = true := by decide +kernel
  intro w hw
  have h1 := List.all_eq_true.mp h w hw
  simp only [Bool.and_eq_true, decide_eq_true_eq] at h1
  exact List.mem_filter.mpr h1
theorem zci_1 : zCi 1 RX1 TX1 3 := ⟨rfl, zci_1_in, tyX1, tyX1_ok, nmX1⟩
theorem zci_2_in : ∀ w ∈ u_ws RX2 TX2 3, w ∈ zG := by
  have h : (u_ws RX2 TX2 3).all (fun w => decide (w ∈ lw_tbl) && goodWord w) = true := by decide +kernel
  intro w hw
  have h1 := List.all_eq_true.mp h w hw
  simp only [Bool.and_eq_true, decide_eq_true_eq] at h1
  exact List.mem_filter.mpr h1
theorem zci_2 : zCi 2 RX2 TX2 3 := ⟨rfl, zci_2_in, tyX2, tyX2_ok, nmX2⟩
theorem zci_3_in : ∀ w ∈ u_ws RX3 TX3 4, w ∈ zG := by
  have h : (u_ws RX3 TX3 4).all (fun w => decide (w ∈ lw_tbl) && goodWord w) = true := by decide +kernel
  intro w hw
  have h1 := List.all_eq_true.mp h w hw
  simp only [Bool.and_eq_true, decide_eq_true_eq] at h1
  exact List.mem_filter.mpr h1
theorem zci_3 : zCi 3 RX3 TX3 4 := ⟨rfl, zci_3_in, tyX3, tyX3_ok, nmX3⟩
theorem zci_4_in : ∀ w ∈ u_ws RX4 TX4 3, w ∈ zG := by
  have h : (u_ws RX4 TX4 3).all (fun w => decide (w ∈ lw_tbl) && goodWord w) = true := by decide +kernel
  intro w hw
  have h1 := List.all_eq_true.mp h w hw
  simp only [Bool.and_eq_true, decide_eq_true_eq] at h1
  exact List.mem_filter.mpr h1
theorem zci_4 : zCi 4 RX4 TX4 3 := ⟨rfl, zci_4_in, tyX4, tyX4_ok, nmX4⟩
theorem zci_5_in : ∀ w ∈ u_ws RX5 TX5 2, w ∈ zG := by
  have h : (u_ws RX5 TX5 2).all (fun w => decide (w ∈ lw_tbl) && goodWord w) = true := by decide +kernel
  intro w hw
  have h1 := List.all_eq_true.mp h w hw
  simp only [Bool.and_eq_true, decide_eq_true_eq] at h1
  exact List.mem_filter.mpr h1
theorem zci_5 : zCi 5 RX5 TX5 2 := ⟨rfl, zci_5_in, tyX5, tyX5_ok, nmX5⟩
theorem zci_6_in : ∀ w ∈ u_ws RX6 TX6 4, w ∈ zG := by
  have h : (u_ws RX6 TX6 4).all (fun w => decide (w ∈ lw_tbl) && goodWord w) = true := by decide +kernel
  intro w hw
  have h1 := List.all_eq_true.mp h w hw
  simp only [Bool.and_eq_true, decide_eq_true_eq] at h1
  exact List.mem_filter.mpr h1
theorem zci_6 : zCi 6 RX6 TX6 4 := ⟨rfl, zci_6_in, tyX6, tyX6_ok, nmX6⟩
theorem zci_7_in : ∀ w ∈ u_ws RX7 TX7 5, w ∈ zG := by
  have h : (u_ws RX7 TX7 5).all (fun w => decide (w ∈ lw_tbl) && goodWord w) = true := by decide +kernel
  intro w hw
  have h1 := List.all_eq_true.mp h w hw
  simp only [Bool.and_eq_true, decide_eq_true_eq] at h1
  exact List.mem_filter.mpr h1
theorem zci_7 : zCi 7 RX7 TX7 5 := ⟨rfl, zci_7_in, tyX7, tyX7_ok, nmX7⟩
theorem zci_8_in : ∀ w ∈ u_ws RX8 TX8 7, w ∈ zG := by
  have h : (u_ws RX8 TX8 7).all (fun w => decide (w ∈ lw_tbl) && goodWord w) = true := by decide +kernel
  intro w hw
  have h1 := List.all_eq_true.mp h w hw
  simp only [Bool.and_eq_true, decide_eq_true_eq] at h1
  exact List.mem_filter.mpr h1
theorem zci_8 : zCi 8 RX8 TX8 7 := ⟨rfl, zci_8_in, tyX8, tyX8_ok, nmX8⟩
theorem zci_9_in : ∀ w ∈ u_ws RX9 TX9 15, w ∈ zG := by
  have h : (u_ws RX9 TX9 15).all (fun w => decide (w ∈ lw_tbl) && goodWord w) = true := by decide +kernel
  intro w hw
  have h1 := List.all_eq_true.mp h w hw
  simp only [Bool.and_eq_true, decide_eq_true_eq] at h1
  exact List.mem_filter.mpr h1
theorem zci_9 : zCi 9 RX9 TX9 15 := ⟨rfl, zci_9_in, tyX9, tyX9_ok, nmX9⟩
theorem zci_10_in : ∀ w ∈ u_ws RX10 TX10 33, w ∈ zG := by
  have h : (u_ws RX10 TX10 33).all (fun w => decide (w ∈ lw_tbl) && goodWord w) = true := by decide +kernel
  intro w hw
  have h1 := List.all_eq_true.mp h w hw
  simp only [Bool.and_eq_true, decide_eq_true_eq] at h1
  exact List.mem_filter.mpr h1
theorem zci_10 : zCi 10 RX10 TX10 33 := ⟨rfl, zci_10_in, tyX10, tyX10_ok, nmX10⟩
/-! ===== method descriptors (by program) ===== -/
abbrev mX0_add : zM := (yX0_add, cX0_add, 4, some .boolean, 0, 0)
abbrev mX0_inRows : zM := (yX0_inRows, cX0_inRows, 5, some .int, 0, 0)
abbrev mX0_amountOn : zM := (yX0_amountOn, cX0_amountOn, 5, some .int, 0, 0)
abbrev mX0_amountBelow : zM := (yX0_amountBelow, cX0_amountBelow, 4, some .int, 0, 0)
abbrev mX1_add : zM := (yX1_add, cX1_add, 3, some .boolean, 0, 0)
abbrev mX1_apart : zM := (yX1_apart, cX1_apart, 9, some .int, 1, 20)
abbrev mX2_footIn : zM := (yX2_footIn, cX2_footIn, 4, some .int, 0, 0)
abbrev mX2_spread : zM := (yX2_spread, cX2_spread, 7, none, 1, 24)
abbrev mX2_waysOver : zM := (yX2_waysOver, cX2_waysOver, 5, some .long, 0, 0)
abbrev mX3_renew : zM := (yX3_renew, cX3_renew, 3, none, 1, 23)
abbrev mX3_amissAt : zM := (yX3_amissAt, cX3_amissAt, 3, some .int, 0, 0)
abbrev mX3_hasRange : zM := (yX3_hasRange, cX3_hasRange, 3, some .boolean, 0, 0)
abbrev mX3_keep : zM := (yX3_keep, cX3_keep, 3, none, 0, 0)
abbrev mX4_begin : zM := (yX4_begin, cX4_begin, 3, none, 0, 0)
abbrev mX4_move : zM := (yX4_move, cX4_move, 5, some .int, 1, 22)
abbrev mX4_hindmost : zM := (yX4_hindmost, cX4_hindmost, 3, some .int, 0, 0)
abbrev mX4_greatestRow : zM := (yX4_greatestRow, cX4_greatestRow, 3, some .int, 1, 21)
abbrev mX4_isCovered : zM := (yX4_isCovered, cX4_isCovered, 3, some .boolean, 1, 22)
abbrev mX5_append : zM := (yX5_append, cX5_append, 2, none, 0, 0)
abbrev mX5_byteAt : zM := (yX5_byteAt, cX5_byteAt, 2, some .int, 0, 0)
abbrev mX5_figureAt : zM := (yX5_figureAt, cX5_figureAt, 3, some .int, 1, 21)
abbrev mX6_readFrom : zM := (yX6_readFrom, cX6_readFrom, 3, none, 4, 96)
abbrev mX6_readParts : zM := (yX6_readParts, cX6_readParts, 6, some .int, 3, 71)
abbrev mX6_readPart : zM := (yX6_readPart, cX6_readPart, 9, some .int, 2, 43)
abbrev mX6_endOfWeek : zM := (yX6_endOfWeek, cX6_endOfWeek, 4, some .int, 0, 0)
abbrev mX7_readFrom : zM := (yX7_readFrom, cX7_readFrom, 2, none, 4, 94)
abbrev mX7_readParts : zM := (yX7_readParts, cX7_readParts, 5, some .int, 3, 70)
abbrev mX7_readPart : zM := (yX7_readPart, cX7_readPart, 8, some .int, 2, 43)
abbrev mX7_kindOf : zM := (yX7_kindOf, cX7_kindOf, 1, some .int, 0, 0)
abbrev mX7_isTaken : zM := (yX7_isTaken, cX7_isTaken, 4, some .boolean, 0, 0)
abbrev mX7_swapOf : zM := (yX7_swapOf, cX7_swapOf, 6, none, 0, 0)
abbrev mX7_handsFor : zM := (yX7_handsFor, cX7_handsFor, 3, some .int, 0, 0)
abbrev mX8_plan : zM := (yX8_plan, cX8_plan, 5, none, 2, 46)
abbrev mX8_nextBehind : zM := (yX8_nextBehind, cX8_nextBehind, 2, some .int, 1, 21)
abbrev mX8_rowBehind : zM := (yX8_rowBehind, cX8_rowBehind, 7, some .int, 1, 21)
abbrev mX8_step : zM := (yX8_step, cX8_step, 3, none, 0, 0)
abbrev mX8_movesAheadOf : zM := (yX8_movesAheadOf, cX8_movesAheadOf, 3, some .int, 1, 24)
abbrev mX8_dueAheadOf : zM := (yX8_dueAheadOf, cX8_dueAheadOf, 5, some .int, 0, 0)
abbrev mX8_madeInWeek : zM := (yX8_madeInWeek, cX8_madeInWeek, 6, some .int, 0, 0)
abbrev mX8_handsForFirst : zM := (yX8_handsForFirst, cX8_handsForFirst, 4, some .int, 0, 0)
abbrev mX9_wind : zM := (yX9_wind, cX9_wind, 4, some .int, 2, 41)
abbrev mX9_read : zM := (yX9_read, cX9_read, 5, some .int, 2, 41)
abbrev mX9_set : zM := (yX9_set, cX9_set, 4, some .int, 1, 21)
abbrev mX9_foot : zM := (yX9_foot, cX9_foot, 2, some .int, 2, 41)
abbrev mX9_type : zM := (yX9_type, cX9_type, 4, some .int, 6, 139)
abbrev mX9_wipe : zM := (yX9_wipe, cX9_wipe, 4, some .int, 6, 139)
abbrev mX9_fault : zM := (yX9_fault, cX9_fault, 2, some .int, 2, 41)
abbrev mX9_house : zM := (yX9_house, cX9_house, 3, some .int, 2, 42)
abbrev mX9_takes : zM := (yX9_takes, cX9_takes, 3, some .int, 2, 42)
abbrev mX9_judged : zM := (yX9_judged, cX9_judged, 6, some .int, 3, 72)
abbrev mX9_ends : zM := (yX9_ends, cX9_ends, 3, some .int, 2, 46)
abbrev mX9_queue : zM := (yX9_queue, cX9_queue, 3, some .int, 2, 47)
abbrev mX9_needs : zM := (yX9_needs, cX9_needs, 2, some .int, 2, 46)
abbrev mX9_fewest : zM := (yX9_fewest, cX9_fewest, 2, some .int, 3, 80)
abbrev mX9_turn : zM := (yX9_turn, cX9_turn, 7, some .int, 3, 80)
abbrev mX9_owed : zM := (yX9_owed, cX9_owed, 3, some .int, 1, 22)
abbrev mX9_broken : zM := (yX9_broken, cX9_broken, 7, some .int, 2, 48)
abbrev mX9_well : zM := (yX9_well, cX9_well, 3, some .int, 2, 42)
abbrev mX9_met : zM := (yX9_met, cX9_met, 2, some .int, 3, 68)
abbrev mX9_dry : zM := (yX9_dry, cX9_dry, 6, some .int, 3, 68)
abbrev mX9_sold : zM := (yX9_sold, cX9_sold, 6, some .int, 3, 80)
abbrev mX9_debt : zM := (yX9_debt, cX9_debt, 4, some .int, 2, 42)
abbrev mX9_owes : zM := (yX9_owes, cX9_owes, 6, some .int, 2, 47)
abbrev mX9_lost : zM := (yX9_lost, cX9_lost, 2, some .int, 2, 41)
abbrev mX9_church : zM := (yX9_church, cX9_church, 6, some .int, 2, 43)
abbrev mX9_likely : zM := (yX9_likely, cX9_likely, 12, some .long, 2, 50)
abbrev mX9_stone : zM := (yX9_stone, cX9_stone, 8, some .int, 2, 43)
abbrev mX9_sheet : zM := (yX9_sheet, cX9_sheet, 4, some .int, 2, 45)
abbrev mX9_lose : zM := (yX9_lose, cX9_lose, 2, some .int, 2, 41)
abbrev mX9_put : zM := (yX9_put, cX9_put, 6, some .int, 2, 41)
abbrev mX9_get : zM := (yX9_get, cX9_get, 5, some .int, 2, 41)
abbrev mX9_copy : zM := (yX9_copy, cX9_copy, 8, some .int, 2, 41)
abbrev mX9_write : zM := (yX9_write, cX9_write, 6, some .int, 2, 47)
abbrev mX9_count : zM := (yX9_count, cX9_count, 2, some .int, 0, 0)
abbrev mX9_digest : zM := (yX9_digest, cX9_digest, 4, some .long, 5, 126)
abbrev mX9_withHouse : zM := (yX9_withHouse, cX9_withHouse, 7, some .long, 3, 72)
abbrev mX9_withWeek : zM := (yX9_withWeek, cX9_withWeek, 6, some .long, 4, 101)
abbrev mX9_mixed : zM := (yX9_mixed, cX9_mixed, 4, some .long, 0, 0)
abbrev mX9_isWithin : zM := (yX9_isWithin, cX9_isWithin, 2, some .boolean, 0, 0)
abbrev mX9_isWeek : zM := (yX9_isWeek, cX9_isWeek, 1, some .boolean, 1, 21)
abbrev mX9_isText : zM := (yX9_isText, cX9_isText, 1, some .boolean, 1, 21)
abbrev mX9_isSheet : zM := (yX9_isSheet, cX9_isSheet, 1, some .boolean, 1, 21)
abbrev mX9_isForm : zM := (yX9_isForm, cX9_isForm, 1, some .boolean, 1, 21)
abbrev mX9_isPlot : zM := (yX9_isPlot, cX9_isPlot, 2, some .boolean, 1, 21)
abbrev mX9_isHouse : zM := (yX9_isHouse, cX9_isHouse, 2, some .boolean, 1, 21)
abbrev mX9_textOf : zM := (yX9_textOf, cX9_textOf, 2, some (.object "WalkingTown$Text"), 0, 0)
abbrev mX9_found : zM := (yX9_found, cX9_found, 2, some .int, 0, 0)
abbrev mX9_readAgain : zM := (yX9_readAgain, cX9_readAgain, 2, none, 5, 118)
abbrev mX9_whyWrong : zM := (yX9_whyWrong, cX9_whyWrong, 7, some .int, 2, 46)
abbrev mX9_fewestHands : zM := (yX9_fewestHands, cX9_fewestHands, 8, some .int, 2, 53)
abbrev mX9_keepsAhead : zM := (yX9_keepsAhead, cX9_keepsAhead, 9, some .boolean, 1, 25)
abbrev mX9_wellsMet : zM := (yX9_wellsMet, cX9_wellsMet, 3, some .int, 2, 46)
abbrev mX9_roundedUp : zM := (yX9_roundedUp, cX9_roundedUp, 3, some .int, 1, 21)
abbrev mX9_commonDivisor : zM := (yX9_commonDivisor, cX9_commonDivisor, 11, some .long, 0, 0)
abbrev mX10_in : zM := (yX10_in, cX10_in, 3, some .boolean, 0, 0)
abbrev mX10_amount : zM := (yX10_amount, cX10_amount, 1, some .int, 0, 0)
abbrev mX10_no : zM := (yX10_no, cX10_no, 1, some .long, 0, 0)
abbrev mX10_lowest : zM := (yX10_lowest, cX10_lowest, 11, some .long, 0, 0)
abbrev mX10_isWeek : zM := (yX10_isWeek, cX10_isWeek, 1, some .boolean, 1, 22)
abbrev mX10_wind : zM := (yX10_wind, cX10_wind, 4, some .int, 2, 42)
abbrev mX10_read : zM := (yX10_read, cX10_read, 3, some .int, 2, 42)
abbrev mX10_set : zM := (yX10_set, cX10_set, 4, some .int, 1, 22)
abbrev mX10_footOf : zM := (yX10_footOf, cX10_footOf, 4, some .int, 0, 0)
abbrev mX10_foot : zM := (yX10_foot, cX10_foot, 2, some .int, 2, 42)
abbrev mX10_type : zM := (yX10_type, cX10_type, 3, some .int, 1, 22)
abbrev mX10_wipe : zM := (yX10_wipe, cX10_wipe, 3, some .int, 1, 22)
abbrev mX10_byteAt : zM := (yX10_byteAt, cX10_byteAt, 3, some .int, 0, 0)
abbrev mX10_figureAt : zM := (yX10_figureAt, cX10_figureAt, 4, some .int, 1, 22)
abbrev mX10_townFault : zM := (yX10_townFault, cX10_townFault, 5, some .int, 2, 45)
abbrev mX10_movesFault : zM := (yX10_movesFault, cX10_movesFault, 6, some .int, 3, 69)
abbrev mX10_faultOf : zM := (yX10_faultOf, cX10_faultOf, 2, some .int, 4, 94)
abbrev mX10_fault : zM := (yX10_fault, cX10_fault, 2, some .int, 5, 115)
abbrev mX10_housesNow : zM := (yX10_housesNow, cX10_housesNow, 2, some .int, 3, 69)
abbrev mX10_isHouse : zM := (yX10_isHouse, cX10_isHouse, 2, some .boolean, 4, 90)
abbrev mX10_houseOf : zM := (yX10_houseOf, cX10_houseOf, 3, some .int, 0, 0)
abbrev mX10_house : zM := (yX10_house, cX10_house, 3, some .int, 5, 111)
abbrev mX10_handsOf : zM := (yX10_handsOf, cX10_handsOf, 3, some .int, 0, 0)
abbrev mX10_takes : zM := (yX10_takes, cX10_takes, 3, some .int, 5, 111)
abbrev mX10_begins : zM := (yX10_begins, cX10_begins, 2, none, 0, 0)
abbrev mX10_goes : zM := (yX10_goes, cX10_goes, 4, some .boolean, 0, 0)
abbrev mX10_judges : zM := (yX10_judges, cX10_judges, 9, none, 4, 94)
abbrev mX10_judgedOf : zM := (yX10_judgedOf, cX10_judgedOf, 2, some .int, 5, 122)
abbrev mX10_judged : zM := (yX10_judged, cX10_judged, 2, some .int, 6, 143)
abbrev mX10_endsOf : zM := (yX10_endsOf, cX10_endsOf, 2, some .int, 5, 122)
abbrev mX10_ends : zM := (yX10_ends, cX10_ends, 2, some .int, 6, 143)
abbrev mX10_nextOne : zM := (yX10_nextOne, cX10_nextOne, 3, some .int, 0, 0)
abbrev mX10_queues : zM := (yX10_queues, cX10_queues, 5, none, 3, 69)
abbrev mX10_queueOf : zM := (yX10_queueOf, cX10_queueOf, 3, some .int, 4, 93)
abbrev mX10_queue : zM := (yX10_queue, cX10_queue, 3, some .int, 5, 115)
abbrev mX10_needsBy : zM := (yX10_needsBy, cX10_needsBy, 5, some .int, 1, 23)
abbrev mX10_needsOf : zM := (yX10_needsOf, cX10_needsOf, 3, some .int, 3, 69)
abbrev mX10_needs : zM := (yX10_needs, cX10_needs, 2, some .int, 4, 91)
abbrev mX10_areEnough : zM := (yX10_areEnough, cX10_areEnough, 7, some .boolean, 0, 0)
abbrev mX10_fewestBy : zM := (yX10_fewestBy, cX10_fewestBy, 4, some .int, 2, 47)
abbrev mX10_fewestOf : zM := (yX10_fewestOf, cX10_fewestOf, 3, some .int, 3, 70)
abbrev mX10_fewest : zM := (yX10_fewest, cX10_fewest, 2, some .int, 4, 92)
abbrev mX10_turnOf : zM := (yX10_turnOf, cX10_turnOf, 4, some .int, 4, 92)
abbrev mX10_turn : zM := (yX10_turn, cX10_turn, 3, some .int, 5, 115)
abbrev mX10_owed : zM := (yX10_owed, cX10_owed, 3, some .int, 1, 22)
abbrev mX10_brokenNow : zM := (yX10_brokenNow, cX10_brokenNow, 7, some .int, 1, 20)
abbrev mX10_brokenOf : zM := (yX10_brokenOf, cX10_brokenOf, 7, some .int, 4, 93)
abbrev mX10_broken : zM := (yX10_broken, cX10_broken, 3, some .int, 5, 119)
abbrev mX10_isPlot : zM := (yX10_isPlot, cX10_isPlot, 2, some .boolean, 1, 22)
abbrev mX10_well : zM := (yX10_well, cX10_well, 3, some .int, 2, 43)
abbrev mX10_metOf : zM := (yX10_metOf, cX10_metOf, 6, some .int, 4, 91)
abbrev mX10_met : zM := (yX10_met, cX10_met, 2, some .int, 5, 116)
abbrev mX10_dryOf : zM := (yX10_dryOf, cX10_dryOf, 6, some .int, 5, 116)
abbrev mX10_dry : zM := (yX10_dry, cX10_dry, 2, some .int, 6, 141)
abbrev mX10_changes : zM := (yX10_changes, cX10_changes, 5, none, 0, 0)
abbrev mX10_soldOf : zM := (yX10_soldOf, cX10_soldOf, 6, some .int, 4, 92)
abbrev mX10_sold : zM := (yX10_sold, cX10_sold, 4, some .int, 5, 117)
abbrev mX10_debt : zM := (yX10_debt, cX10_debt, 4, some .int, 2, 43)
abbrev mX10_owesOf : zM := (yX10_owesOf, cX10_owesOf, 6, some .int, 4, 91)
abbrev mX10_owes : zM := (yX10_owes, cX10_owes, 3, some .int, 5, 116)
abbrev mX10_lostOf : zM := (yX10_lostOf, cX10_lostOf, 4, some .int, 1, 23)
abbrev mX10_lost : zM := (yX10_lost, cX10_lost, 2, some .int, 2, 46)
abbrev mX10_church : zM := (yX10_church, cX10_church, 5, some .int, 2, 42)
abbrev mX10_likely : zM := (yX10_likely, cX10_likely, 12, some .long, 1, 30)
abbrev mX10_stone : zM := (yX10_stone, cX10_stone, 7, some .int, 2, 42)
abbrev mX10_meets : zM := (yX10_meets, cX10_meets, 2, some .int, 0, 0)
abbrev mX10_isSheet : zM := (yX10_isSheet, cX10_isSheet, 1, some .boolean, 1, 22)
abbrev mX10_sheet : zM := (yX10_sheet, cX10_sheet, 5, some .int, 2, 42)
abbrev mX10_lose : zM := (yX10_lose, cX10_lose, 2, some .int, 2, 42)
abbrev mX10_lacks : zM := (yX10_lacks, cX10_lacks, 4, some .int, 1, 22)
abbrev mX10_keep : zM := (yX10_keep, cX10_keep, 4, none, 0, 0)
abbrev mX10_put : zM := (yX10_put, cX10_put, 6, some .int, 2, 45)
abbrev mX10_get : zM := (yX10_get, cX10_get, 5, some .int, 2, 45)
abbrev mX10_copy : zM := (yX10_copy, cX10_copy, 7, some .int, 2, 42)
abbrev mX10_write : zM := (yX10_write, cX10_write, 4, some .int, 4, 93)
abbrev mX10_movesNow : zM := (yX10_movesNow, cX10_movesNow, 2, some .int, 4, 94)
abbrev mX10_count : zM := (yX10_count, cX10_count, 2, some .int, 5, 115)
abbrev mX10_digest : zM := (yX10_digest, cX10_digest, 5, some .long, 6, 143)
abbrev mJ9_abs_0f7a4 : zM := (yJ9_abs_0f7a4, cJ9_abs_0f7a4, 1, some .int, 0, 0)
abbrev mJ9_max_7cf53 : zM := (yJ9_max_7cf53, cJ9_max_7cf53, 2, some .int, 0, 0)
abbrev mJ9_max_f86c9 : zM := (yJ9_max_f86c9, cJ9_max_f86c9, 4, some .long, 0, 0)
abbrev mJ9_min_7cf53 : zM := (yJ9_min_7cf53, cJ9_min_7cf53, 2, some .int, 0, 0)
abbrev mJ7_fill_d0a16 : zM := (yJ7_fill_d0a16, cJ7_fill_d0a16, 5, none, 0, 0)
abbrev mJ7_fill_53178 : zM := (yJ7_fill_53178, cJ7_fill_53178, 4, none, 0, 0)
end
section
/-! ===== words of the tables (by program) ===== -/
theorem zg_0 : Cond.selects RX9 yX9_found yX9_found ∈ zG := zG_in 0 (by decide +kernel) rfl
theorem zg_1 : Cond.selects RX9 yX9_textOf yX9_textOf ∈ zG := zG_in 1 (by decide +kernel) rfl
theorem zg_2 : Cond.selects RX9 yX9_readAgain yX9_readAgain ∈ zG := zG_in 2 (by decide +kernel) rfl
theorem zg_3 : Cond.selects RX7 yX7_readParts yX7_readParts ∈ zG := zG_in 3 (by decide +kernel) rfl
theorem zg_4 : Cond.selects RX7 yX7_readPart yX7_readPart ∈ zG := zG_in 4 (by decide +kernel) rfl
theorem zg_5 : Cond.selects RX7 yX7_isTaken yX7_isTaken ∈ zG := zG_in 5 (by decide +kernel) rfl
theorem zg_6 : Cond.selects RX6 yX6_readParts yX6_readParts ∈ zG := zG_in 6 (by decide +kernel) rfl
theorem zg_7 : Cond.selects RX6 yX6_readPart yX6_readPart ∈ zG := zG_in 7 (by decide +kernel) rfl
theorem zg_8 : Cond.selects RX9 yX9_isHouse yX9_isHouse ∈ zG := zG_in 8 (by decide +kernel) rfl
theorem zg_9 : Cond.selects RX9 yX9_whyWrong yX9_whyWrong ∈ zG := zG_in 9 (by decide +kernel) rfl
theorem zg_10 : Cond.selects RX9 yX9_fewestHands yX9_fewestHands ∈ zG := zG_in 10 (by decide +kernel) rfl
theorem zg_11 : Cond.selects RX9 yX9_keepsAhead yX9_keepsAhead ∈ zG := zG_in 11 (by decide +kernel) rfl
theorem zg_12 : Cond.selects RX9 yX9_wellsMet yX9_wellsMet ∈ zG := zG_in 12 (by decide +kernel) rfl
theorem zg_13 : Cond.selects RX9 yX9_withHouse yX9_withHouse ∈ zG := zG_in 13 (by decide +kernel) rfl
theorem zg_14 : Cond.selects RX9 yX9_withWeek yX9_withWeek ∈ zG := zG_in 14 (by decide +kernel) rfl
theorem zg_15 : Cond.selects RX10 yX10_meets yX10_meets ∈ zG := zG_in 15 (by decide +kernel) rfl
theorem zg_16 : Cond.selects RX10 yX10_footOf yX10_footOf ∈ zG := zG_in 16 (by decide +kernel) rfl
theorem zg_17 : Cond.selects RX10 yX10_faultOf yX10_faultOf ∈ zG := zG_in 17 (by decide +kernel) rfl
theorem zg_18 : Cond.selects RX10 yX10_townFault yX10_townFault ∈ zG := zG_in 18 (by decide +kernel) rfl
theorem zg_19 : Cond.selects RX10 yX10_byteAt yX10_byteAt ∈ zG := zG_in 19 (by decide +kernel) rfl
theorem zg_20 : Cond.selects RX10 yX10_figureAt yX10_figureAt ∈ zG := zG_in 20 (by decide +kernel) rfl
theorem zg_21 : Cond.selects RX10 yX10_movesFault yX10_movesFault ∈ zG := zG_in 21 (by decide +kernel) rfl
theorem zg_22 : Cond.selects RX10 yX10_isHouse yX10_isHouse ∈ zG := zG_in 22 (by decide +kernel) rfl
theorem zg_23 : Cond.selects RX10 yX10_housesNow yX10_housesNow ∈ zG := zG_in 23 (by decide +kernel) rfl
theorem zg_24 : Cond.selects RX10 yX10_houseOf yX10_houseOf ∈ zG := zG_in 24 (by decide +kernel) rfl
theorem zg_25 : Cond.selects RX10 yX10_handsOf yX10_handsOf ∈ zG := zG_in 25 (by decide +kernel) rfl
theorem zg_26 : Cond.selects RX10 yX10_judgedOf yX10_judgedOf ∈ zG := zG_in 26 (by decide +kernel) rfl
theorem zg_27 : Cond.selects RX10 yX10_judges yX10_judges ∈ zG := zG_in 27 (by decide +kernel) rfl
theorem zg_28 : Cond.selects RX10 yX10_begins yX10_begins ∈ zG := zG_in 28 (by decide +kernel) rfl
theorem zg_29 : Cond.selects RX10 yX10_goes yX10_goes ∈ zG := zG_in 29 (by decide +kernel) rfl
theorem zg_30 : Cond.selects RX10 yX10_endsOf yX10_endsOf ∈ zG := zG_in 30 (by decide +kernel) rfl
theorem zg_31 : Cond.selects RX10 yX10_queueOf yX10_queueOf ∈ zG := zG_in 31 (by decide +kernel) rfl
theorem zg_32 : Cond.selects RX10 yX10_queues yX10_queues ∈ zG := zG_in 32 (by decide +kernel) rfl
theorem zg_33 : Cond.selects RX10 yX10_nextOne yX10_nextOne ∈ zG := zG_in 33 (by decide +kernel) rfl
theorem zg_34 : Cond.selects RX10 yX10_needsOf yX10_needsOf ∈ zG := zG_in 34 (by decide +kernel) rfl
theorem zg_35 : Cond.selects RX10 yX10_needsBy yX10_needsBy ∈ zG := zG_in 35 (by decide +kernel) rfl
theorem zg_36 : Cond.selects RX10 yX10_fewestOf yX10_fewestOf ∈ zG := zG_in 36 (by decide +kernel) rfl
theorem zg_37 : Cond.selects RX10 yX10_fewestBy yX10_fewestBy ∈ zG := zG_in 37 (by decide +kernel) rfl
theorem zg_38 : Cond.selects RX10 yX10_areEnough yX10_areEnough ∈ zG := zG_in 38 (by decide +kernel) rfl
theorem zg_39 : Cond.selects RX10 yX10_turnOf yX10_turnOf ∈ zG := zG_in 39 (by decide +kernel) rfl
theorem zg_40 : Cond.selects RX10 yX10_brokenOf yX10_brokenOf ∈ zG := zG_in 40 (by decide +kernel) rfl
theorem zg_41 : Cond.selects RX10 yX10_brokenNow yX10_brokenNow ∈ zG := zG_in 41 (by decide +kernel) rfl
theorem zg_42 : Cond.selects RX10 yX10_metOf yX10_metOf ∈ zG := zG_in 42 (by decide +kernel) rfl
theorem zg_43 : Cond.selects RX10 yX10_dryOf yX10_dryOf ∈ zG := zG_in 43 (by decide +kernel) rfl
theorem zg_44 : Cond.selects RX10 yX10_soldOf yX10_soldOf ∈ zG := zG_in 44 (by decide +kernel) rfl
theorem zg_45 : Cond.selects RX10 yX10_changes yX10_changes ∈ zG := zG_in 45 (by decide +kernel) rfl
theorem zg_46 : Cond.selects RX10 yX10_owesOf yX10_owesOf ∈ zG := zG_in 46 (by decide +kernel) rfl
theorem zg_47 : Cond.selects RX10 yX10_lostOf yX10_lostOf ∈ zG := zG_in 47 (by decide +kernel) rfl
theorem zg_48 : Cond.selects RX10 yX10_lacks yX10_lacks ∈ zG := zG_in 48 (by decide +kernel) rfl
theorem zg_49 : Cond.selects RX10 yX10_keep yX10_keep ∈ zG := zG_in 49 (by decide +kernel) rfl
theorem zg_50 : Cond.selects RX10 yX10_movesNow yX10_movesNow ∈ zG := zG_in 50 (by decide +kernel) rfl
theorem zg_52 : Cond.initialized RX9 ∈ zG := zG_in 52 (by decide +kernel) rfl
theorem zg_53 : Cond.initialized RX5 ∈ zG := zG_in 53 (by decide +kernel) rfl
theorem zg_54 : Cond.initialized RX7 ∈ zG := zG_in 54 (by decide +kernel) rfl
theorem zg_55 : Cond.initialized RX6 ∈ zG := zG_in 55 (by decide +kernel) rfl
theorem zg_56 : Cond.initialized RX8 ∈ zG := zG_in 56 (by decide +kernel) rfl
theorem zg_57 : Cond.initialized RX4 ∈ zG := zG_in 57 (by decide +kernel) rfl
theorem zg_58 : Cond.initialized RX2 ∈ zG := zG_in 58 (by decide +kernel) rfl
theorem zg_59 : Cond.initialized RX1 ∈ zG := zG_in 59 (by decide +kernel) rfl
theorem zg_60 : Cond.initialized RX0 ∈ zG := zG_in 60 (by decide +kernel) rfl
theorem zg_61 : Cond.initialized RJ9 ∈ zG := zG_in 61 (by decide +kernel) rfl
theorem zg_62 : Cond.initialized RX3 ∈ zG := zG_in 62 (by decide +kernel) rfl
theorem zg_63 : Cond.initialized RX10 ∈ zG := zG_in 63 (by decide +kernel) rfl
theorem zg_64 : Cond.initialized RJ7 ∈ zG := zG_in 64 (by decide +kernel) rfl
theorem zg_65 : Cond.initialized "java/lang/System" ∈ zG := zG_in 65 (by decide +kernel) rfl
theorem zg_80 : Cond.fieldLink RX5 9 (TX5 0).1 (TX5 0).2.1 (TX5 0).2.2.1 ∈ zG := zG_in 80 (by decide +kernel) rfl
theorem zg_81 : Cond.fieldLink RX5 15 (TX5 1).1 (TX5 1).2.1 (TX5 1).2.2.1 ∈ zG := zG_in 81 (by decide +kernel) rfl
theorem zg_82 : Cond.fieldLinkNest RX7 28 (TX5 1).1 (TX5 1).2.1 (TX5 1).2.2.1 "WalkingTown" ∈ zN := zN_in 82 (by decide +kernel) rfl
theorem zg_83 : Cond.fieldLinkNest RX6 25 (TX5 1).1 (TX5 1).2.1 (TX5 1).2.2.1 "WalkingTown" ∈ zN := zN_in 83 (by decide +kernel) rfl
theorem zg_84 : Cond.fieldLinkNest RX9 145 (TX5 1).1 (TX5 1).2.1 (TX5 1).2.2.1 "WalkingTown" ∈ zN := zN_in 84 (by decide +kernel) rfl
theorem zg_97 : Cond.fieldLink RX7 9 (TX7 0).1 (TX7 0).2.1 (TX7 0).2.2.1 ∈ zG := zG_in 97 (by decide +kernel) rfl
theorem zg_98 : Cond.fieldLinkNest RX9 161 (TX7 0).1 (TX7 0).2.1 (TX7 0).2.2.1 "WalkingTown" ∈ zN := zN_in 98 (by decide +kernel) rfl
theorem zg_99 : Cond.fieldLink RX7 15 (TX7 1).1 (TX7 1).2.1 (TX7 1).2.2.1 ∈ zG := zG_in 99 (by decide +kernel) rfl
theorem zg_100 : Cond.fieldLinkNest RX4 26 (TX7 1).1 (TX7 1).2.1 (TX7 1).2.2.1 "WalkingTown" ∈ zN := zN_in 100 (by decide +kernel) rfl
theorem zg_101 : Cond.fieldLinkNest RX1 25 (TX7 1).1 (TX7 1).2.1 (TX7 1).2.2.1 "WalkingTown" ∈ zN := zN_in 101 (by decide +kernel) rfl
theorem zg_102 : Cond.fieldLinkNest RX9 164 (TX7 1).1 (TX7 1).2.1 (TX7 1).2.2.1 "WalkingTown" ∈ zN := zN_in 102 (by decide +kernel) rfl
theorem zg_103 : Cond.fieldLink RX7 18 (TX7 2).1 (TX7 2).2.1 (TX7 2).2.2.1 ∈ zG := zG_in 103 (by decide +kernel) rfl
theorem zg_104 : Cond.fieldLinkNest RX4 25 (TX7 2).1 (TX7 2).2.1 (TX7 2).2.2.1 "WalkingTown" ∈ zN := zN_in 104 (by decide +kernel) rfl
theorem zg_105 : Cond.fieldLinkNest RX8 62 (TX7 2).1 (TX7 2).2.1 (TX7 2).2.2.1 "WalkingTown" ∈ zN := zN_in 105 (by decide +kernel) rfl
theorem zg_106 : Cond.fieldLinkNest RX9 167 (TX7 2).1 (TX7 2).2.1 (TX7 2).2.2.1 "WalkingTown" ∈ zN := zN_in 106 (by decide +kernel) rfl
theorem zg_107 : Cond.fieldLink RX7 21 (TX7 3).1 (TX7 3).2.1 (TX7 3).2.2.1 ∈ zG := zG_in 107 (by decide +kernel) rfl
theorem zg_108 : Cond.fieldLinkNest RX4 22 (TX7 3).1 (TX7 3).2.1 (TX7 3).2.2.1 "WalkingTown" ∈ zN := zN_in 108 (by decide +kernel) rfl
theorem zg_109 : Cond.fieldLinkNest RX1 22 (TX7 3).1 (TX7 3).2.1 (TX7 3).2.2.1 "WalkingTown" ∈ zN := zN_in 109 (by decide +kernel) rfl
theorem zg_110 : Cond.fieldLinkNest RX9 287 (TX7 3).1 (TX7 3).2.1 (TX7 3).2.2.1 "WalkingTown" ∈ zN := zN_in 110 (by decide +kernel) rfl
theorem zg_111 : Cond.fieldLink RX7 25 (TX7 4).1 (TX7 4).2.1 (TX7 4).2.2.1 ∈ zG := zG_in 111 (by decide +kernel) rfl
theorem zg_112 : Cond.fieldLinkNest RX9 154 (TX7 4).1 (TX7 4).2.1 (TX7 4).2.2.1 "WalkingTown" ∈ zN := zN_in 112 (by decide +kernel) rfl
theorem zg_130 : Cond.fieldLink RX6 11 (TX6 0).1 (TX6 0).2.1 (TX6 0).2.2.1 ∈ zG := zG_in 130 (by decide +kernel) rfl
theorem zg_131 : Cond.fieldLink RX6 15 (TX6 1).1 (TX6 1).2.1 (TX6 1).2.2.1 ∈ zG := zG_in 131 (by decide +kernel) rfl
theorem zg_132 : Cond.fieldLinkNest RX9 183 (TX6 1).1 (TX6 1).2.1 (TX6 1).2.2.1 "WalkingTown" ∈ zN := zN_in 132 (by decide +kernel) rfl
theorem zg_133 : Cond.fieldLink RX6 18 (TX6 2).1 (TX6 2).2.1 (TX6 2).2.2.1 ∈ zG := zG_in 133 (by decide +kernel) rfl
theorem zg_134 : Cond.fieldLinkNest RX9 182 (TX6 2).1 (TX6 2).2.1 (TX6 2).2.2.1 "WalkingTown" ∈ zN := zN_in 134 (by decide +kernel) rfl
theorem zg_135 : Cond.fieldLink RX6 22 (TX6 3).1 (TX6 3).2.1 (TX6 3).2.2.1 ∈ zG := zG_in 135 (by decide +kernel) rfl
theorem zg_136 : Cond.fieldLinkNest RX9 157 (TX6 3).1 (TX6 3).2.1 (TX6 3).2.2.1 "WalkingTown" ∈ zN := zN_in 136 (by decide +kernel) rfl
theorem zg_158 : Cond.fieldLink RX4 9 (TX4 0).1 (TX4 0).2.1 (TX4 0).2.2.1 ∈ zG := zG_in 158 (by decide +kernel) rfl
theorem zg_159 : Cond.fieldLinkNest RX8 46 (TX4 0).1 (TX4 0).2.1 (TX4 0).2.2.1 "WalkingTown" ∈ zN := zN_in 159 (by decide +kernel) rfl
theorem zg_160 : Cond.fieldLinkNest RX9 190 (TX4 0).1 (TX4 0).2.1 (TX4 0).2.2.1 "WalkingTown" ∈ zN := zN_in 160 (by decide +kernel) rfl
theorem zg_161 : Cond.fieldLink RX4 15 (TX4 1).1 (TX4 1).2.1 (TX4 1).2.2.1 ∈ zG := zG_in 161 (by decide +kernel) rfl
theorem zg_162 : Cond.fieldLink RX4 18 (TX4 2).1 (TX4 2).2.1 (TX4 2).2.2.1 ∈ zG := zG_in 162 (by decide +kernel) rfl
theorem zg_170 : Cond.fieldLink RX8 11 (TX8 0).1 (TX8 0).2.1 (TX8 0).2.2.1 ∈ zG := zG_in 170 (by decide +kernel) rfl
theorem zg_171 : Cond.fieldLink RX8 15 (TX8 1).1 (TX8 1).2.1 (TX8 1).2.2.1 ∈ zG := zG_in 171 (by decide +kernel) rfl
theorem zg_172 : Cond.fieldLink RX8 18 (TX8 2).1 (TX8 2).2.1 (TX8 2).2.2.1 ∈ zG := zG_in 172 (by decide +kernel) rfl
theorem zg_173 : Cond.fieldLink RX8 21 (TX8 3).1 (TX8 3).2.1 (TX8 3).2.2.1 ∈ zG := zG_in 173 (by decide +kernel) rfl
theorem zg_174 : Cond.fieldLink RX8 24 (TX8 4).1 (TX8 4).2.1 (TX8 4).2.2.1 ∈ zG := zG_in 174 (by decide +kernel) rfl
theorem zg_175 : Cond.fieldLinkNest RX9 370 (TX8 4).1 (TX8 4).2.1 (TX8 4).2.2.1 "WalkingTown" ∈ zN := zN_in 175 (by decide +kernel) rfl
theorem zg_176 : Cond.fieldLink RX8 30 (TX8 5).1 (TX8 5).2.1 (TX8 5).2.2.1 ∈ zG := zG_in 176 (by decide +kernel) rfl
theorem zg_177 : Cond.fieldLink RX8 34 (TX8 6).1 (TX8 6).2.1 (TX8 6).2.2.1 ∈ zG := zG_in 177 (by decide +kernel) rfl
theorem zg_201 : Cond.fieldLink RX2 9 (TX2 0).1 (TX2 0).2.1 (TX2 0).2.2.1 ∈ zG := zG_in 201 (by decide +kernel) rfl
theorem zg_202 : Cond.fieldLinkNest RX9 105 (TX2 0).1 (TX2 0).2.1 (TX2 0).2.2.1 "WalkingTown" ∈ zN := zN_in 202 (by decide +kernel) rfl
theorem zg_203 : Cond.fieldLink RX2 15 (TX2 1).1 (TX2 1).2.1 (TX2 1).2.2.1 ∈ zG := zG_in 203 (by decide +kernel) rfl
theorem zg_204 : Cond.fieldLink RX2 19 (TX2 2).1 (TX2 2).2.1 (TX2 2).2.2.1 ∈ zG := zG_in 204 (by decide +kernel) rfl
theorem zg_205 : Cond.fieldLinkNest RX9 132 (TX2 2).1 (TX2 2).2.1 (TX2 2).2.2.1 "WalkingTown" ∈ zN := zN_in 205 (by decide +kernel) rfl
theorem zg_220 : Cond.fieldLink RX1 9 (TX1 0).1 (TX1 0).2.1 (TX1 0).2.2.1 ∈ zG := zG_in 220 (by decide +kernel) rfl
theorem zg_221 : Cond.fieldLink RX1 15 (TX1 1).1 (TX1 1).2.1 (TX1 1).2.2.1 ∈ zG := zG_in 221 (by decide +kernel) rfl
theorem zg_222 : Cond.fieldLink RX1 18 (TX1 2).1 (TX1 2).2.1 (TX1 2).2.2.1 ∈ zG := zG_in 222 (by decide +kernel) rfl
theorem zg_223 : Cond.fieldLinkNest RX9 211 (TX1 2).1 (TX1 2).2.1 (TX1 2).2.2.1 "WalkingTown" ∈ zN := zN_in 223 (by decide +kernel) rfl
theorem zg_238 : Cond.static yJ9_max_7cf53 ∈ zG := zG_in 238 (by decide +kernel) rfl
theorem zg_239 : Cond.code yJ9_max_7cf53 cJ9_max_7cf53 2 (some .int) ∈ zG := zG_in 239 (by decide +kernel) rfl
theorem zg_240 : Cond.fieldLink RX0 19 (TX0 0).1 (TX0 0).2.1 (TX0 0).2.2.1 ∈ zG := zG_in 240 (by decide +kernel) rfl
theorem zg_241 : Cond.fieldLink RX0 23 (TX0 1).1 (TX0 1).2.1 (TX0 1).2.2.1 ∈ zG := zG_in 241 (by decide +kernel) rfl
theorem zg_242 : Cond.fieldLink RX0 26 (TX0 2).1 (TX0 2).2.1 (TX0 2).2.2.1 ∈ zG := zG_in 242 (by decide +kernel) rfl
theorem zg_243 : Cond.fieldLink RX0 7 (TX0 3).1 (TX0 3).2.1 (TX0 3).2.2.1 ∈ zG := zG_in 243 (by decide +kernel) rfl
theorem zg_244 : Cond.fieldLinkNest RX9 226 (TX0 3).1 (TX0 3).2.1 (TX0 3).2.2.1 "WalkingTown" ∈ zN := zN_in 244 (by decide +kernel) rfl
theorem zg_261 : Cond.fieldLink RX3 9 (TX3 0).1 (TX3 0).2.1 (TX3 0).2.2.1 ∈ zG := zG_in 261 (by decide +kernel) rfl
theorem zg_262 : Cond.fieldLinkNest RX9 129 (TX3 0).1 (TX3 0).2.1 (TX3 0).2.2.1 "WalkingTown" ∈ zN := zN_in 262 (by decide +kernel) rfl
theorem zg_263 : Cond.fieldLink RX3 15 (TX3 1).1 (TX3 1).2.1 (TX3 1).2.2.1 ∈ zG := zG_in 263 (by decide +kernel) rfl
theorem zg_264 : Cond.fieldLinkNest RX9 112 (TX3 1).1 (TX3 1).2.1 (TX3 1).2.2.1 "WalkingTown" ∈ zN := zN_in 264 (by decide +kernel) rfl
theorem zg_265 : Cond.fieldLink RX3 19 (TX3 2).1 (TX3 2).2.1 (TX3 2).2.2.1 ∈ zG := zG_in 265 (by decide +kernel) rfl
theorem zg_266 : Cond.fieldLinkNest RX9 275 (TX3 2).1 (TX3 2).2.1 (TX3 2).2.2.1 "WalkingTown" ∈ zN := zN_in 266 (by decide +kernel) rfl
theorem zg_267 : Cond.fieldLink RX3 23 (TX3 3).1 (TX3 3).2.1 (TX3 3).2.2.1 ∈ zG := zG_in 267 (by decide +kernel) rfl
theorem zg_268 : Cond.fieldLinkNest RX9 120 (TX3 3).1 (TX3 3).2.1 (TX3 3).2.2.1 "WalkingTown" ∈ zN := zN_in 268 (by decide +kernel) rfl
theorem zg_278 : Cond.methodLink RX9 93 yX8_plan ∈ zG := zG_in 278 (by decide +kernel) rfl
theorem zg_279 : Cond.instanceMethod yX8_plan ∈ zG := zG_in 279 (by decide +kernel) rfl
theorem zg_280 : Cond.selects RX8 yX8_plan yX8_plan ∈ zG := zG_in 280 (by decide +kernel) rfl
theorem zg_281 : Cond.code yX8_plan cX8_plan 5 (none) ∈ zG := zG_in 281 (by decide +kernel) rfl
theorem zg_282 : Cond.methodLink RX8 38 yX4_begin ∈ zG := zG_in 282 (by decide +kernel) rfl
theorem zg_283 : Cond.instanceMethod yX4_begin ∈ zG := zG_in 283 (by decide +kernel) rfl
theorem zg_284 : Cond.selects RX4 yX4_begin yX4_begin ∈ zG := zG_in 284 (by decide +kernel) rfl
theorem zg_285 : Cond.code yX4_begin cX4_begin 3 (none) ∈ zG := zG_in 285 (by decide +kernel) rfl
theorem zg_286 : Cond.methodLink RX8 42 yX4_hindmost ∈ zG := zG_in 286 (by decide +kernel) rfl
theorem zg_287 : Cond.instanceMethod yX4_hindmost ∈ zG := zG_in 287 (by decide +kernel) rfl
theorem zg_288 : Cond.selects RX4 yX4_hindmost yX4_hindmost ∈ zG := zG_in 288 (by decide +kernel) rfl
theorem zg_289 : Cond.code yX4_hindmost cX4_hindmost 3 (some .int) ∈ zG := zG_in 289 (by decide +kernel) rfl
theorem zg_290 : Cond.methodLink RX8 49 yX4_greatestRow ∈ zG := zG_in 290 (by decide +kernel) rfl
theorem zg_291 : Cond.instanceMethod yX4_greatestRow ∈ zG := zG_in 291 (by decide +kernel) rfl
theorem zg_292 : Cond.selects RX4 yX4_greatestRow yX4_greatestRow ∈ zG := zG_in 292 (by decide +kernel) rfl
theorem zg_293 : Cond.code yX4_greatestRow cX4_greatestRow 3 (some .int) ∈ zG := zG_in 293 (by decide +kernel) rfl
theorem zg_294 : Cond.methodLink RX4 29 yJ9_max_7cf53 ∈ zG := zG_in 294 (by decide +kernel) rfl
theorem zg_295 : Cond.methodLink RX8 52 yX4_move ∈ zG := zG_in 295 (by decide +kernel) rfl
theorem zg_296 : Cond.instanceMethod yX4_move ∈ zG := zG_in 296 (by decide +kernel) rfl
theorem zg_297 : Cond.selects RX4 yX4_move yX4_move ∈ zG := zG_in 297 (by decide +kernel) rfl
theorem zg_298 : Cond.code yX4_move cX4_move 5 (some .int) ∈ zG := zG_in 298 (by decide +kernel) rfl
theorem zg_299 : Cond.methodLink RX4 35 yX7_handsFor ∈ zG := zG_in 299 (by decide +kernel) rfl
theorem zg_300 : Cond.instanceMethod yX7_handsFor ∈ zG := zG_in 300 (by decide +kernel) rfl
theorem zg_301 : Cond.selects RX7 yX7_handsFor yX7_handsFor ∈ zG := zG_in 301 (by decide +kernel) rfl
theorem zg_302 : Cond.code yX7_handsFor cX7_handsFor 3 (some .int) ∈ zG := zG_in 302 (by decide +kernel) rfl
theorem zg_303 : Cond.fieldLink RX9 10 (TX9 0).1 (TX9 0).2.1 (TX9 0).2.2.1 ∈ zG := zG_in 303 (by decide +kernel) rfl
theorem zg_304 : Cond.fieldLink RX9 16 (TX9 1).1 (TX9 1).2.1 (TX9 1).2.2.1 ∈ zG := zG_in 304 (by decide +kernel) rfl
theorem zg_305 : Cond.fieldLink RX9 22 (TX9 2).1 (TX9 2).2.1 (TX9 2).2.2.1 ∈ zG := zG_in 305 (by decide +kernel) rfl
theorem zg_306 : Cond.fieldLink RX9 29 (TX9 3).1 (TX9 3).2.1 (TX9 3).2.2.1 ∈ zG := zG_in 306 (by decide +kernel) rfl
theorem zg_307 : Cond.fieldLink RX9 36 (TX9 4).1 (TX9 4).2.1 (TX9 4).2.2.1 ∈ zG := zG_in 307 (by decide +kernel) rfl
theorem zg_308 : Cond.fieldLink RX9 40 (TX9 5).1 (TX9 5).2.1 (TX9 5).2.2.1 ∈ zG := zG_in 308 (by decide +kernel) rfl
theorem zg_309 : Cond.fieldLink RX9 43 (TX9 6).1 (TX9 6).2.1 (TX9 6).2.2.1 ∈ zG := zG_in 309 (by decide +kernel) rfl
theorem zg_310 : Cond.fieldLink RX9 49 (TX9 7).1 (TX9 7).2.1 (TX9 7).2.2.1 ∈ zG := zG_in 310 (by decide +kernel) rfl
theorem zg_311 : Cond.fieldLink RX9 56 (TX9 8).1 (TX9 8).2.1 (TX9 8).2.2.1 ∈ zG := zG_in 311 (by decide +kernel) rfl
theorem zg_312 : Cond.fieldLink RX9 63 (TX9 9).1 (TX9 9).2.1 (TX9 9).2.2.1 ∈ zG := zG_in 312 (by decide +kernel) rfl
theorem zg_313 : Cond.fieldLink RX9 72 (TX9 10).1 (TX9 10).2.1 (TX9 10).2.2.1 ∈ zG := zG_in 313 (by decide +kernel) rfl
theorem zg_314 : Cond.fieldLink RX9 76 (TX9 11).1 (TX9 11).2.1 (TX9 11).2.2.1 ∈ zG := zG_in 314 (by decide +kernel) rfl
theorem zg_315 : Cond.fieldLink RX9 81 (TX9 12).1 (TX9 12).2.1 (TX9 12).2.2.1 ∈ zG := zG_in 315 (by decide +kernel) rfl
theorem zg_316 : Cond.fieldLink RX9 85 (TX9 13).1 (TX9 13).2.1 (TX9 13).2.2.1 ∈ zG := zG_in 316 (by decide +kernel) rfl
theorem zg_317 : Cond.fieldLink RX9 89 (TX9 14).1 (TX9 14).2.1 (TX9 14).2.2.1 ∈ zG := zG_in 317 (by decide +kernel) rfl
theorem zg_353 : Cond.methodLink RX9 97 yX9_isWeek ∈ zG := zG_in 353 (by decide +kernel) rfl
theorem zg_354 : Cond.static yX9_isWeek ∈ zG := zG_in 354 (by decide +kernel) rfl
theorem zg_355 : Cond.code yX9_isWeek cX9_isWeek 1 (some .boolean) ∈ zG := zG_in 355 (by decide +kernel) rfl
theorem zg_356 : Cond.methodLink RX9 101 yX9_isWithin ∈ zG := zG_in 356 (by decide +kernel) rfl
theorem zg_357 : Cond.static yX9_isWithin ∈ zG := zG_in 357 (by decide +kernel) rfl
theorem zg_358 : Cond.code yX9_isWithin cX9_isWithin 2 (some .boolean) ∈ zG := zG_in 358 (by decide +kernel) rfl
theorem zg_363 : Cond.methodLink RX9 109 yX9_isSheet ∈ zG := zG_in 363 (by decide +kernel) rfl
theorem zg_364 : Cond.static yX9_isSheet ∈ zG := zG_in 364 (by decide +kernel) rfl
theorem zg_365 : Cond.code yX9_isSheet cX9_isSheet 1 (some .boolean) ∈ zG := zG_in 365 (by decide +kernel) rfl
theorem zg_366 : Cond.methodLink RX9 116 yX9_found ∈ zG := zG_in 366 (by decide +kernel) rfl
theorem zg_368 : Cond.instanceMethod yX9_found ∈ zG := zG_in 368 (by decide +kernel) rfl
theorem zg_369 : Cond.code yX9_found cX9_found 2 (some .int) ∈ zG := zG_in 369 (by decide +kernel) rfl
theorem zg_370 : Cond.methodLink RX9 123 yJ9_min_7cf53 ∈ zG := zG_in 370 (by decide +kernel) rfl
theorem zg_371 : Cond.static yJ9_min_7cf53 ∈ zG := zG_in 371 (by decide +kernel) rfl
theorem zg_372 : Cond.code yJ9_min_7cf53 cJ9_min_7cf53 2 (some .int) ∈ zG := zG_in 372 (by decide +kernel) rfl
theorem zg_378 : Cond.instanceMethod yX9_foot ∈ zG := zG_in 378 (by decide +kernel) rfl
theorem zg_379 : Cond.selects RX9 yX9_foot yX9_foot ∈ zG := zG_in 379 (by decide +kernel) rfl
theorem zg_380 : Cond.code yX9_foot cX9_foot 2 (some .int) ∈ zG := zG_in 380 (by decide +kernel) rfl
theorem zg_381 : Cond.methodLink RX9 135 yX2_footIn ∈ zG := zG_in 381 (by decide +kernel) rfl
theorem zg_382 : Cond.instanceMethod yX2_footIn ∈ zG := zG_in 382 (by decide +kernel) rfl
theorem zg_383 : Cond.selects RX2 yX2_footIn yX2_footIn ∈ zG := zG_in 383 (by decide +kernel) rfl
theorem zg_384 : Cond.code yX2_footIn cX2_footIn 4 (some .int) ∈ zG := zG_in 384 (by decide +kernel) rfl
theorem zg_389 : Cond.methodLink RX9 138 yX9_isText ∈ zG := zG_in 389 (by decide +kernel) rfl
theorem zg_390 : Cond.static yX9_isText ∈ zG := zG_in 390 (by decide +kernel) rfl
theorem zg_391 : Cond.code yX9_isText cX9_isText 1 (some .boolean) ∈ zG := zG_in 391 (by decide +kernel) rfl
theorem zg_392 : Cond.methodLink RX9 141 yX9_textOf ∈ zG := zG_in 392 (by decide +kernel) rfl
theorem zg_394 : Cond.instanceMethod yX9_textOf ∈ zG := zG_in 394 (by decide +kernel) rfl
theorem zg_395 : Cond.code yX9_textOf cX9_textOf 2 (some (.object "WalkingTown$Text")) ∈ zG := zG_in 395 (by decide +kernel) rfl
theorem zg_396 : Cond.methodLink RX9 148 yX5_append ∈ zG := zG_in 396 (by decide +kernel) rfl
theorem zg_397 : Cond.instanceMethod yX5_append ∈ zG := zG_in 397 (by decide +kernel) rfl
theorem zg_398 : Cond.selects RX5 yX5_append yX5_append ∈ zG := zG_in 398 (by decide +kernel) rfl
theorem zg_399 : Cond.code yX5_append cX5_append 2 (none) ∈ zG := zG_in 399 (by decide +kernel) rfl
theorem zg_400 : Cond.methodLink RX9 151 yX9_readAgain ∈ zG := zG_in 400 (by decide +kernel) rfl
theorem zg_402 : Cond.instanceMethod yX9_readAgain ∈ zG := zG_in 402 (by decide +kernel) rfl
theorem zg_403 : Cond.code yX9_readAgain cX9_readAgain 2 (none) ∈ zG := zG_in 403 (by decide +kernel) rfl
theorem zg_404 : Cond.methodLink RX9 350 yX7_readFrom ∈ zG := zG_in 404 (by decide +kernel) rfl
theorem zg_405 : Cond.instanceMethod yX7_readFrom ∈ zG := zG_in 405 (by decide +kernel) rfl
theorem zg_406 : Cond.selects RX7 yX7_readFrom yX7_readFrom ∈ zG := zG_in 406 (by decide +kernel) rfl
theorem zg_407 : Cond.code yX7_readFrom cX7_readFrom 2 (none) ∈ zG := zG_in 407 (by decide +kernel) rfl
theorem zg_408 : Cond.methodLink RX7 33 yX7_readParts ∈ zG := zG_in 408 (by decide +kernel) rfl
theorem zg_410 : Cond.instanceMethod yX7_readParts ∈ zG := zG_in 410 (by decide +kernel) rfl
theorem zg_411 : Cond.code yX7_readParts cX7_readParts 5 (some .int) ∈ zG := zG_in 411 (by decide +kernel) rfl
theorem zg_412 : Cond.methodLink RX7 37 yX7_readPart ∈ zG := zG_in 412 (by decide +kernel) rfl
theorem zg_414 : Cond.instanceMethod yX7_readPart ∈ zG := zG_in 414 (by decide +kernel) rfl
theorem zg_415 : Cond.code yX7_readPart cX7_readPart 8 (some .int) ∈ zG := zG_in 415 (by decide +kernel) rfl
theorem zg_416 : Cond.methodLink RX7 41 yX5_byteAt ∈ zG := zG_in 416 (by decide +kernel) rfl
theorem zg_417 : Cond.instanceMethod yX5_byteAt ∈ zG := zG_in 417 (by decide +kernel) rfl
theorem zg_418 : Cond.selects RX5 yX5_byteAt yX5_byteAt ∈ zG := zG_in 418 (by decide +kernel) rfl
theorem zg_419 : Cond.code yX5_byteAt cX5_byteAt 2 (some .int) ∈ zG := zG_in 419 (by decide +kernel) rfl
theorem zg_420 : Cond.methodLink RX7 45 yX7_kindOf ∈ zG := zG_in 420 (by decide +kernel) rfl
theorem zg_421 : Cond.static yX7_kindOf ∈ zG := zG_in 421 (by decide +kernel) rfl
theorem zg_422 : Cond.code yX7_kindOf cX7_kindOf 1 (some .int) ∈ zG := zG_in 422 (by decide +kernel) rfl
theorem zg_423 : Cond.methodLink RX7 48 yX5_figureAt ∈ zG := zG_in 423 (by decide +kernel) rfl
theorem zg_424 : Cond.instanceMethod yX5_figureAt ∈ zG := zG_in 424 (by decide +kernel) rfl
theorem zg_425 : Cond.selects RX5 yX5_figureAt yX5_figureAt ∈ zG := zG_in 425 (by decide +kernel) rfl
theorem zg_426 : Cond.code yX5_figureAt cX5_figureAt 3 (some .int) ∈ zG := zG_in 426 (by decide +kernel) rfl
theorem zg_427 : Cond.methodLink RX5 19 yX5_byteAt ∈ zG := zG_in 427 (by decide +kernel) rfl
theorem zg_428 : Cond.methodLinkNest RX7 51 yX9_isWithin "WalkingTown" ∈ zN := zN_in 428 (by decide +kernel) rfl
theorem zg_429 : Cond.methodLink RX7 55 yX7_isTaken ∈ zG := zG_in 429 (by decide +kernel) rfl
theorem zg_431 : Cond.instanceMethod yX7_isTaken ∈ zG := zG_in 431 (by decide +kernel) rfl
theorem zg_432 : Cond.code yX7_isTaken cX7_isTaken 4 (some .boolean) ∈ zG := zG_in 432 (by decide +kernel) rfl
theorem zg_433 : Cond.methodLink RX9 354 yX6_readFrom ∈ zG := zG_in 433 (by decide +kernel) rfl
theorem zg_434 : Cond.instanceMethod yX6_readFrom ∈ zG := zG_in 434 (by decide +kernel) rfl
theorem zg_435 : Cond.selects RX6 yX6_readFrom yX6_readFrom ∈ zG := zG_in 435 (by decide +kernel) rfl
theorem zg_436 : Cond.code yX6_readFrom cX6_readFrom 3 (none) ∈ zG := zG_in 436 (by decide +kernel) rfl
theorem zg_437 : Cond.methodLink RX6 30 yX6_readParts ∈ zG := zG_in 437 (by decide +kernel) rfl
theorem zg_439 : Cond.instanceMethod yX6_readParts ∈ zG := zG_in 439 (by decide +kernel) rfl
theorem zg_440 : Cond.code yX6_readParts cX6_readParts 6 (some .int) ∈ zG := zG_in 440 (by decide +kernel) rfl
theorem zg_441 : Cond.methodLink RX6 34 yX6_readPart ∈ zG := zG_in 441 (by decide +kernel) rfl
theorem zg_443 : Cond.instanceMethod yX6_readPart ∈ zG := zG_in 443 (by decide +kernel) rfl
theorem zg_444 : Cond.code yX6_readPart cX6_readPart 9 (some .int) ∈ zG := zG_in 444 (by decide +kernel) rfl
theorem zg_445 : Cond.methodLink RX6 42 yX5_figureAt ∈ zG := zG_in 445 (by decide +kernel) rfl
theorem zg_446 : Cond.methodLinkNest RX6 45 yX9_isWeek "WalkingTown" ∈ zN := zN_in 446 (by decide +kernel) rfl
theorem zg_447 : Cond.methodLink RX6 38 yX5_byteAt ∈ zG := zG_in 447 (by decide +kernel) rfl
theorem zg_453 : Cond.instanceMethod yX9_fault ∈ zG := zG_in 453 (by decide +kernel) rfl
theorem zg_454 : Cond.selects RX9 yX9_fault yX9_fault ∈ zG := zG_in 454 (by decide +kernel) rfl
theorem zg_455 : Cond.code yX9_fault cX9_fault 2 (some .int) ∈ zG := zG_in 455 (by decide +kernel) rfl
theorem zg_457 : Cond.instanceMethod yX9_house ∈ zG := zG_in 457 (by decide +kernel) rfl
theorem zg_458 : Cond.selects RX9 yX9_house yX9_house ∈ zG := zG_in 458 (by decide +kernel) rfl
theorem zg_459 : Cond.code yX9_house cX9_house 3 (some .int) ∈ zG := zG_in 459 (by decide +kernel) rfl
theorem zg_460 : Cond.methodLink RX9 158 yX9_isHouse ∈ zG := zG_in 460 (by decide +kernel) rfl
theorem zg_462 : Cond.instanceMethod yX9_isHouse ∈ zG := zG_in 462 (by decide +kernel) rfl
theorem zg_463 : Cond.code yX9_isHouse cX9_isHouse 2 (some .boolean) ∈ zG := zG_in 463 (by decide +kernel) rfl
theorem zg_468 : Cond.methodLink RX9 170 yX7_handsFor ∈ zG := zG_in 468 (by decide +kernel) rfl
theorem zg_470 : Cond.instanceMethod yX9_judged ∈ zG := zG_in 470 (by decide +kernel) rfl
theorem zg_471 : Cond.selects RX9 yX9_judged yX9_judged ∈ zG := zG_in 471 (by decide +kernel) rfl
theorem zg_472 : Cond.code yX9_judged cX9_judged 6 (some .int) ∈ zG := zG_in 472 (by decide +kernel) rfl
theorem zg_473 : Cond.methodLink RX9 173 yX4_begin ∈ zG := zG_in 473 (by decide +kernel) rfl
theorem zg_474 : Cond.methodLink RX9 175 yX6_endOfWeek ∈ zG := zG_in 474 (by decide +kernel) rfl
theorem zg_475 : Cond.instanceMethod yX6_endOfWeek ∈ zG := zG_in 475 (by decide +kernel) rfl
theorem zg_476 : Cond.selects RX6 yX6_endOfWeek yX6_endOfWeek ∈ zG := zG_in 476 (by decide +kernel) rfl
theorem zg_477 : Cond.code yX6_endOfWeek cX6_endOfWeek 4 (some .int) ∈ zG := zG_in 477 (by decide +kernel) rfl
theorem zg_478 : Cond.methodLink RX9 178 yX9_whyWrong ∈ zG := zG_in 478 (by decide +kernel) rfl
theorem zg_480 : Cond.instanceMethod yX9_whyWrong ∈ zG := zG_in 480 (by decide +kernel) rfl
theorem zg_481 : Cond.code yX9_whyWrong cX9_whyWrong 7 (some .int) ∈ zG := zG_in 481 (by decide +kernel) rfl
theorem zg_482 : Cond.methodLink RX9 186 yX4_move ∈ zG := zG_in 482 (by decide +kernel) rfl
theorem zg_483 : Cond.methodLink RX9 357 yX4_isCovered ∈ zG := zG_in 483 (by decide +kernel) rfl
theorem zg_484 : Cond.instanceMethod yX4_isCovered ∈ zG := zG_in 484 (by decide +kernel) rfl
theorem zg_485 : Cond.selects RX4 yX4_isCovered yX4_isCovered ∈ zG := zG_in 485 (by decide +kernel) rfl
theorem zg_486 : Cond.code yX4_isCovered cX4_isCovered 3 (some .boolean) ∈ zG := zG_in 486 (by decide +kernel) rfl
theorem zg_487 : Cond.methodLink RX4 38 yX4_hindmost ∈ zG := zG_in 487 (by decide +kernel) rfl
theorem zg_489 : Cond.instanceMethod yX9_ends ∈ zG := zG_in 489 (by decide +kernel) rfl
theorem zg_490 : Cond.selects RX9 yX9_ends yX9_ends ∈ zG := zG_in 490 (by decide +kernel) rfl
theorem zg_491 : Cond.code yX9_ends cX9_ends 3 (some .int) ∈ zG := zG_in 491 (by decide +kernel) rfl
theorem zg_493 : Cond.instanceMethod yX9_queue ∈ zG := zG_in 493 (by decide +kernel) rfl
theorem zg_494 : Cond.selects RX9 yX9_queue yX9_queue ∈ zG := zG_in 494 (by decide +kernel) rfl
theorem zg_495 : Cond.code yX9_queue cX9_queue 3 (some .int) ∈ zG := zG_in 495 (by decide +kernel) rfl
theorem zg_496 : Cond.methodLink RX9 191 yX8_nextBehind ∈ zG := zG_in 496 (by decide +kernel) rfl
theorem zg_497 : Cond.instanceMethod yX8_nextBehind ∈ zG := zG_in 497 (by decide +kernel) rfl
theorem zg_498 : Cond.selects RX8 yX8_nextBehind yX8_nextBehind ∈ zG := zG_in 498 (by decide +kernel) rfl
theorem zg_499 : Cond.code yX8_nextBehind cX8_nextBehind 2 (some .int) ∈ zG := zG_in 499 (by decide +kernel) rfl
theorem zg_500 : Cond.methodLink RX8 56 yJ9_min_7cf53 ∈ zG := zG_in 500 (by decide +kernel) rfl
theorem zg_501 : Cond.methodLink RX9 194 yX8_rowBehind ∈ zG := zG_in 501 (by decide +kernel) rfl
theorem zg_502 : Cond.instanceMethod yX8_rowBehind ∈ zG := zG_in 502 (by decide +kernel) rfl
theorem zg_503 : Cond.selects RX8 yX8_rowBehind yX8_rowBehind ∈ zG := zG_in 503 (by decide +kernel) rfl
theorem zg_504 : Cond.code yX8_rowBehind cX8_rowBehind 7 (some .int) ∈ zG := zG_in 504 (by decide +kernel) rfl
theorem zg_506 : Cond.instanceMethod yX9_needs ∈ zG := zG_in 506 (by decide +kernel) rfl
theorem zg_507 : Cond.selects RX9 yX9_needs yX9_needs ∈ zG := zG_in 507 (by decide +kernel) rfl
theorem zg_508 : Cond.code yX9_needs cX9_needs 2 (some .int) ∈ zG := zG_in 508 (by decide +kernel) rfl
theorem zg_509 : Cond.methodLink RX9 198 yX8_movesAheadOf ∈ zG := zG_in 509 (by decide +kernel) rfl
theorem zg_510 : Cond.instanceMethod yX8_movesAheadOf ∈ zG := zG_in 510 (by decide +kernel) rfl
theorem zg_511 : Cond.selects RX8 yX8_movesAheadOf yX8_movesAheadOf ∈ zG := zG_in 511 (by decide +kernel) rfl
theorem zg_512 : Cond.code yX8_movesAheadOf cX8_movesAheadOf 3 (some .int) ∈ zG := zG_in 512 (by decide +kernel) rfl
theorem zg_513 : Cond.methodLink RX8 65 yX8_dueAheadOf ∈ zG := zG_in 513 (by decide +kernel) rfl
theorem zg_514 : Cond.instanceMethod yX8_dueAheadOf ∈ zG := zG_in 514 (by decide +kernel) rfl
theorem zg_515 : Cond.selects RX8 yX8_dueAheadOf yX8_dueAheadOf ∈ zG := zG_in 515 (by decide +kernel) rfl
theorem zg_516 : Cond.code yX8_dueAheadOf cX8_dueAheadOf 5 (some .int) ∈ zG := zG_in 516 (by decide +kernel) rfl
theorem zg_518 : Cond.instanceMethod yX9_fewest ∈ zG := zG_in 518 (by decide +kernel) rfl
theorem zg_519 : Cond.selects RX9 yX9_fewest yX9_fewest ∈ zG := zG_in 519 (by decide +kernel) rfl
theorem zg_520 : Cond.code yX9_fewest cX9_fewest 2 (some .int) ∈ zG := zG_in 520 (by decide +kernel) rfl
theorem zg_521 : Cond.methodLink RX9 201 yX9_fewestHands ∈ zG := zG_in 521 (by decide +kernel) rfl
theorem zg_523 : Cond.instanceMethod yX9_fewestHands ∈ zG := zG_in 523 (by decide +kernel) rfl
theorem zg_524 : Cond.code yX9_fewestHands cX9_fewestHands 8 (some .int) ∈ zG := zG_in 524 (by decide +kernel) rfl
theorem zg_525 : Cond.methodLink RX9 360 yX8_handsForFirst ∈ zG := zG_in 525 (by decide +kernel) rfl
theorem zg_526 : Cond.instanceMethod yX8_handsForFirst ∈ zG := zG_in 526 (by decide +kernel) rfl
theorem zg_527 : Cond.selects RX8 yX8_handsForFirst yX8_handsForFirst ∈ zG := zG_in 527 (by decide +kernel) rfl
theorem zg_528 : Cond.code yX8_handsForFirst cX8_handsForFirst 4 (some .int) ∈ zG := zG_in 528 (by decide +kernel) rfl
theorem zg_529 : Cond.methodLink RX9 363 yX9_keepsAhead ∈ zG := zG_in 529 (by decide +kernel) rfl
theorem zg_531 : Cond.instanceMethod yX9_keepsAhead ∈ zG := zG_in 531 (by decide +kernel) rfl
theorem zg_532 : Cond.code yX9_keepsAhead cX9_keepsAhead 9 (some .boolean) ∈ zG := zG_in 532 (by decide +kernel) rfl
theorem zg_533 : Cond.methodLink RX9 205 yX8_madeInWeek ∈ zG := zG_in 533 (by decide +kernel) rfl
theorem zg_534 : Cond.instanceMethod yX8_madeInWeek ∈ zG := zG_in 534 (by decide +kernel) rfl
theorem zg_535 : Cond.selects RX8 yX8_madeInWeek yX8_madeInWeek ∈ zG := zG_in 535 (by decide +kernel) rfl
theorem zg_536 : Cond.code yX8_madeInWeek cX8_madeInWeek 6 (some .int) ∈ zG := zG_in 536 (by decide +kernel) rfl
theorem zg_537 : Cond.methodLink RX9 367 yX8_dueAheadOf ∈ zG := zG_in 537 (by decide +kernel) rfl
theorem zg_539 : Cond.instanceMethod yX9_turn ∈ zG := zG_in 539 (by decide +kernel) rfl
theorem zg_540 : Cond.selects RX9 yX9_turn yX9_turn ∈ zG := zG_in 540 (by decide +kernel) rfl
theorem zg_541 : Cond.code yX9_turn cX9_turn 7 (some .int) ∈ zG := zG_in 541 (by decide +kernel) rfl
theorem zg_546 : Cond.methodLink RX9 208 yX1_add ∈ zG := zG_in 546 (by decide +kernel) rfl
theorem zg_547 : Cond.instanceMethod yX1_add ∈ zG := zG_in 547 (by decide +kernel) rfl
theorem zg_548 : Cond.selects RX1 yX1_add yX1_add ∈ zG := zG_in 548 (by decide +kernel) rfl
theorem zg_549 : Cond.code yX1_add cX1_add 3 (some .boolean) ∈ zG := zG_in 549 (by decide +kernel) rfl
theorem zg_551 : Cond.instanceMethod yX9_broken ∈ zG := zG_in 551 (by decide +kernel) rfl
theorem zg_552 : Cond.selects RX9 yX9_broken yX9_broken ∈ zG := zG_in 552 (by decide +kernel) rfl
theorem zg_553 : Cond.code yX9_broken cX9_broken 7 (some .int) ∈ zG := zG_in 553 (by decide +kernel) rfl
theorem zg_554 : Cond.methodLink RX9 212 yX1_apart ∈ zG := zG_in 554 (by decide +kernel) rfl
theorem zg_555 : Cond.instanceMethod yX1_apart ∈ zG := zG_in 555 (by decide +kernel) rfl
theorem zg_556 : Cond.selects RX1 yX1_apart yX1_apart ∈ zG := zG_in 556 (by decide +kernel) rfl
theorem zg_557 : Cond.code yX1_apart cX1_apart 9 (some .int) ∈ zG := zG_in 557 (by decide +kernel) rfl
theorem zg_558 : Cond.methodLink RX1 28 yJ9_abs_0f7a4 ∈ zG := zG_in 558 (by decide +kernel) rfl
theorem zg_559 : Cond.static yJ9_abs_0f7a4 ∈ zG := zG_in 559 (by decide +kernel) rfl
theorem zg_560 : Cond.code yJ9_abs_0f7a4 cJ9_abs_0f7a4 1 (some .int) ∈ zG := zG_in 560 (by decide +kernel) rfl
theorem zg_561 : Cond.methodLink RX9 216 yX8_step ∈ zG := zG_in 561 (by decide +kernel) rfl
theorem zg_562 : Cond.instanceMethod yX8_step ∈ zG := zG_in 562 (by decide +kernel) rfl
theorem zg_563 : Cond.selects RX8 yX8_step yX8_step ∈ zG := zG_in 563 (by decide +kernel) rfl
theorem zg_564 : Cond.code yX8_step cX8_step 3 (none) ∈ zG := zG_in 564 (by decide +kernel) rfl
theorem zg_569 : Cond.methodLink RX9 220 yX9_isPlot ∈ zG := zG_in 569 (by decide +kernel) rfl
theorem zg_570 : Cond.static yX9_isPlot ∈ zG := zG_in 570 (by decide +kernel) rfl
theorem zg_571 : Cond.code yX9_isPlot cX9_isPlot 2 (some .boolean) ∈ zG := zG_in 571 (by decide +kernel) rfl
theorem zg_572 : Cond.methodLink RX9 223 yX0_add ∈ zG := zG_in 572 (by decide +kernel) rfl
theorem zg_573 : Cond.instanceMethod yX0_add ∈ zG := zG_in 573 (by decide +kernel) rfl
theorem zg_574 : Cond.selects RX0 yX0_add yX0_add ∈ zG := zG_in 574 (by decide +kernel) rfl
theorem zg_575 : Cond.code yX0_add cX0_add 4 (some .boolean) ∈ zG := zG_in 575 (by decide +kernel) rfl
theorem zg_577 : Cond.instanceMethod yX9_met ∈ zG := zG_in 577 (by decide +kernel) rfl
theorem zg_578 : Cond.selects RX9 yX9_met yX9_met ∈ zG := zG_in 578 (by decide +kernel) rfl
theorem zg_579 : Cond.code yX9_met cX9_met 2 (some .int) ∈ zG := zG_in 579 (by decide +kernel) rfl
theorem zg_580 : Cond.methodLink RX9 227 yX9_wellsMet ∈ zG := zG_in 580 (by decide +kernel) rfl
theorem zg_582 : Cond.instanceMethod yX9_wellsMet ∈ zG := zG_in 582 (by decide +kernel) rfl
theorem zg_583 : Cond.code yX9_wellsMet cX9_wellsMet 3 (some .int) ∈ zG := zG_in 583 (by decide +kernel) rfl
theorem zg_584 : Cond.methodLink RX9 373 yX0_inRows ∈ zG := zG_in 584 (by decide +kernel) rfl
theorem zg_585 : Cond.instanceMethod yX0_inRows ∈ zG := zG_in 585 (by decide +kernel) rfl
theorem zg_586 : Cond.selects RX0 yX0_inRows yX0_inRows ∈ zG := zG_in 586 (by decide +kernel) rfl
theorem zg_587 : Cond.code yX0_inRows cX0_inRows 5 (some .int) ∈ zG := zG_in 587 (by decide +kernel) rfl
theorem zg_589 : Cond.instanceMethod yX9_dry ∈ zG := zG_in 589 (by decide +kernel) rfl
theorem zg_590 : Cond.selects RX9 yX9_dry yX9_dry ∈ zG := zG_in 590 (by decide +kernel) rfl
theorem zg_591 : Cond.code yX9_dry cX9_dry 6 (some .int) ∈ zG := zG_in 591 (by decide +kernel) rfl
theorem zg_592 : Cond.methodLink RX9 230 yJ9_max_7cf53 ∈ zG := zG_in 592 (by decide +kernel) rfl
theorem zg_594 : Cond.instanceMethod yX9_sold ∈ zG := zG_in 594 (by decide +kernel) rfl
theorem zg_595 : Cond.selects RX9 yX9_sold yX9_sold ∈ zG := zG_in 595 (by decide +kernel) rfl
theorem zg_596 : Cond.code yX9_sold cX9_sold 6 (some .int) ∈ zG := zG_in 596 (by decide +kernel) rfl
theorem zg_597 : Cond.methodLink RX9 233 yX7_swapOf ∈ zG := zG_in 597 (by decide +kernel) rfl
theorem zg_598 : Cond.instanceMethod yX7_swapOf ∈ zG := zG_in 598 (by decide +kernel) rfl
theorem zg_599 : Cond.selects RX7 yX7_swapOf yX7_swapOf ∈ zG := zG_in 599 (by decide +kernel) rfl
theorem zg_600 : Cond.code yX7_swapOf cX7_swapOf 6 (none) ∈ zG := zG_in 600 (by decide +kernel) rfl
theorem zg_606 : Cond.instanceMethod yX9_owes ∈ zG := zG_in 606 (by decide +kernel) rfl
theorem zg_607 : Cond.selects RX9 yX9_owes yX9_owes ∈ zG := zG_in 607 (by decide +kernel) rfl
theorem zg_608 : Cond.code yX9_owes cX9_owes 6 (some .int) ∈ zG := zG_in 608 (by decide +kernel) rfl
theorem zg_609 : Cond.methodLink RX9 237 yX0_amountOn ∈ zG := zG_in 609 (by decide +kernel) rfl
theorem zg_610 : Cond.instanceMethod yX0_amountOn ∈ zG := zG_in 610 (by decide +kernel) rfl
theorem zg_611 : Cond.selects RX0 yX0_amountOn yX0_amountOn ∈ zG := zG_in 611 (by decide +kernel) rfl
theorem zg_612 : Cond.code yX0_amountOn cX0_amountOn 5 (some .int) ∈ zG := zG_in 612 (by decide +kernel) rfl
theorem zg_614 : Cond.instanceMethod yX9_lost ∈ zG := zG_in 614 (by decide +kernel) rfl
theorem zg_615 : Cond.selects RX9 yX9_lost yX9_lost ∈ zG := zG_in 615 (by decide +kernel) rfl
theorem zg_616 : Cond.code yX9_lost cX9_lost 2 (some .int) ∈ zG := zG_in 616 (by decide +kernel) rfl
theorem zg_617 : Cond.methodLink RX9 240 yX0_amountBelow ∈ zG := zG_in 617 (by decide +kernel) rfl
theorem zg_618 : Cond.instanceMethod yX0_amountBelow ∈ zG := zG_in 618 (by decide +kernel) rfl
theorem zg_619 : Cond.selects RX0 yX0_amountBelow yX0_amountBelow ∈ zG := zG_in 619 (by decide +kernel) rfl
theorem zg_620 : Cond.code yX0_amountBelow cX0_amountBelow 4 (some .int) ∈ zG := zG_in 620 (by decide +kernel) rfl
theorem zg_625 : Cond.methodLink RX9 243 yX9_roundedUp ∈ zG := zG_in 625 (by decide +kernel) rfl
theorem zg_626 : Cond.static yX9_roundedUp ∈ zG := zG_in 626 (by decide +kernel) rfl
theorem zg_627 : Cond.code yX9_roundedUp cX9_roundedUp 3 (some .int) ∈ zG := zG_in 627 (by decide +kernel) rfl
theorem zg_632 : Cond.constantLong RX9 246 (Int64.ofInt (-9223372036854775806)) ∈ zG := zG_in 632 (by decide +kernel) rfl
theorem zg_633 : Cond.methodLink RX9 248 yX2_spread ∈ zG := zG_in 633 (by decide +kernel) rfl
theorem zg_634 : Cond.instanceMethod yX2_spread ∈ zG := zG_in 634 (by decide +kernel) rfl
theorem zg_635 : Cond.selects RX2 yX2_spread yX2_spread ∈ zG := zG_in 635 (by decide +kernel) rfl
theorem zg_636 : Cond.code yX2_spread cX2_spread 7 (none) ∈ zG := zG_in 636 (by decide +kernel) rfl
theorem zg_637 : Cond.methodLink RX2 23 yJ7_fill_d0a16 ∈ zG := zG_in 637 (by decide +kernel) rfl
theorem zg_638 : Cond.static yJ7_fill_d0a16 ∈ zG := zG_in 638 (by decide +kernel) rfl
theorem zg_639 : Cond.code yJ7_fill_d0a16 cJ7_fill_d0a16 5 (none) ∈ zG := zG_in 639 (by decide +kernel) rfl
theorem zg_640 : Cond.methodLink RX2 29 yJ9_max_7cf53 ∈ zG := zG_in 640 (by decide +kernel) rfl
theorem zg_641 : Cond.methodLink RX9 252 yX2_waysOver ∈ zG := zG_in 641 (by decide +kernel) rfl
theorem zg_642 : Cond.instanceMethod yX2_waysOver ∈ zG := zG_in 642 (by decide +kernel) rfl
theorem zg_643 : Cond.selects RX2 yX2_waysOver yX2_waysOver ∈ zG := zG_in 643 (by decide +kernel) rfl
theorem zg_644 : Cond.code yX2_waysOver cX2_waysOver 5 (some .long) ∈ zG := zG_in 644 (by decide +kernel) rfl
theorem zg_645 : Cond.methodLink RX9 256 yX9_commonDivisor ∈ zG := zG_in 645 (by decide +kernel) rfl
theorem zg_646 : Cond.static yX9_commonDivisor ∈ zG := zG_in 646 (by decide +kernel) rfl
theorem zg_647 : Cond.code yX9_commonDivisor cX9_commonDivisor 11 (some .long) ∈ zG := zG_in 647 (by decide +kernel) rfl
theorem zg_648 : Cond.methodLink RX9 260 yJ9_max_f86c9 ∈ zG := zG_in 648 (by decide +kernel) rfl
theorem zg_649 : Cond.static yJ9_max_f86c9 ∈ zG := zG_in 649 (by decide +kernel) rfl
theorem zg_650 : Cond.code yJ9_max_f86c9 cJ9_max_f86c9 4 (some .long) ∈ zG := zG_in 650 (by decide +kernel) rfl
theorem zg_659 : Cond.methodLink RX9 262 yX9_isForm ∈ zG := zG_in 659 (by decide +kernel) rfl
theorem zg_660 : Cond.static yX9_isForm ∈ zG := zG_in 660 (by decide +kernel) rfl
theorem zg_661 : Cond.code yX9_isForm cX9_isForm 1 (some .boolean) ∈ zG := zG_in 661 (by decide +kernel) rfl
theorem zg_662 : Cond.methodLink RX9 265 yX3_renew ∈ zG := zG_in 662 (by decide +kernel) rfl
theorem zg_663 : Cond.instanceMethod yX3_renew ∈ zG := zG_in 663 (by decide +kernel) rfl
theorem zg_664 : Cond.selects RX3 yX3_renew yX3_renew ∈ zG := zG_in 664 (by decide +kernel) rfl
theorem zg_665 : Cond.code yX3_renew cX3_renew 3 (none) ∈ zG := zG_in 665 (by decide +kernel) rfl
theorem zg_666 : Cond.methodLink RX3 26 yJ7_fill_53178 ∈ zG := zG_in 666 (by decide +kernel) rfl
theorem zg_667 : Cond.static yJ7_fill_53178 ∈ zG := zG_in 667 (by decide +kernel) rfl
theorem zg_668 : Cond.code yJ7_fill_53178 cJ7_fill_53178 4 (none) ∈ zG := zG_in 668 (by decide +kernel) rfl
theorem zg_677 : Cond.methodLink RX9 268 yX3_amissAt ∈ zG := zG_in 677 (by decide +kernel) rfl
theorem zg_678 : Cond.instanceMethod yX3_amissAt ∈ zG := zG_in 678 (by decide +kernel) rfl
theorem zg_679 : Cond.selects RX3 yX3_amissAt yX3_amissAt ∈ zG := zG_in 679 (by decide +kernel) rfl
theorem zg_680 : Cond.code yX3_amissAt cX3_amissAt 3 (some .int) ∈ zG := zG_in 680 (by decide +kernel) rfl
theorem zg_681 : Cond.methodLink RX9 271 yX3_keep ∈ zG := zG_in 681 (by decide +kernel) rfl
theorem zg_682 : Cond.instanceMethod yX3_keep ∈ zG := zG_in 682 (by decide +kernel) rfl
theorem zg_683 : Cond.selects RX3 yX3_keep yX3_keep ∈ zG := zG_in 683 (by decide +kernel) rfl
theorem zg_684 : Cond.code yX3_keep cX3_keep 3 (none) ∈ zG := zG_in 684 (by decide +kernel) rfl
theorem zg_689 : Cond.constant RX9 274 (Int32.ofInt (-2147483648)) ∈ zG := zG_in 689 (by decide +kernel) rfl
theorem zg_694 : Cond.methodLink RX9 278 yX3_hasRange ∈ zG := zG_in 694 (by decide +kernel) rfl
theorem zg_695 : Cond.instanceMethod yX3_hasRange ∈ zG := zG_in 695 (by decide +kernel) rfl
theorem zg_696 : Cond.selects RX3 yX3_hasRange yX3_hasRange ∈ zG := zG_in 696 (by decide +kernel) rfl
theorem zg_697 : Cond.code yX3_hasRange cX3_hasRange 3 (some .boolean) ∈ zG := zG_in 697 (by decide +kernel) rfl
theorem zg_698 : Cond.methodLink RX9 281 arraycopyName ∈ zG := zG_in 698 (by decide +kernel) rfl
theorem zg_699 : Cond.static arraycopyName ∈ zG := zG_in 699 (by decide +kernel) rfl
theorem zg_700 : Cond.native arraycopyName ∈ zG := zG_in 700 (by decide +kernel) rfl
theorem zg_706 : Cond.instanceMethod yX9_count ∈ zG := zG_in 706 (by decide +kernel) rfl
theorem zg_707 : Cond.selects RX9 yX9_count yX9_count ∈ zG := zG_in 707 (by decide +kernel) rfl
theorem zg_708 : Cond.code yX9_count cX9_count 2 (some .int) ∈ zG := zG_in 708 (by decide +kernel) rfl
theorem zg_713 : Cond.constantLong RX9 288 (Int64.ofInt (17)) ∈ zG := zG_in 713 (by decide +kernel) rfl
theorem zg_714 : Cond.methodLink RX9 290 yX9_count ∈ zG := zG_in 714 (by decide +kernel) rfl
theorem zg_715 : Cond.methodLink RX9 293 yX9_mixed ∈ zG := zG_in 715 (by decide +kernel) rfl
theorem zg_716 : Cond.static yX9_mixed ∈ zG := zG_in 716 (by decide +kernel) rfl
theorem zg_717 : Cond.code yX9_mixed cX9_mixed 4 (some .long) ∈ zG := zG_in 717 (by decide +kernel) rfl
theorem zg_718 : Cond.constantLong RX9 348 (Int64.ofInt (31)) ∈ zG := zG_in 718 (by decide +kernel) rfl
theorem zg_719 : Cond.methodLink RX9 296 yX9_fault ∈ zG := zG_in 719 (by decide +kernel) rfl
theorem zg_720 : Cond.methodLink RX9 299 yX9_withHouse ∈ zG := zG_in 720 (by decide +kernel) rfl
theorem zg_722 : Cond.instanceMethod yX9_withHouse ∈ zG := zG_in 722 (by decide +kernel) rfl
theorem zg_723 : Cond.code yX9_withHouse cX9_withHouse 7 (some .long) ∈ zG := zG_in 723 (by decide +kernel) rfl
theorem zg_724 : Cond.methodLink RX9 321 yX9_house ∈ zG := zG_in 724 (by decide +kernel) rfl
theorem zg_725 : Cond.methodLink RX9 324 yX9_ends ∈ zG := zG_in 725 (by decide +kernel) rfl
theorem zg_726 : Cond.methodLink RX9 312 yX9_queue ∈ zG := zG_in 726 (by decide +kernel) rfl
theorem zg_727 : Cond.methodLink RX9 327 yX9_owes ∈ zG := zG_in 727 (by decide +kernel) rfl
theorem zg_728 : Cond.methodLink RX9 303 yX9_judged ∈ zG := zG_in 728 (by decide +kernel) rfl
theorem zg_729 : Cond.methodLink RX9 306 yX9_withWeek ∈ zG := zG_in 729 (by decide +kernel) rfl
theorem zg_731 : Cond.instanceMethod yX9_withWeek ∈ zG := zG_in 731 (by decide +kernel) rfl
theorem zg_732 : Cond.code yX9_withWeek cX9_withWeek 6 (some .long) ∈ zG := zG_in 732 (by decide +kernel) rfl
theorem zg_733 : Cond.methodLink RX9 330 yX9_foot ∈ zG := zG_in 733 (by decide +kernel) rfl
theorem zg_734 : Cond.methodLink RX9 333 yX9_needs ∈ zG := zG_in 734 (by decide +kernel) rfl
theorem zg_735 : Cond.methodLink RX9 336 yX9_fewest ∈ zG := zG_in 735 (by decide +kernel) rfl
theorem zg_736 : Cond.methodLink RX9 339 yX9_met ∈ zG := zG_in 736 (by decide +kernel) rfl
theorem zg_737 : Cond.methodLink RX9 342 yX9_dry ∈ zG := zG_in 737 (by decide +kernel) rfl
theorem zg_738 : Cond.methodLink RX9 345 yX9_lost ∈ zG := zG_in 738 (by decide +kernel) rfl
theorem zg_739 : Cond.methodLink RX9 309 yX9_turn ∈ zG := zG_in 739 (by decide +kernel) rfl
theorem zg_740 : Cond.methodLink RX9 315 yX9_broken ∈ zG := zG_in 740 (by decide +kernel) rfl
theorem zg_741 : Cond.methodLink RX9 318 yX9_sold ∈ zG := zG_in 741 (by decide +kernel) rfl
theorem zg_748 : Cond.fieldLink RX10 7 (TX10 0).1 (TX10 0).2.1 (TX10 0).2.2.1 ∈ zG := zG_in 748 (by decide +kernel) rfl
theorem zg_749 : Cond.fieldLink RX10 13 (TX10 1).1 (TX10 1).2.1 (TX10 1).2.2.1 ∈ zG := zG_in 749 (by decide +kernel) rfl
theorem zg_750 : Cond.fieldLink RX10 16 (TX10 2).1 (TX10 2).2.1 (TX10 2).2.2.1 ∈ zG := zG_in 750 (by decide +kernel) rfl
theorem zg_751 : Cond.fieldLink RX10 19 (TX10 3).1 (TX10 3).2.1 (TX10 3).2.2.1 ∈ zG := zG_in 751 (by decide +kernel) rfl
theorem zg_752 : Cond.fieldLink RX10 111 (TX10 4).1 (TX10 4).2.1 (TX10 4).2.2.1 ∈ zG := zG_in 752 (by decide +kernel) rfl
theorem zg_753 : Cond.fieldLink RX10 22 (TX10 5).1 (TX10 5).2.1 (TX10 5).2.2.1 ∈ zG := zG_in 753 (by decide +kernel) rfl
theorem zg_754 : Cond.fieldLink RX10 25 (TX10 6).1 (TX10 6).2.1 (TX10 6).2.2.1 ∈ zG := zG_in 754 (by decide +kernel) rfl
theorem zg_755 : Cond.fieldLink RX10 28 (TX10 7).1 (TX10 7).2.1 (TX10 7).2.2.1 ∈ zG := zG_in 755 (by decide +kernel) rfl
theorem zg_756 : Cond.fieldLink RX10 122 (TX10 8).1 (TX10 8).2.1 (TX10 8).2.2.1 ∈ zG := zG_in 756 (by decide +kernel) rfl
theorem zg_757 : Cond.fieldLink RX10 31 (TX10 9).1 (TX10 9).2.1 (TX10 9).2.2.1 ∈ zG := zG_in 757 (by decide +kernel) rfl
theorem zg_758 : Cond.fieldLink RX10 34 (TX10 10).1 (TX10 10).2.1 (TX10 10).2.2.1 ∈ zG := zG_in 758 (by decide +kernel) rfl
theorem zg_759 : Cond.fieldLink RX10 37 (TX10 11).1 (TX10 11).2.1 (TX10 11).2.2.1 ∈ zG := zG_in 759 (by decide +kernel) rfl
theorem zg_760 : Cond.fieldLink RX10 40 (TX10 12).1 (TX10 12).2.1 (TX10 12).2.2.1 ∈ zG := zG_in 760 (by decide +kernel) rfl
theorem zg_761 : Cond.fieldLink RX10 146 (TX10 13).1 (TX10 13).2.1 (TX10 13).2.2.1 ∈ zG := zG_in 761 (by decide +kernel) rfl
theorem zg_762 : Cond.fieldLink RX10 149 (TX10 14).1 (TX10 14).2.1 (TX10 14).2.2.1 ∈ zG := zG_in 762 (by decide +kernel) rfl
theorem zg_763 : Cond.fieldLink RX10 43 (TX10 15).1 (TX10 15).2.1 (TX10 15).2.2.1 ∈ zG := zG_in 763 (by decide +kernel) rfl
theorem zg_764 : Cond.fieldLink RX10 46 (TX10 16).1 (TX10 16).2.1 (TX10 16).2.2.1 ∈ zG := zG_in 764 (by decide +kernel) rfl
theorem zg_765 : Cond.fieldLink RX10 49 (TX10 17).1 (TX10 17).2.1 (TX10 17).2.2.1 ∈ zG := zG_in 765 (by decide +kernel) rfl
theorem zg_766 : Cond.fieldLink RX10 192 (TX10 18).1 (TX10 18).2.1 (TX10 18).2.2.1 ∈ zG := zG_in 766 (by decide +kernel) rfl
theorem zg_767 : Cond.fieldLink RX10 52 (TX10 19).1 (TX10 19).2.1 (TX10 19).2.2.1 ∈ zG := zG_in 767 (by decide +kernel) rfl
theorem zg_768 : Cond.fieldLink RX10 55 (TX10 20).1 (TX10 20).2.1 (TX10 20).2.2.1 ∈ zG := zG_in 768 (by decide +kernel) rfl
theorem zg_769 : Cond.fieldLink RX10 208 (TX10 21).1 (TX10 21).2.1 (TX10 21).2.2.1 ∈ zG := zG_in 769 (by decide +kernel) rfl
theorem zg_770 : Cond.fieldLink RX10 58 (TX10 22).1 (TX10 22).2.1 (TX10 22).2.2.1 ∈ zG := zG_in 770 (by decide +kernel) rfl
theorem zg_771 : Cond.fieldLink RX10 225 (TX10 23).1 (TX10 23).2.1 (TX10 23).2.2.1 ∈ zG := zG_in 771 (by decide +kernel) rfl
theorem zg_772 : Cond.fieldLink RX10 61 (TX10 24).1 (TX10 24).2.1 (TX10 24).2.2.1 ∈ zG := zG_in 772 (by decide +kernel) rfl
theorem zg_773 : Cond.fieldLink RX10 64 (TX10 25).1 (TX10 25).2.1 (TX10 25).2.2.1 ∈ zG := zG_in 773 (by decide +kernel) rfl
theorem zg_774 : Cond.fieldLink RX10 67 (TX10 26).1 (TX10 26).2.1 (TX10 26).2.2.1 ∈ zG := zG_in 774 (by decide +kernel) rfl
theorem zg_775 : Cond.fieldLink RX10 71 (TX10 27).1 (TX10 27).2.1 (TX10 27).2.2.1 ∈ zG := zG_in 775 (by decide +kernel) rfl
theorem zg_776 : Cond.fieldLink RX10 75 (TX10 28).1 (TX10 28).2.1 (TX10 28).2.2.1 ∈ zG := zG_in 776 (by decide +kernel) rfl
theorem zg_777 : Cond.fieldLink RX10 78 (TX10 29).1 (TX10 29).2.1 (TX10 29).2.2.1 ∈ zG := zG_in 777 (by decide +kernel) rfl
theorem zg_778 : Cond.fieldLink RX10 81 (TX10 30).1 (TX10 30).2.1 (TX10 30).2.2.1 ∈ zG := zG_in 778 (by decide +kernel) rfl
theorem zg_779 : Cond.fieldLink RX10 84 (TX10 31).1 (TX10 31).2.1 (TX10 31).2.2.1 ∈ zG := zG_in 779 (by decide +kernel) rfl
theorem zg_780 : Cond.fieldLink RX10 242 (TX10 32).1 (TX10 32).2.1 (TX10 32).2.2.1 ∈ zG := zG_in 780 (by decide +kernel) rfl
theorem zg_853 : Cond.methodLink RX10 93 yX10_isWeek ∈ zG := zG_in 853 (by decide +kernel) rfl
theorem zg_854 : Cond.static yX10_isWeek ∈ zG := zG_in 854 (by decide +kernel) rfl
theorem zg_855 : Cond.code yX10_isWeek cX10_isWeek 1 (some .boolean) ∈ zG := zG_in 855 (by decide +kernel) rfl
theorem zg_856 : Cond.methodLink RX10 89 yX10_in ∈ zG := zG_in 856 (by decide +kernel) rfl
theorem zg_857 : Cond.static yX10_in ∈ zG := zG_in 857 (by decide +kernel) rfl
theorem zg_858 : Cond.code yX10_in cX10_in 3 (some .boolean) ∈ zG := zG_in 858 (by decide +kernel) rfl
theorem zg_863 : Cond.methodLink RX10 97 yX10_isSheet ∈ zG := zG_in 863 (by decide +kernel) rfl
theorem zg_864 : Cond.static yX10_isSheet ∈ zG := zG_in 864 (by decide +kernel) rfl
theorem zg_865 : Cond.code yX10_isSheet cX10_isSheet 1 (some .boolean) ∈ zG := zG_in 865 (by decide +kernel) rfl
theorem zg_866 : Cond.methodLink RX10 100 yX10_meets ∈ zG := zG_in 866 (by decide +kernel) rfl
theorem zg_868 : Cond.instanceMethod yX10_meets ∈ zG := zG_in 868 (by decide +kernel) rfl
theorem zg_869 : Cond.code yX10_meets cX10_meets 2 (some .int) ∈ zG := zG_in 869 (by decide +kernel) rfl
theorem zg_878 : Cond.methodLink RX10 104 yX10_footOf ∈ zG := zG_in 878 (by decide +kernel) rfl
theorem zg_880 : Cond.instanceMethod yX10_footOf ∈ zG := zG_in 880 (by decide +kernel) rfl
theorem zg_881 : Cond.code yX10_footOf cX10_footOf 4 (some .int) ∈ zG := zG_in 881 (by decide +kernel) rfl
theorem zg_894 : Cond.methodLink RX10 128 yX10_faultOf ∈ zG := zG_in 894 (by decide +kernel) rfl
theorem zg_896 : Cond.instanceMethod yX10_faultOf ∈ zG := zG_in 896 (by decide +kernel) rfl
theorem zg_897 : Cond.code yX10_faultOf cX10_faultOf 2 (some .int) ∈ zG := zG_in 897 (by decide +kernel) rfl
theorem zg_898 : Cond.methodLink RX10 118 yX10_townFault ∈ zG := zG_in 898 (by decide +kernel) rfl
theorem zg_900 : Cond.instanceMethod yX10_townFault ∈ zG := zG_in 900 (by decide +kernel) rfl
theorem zg_901 : Cond.code yX10_townFault cX10_townFault 5 (some .int) ∈ zG := zG_in 901 (by decide +kernel) rfl
theorem zg_902 : Cond.methodLink RX10 107 yX10_byteAt ∈ zG := zG_in 902 (by decide +kernel) rfl
theorem zg_904 : Cond.instanceMethod yX10_byteAt ∈ zG := zG_in 904 (by decide +kernel) rfl
theorem zg_905 : Cond.code yX10_byteAt cX10_byteAt 3 (some .int) ∈ zG := zG_in 905 (by decide +kernel) rfl
theorem zg_906 : Cond.methodLink RX10 115 yX10_figureAt ∈ zG := zG_in 906 (by decide +kernel) rfl
theorem zg_908 : Cond.instanceMethod yX10_figureAt ∈ zG := zG_in 908 (by decide +kernel) rfl
theorem zg_909 : Cond.code yX10_figureAt cX10_figureAt 4 (some .int) ∈ zG := zG_in 909 (by decide +kernel) rfl
theorem zg_910 : Cond.methodLink RX10 125 yX10_movesFault ∈ zG := zG_in 910 (by decide +kernel) rfl
theorem zg_912 : Cond.instanceMethod yX10_movesFault ∈ zG := zG_in 912 (by decide +kernel) rfl
theorem zg_913 : Cond.code yX10_movesFault cX10_movesFault 6 (some .int) ∈ zG := zG_in 913 (by decide +kernel) rfl
theorem zg_918 : Cond.methodLink RX10 134 yX10_isHouse ∈ zG := zG_in 918 (by decide +kernel) rfl
theorem zg_920 : Cond.instanceMethod yX10_isHouse ∈ zG := zG_in 920 (by decide +kernel) rfl
theorem zg_921 : Cond.code yX10_isHouse cX10_isHouse 2 (some .boolean) ∈ zG := zG_in 921 (by decide +kernel) rfl
theorem zg_922 : Cond.methodLink RX10 131 yX10_housesNow ∈ zG := zG_in 922 (by decide +kernel) rfl
theorem zg_924 : Cond.instanceMethod yX10_housesNow ∈ zG := zG_in 924 (by decide +kernel) rfl
theorem zg_925 : Cond.code yX10_housesNow cX10_housesNow 2 (some .int) ∈ zG := zG_in 925 (by decide +kernel) rfl
theorem zg_926 : Cond.methodLink RX10 137 yX10_houseOf ∈ zG := zG_in 926 (by decide +kernel) rfl
theorem zg_928 : Cond.instanceMethod yX10_houseOf ∈ zG := zG_in 928 (by decide +kernel) rfl
theorem zg_929 : Cond.code yX10_houseOf cX10_houseOf 3 (some .int) ∈ zG := zG_in 929 (by decide +kernel) rfl
theorem zg_934 : Cond.methodLink RX10 140 yX10_handsOf ∈ zG := zG_in 934 (by decide +kernel) rfl
theorem zg_936 : Cond.instanceMethod yX10_handsOf ∈ zG := zG_in 936 (by decide +kernel) rfl
theorem zg_937 : Cond.code yX10_handsOf cX10_handsOf 3 (some .int) ∈ zG := zG_in 937 (by decide +kernel) rfl
theorem zg_942 : Cond.methodLink RX10 158 yX10_judgedOf ∈ zG := zG_in 942 (by decide +kernel) rfl
theorem zg_944 : Cond.instanceMethod yX10_judgedOf ∈ zG := zG_in 944 (by decide +kernel) rfl
theorem zg_945 : Cond.code yX10_judgedOf cX10_judgedOf 2 (some .int) ∈ zG := zG_in 945 (by decide +kernel) rfl
theorem zg_946 : Cond.methodLink RX10 155 yX10_judges ∈ zG := zG_in 946 (by decide +kernel) rfl
theorem zg_948 : Cond.instanceMethod yX10_judges ∈ zG := zG_in 948 (by decide +kernel) rfl
theorem zg_949 : Cond.code yX10_judges cX10_judges 9 (none) ∈ zG := zG_in 949 (by decide +kernel) rfl
theorem zg_950 : Cond.methodLink RX10 143 yX10_begins ∈ zG := zG_in 950 (by decide +kernel) rfl
theorem zg_952 : Cond.instanceMethod yX10_begins ∈ zG := zG_in 952 (by decide +kernel) rfl
theorem zg_953 : Cond.code yX10_begins cX10_begins 2 (none) ∈ zG := zG_in 953 (by decide +kernel) rfl
theorem zg_954 : Cond.methodLink RX10 152 yX10_goes ∈ zG := zG_in 954 (by decide +kernel) rfl
theorem zg_956 : Cond.instanceMethod yX10_goes ∈ zG := zG_in 956 (by decide +kernel) rfl
theorem zg_957 : Cond.code yX10_goes cX10_goes 4 (some .boolean) ∈ zG := zG_in 957 (by decide +kernel) rfl
theorem zg_962 : Cond.methodLink RX10 161 yX10_endsOf ∈ zG := zG_in 962 (by decide +kernel) rfl
theorem zg_964 : Cond.instanceMethod yX10_endsOf ∈ zG := zG_in 964 (by decide +kernel) rfl
theorem zg_965 : Cond.code yX10_endsOf cX10_endsOf 2 (some .int) ∈ zG := zG_in 965 (by decide +kernel) rfl
theorem zg_970 : Cond.methodLink RX10 171 yX10_queueOf ∈ zG := zG_in 970 (by decide +kernel) rfl
theorem zg_972 : Cond.instanceMethod yX10_queueOf ∈ zG := zG_in 972 (by decide +kernel) rfl
theorem zg_973 : Cond.code yX10_queueOf cX10_queueOf 3 (some .int) ∈ zG := zG_in 973 (by decide +kernel) rfl
theorem zg_974 : Cond.methodLink RX10 167 yX10_queues ∈ zG := zG_in 974 (by decide +kernel) rfl
theorem zg_976 : Cond.instanceMethod yX10_queues ∈ zG := zG_in 976 (by decide +kernel) rfl
theorem zg_977 : Cond.code yX10_queues cX10_queues 5 (none) ∈ zG := zG_in 977 (by decide +kernel) rfl
theorem zg_978 : Cond.methodLink RX10 164 yX10_nextOne ∈ zG := zG_in 978 (by decide +kernel) rfl
theorem zg_980 : Cond.instanceMethod yX10_nextOne ∈ zG := zG_in 980 (by decide +kernel) rfl
theorem zg_981 : Cond.code yX10_nextOne cX10_nextOne 3 (some .int) ∈ zG := zG_in 981 (by decide +kernel) rfl
theorem zg_986 : Cond.methodLink RX10 177 yX10_needsOf ∈ zG := zG_in 986 (by decide +kernel) rfl
theorem zg_988 : Cond.instanceMethod yX10_needsOf ∈ zG := zG_in 988 (by decide +kernel) rfl
theorem zg_989 : Cond.code yX10_needsOf cX10_needsOf 3 (some .int) ∈ zG := zG_in 989 (by decide +kernel) rfl
theorem zg_990 : Cond.methodLink RX10 174 yX10_needsBy ∈ zG := zG_in 990 (by decide +kernel) rfl
theorem zg_992 : Cond.instanceMethod yX10_needsBy ∈ zG := zG_in 992 (by decide +kernel) rfl
theorem zg_993 : Cond.code yX10_needsBy cX10_needsBy 5 (some .int) ∈ zG := zG_in 993 (by decide +kernel) rfl
theorem zg_998 : Cond.methodLink RX10 186 yX10_fewestOf ∈ zG := zG_in 998 (by decide +kernel) rfl
theorem zg_1000 : Cond.instanceMethod yX10_fewestOf ∈ zG := zG_in 1000 (by decide +kernel) rfl
theorem zg_1001 : Cond.code yX10_fewestOf cX10_fewestOf 3 (some .int) ∈ zG := zG_in 1001 (by decide +kernel) rfl
theorem zg_1002 : Cond.methodLink RX10 183 yX10_fewestBy ∈ zG := zG_in 1002 (by decide +kernel) rfl
theorem zg_1004 : Cond.instanceMethod yX10_fewestBy ∈ zG := zG_in 1004 (by decide +kernel) rfl
theorem zg_1005 : Cond.code yX10_fewestBy cX10_fewestBy 4 (some .int) ∈ zG := zG_in 1005 (by decide +kernel) rfl
theorem zg_1006 : Cond.methodLink RX10 180 yX10_areEnough ∈ zG := zG_in 1006 (by decide +kernel) rfl
theorem zg_1008 : Cond.instanceMethod yX10_areEnough ∈ zG := zG_in 1008 (by decide +kernel) rfl
theorem zg_1009 : Cond.code yX10_areEnough cX10_areEnough 7 (some .boolean) ∈ zG := zG_in 1009 (by decide +kernel) rfl
theorem zg_1014 : Cond.methodLink RX10 189 yX10_turnOf ∈ zG := zG_in 1014 (by decide +kernel) rfl
theorem zg_1016 : Cond.instanceMethod yX10_turnOf ∈ zG := zG_in 1016 (by decide +kernel) rfl
theorem zg_1017 : Cond.code yX10_turnOf cX10_turnOf 4 (some .int) ∈ zG := zG_in 1017 (by decide +kernel) rfl
theorem zg_1026 : Cond.methodLink RX10 201 yX10_brokenOf ∈ zG := zG_in 1026 (by decide +kernel) rfl
theorem zg_1028 : Cond.instanceMethod yX10_brokenOf ∈ zG := zG_in 1028 (by decide +kernel) rfl
theorem zg_1029 : Cond.code yX10_brokenOf cX10_brokenOf 7 (some .int) ∈ zG := zG_in 1029 (by decide +kernel) rfl
theorem zg_1030 : Cond.methodLink RX10 198 yX10_brokenNow ∈ zG := zG_in 1030 (by decide +kernel) rfl
theorem zg_1032 : Cond.instanceMethod yX10_brokenNow ∈ zG := zG_in 1032 (by decide +kernel) rfl
theorem zg_1033 : Cond.code yX10_brokenNow cX10_brokenNow 7 (some .int) ∈ zG := zG_in 1033 (by decide +kernel) rfl
theorem zg_1034 : Cond.methodLink RX10 195 yX10_amount ∈ zG := zG_in 1034 (by decide +kernel) rfl
theorem zg_1035 : Cond.static yX10_amount ∈ zG := zG_in 1035 (by decide +kernel) rfl
theorem zg_1036 : Cond.code yX10_amount cX10_amount 1 (some .int) ∈ zG := zG_in 1036 (by decide +kernel) rfl
theorem zg_1041 : Cond.methodLink RX10 204 yX10_isPlot ∈ zG := zG_in 1041 (by decide +kernel) rfl
theorem zg_1042 : Cond.static yX10_isPlot ∈ zG := zG_in 1042 (by decide +kernel) rfl
theorem zg_1043 : Cond.code yX10_isPlot cX10_isPlot 2 (some .boolean) ∈ zG := zG_in 1043 (by decide +kernel) rfl
theorem zg_1048 : Cond.methodLink RX10 211 yX10_metOf ∈ zG := zG_in 1048 (by decide +kernel) rfl
theorem zg_1050 : Cond.instanceMethod yX10_metOf ∈ zG := zG_in 1050 (by decide +kernel) rfl
theorem zg_1051 : Cond.code yX10_metOf cX10_metOf 6 (some .int) ∈ zG := zG_in 1051 (by decide +kernel) rfl
theorem zg_1056 : Cond.methodLink RX10 214 yX10_dryOf ∈ zG := zG_in 1056 (by decide +kernel) rfl
theorem zg_1058 : Cond.instanceMethod yX10_dryOf ∈ zG := zG_in 1058 (by decide +kernel) rfl
theorem zg_1059 : Cond.code yX10_dryOf cX10_dryOf 6 (some .int) ∈ zG := zG_in 1059 (by decide +kernel) rfl
theorem zg_1064 : Cond.methodLink RX10 221 yX10_soldOf ∈ zG := zG_in 1064 (by decide +kernel) rfl
theorem zg_1066 : Cond.instanceMethod yX10_soldOf ∈ zG := zG_in 1066 (by decide +kernel) rfl
theorem zg_1067 : Cond.code yX10_soldOf cX10_soldOf 6 (some .int) ∈ zG := zG_in 1067 (by decide +kernel) rfl
theorem zg_1068 : Cond.methodLink RX10 217 yX10_changes ∈ zG := zG_in 1068 (by decide +kernel) rfl
theorem zg_1070 : Cond.instanceMethod yX10_changes ∈ zG := zG_in 1070 (by decide +kernel) rfl
theorem zg_1071 : Cond.code yX10_changes cX10_changes 5 (none) ∈ zG := zG_in 1071 (by decide +kernel) rfl
theorem zg_1080 : Cond.methodLink RX10 228 yX10_owesOf ∈ zG := zG_in 1080 (by decide +kernel) rfl
theorem zg_1082 : Cond.instanceMethod yX10_owesOf ∈ zG := zG_in 1082 (by decide +kernel) rfl
theorem zg_1083 : Cond.code yX10_owesOf cX10_owesOf 6 (some .int) ∈ zG := zG_in 1083 (by decide +kernel) rfl
theorem zg_1088 : Cond.methodLink RX10 231 yX10_lostOf ∈ zG := zG_in 1088 (by decide +kernel) rfl
theorem zg_1090 : Cond.instanceMethod yX10_lostOf ∈ zG := zG_in 1090 (by decide +kernel) rfl
theorem zg_1091 : Cond.code yX10_lostOf cX10_lostOf 4 (some .int) ∈ zG := zG_in 1091 (by decide +kernel) rfl
theorem zg_1100 : Cond.methodLink RX10 234 yX10_no ∈ zG := zG_in 1100 (by decide +kernel) rfl
theorem zg_1101 : Cond.static yX10_no ∈ zG := zG_in 1101 (by decide +kernel) rfl
theorem zg_1102 : Cond.code yX10_no cX10_no 1 (some .long) ∈ zG := zG_in 1102 (by decide +kernel) rfl
theorem zg_1103 : Cond.constantLong RX10 87 (Int64.ofInt (-9223372036854775808)) ∈ zG := zG_in 1103 (by decide +kernel) rfl
theorem zg_1104 : Cond.methodLink RX10 238 yX10_lowest ∈ zG := zG_in 1104 (by decide +kernel) rfl
theorem zg_1105 : Cond.static yX10_lowest ∈ zG := zG_in 1105 (by decide +kernel) rfl
theorem zg_1106 : Cond.code yX10_lowest cX10_lowest 11 (some .long) ∈ zG := zG_in 1106 (by decide +kernel) rfl
theorem zg_1123 : Cond.methodLink RX10 245 yX10_lacks ∈ zG := zG_in 1123 (by decide +kernel) rfl
theorem zg_1125 : Cond.instanceMethod yX10_lacks ∈ zG := zG_in 1125 (by decide +kernel) rfl
theorem zg_1126 : Cond.code yX10_lacks cX10_lacks 4 (some .int) ∈ zG := zG_in 1126 (by decide +kernel) rfl
theorem zg_1127 : Cond.methodLink RX10 248 yX10_keep ∈ zG := zG_in 1127 (by decide +kernel) rfl
theorem zg_1129 : Cond.instanceMethod yX10_keep ∈ zG := zG_in 1129 (by decide +kernel) rfl
theorem zg_1130 : Cond.code yX10_keep cX10_keep 4 (none) ∈ zG := zG_in 1130 (by decide +kernel) rfl
theorem zg_1135 : Cond.constant RX10 252 (Int32.ofInt (-2147483648)) ∈ zG := zG_in 1135 (by decide +kernel) rfl
theorem zg_1145 : Cond.instanceMethod yX10_count ∈ zG := zG_in 1145 (by decide +kernel) rfl
theorem zg_1146 : Cond.selects RX10 yX10_count yX10_count ∈ zG := zG_in 1146 (by decide +kernel) rfl
theorem zg_1147 : Cond.code yX10_count cX10_count 2 (some .int) ∈ zG := zG_in 1147 (by decide +kernel) rfl
theorem zg_1148 : Cond.methodLink RX10 253 yX10_movesNow ∈ zG := zG_in 1148 (by decide +kernel) rfl
theorem zg_1150 : Cond.instanceMethod yX10_movesNow ∈ zG := zG_in 1150 (by decide +kernel) rfl
theorem zg_1151 : Cond.code yX10_movesNow cX10_movesNow 2 (some .int) ∈ zG := zG_in 1151 (by decide +kernel) rfl
theorem zg_1156 : Cond.constantLong RX10 256 (Int64.ofInt (17)) ∈ zG := zG_in 1156 (by decide +kernel) rfl
theorem zg_1157 : Cond.constantLong RX10 258 (Int64.ofInt (31)) ∈ zG := zG_in 1157 (by decide +kernel) rfl
theorem zg_1158 : Cond.methodLink RX10 260 yX10_count ∈ zG := zG_in 1158 (by decide +kernel) rfl
/-! ===== what calls need (by program) ===== -/
theorem zw_X10_broken__X10_brokenOf : zCw mX10_broken mX10_brokenOf 2 := ⟨zg_1029, zg_63, ⟨by decide, by decide, by decide +kernel⟩, by decide, by decide⟩
theorem zw_X10_broken__X10_in : zCw mX10_broken mX10_in 3 := ⟨zg_858, zg_63, ⟨by decide, by decide, by decide +kernel⟩, by decide, by decide⟩
theorem zw_X10_brokenNow__X10_amount : zCw mX10_brokenNow mX10_amount 1 := ⟨zg_1036, zg_63, ⟨by decide, by decide, by decide +kernel⟩, by decide, by decide⟩
theorem zw_X10_brokenOf__X10_brokenNow : zCw mX10_brokenOf mX10_brokenNow 0 := ⟨zg_1033, zg_63, ⟨by decide, by decide, by decide +kernel⟩, by decide, by decide⟩
theorem zw_X10_brokenOf__X10_queues : zCw mX10_brokenOf mX10_queues 1 := ⟨zg_977, zg_63, ⟨by decide, by decide, by decide +kernel⟩, by decide, by decide⟩
theorem zw_X10_church__X10_in : zCw mX10_church mX10_in 3 := ⟨zg_858, zg_63, ⟨by decide, by decide, by decide +kernel⟩, by decide, by decide⟩
theorem zw_X10_church__X10_isWeek : zCw mX10_church mX10_isWeek 1 := ⟨zg_855, zg_63, ⟨by decide, by decide, by decide +kernel⟩, by decide, by decide⟩
theorem zw_X10_copy__X10_isSheet : zCw mX10_copy mX10_isSheet 1 := ⟨zg_865, zg_63, ⟨by decide, by decide, by decide +kernel⟩, by decide, by decide⟩
theorem zw_X10_copy__X10_meets : zCw mX10_copy mX10_meets 1 := ⟨zg_869, zg_63, ⟨by decide, by decide, by decide +kernel⟩, by decide, by decide⟩
theorem zw_X10_count__X10_housesNow : zCw mX10_count mX10_housesNow 0 := ⟨zg_925, zg_63, ⟨by decide, by decide, by decide +kernel⟩, by decide, by decide⟩
theorem zw_X10_count__X10_movesNow : zCw mX10_count mX10_movesNow 0 := ⟨zg_1151, zg_63, ⟨by decide, by decide, by decide +kernel⟩, by decide, by decide⟩
theorem zw_X10_debt__X10_in : zCw mX10_debt mX10_in 3 := ⟨zg_858, zg_63, ⟨by decide, by decide, by decide +kernel⟩, by decide, by decide⟩
theorem zw_X10_debt__X10_isPlot : zCw mX10_debt mX10_isPlot 2 := ⟨zg_1043, zg_63, ⟨by decide, by decide, by decide +kernel⟩, by decide, by decide⟩
theorem zw_X10_digest__X10_brokenOf : zCw mX10_digest mX10_brokenOf 2 := ⟨zg_1029, zg_63, ⟨by decide, by decide, by decide +kernel⟩, by decide, by decide⟩
theorem zw_X10_digest__X10_count : zCw mX10_digest mX10_count 1 := ⟨zg_1147, zg_63, ⟨by decide, by decide, by decide +kernel⟩, by decide, by decide⟩
theorem zw_X10_digest__X10_dryOf : zCw mX10_digest mX10_dryOf 1 := ⟨zg_1059, zg_63, ⟨by decide, by decide, by decide +kernel⟩, by decide, by decide⟩
theorem zw_X10_digest__X10_endsOf : zCw mX10_digest mX10_endsOf 1 := ⟨zg_965, zg_63, ⟨by decide, by decide, by decide +kernel⟩, by decide, by decide⟩
theorem zw_X10_digest__X10_faultOf : zCw mX10_digest mX10_faultOf 1 := ⟨zg_897, zg_63, ⟨by decide, by decide, by decide +kernel⟩, by decide, by decide⟩
theorem zw_X10_digest__X10_fewestOf : zCw mX10_digest mX10_fewestOf 1 := ⟨zg_1001, zg_63, ⟨by decide, by decide, by decide +kernel⟩, by decide, by decide⟩
theorem zw_X10_digest__X10_footOf : zCw mX10_digest mX10_footOf 1 := ⟨zg_881, zg_63, ⟨by decide, by decide, by decide +kernel⟩, by decide, by decide⟩
theorem zw_X10_digest__X10_houseOf : zCw mX10_digest mX10_houseOf 2 := ⟨zg_929, zg_63, ⟨by decide, by decide, by decide +kernel⟩, by decide, by decide⟩
theorem zw_X10_digest__X10_judgedOf : zCw mX10_digest mX10_judgedOf 1 := ⟨zg_945, zg_63, ⟨by decide, by decide, by decide +kernel⟩, by decide, by decide⟩
theorem zw_X10_digest__X10_lostOf : zCw mX10_digest mX10_lostOf 1 := ⟨zg_1091, zg_63, ⟨by decide, by decide, by decide +kernel⟩, by decide, by decide⟩
theorem zw_X10_digest__X10_metOf : zCw mX10_digest mX10_metOf 1 := ⟨zg_1051, zg_63, ⟨by decide, by decide, by decide +kernel⟩, by decide, by decide⟩
theorem zw_X10_digest__X10_needsOf : zCw mX10_digest mX10_needsOf 1 := ⟨zg_989, zg_63, ⟨by decide, by decide, by decide +kernel⟩, by decide, by decide⟩
theorem zw_X10_digest__X10_owesOf : zCw mX10_digest mX10_owesOf 2 := ⟨zg_1083, zg_63, ⟨by decide, by decide, by decide +kernel⟩, by decide, by decide⟩
theorem zw_X10_digest__X10_queueOf : zCw mX10_digest mX10_queueOf 2 := ⟨zg_973, zg_63, ⟨by decide, by decide, by decide +kernel⟩, by decide, by decide⟩
theorem zw_X10_digest__X10_soldOf : zCw mX10_digest mX10_soldOf 3 := ⟨zg_1067, zg_63, ⟨by decide, by decide, by decide +kernel⟩, by decide, by decide⟩
theorem zw_X10_digest__X10_turnOf : zCw mX10_digest mX10_turnOf 2 := ⟨zg_1017, zg_63, ⟨by decide, by decide, by decide +kernel⟩, by decide, by decide⟩
theorem zw_X10_dry__X10_dryOf : zCw mX10_dry mX10_dryOf 1 := ⟨zg_1059, zg_63, ⟨by decide, by decide, by decide +kernel⟩, by decide, by decide⟩
theorem zw_X10_dry__X10_isWeek : zCw mX10_dry mX10_isWeek 1 := ⟨zg_855, zg_63, ⟨by decide, by decide, by decide +kernel⟩, by decide, by decide⟩
theorem zw_X10_dryOf__X10_metOf : zCw mX10_dryOf mX10_metOf 1 := ⟨zg_1051, zg_63, ⟨by decide, by decide, by decide +kernel⟩, by decide, by decide⟩
theorem zw_X10_ends__X10_endsOf : zCw mX10_ends mX10_endsOf 1 := ⟨zg_965, zg_63, ⟨by decide, by decide, by decide +kernel⟩, by decide, by decide⟩
theorem zw_X10_ends__X10_isHouse : zCw mX10_ends mX10_isHouse 1 := ⟨zg_921, zg_63, ⟨by decide, by decide, by decide +kernel⟩, by decide, by decide⟩
theorem zw_X10_endsOf__X10_judges : zCw mX10_endsOf mX10_judges 0 := ⟨zg_949, zg_63, ⟨by decide, by decide, by decide +kernel⟩, by decide, by decide⟩
theorem zw_X10_fault__X10_faultOf : zCw mX10_fault mX10_faultOf 1 := ⟨zg_897, zg_63, ⟨by decide, by decide, by decide +kernel⟩, by decide, by decide⟩
theorem zw_X10_fault__X10_in : zCw mX10_fault mX10_in 3 := ⟨zg_858, zg_63, ⟨by decide, by decide, by decide +kernel⟩, by decide, by decide⟩
theorem zw_X10_faultOf__X10_movesFault : zCw mX10_faultOf mX10_movesFault 0 := ⟨zg_913, zg_63, ⟨by decide, by decide, by decide +kernel⟩, by decide, by decide⟩
theorem zw_X10_faultOf__X10_townFault : zCw mX10_faultOf mX10_townFault 0 := ⟨zg_901, zg_63, ⟨by decide, by decide, by decide +kernel⟩, by decide, by decide⟩
theorem zw_X10_fewest__X10_fewestOf : zCw mX10_fewest mX10_fewestOf 1 := ⟨zg_1001, zg_63, ⟨by decide, by decide, by decide +kernel⟩, by decide, by decide⟩
theorem zw_X10_fewest__X10_isWeek : zCw mX10_fewest mX10_isWeek 1 := ⟨zg_855, zg_63, ⟨by decide, by decide, by decide +kernel⟩, by decide, by decide⟩
theorem zw_X10_fewestBy__X10_areEnough : zCw mX10_fewestBy mX10_areEnough 3 := ⟨zg_1009, zg_63, ⟨by decide, by decide, by decide +kernel⟩, by decide, by decide⟩
theorem zw_X10_fewestBy__X10_footOf : zCw mX10_fewestBy mX10_footOf 1 := ⟨zg_881, zg_63, ⟨by decide, by decide, by decide +kernel⟩, by decide, by decide⟩
theorem zw_X10_fewestBy__X10_needsBy : zCw mX10_fewestBy mX10_needsBy 1 := ⟨zg_993, zg_63, ⟨by decide, by decide, by decide +kernel⟩, by decide, by decide⟩
theorem zw_X10_fewestOf__X10_fewestBy : zCw mX10_fewestOf mX10_fewestBy 1 := ⟨zg_1005, zg_63, ⟨by decide, by decide, by decide +kernel⟩, by decide, by decide⟩
theorem zw_X10_fewestOf__X10_townFault : zCw mX10_fewestOf mX10_townFault 0 := ⟨zg_901, zg_63, ⟨by decide, by decide, by decide +kernel⟩, by decide, by decide⟩
theorem zw_X10_figureAt__X10_byteAt : zCw mX10_figureAt mX10_byteAt 2 := ⟨zg_905, zg_63, ⟨by decide, by decide, by decide +kernel⟩, by decide, by decide⟩
theorem zw_X10_figureAt__X10_in : zCw mX10_figureAt mX10_in 3 := ⟨zg_858, zg_63, ⟨by decide, by decide, by decide +kernel⟩, by decide, by decide⟩
theorem zw_X10_foot__X10_footOf : zCw mX10_foot mX10_footOf 1 := ⟨zg_881, zg_63, ⟨by decide, by decide, by decide +kernel⟩, by decide, by decide⟩
theorem zw_X10_foot__X10_isWeek : zCw mX10_foot mX10_isWeek 1 := ⟨zg_855, zg_63, ⟨by decide, by decide, by decide +kernel⟩, by decide, by decide⟩
theorem zw_X10_get__X10_in : zCw mX10_get mX10_in 3 := ⟨zg_858, zg_63, ⟨by decide, by decide, by decide +kernel⟩, by decide, by decide⟩
theorem zw_X10_get__X10_isSheet : zCw mX10_get mX10_isSheet 1 := ⟨zg_865, zg_63, ⟨by decide, by decide, by decide +kernel⟩, by decide, by decide⟩
theorem zw_X10_get__X10_lacks : zCw mX10_get mX10_lacks 3 := ⟨zg_1126, zg_63, ⟨by decide, by decide, by decide +kernel⟩, by decide, by decide⟩
theorem zw_X10_house__X10_houseOf : zCw mX10_house mX10_houseOf 2 := ⟨zg_929, zg_63, ⟨by decide, by decide, by decide +kernel⟩, by decide, by decide⟩
theorem zw_X10_house__X10_in : zCw mX10_house mX10_in 3 := ⟨zg_858, zg_63, ⟨by decide, by decide, by decide +kernel⟩, by decide, by decide⟩
theorem zw_X10_house__X10_isHouse : zCw mX10_house mX10_isHouse 1 := ⟨zg_921, zg_63, ⟨by decide, by decide, by decide +kernel⟩, by decide, by decide⟩
theorem zw_X10_housesNow__X10_townFault : zCw mX10_housesNow mX10_townFault 0 := ⟨zg_901, zg_63, ⟨by decide, by decide, by decide +kernel⟩, by decide, by decide⟩
theorem zw_X10_isHouse__X10_housesNow : zCw mX10_isHouse mX10_housesNow 0 := ⟨zg_925, zg_63, ⟨by decide, by decide, by decide +kernel⟩, by decide, by decide⟩
theorem zw_X10_isHouse__X10_in : zCw mX10_isHouse mX10_in 3 := ⟨zg_858, zg_63, ⟨by decide, by decide, by decide +kernel⟩, by decide, by decide⟩
theorem zw_X10_isPlot__X10_in : zCw mX10_isPlot mX10_in 3 := ⟨zg_858, zg_63, ⟨by decide, by decide, by decide +kernel⟩, by decide, by decide⟩
theorem zw_X10_isSheet__X10_in : zCw mX10_isSheet mX10_in 3 := ⟨zg_858, zg_63, ⟨by decide, by decide, by decide +kernel⟩, by decide, by decide⟩
theorem zw_X10_isWeek__X10_in : zCw mX10_isWeek mX10_in 3 := ⟨zg_858, zg_63, ⟨by decide, by decide, by decide +kernel⟩, by decide, by decide⟩
theorem zw_X10_judged__X10_in : zCw mX10_judged mX10_in 3 := ⟨zg_858, zg_63, ⟨by decide, by decide, by decide +kernel⟩, by decide, by decide⟩
theorem zw_X10_judged__X10_judgedOf : zCw mX10_judged mX10_judgedOf 1 := ⟨zg_945, zg_63, ⟨by decide, by decide, by decide +kernel⟩, by decide, by decide⟩
theorem zw_X10_judgedOf__X10_judges : zCw mX10_judgedOf mX10_judges 0 := ⟨zg_949, zg_63, ⟨by decide, by decide, by decide +kernel⟩, by decide, by decide⟩
theorem zw_X10_judges__X10_begins : zCw mX10_judges mX10_begins 0 := ⟨zg_953, zg_63, ⟨by decide, by decide, by decide +kernel⟩, by decide, by decide⟩
theorem zw_X10_judges__X10_footOf : zCw mX10_judges mX10_footOf 1 := ⟨zg_881, zg_63, ⟨by decide, by decide, by decide +kernel⟩, by decide, by decide⟩
theorem zw_X10_judges__X10_goes : zCw mX10_judges mX10_goes 1 := ⟨zg_957, zg_63, ⟨by decide, by decide, by decide +kernel⟩, by decide, by decide⟩
theorem zw_X10_judges__X10_handsOf : zCw mX10_judges mX10_handsOf 2 := ⟨zg_937, zg_63, ⟨by decide, by decide, by decide +kernel⟩, by decide, by decide⟩
theorem zw_X10_judges__X10_movesFault : zCw mX10_judges mX10_movesFault 0 := ⟨zg_913, zg_63, ⟨by decide, by decide, by decide +kernel⟩, by decide, by decide⟩
theorem zw_X10_lacks__X10_in : zCw mX10_lacks mX10_in 3 := ⟨zg_858, zg_63, ⟨by decide, by decide, by decide +kernel⟩, by decide, by decide⟩
theorem zw_X10_likely__X10_in : zCw mX10_likely mX10_in 3 := ⟨zg_858, zg_63, ⟨by decide, by decide, by decide +kernel⟩, by decide, by decide⟩
theorem zw_X10_likely__X10_lowest : zCw mX10_likely mX10_lowest 3 := ⟨zg_1106, zg_63, ⟨by decide, by decide, by decide +kernel⟩, by decide, by decide⟩
theorem zw_X10_likely__X10_no : zCw mX10_likely mX10_no 1 := ⟨zg_1102, zg_63, ⟨by decide, by decide, by decide +kernel⟩, by decide, by decide⟩
theorem zw_X10_lose__X10_isSheet : zCw mX10_lose mX10_isSheet 1 := ⟨zg_865, zg_63, ⟨by decide, by decide, by decide +kernel⟩, by decide, by decide⟩
theorem zw_X10_lose__X10_meets : zCw mX10_lose mX10_meets 1 := ⟨zg_869, zg_63, ⟨by decide, by decide, by decide +kernel⟩, by decide, by decide⟩
theorem zw_X10_lost__X10_isWeek : zCw mX10_lost mX10_isWeek 1 := ⟨zg_855, zg_63, ⟨by decide, by decide, by decide +kernel⟩, by decide, by decide⟩
theorem zw_X10_lost__X10_lostOf : zCw mX10_lost mX10_lostOf 1 := ⟨zg_1091, zg_63, ⟨by decide, by decide, by decide +kernel⟩, by decide, by decide⟩
theorem zw_X10_lostOf__X10_footOf : zCw mX10_lostOf mX10_footOf 1 := ⟨zg_881, zg_63, ⟨by decide, by decide, by decide +kernel⟩, by decide, by decide⟩
theorem zw_X10_met__X10_isWeek : zCw mX10_met mX10_isWeek 1 := ⟨zg_855, zg_63, ⟨by decide, by decide, by decide +kernel⟩, by decide, by decide⟩
theorem zw_X10_met__X10_metOf : zCw mX10_met mX10_metOf 1 := ⟨zg_1051, zg_63, ⟨by decide, by decide, by decide +kernel⟩, by decide, by decide⟩
theorem zw_X10_metOf__X10_footOf : zCw mX10_metOf mX10_footOf 1 := ⟨zg_881, zg_63, ⟨by decide, by decide, by decide +kernel⟩, by decide, by decide⟩
theorem zw_X10_metOf__X10_needsOf : zCw mX10_metOf mX10_needsOf 1 := ⟨zg_989, zg_63, ⟨by decide, by decide, by decide +kernel⟩, by decide, by decide⟩
theorem zw_X10_movesFault__X10_byteAt : zCw mX10_movesFault mX10_byteAt 2 := ⟨zg_905, zg_63, ⟨by decide, by decide, by decide +kernel⟩, by decide, by decide⟩
theorem zw_X10_movesFault__X10_figureAt : zCw mX10_movesFault mX10_figureAt 2 := ⟨zg_909, zg_63, ⟨by decide, by decide, by decide +kernel⟩, by decide, by decide⟩
theorem zw_X10_movesFault__X10_in : zCw mX10_movesFault mX10_in 3 := ⟨zg_858, zg_63, ⟨by decide, by decide, by decide +kernel⟩, by decide, by decide⟩
theorem zw_X10_movesFault__X10_townFault : zCw mX10_movesFault mX10_townFault 0 := ⟨zg_901, zg_63, ⟨by decide, by decide, by decide +kernel⟩, by decide, by decide⟩
theorem zw_X10_movesNow__X10_movesFault : zCw mX10_movesNow mX10_movesFault 0 := ⟨zg_913, zg_63, ⟨by decide, by decide, by decide +kernel⟩, by decide, by decide⟩
theorem zw_X10_needs__X10_isWeek : zCw mX10_needs mX10_isWeek 1 := ⟨zg_855, zg_63, ⟨by decide, by decide, by decide +kernel⟩, by decide, by decide⟩
theorem zw_X10_needs__X10_needsOf : zCw mX10_needs mX10_needsOf 1 := ⟨zg_989, zg_63, ⟨by decide, by decide, by decide +kernel⟩, by decide, by decide⟩
theorem zw_X10_needsBy__X10_begins : zCw mX10_needsBy mX10_begins 0 := ⟨zg_953, zg_63, ⟨by decide, by decide, by decide +kernel⟩, by decide, by decide⟩
theorem zw_X10_needsBy__X10_goes : zCw mX10_needsBy mX10_goes 1 := ⟨zg_957, zg_63, ⟨by decide, by decide, by decide +kernel⟩, by decide, by decide⟩
theorem zw_X10_needsBy__X10_handsOf : zCw mX10_needsBy mX10_handsOf 2 := ⟨zg_937, zg_63, ⟨by decide, by decide, by decide +kernel⟩, by decide, by decide⟩
theorem zw_X10_needsBy__X10_nextOne : zCw mX10_needsBy mX10_nextOne 0 := ⟨zg_981, zg_63, ⟨by decide, by decide, by decide +kernel⟩, by decide, by decide⟩
theorem zw_X10_needsOf__X10_footOf : zCw mX10_needsOf mX10_footOf 1 := ⟨zg_881, zg_63, ⟨by decide, by decide, by decide +kernel⟩, by decide, by decide⟩
theorem zw_X10_needsOf__X10_needsBy : zCw mX10_needsOf mX10_needsBy 1 := ⟨zg_993, zg_63, ⟨by decide, by decide, by decide +kernel⟩, by decide, by decide⟩
theorem zw_X10_needsOf__X10_townFault : zCw mX10_needsOf mX10_townFault 0 := ⟨zg_901, zg_63, ⟨by decide, by decide, by decide +kernel⟩, by decide, by decide⟩
theorem zw_X10_owed__X10_in : zCw mX10_owed mX10_in 3 := ⟨zg_858, zg_63, ⟨by decide, by decide, by decide +kernel⟩, by decide, by decide⟩
theorem zw_X10_owes__X10_isHouse : zCw mX10_owes mX10_isHouse 1 := ⟨zg_921, zg_63, ⟨by decide, by decide, by decide +kernel⟩, by decide, by decide⟩
theorem zw_X10_owes__X10_isWeek : zCw mX10_owes mX10_isWeek 1 := ⟨zg_855, zg_63, ⟨by decide, by decide, by decide +kernel⟩, by decide, by decide⟩
theorem zw_X10_owes__X10_owesOf : zCw mX10_owes mX10_owesOf 2 := ⟨zg_1083, zg_63, ⟨by decide, by decide, by decide +kernel⟩, by decide, by decide⟩
theorem zw_X10_owesOf__X10_footOf : zCw mX10_owesOf mX10_footOf 1 := ⟨zg_881, zg_63, ⟨by decide, by decide, by decide +kernel⟩, by decide, by decide⟩
theorem zw_X10_owesOf__X10_needsOf : zCw mX10_owesOf mX10_needsOf 1 := ⟨zg_989, zg_63, ⟨by decide, by decide, by decide +kernel⟩, by decide, by decide⟩
theorem zw_X10_put__X10_in : zCw mX10_put mX10_in 3 := ⟨zg_858, zg_63, ⟨by decide, by decide, by decide +kernel⟩, by decide, by decide⟩
theorem zw_X10_put__X10_isSheet : zCw mX10_put mX10_isSheet 1 := ⟨zg_865, zg_63, ⟨by decide, by decide, by decide +kernel⟩, by decide, by decide⟩
theorem zw_X10_put__X10_keep : zCw mX10_put mX10_keep 3 := ⟨zg_1130, zg_63, ⟨by decide, by decide, by decide +kernel⟩, by decide, by decide⟩
theorem zw_X10_put__X10_lacks : zCw mX10_put mX10_lacks 3 := ⟨zg_1126, zg_63, ⟨by decide, by decide, by decide +kernel⟩, by decide, by decide⟩
theorem zw_X10_put__X10_meets : zCw mX10_put mX10_meets 1 := ⟨zg_869, zg_63, ⟨by decide, by decide, by decide +kernel⟩, by decide, by decide⟩
theorem zw_X10_queue__X10_in : zCw mX10_queue mX10_in 3 := ⟨zg_858, zg_63, ⟨by decide, by decide, by decide +kernel⟩, by decide, by decide⟩
theorem zw_X10_queue__X10_isHouse : zCw mX10_queue mX10_isHouse 1 := ⟨zg_921, zg_63, ⟨by decide, by decide, by decide +kernel⟩, by decide, by decide⟩
theorem zw_X10_queue__X10_queueOf : zCw mX10_queue mX10_queueOf 2 := ⟨zg_973, zg_63, ⟨by decide, by decide, by decide +kernel⟩, by decide, by decide⟩
theorem zw_X10_queueOf__X10_nextOne : zCw mX10_queueOf mX10_nextOne 0 := ⟨zg_981, zg_63, ⟨by decide, by decide, by decide +kernel⟩, by decide, by decide⟩
theorem zw_X10_queueOf__X10_queues : zCw mX10_queueOf mX10_queues 1 := ⟨zg_977, zg_63, ⟨by decide, by decide, by decide +kernel⟩, by decide, by decide⟩
theorem zw_X10_queues__X10_begins : zCw mX10_queues mX10_begins 0 := ⟨zg_953, zg_63, ⟨by decide, by decide, by decide +kernel⟩, by decide, by decide⟩
theorem zw_X10_queues__X10_goes : zCw mX10_queues mX10_goes 1 := ⟨zg_957, zg_63, ⟨by decide, by decide, by decide +kernel⟩, by decide, by decide⟩
theorem zw_X10_queues__X10_nextOne : zCw mX10_queues mX10_nextOne 0 := ⟨zg_981, zg_63, ⟨by decide, by decide, by decide +kernel⟩, by decide, by decide⟩
theorem zw_X10_queues__X10_townFault : zCw mX10_queues mX10_townFault 0 := ⟨zg_901, zg_63, ⟨by decide, by decide, by decide +kernel⟩, by decide, by decide⟩
theorem zw_X10_read__X10_in : zCw mX10_read mX10_in 3 := ⟨zg_858, zg_63, ⟨by decide, by decide, by decide +kernel⟩, by decide, by decide⟩
theorem zw_X10_read__X10_isSheet : zCw mX10_read mX10_isSheet 1 := ⟨zg_865, zg_63, ⟨by decide, by decide, by decide +kernel⟩, by decide, by decide⟩
theorem zw_X10_read__X10_meets : zCw mX10_read mX10_meets 1 := ⟨zg_869, zg_63, ⟨by decide, by decide, by decide +kernel⟩, by decide, by decide⟩
theorem zw_X10_set__X10_in : zCw mX10_set mX10_in 3 := ⟨zg_858, zg_63, ⟨by decide, by decide, by decide +kernel⟩, by decide, by decide⟩
theorem zw_X10_sheet__X10_in : zCw mX10_sheet mX10_in 3 := ⟨zg_858, zg_63, ⟨by decide, by decide, by decide +kernel⟩, by decide, by decide⟩
theorem zw_X10_sheet__X10_isSheet : zCw mX10_sheet mX10_isSheet 1 := ⟨zg_865, zg_63, ⟨by decide, by decide, by decide +kernel⟩, by decide, by decide⟩
theorem zw_X10_sheet__X10_meets : zCw mX10_sheet mX10_meets 1 := ⟨zg_869, zg_63, ⟨by decide, by decide, by decide +kernel⟩, by decide, by decide⟩
theorem zw_X10_sold__X10_isHouse : zCw mX10_sold mX10_isHouse 1 := ⟨zg_921, zg_63, ⟨by decide, by decide, by decide +kernel⟩, by decide, by decide⟩
theorem zw_X10_sold__X10_isWeek : zCw mX10_sold mX10_isWeek 1 := ⟨zg_855, zg_63, ⟨by decide, by decide, by decide +kernel⟩, by decide, by decide⟩
theorem zw_X10_sold__X10_soldOf : zCw mX10_sold mX10_soldOf 3 := ⟨zg_1067, zg_63, ⟨by decide, by decide, by decide +kernel⟩, by decide, by decide⟩
theorem zw_X10_soldOf__X10_changes : zCw mX10_soldOf mX10_changes 2 := ⟨zg_1071, zg_63, ⟨by decide, by decide, by decide +kernel⟩, by decide, by decide⟩
theorem zw_X10_soldOf__X10_fewestBy : zCw mX10_soldOf mX10_fewestBy 1 := ⟨zg_1005, zg_63, ⟨by decide, by decide, by decide +kernel⟩, by decide, by decide⟩
theorem zw_X10_soldOf__X10_fewestOf : zCw mX10_soldOf mX10_fewestOf 1 := ⟨zg_1001, zg_63, ⟨by decide, by decide, by decide +kernel⟩, by decide, by decide⟩
theorem zw_X10_stone__X10_footOf : zCw mX10_stone mX10_footOf 1 := ⟨zg_881, zg_63, ⟨by decide, by decide, by decide +kernel⟩, by decide, by decide⟩
theorem zw_X10_stone__X10_in : zCw mX10_stone mX10_in 3 := ⟨zg_858, zg_63, ⟨by decide, by decide, by decide +kernel⟩, by decide, by decide⟩
theorem zw_X10_stone__X10_isWeek : zCw mX10_stone mX10_isWeek 1 := ⟨zg_855, zg_63, ⟨by decide, by decide, by decide +kernel⟩, by decide, by decide⟩
theorem zw_X10_takes__X10_handsOf : zCw mX10_takes mX10_handsOf 2 := ⟨zg_937, zg_63, ⟨by decide, by decide, by decide +kernel⟩, by decide, by decide⟩
theorem zw_X10_takes__X10_in : zCw mX10_takes mX10_in 3 := ⟨zg_858, zg_63, ⟨by decide, by decide, by decide +kernel⟩, by decide, by decide⟩
theorem zw_X10_takes__X10_isHouse : zCw mX10_takes mX10_isHouse 1 := ⟨zg_921, zg_63, ⟨by decide, by decide, by decide +kernel⟩, by decide, by decide⟩
theorem zw_X10_townFault__X10_byteAt : zCw mX10_townFault mX10_byteAt 2 := ⟨zg_905, zg_63, ⟨by decide, by decide, by decide +kernel⟩, by decide, by decide⟩
theorem zw_X10_townFault__X10_figureAt : zCw mX10_townFault mX10_figureAt 2 := ⟨zg_909, zg_63, ⟨by decide, by decide, by decide +kernel⟩, by decide, by decide⟩
theorem zw_X10_townFault__X10_in : zCw mX10_townFault mX10_in 3 := ⟨zg_858, zg_63, ⟨by decide, by decide, by decide +kernel⟩, by decide, by decide⟩
theorem zw_X10_turn__X10_isWeek : zCw mX10_turn mX10_isWeek 1 := ⟨zg_855, zg_63, ⟨by decide, by decide, by decide +kernel⟩, by decide, by decide⟩
theorem zw_X10_turn__X10_turnOf : zCw mX10_turn mX10_turnOf 2 := ⟨zg_1017, zg_63, ⟨by decide, by decide, by decide +kernel⟩, by decide, by decide⟩
theorem zw_X10_turnOf__X10_fewestOf : zCw mX10_turnOf mX10_fewestOf 1 := ⟨zg_1001, zg_63, ⟨by decide, by decide, by decide +kernel⟩, by decide, by decide⟩
theorem zw_X10_type__X10_in : zCw mX10_type mX10_in 3 := ⟨zg_858, zg_63, ⟨by decide, by decide, by decide +kernel⟩, by decide, by decide⟩
theorem zw_X10_well__X10_isPlot : zCw mX10_well mX10_isPlot 2 := ⟨zg_1043, zg_63, ⟨by decide, by decide, by decide +kernel⟩, by decide, by decide⟩
theorem zw_X10_wind__X10_in : zCw mX10_wind mX10_in 3 := ⟨zg_858, zg_63, ⟨by decide, by decide, by decide +kernel⟩, by decide, by decide⟩
theorem zw_X10_wind__X10_isWeek : zCw mX10_wind mX10_isWeek 1 := ⟨zg_855, zg_63, ⟨by decide, by decide, by decide +kernel⟩, by decide, by decide⟩
theorem zw_X10_wipe__X10_in : zCw mX10_wipe mX10_in 3 := ⟨zg_858, zg_63, ⟨by decide, by decide, by decide +kernel⟩, by decide, by decide⟩
theorem zw_X10_write__X10_in : zCw mX10_write mX10_in 3 := ⟨zg_858, zg_63, ⟨by decide, by decide, by decide +kernel⟩, by decide, by decide⟩
theorem zw_X10_write__X10_isSheet : zCw mX10_write mX10_isSheet 1 := ⟨zg_865, zg_63, ⟨by decide, by decide, by decide +kernel⟩, by decide, by decide⟩
theorem zw_X10_write__X10_keep : zCw mX10_write mX10_keep 3 := ⟨zg_1130, zg_63, ⟨by decide, by decide, by decide +kernel⟩, by decide, by decide⟩
theorem zw_X10_write__X10_meets : zCw mX10_write mX10_meets 1 := ⟨zg_869, zg_63, ⟨by decide, by decide, by decide +kernel⟩, by decide, by decide⟩
theorem zw_X10_write__X10_queues : zCw mX10_write mX10_queues 1 := ⟨zg_977, zg_63, ⟨by decide, by decide, by decide +kernel⟩, by decide, by decide⟩
theorem zw_X1_apart__J9_abs_0f7a4 : zCw mX1_apart mJ9_abs_0f7a4 1 := ⟨zg_560, zg_61, ⟨by decide, by decide, by decide +kernel⟩, by decide, by decide⟩
theorem zw_X2_spread__J7_fill_d0a16 : zCw mX2_spread mJ7_fill_d0a16 2 := ⟨zg_639, zg_64, ⟨by decide, by decide, by decide +kernel⟩, by decide, by decide⟩
theorem zw_X2_spread__J9_max_7cf53 : zCw mX2_spread mJ9_max_7cf53 2 := ⟨zg_239, zg_61, ⟨by decide, by decide, by decide +kernel⟩, by decide, by decide⟩
theorem zw_X3_renew__J7_fill_53178 : zCw mX3_renew mJ7_fill_53178 2 := ⟨zg_668, zg_64, ⟨by decide, by decide, by decide +kernel⟩, by decide, by decide⟩
theorem zw_X4_greatestRow__J9_max_7cf53 : zCw mX4_greatestRow mJ9_max_7cf53 2 := ⟨zg_239, zg_61, ⟨by decide, by decide, by decide +kernel⟩, by decide, by decide⟩
theorem zw_X4_isCovered__X4_hindmost : zCw mX4_isCovered mX4_hindmost 0 := ⟨zg_289, zg_57, ⟨by decide, by decide, by decide +kernel⟩, by decide, by decide⟩
theorem zw_X4_move__J9_max_7cf53 : zCw mX4_move mJ9_max_7cf53 2 := ⟨zg_239, zg_61, ⟨by decide, by decide, by decide +kernel⟩, by decide, by decide⟩
theorem zw_X4_move__X7_handsFor : zCw mX4_move mX7_handsFor 2 := ⟨zg_302, zg_54, ⟨by decide, by decide, by decide +kernel⟩, by decide, by decide⟩
theorem zw_X5_figureAt__X5_byteAt : zCw mX5_figureAt mX5_byteAt 1 := ⟨zg_419, zg_53, ⟨by decide, by decide, by decide +kernel⟩, by decide, by decide⟩
theorem zw_X6_readFrom__X6_readParts : zCw mX6_readFrom mX6_readParts 2 := ⟨zg_440, zg_55, ⟨by decide, by decide, by decide +kernel⟩, by decide, by decide⟩
theorem zw_X6_readPart__X5_figureAt : zCw mX6_readPart mX5_figureAt 1 := ⟨zg_426, zg_53, ⟨by decide, by decide, by decide +kernel⟩, by decide, by decide⟩
theorem zw_X6_readPart__X9_isWeek : zCw mX6_readPart mX9_isWeek 1 := ⟨zg_355, zg_52, ⟨by decide, by decide, by decide +kernel⟩, by decide, by decide⟩
theorem zw_X6_readParts__X5_byteAt : zCw mX6_readParts mX5_byteAt 1 := ⟨zg_419, zg_53, ⟨by decide, by decide, by decide +kernel⟩, by decide, by decide⟩
theorem zw_X6_readParts__X6_readPart : zCw mX6_readParts mX6_readPart 3 := ⟨zg_444, zg_55, ⟨by decide, by decide, by decide +kernel⟩, by decide, by decide⟩
theorem zw_X7_readFrom__X7_readParts : zCw mX7_readFrom mX7_readParts 1 := ⟨zg_411, zg_54, ⟨by decide, by decide, by decide +kernel⟩, by decide, by decide⟩
theorem zw_X7_readPart__X5_byteAt : zCw mX7_readPart mX5_byteAt 1 := ⟨zg_419, zg_53, ⟨by decide, by decide, by decide +kernel⟩, by decide, by decide⟩
theorem zw_X7_readPart__X5_figureAt : zCw mX7_readPart mX5_figureAt 1 := ⟨zg_426, zg_53, ⟨by decide, by decide, by decide +kernel⟩, by decide, by decide⟩
theorem zw_X7_readPart__X7_isTaken : zCw mX7_readPart mX7_isTaken 2 := ⟨zg_432, zg_54, ⟨by decide, by decide, by decide +kernel⟩, by decide, by decide⟩
theorem zw_X7_readPart__X7_kindOf : zCw mX7_readPart mX7_kindOf 1 := ⟨zg_422, zg_54, ⟨by decide, by decide, by decide +kernel⟩, by decide, by decide⟩
theorem zw_X7_readPart__X9_isWithin : zCw mX7_readPart mX9_isWithin 2 := ⟨zg_358, zg_52, ⟨by decide, by decide, by decide +kernel⟩, by decide, by decide⟩
theorem zw_X7_readParts__X5_byteAt : zCw mX7_readParts mX5_byteAt 1 := ⟨zg_419, zg_53, ⟨by decide, by decide, by decide +kernel⟩, by decide, by decide⟩
theorem zw_X7_readParts__X7_readPart : zCw mX7_readParts mX7_readPart 2 := ⟨zg_415, zg_54, ⟨by decide, by decide, by decide +kernel⟩, by decide, by decide⟩
theorem zw_X8_movesAheadOf__X8_dueAheadOf : zCw mX8_movesAheadOf mX8_dueAheadOf 3 := ⟨zg_516, zg_56, ⟨by decide, by decide, by decide +kernel⟩, by decide, by decide⟩
theorem zw_X8_nextBehind__J9_min_7cf53 : zCw mX8_nextBehind mJ9_min_7cf53 2 := ⟨zg_372, zg_61, ⟨by decide, by decide, by decide +kernel⟩, by decide, by decide⟩
theorem zw_X8_plan__X4_begin : zCw mX8_plan mX4_begin 1 := ⟨zg_285, zg_57, ⟨by decide, by decide, by decide +kernel⟩, by decide, by decide⟩
theorem zw_X8_plan__X4_greatestRow : zCw mX8_plan mX4_greatestRow 0 := ⟨zg_293, zg_57, ⟨by decide, by decide, by decide +kernel⟩, by decide, by decide⟩
theorem zw_X8_plan__X4_hindmost : zCw mX8_plan mX4_hindmost 0 := ⟨zg_289, zg_57, ⟨by decide, by decide, by decide +kernel⟩, by decide, by decide⟩
theorem zw_X8_plan__X4_move : zCw mX8_plan mX4_move 2 := ⟨zg_298, zg_57, ⟨by decide, by decide, by decide +kernel⟩, by decide, by decide⟩
theorem zw_X8_rowBehind__J9_min_7cf53 : zCw mX8_rowBehind mJ9_min_7cf53 2 := ⟨zg_372, zg_61, ⟨by decide, by decide, by decide +kernel⟩, by decide, by decide⟩
theorem zw_X9_broken__X1_apart : zCw mX9_broken mX1_apart 2 := ⟨zg_557, zg_59, ⟨by decide, by decide, by decide +kernel⟩, by decide, by decide⟩
theorem zw_X9_broken__X4_begin : zCw mX9_broken mX4_begin 1 := ⟨zg_285, zg_57, ⟨by decide, by decide, by decide +kernel⟩, by decide, by decide⟩
theorem zw_X9_broken__X8_step : zCw mX9_broken mX8_step 2 := ⟨zg_564, zg_56, ⟨by decide, by decide, by decide +kernel⟩, by decide, by decide⟩
theorem zw_X9_broken__X9_isWithin : zCw mX9_broken mX9_isWithin 2 := ⟨zg_358, zg_52, ⟨by decide, by decide, by decide +kernel⟩, by decide, by decide⟩
theorem zw_X9_church__J9_min_7cf53 : zCw mX9_church mJ9_min_7cf53 2 := ⟨zg_372, zg_61, ⟨by decide, by decide, by decide +kernel⟩, by decide, by decide⟩
theorem zw_X9_church__X9_isWeek : zCw mX9_church mX9_isWeek 1 := ⟨zg_355, zg_52, ⟨by decide, by decide, by decide +kernel⟩, by decide, by decide⟩
theorem zw_X9_church__X9_isWithin : zCw mX9_church mX9_isWithin 2 := ⟨zg_358, zg_52, ⟨by decide, by decide, by decide +kernel⟩, by decide, by decide⟩
theorem zw_X9_church__X9_roundedUp : zCw mX9_church mX9_roundedUp 2 := ⟨zg_627, zg_52, ⟨by decide, by decide, by decide +kernel⟩, by decide, by decide⟩
theorem zw_X9_copy__X3_hasRange : zCw mX9_copy mX3_hasRange 2 := ⟨zg_697, zg_62, ⟨by decide, by decide, by decide +kernel⟩, by decide, by decide⟩
theorem zw_X9_copy__X9_found : zCw mX9_copy mX9_found 1 := ⟨zg_369, zg_52, ⟨by decide, by decide, by decide +kernel⟩, by decide, by decide⟩
theorem zw_X9_copy__X9_isSheet : zCw mX9_copy mX9_isSheet 1 := ⟨zg_365, zg_52, ⟨by decide, by decide, by decide +kernel⟩, by decide, by decide⟩
theorem zw_X9_debt__X0_add : zCw mX9_debt mX0_add 3 := ⟨zg_575, zg_60, ⟨by decide, by decide, by decide +kernel⟩, by decide, by decide⟩
theorem zw_X9_debt__X9_isPlot : zCw mX9_debt mX9_isPlot 2 := ⟨zg_571, zg_52, ⟨by decide, by decide, by decide +kernel⟩, by decide, by decide⟩
theorem zw_X9_digest__X9_broken : zCw mX9_digest mX9_broken 2 := ⟨zg_553, zg_52, ⟨by decide, by decide, by decide +kernel⟩, by decide, by decide⟩
theorem zw_X9_digest__X9_count : zCw mX9_digest mX9_count 1 := ⟨zg_708, zg_52, ⟨by decide, by decide, by decide +kernel⟩, by decide, by decide⟩
theorem zw_X9_digest__X9_fault : zCw mX9_digest mX9_fault 1 := ⟨zg_455, zg_52, ⟨by decide, by decide, by decide +kernel⟩, by decide, by decide⟩
theorem zw_X9_digest__X9_judged : zCw mX9_digest mX9_judged 1 := ⟨zg_472, zg_52, ⟨by decide, by decide, by decide +kernel⟩, by decide, by decide⟩
theorem zw_X9_digest__X9_mixed : zCw mX9_digest mX9_mixed 2 := ⟨zg_717, zg_52, ⟨by decide, by decide, by decide +kernel⟩, by decide, by decide⟩
theorem zw_X9_digest__X9_queue : zCw mX9_digest mX9_queue 2 := ⟨zg_495, zg_52, ⟨by decide, by decide, by decide +kernel⟩, by decide, by decide⟩
theorem zw_X9_digest__X9_sold : zCw mX9_digest mX9_sold 3 := ⟨zg_596, zg_52, ⟨by decide, by decide, by decide +kernel⟩, by decide, by decide⟩
theorem zw_X9_digest__X9_turn : zCw mX9_digest mX9_turn 2 := ⟨zg_541, zg_52, ⟨by decide, by decide, by decide +kernel⟩, by decide, by decide⟩
theorem zw_X9_digest__X9_withHouse : zCw mX9_digest mX9_withHouse 2 := ⟨zg_723, zg_52, ⟨by decide, by decide, by decide +kernel⟩, by decide, by decide⟩
theorem zw_X9_digest__X9_withWeek : zCw mX9_digest mX9_withWeek 2 := ⟨zg_732, zg_52, ⟨by decide, by decide, by decide +kernel⟩, by decide, by decide⟩
theorem zw_X9_dry__J9_max_7cf53 : zCw mX9_dry mJ9_max_7cf53 2 := ⟨zg_239, zg_61, ⟨by decide, by decide, by decide +kernel⟩, by decide, by decide⟩
theorem zw_X9_dry__X2_footIn : zCw mX9_dry mX2_footIn 1 := ⟨zg_384, zg_58, ⟨by decide, by decide, by decide +kernel⟩, by decide, by decide⟩
theorem zw_X9_dry__X9_isWeek : zCw mX9_dry mX9_isWeek 1 := ⟨zg_355, zg_52, ⟨by decide, by decide, by decide +kernel⟩, by decide, by decide⟩
theorem zw_X9_dry__X9_wellsMet : zCw mX9_dry mX9_wellsMet 1 := ⟨zg_583, zg_52, ⟨by decide, by decide, by decide +kernel⟩, by decide, by decide⟩
theorem zw_X9_ends__X4_begin : zCw mX9_ends mX4_begin 1 := ⟨zg_285, zg_57, ⟨by decide, by decide, by decide +kernel⟩, by decide, by decide⟩
theorem zw_X9_ends__X4_move : zCw mX9_ends mX4_move 2 := ⟨zg_298, zg_57, ⟨by decide, by decide, by decide +kernel⟩, by decide, by decide⟩
theorem zw_X9_ends__X9_isHouse : zCw mX9_ends mX9_isHouse 1 := ⟨zg_463, zg_52, ⟨by decide, by decide, by decide +kernel⟩, by decide, by decide⟩
theorem zw_X9_fault__X9_isText : zCw mX9_fault mX9_isText 1 := ⟨zg_391, zg_52, ⟨by decide, by decide, by decide +kernel⟩, by decide, by decide⟩
theorem zw_X9_fewest__X9_fewestHands : zCw mX9_fewest mX9_fewestHands 2 := ⟨zg_524, zg_52, ⟨by decide, by decide, by decide +kernel⟩, by decide, by decide⟩
theorem zw_X9_fewest__X9_isWeek : zCw mX9_fewest mX9_isWeek 1 := ⟨zg_355, zg_52, ⟨by decide, by decide, by decide +kernel⟩, by decide, by decide⟩
theorem zw_X9_fewestHands__X2_footIn : zCw mX9_fewestHands mX2_footIn 1 := ⟨zg_384, zg_58, ⟨by decide, by decide, by decide +kernel⟩, by decide, by decide⟩
theorem zw_X9_fewestHands__X8_handsForFirst : zCw mX9_fewestHands mX8_handsForFirst 1 := ⟨zg_528, zg_56, ⟨by decide, by decide, by decide +kernel⟩, by decide, by decide⟩
theorem zw_X9_fewestHands__X8_movesAheadOf : zCw mX9_fewestHands mX8_movesAheadOf 1 := ⟨zg_512, zg_56, ⟨by decide, by decide, by decide +kernel⟩, by decide, by decide⟩
theorem zw_X9_fewestHands__X9_keepsAhead : zCw mX9_fewestHands mX9_keepsAhead 4 := ⟨zg_532, zg_52, ⟨by decide, by decide, by decide +kernel⟩, by decide, by decide⟩
theorem zw_X9_foot__X2_footIn : zCw mX9_foot mX2_footIn 1 := ⟨zg_384, zg_58, ⟨by decide, by decide, by decide +kernel⟩, by decide, by decide⟩
theorem zw_X9_foot__X9_isWeek : zCw mX9_foot mX9_isWeek 1 := ⟨zg_355, zg_52, ⟨by decide, by decide, by decide +kernel⟩, by decide, by decide⟩
theorem zw_X9_get__X3_amissAt : zCw mX9_get mX3_amissAt 2 := ⟨zg_680, zg_62, ⟨by decide, by decide, by decide +kernel⟩, by decide, by decide⟩
theorem zw_X9_get__X9_isForm : zCw mX9_get mX9_isForm 1 := ⟨zg_661, zg_52, ⟨by decide, by decide, by decide +kernel⟩, by decide, by decide⟩
theorem zw_X9_get__X9_isSheet : zCw mX9_get mX9_isSheet 1 := ⟨zg_365, zg_52, ⟨by decide, by decide, by decide +kernel⟩, by decide, by decide⟩
theorem zw_X9_house__X9_isHouse : zCw mX9_house mX9_isHouse 1 := ⟨zg_463, zg_52, ⟨by decide, by decide, by decide +kernel⟩, by decide, by decide⟩
theorem zw_X9_isForm__X9_isWithin : zCw mX9_isForm mX9_isWithin 2 := ⟨zg_358, zg_52, ⟨by decide, by decide, by decide +kernel⟩, by decide, by decide⟩
theorem zw_X9_isHouse__X9_isWithin : zCw mX9_isHouse mX9_isWithin 2 := ⟨zg_358, zg_52, ⟨by decide, by decide, by decide +kernel⟩, by decide, by decide⟩
theorem zw_X9_isPlot__X9_isWithin : zCw mX9_isPlot mX9_isWithin 2 := ⟨zg_358, zg_52, ⟨by decide, by decide, by decide +kernel⟩, by decide, by decide⟩
theorem zw_X9_isSheet__X9_isWithin : zCw mX9_isSheet mX9_isWithin 2 := ⟨zg_358, zg_52, ⟨by decide, by decide, by decide +kernel⟩, by decide, by decide⟩
theorem zw_X9_isText__X9_isWithin : zCw mX9_isText mX9_isWithin 2 := ⟨zg_358, zg_52, ⟨by decide, by decide, by decide +kernel⟩, by decide, by decide⟩
theorem zw_X9_isWeek__X9_isWithin : zCw mX9_isWeek mX9_isWithin 2 := ⟨zg_358, zg_52, ⟨by decide, by decide, by decide +kernel⟩, by decide, by decide⟩
theorem zw_X9_judged__X2_footIn : zCw mX9_judged mX2_footIn 1 := ⟨zg_384, zg_58, ⟨by decide, by decide, by decide +kernel⟩, by decide, by decide⟩
theorem zw_X9_judged__X4_begin : zCw mX9_judged mX4_begin 1 := ⟨zg_285, zg_57, ⟨by decide, by decide, by decide +kernel⟩, by decide, by decide⟩
theorem zw_X9_judged__X6_endOfWeek : zCw mX9_judged mX6_endOfWeek 2 := ⟨zg_477, zg_55, ⟨by decide, by decide, by decide +kernel⟩, by decide, by decide⟩
theorem zw_X9_judged__X9_isWithin : zCw mX9_judged mX9_isWithin 2 := ⟨zg_358, zg_52, ⟨by decide, by decide, by decide +kernel⟩, by decide, by decide⟩
theorem zw_X9_judged__X9_whyWrong : zCw mX9_judged mX9_whyWrong 3 := ⟨zg_481, zg_52, ⟨by decide, by decide, by decide +kernel⟩, by decide, by decide⟩
theorem zw_X9_keepsAhead__X8_dueAheadOf : zCw mX9_keepsAhead mX8_dueAheadOf 3 := ⟨zg_516, zg_56, ⟨by decide, by decide, by decide +kernel⟩, by decide, by decide⟩
theorem zw_X9_keepsAhead__X8_madeInWeek : zCw mX9_keepsAhead mX8_madeInWeek 3 := ⟨zg_536, zg_56, ⟨by decide, by decide, by decide +kernel⟩, by decide, by decide⟩
theorem zw_X9_likely__J9_max_f86c9 : zCw mX9_likely mJ9_max_f86c9 2 := ⟨zg_650, zg_61, ⟨by decide, by decide, by decide +kernel⟩, by decide, by decide⟩
theorem zw_X9_likely__X2_spread : zCw mX9_likely mX2_spread 2 := ⟨zg_636, zg_58, ⟨by decide, by decide, by decide +kernel⟩, by decide, by decide⟩
theorem zw_X9_likely__X2_waysOver : zCw mX9_likely mX2_waysOver 1 := ⟨zg_644, zg_58, ⟨by decide, by decide, by decide +kernel⟩, by decide, by decide⟩
theorem zw_X9_likely__X9_commonDivisor : zCw mX9_likely mX9_commonDivisor 2 := ⟨zg_647, zg_52, ⟨by decide, by decide, by decide +kernel⟩, by decide, by decide⟩
theorem zw_X9_likely__X9_isWithin : zCw mX9_likely mX9_isWithin 2 := ⟨zg_358, zg_52, ⟨by decide, by decide, by decide +kernel⟩, by decide, by decide⟩
theorem zw_X9_lose__X9_found : zCw mX9_lose mX9_found 1 := ⟨zg_369, zg_52, ⟨by decide, by decide, by decide +kernel⟩, by decide, by decide⟩
theorem zw_X9_lose__X9_isSheet : zCw mX9_lose mX9_isSheet 1 := ⟨zg_365, zg_52, ⟨by decide, by decide, by decide +kernel⟩, by decide, by decide⟩
theorem zw_X9_lost__X0_amountBelow : zCw mX9_lost mX0_amountBelow 1 := ⟨zg_620, zg_60, ⟨by decide, by decide, by decide +kernel⟩, by decide, by decide⟩
theorem zw_X9_lost__X2_footIn : zCw mX9_lost mX2_footIn 1 := ⟨zg_384, zg_58, ⟨by decide, by decide, by decide +kernel⟩, by decide, by decide⟩
theorem zw_X9_lost__X9_isWeek : zCw mX9_lost mX9_isWeek 1 := ⟨zg_355, zg_52, ⟨by decide, by decide, by decide +kernel⟩, by decide, by decide⟩
theorem zw_X9_met__X2_footIn : zCw mX9_met mX2_footIn 1 := ⟨zg_384, zg_58, ⟨by decide, by decide, by decide +kernel⟩, by decide, by decide⟩
theorem zw_X9_met__X9_isWeek : zCw mX9_met mX9_isWeek 1 := ⟨zg_355, zg_52, ⟨by decide, by decide, by decide +kernel⟩, by decide, by decide⟩
theorem zw_X9_met__X9_wellsMet : zCw mX9_met mX9_wellsMet 1 := ⟨zg_583, zg_52, ⟨by decide, by decide, by decide +kernel⟩, by decide, by decide⟩
theorem zw_X9_needs__X2_footIn : zCw mX9_needs mX2_footIn 1 := ⟨zg_384, zg_58, ⟨by decide, by decide, by decide +kernel⟩, by decide, by decide⟩
theorem zw_X9_needs__X8_movesAheadOf : zCw mX9_needs mX8_movesAheadOf 1 := ⟨zg_512, zg_56, ⟨by decide, by decide, by decide +kernel⟩, by decide, by decide⟩
theorem zw_X9_needs__X9_isWeek : zCw mX9_needs mX9_isWeek 1 := ⟨zg_355, zg_52, ⟨by decide, by decide, by decide +kernel⟩, by decide, by decide⟩
theorem zw_X9_owed__X1_add : zCw mX9_owed mX1_add 2 := ⟨zg_549, zg_59, ⟨by decide, by decide, by decide +kernel⟩, by decide, by decide⟩
theorem zw_X9_owed__X9_isWithin : zCw mX9_owed mX9_isWithin 2 := ⟨zg_358, zg_52, ⟨by decide, by decide, by decide +kernel⟩, by decide, by decide⟩
theorem zw_X9_owes__X0_amountOn : zCw mX9_owes mX0_amountOn 2 := ⟨zg_612, zg_60, ⟨by decide, by decide, by decide +kernel⟩, by decide, by decide⟩
theorem zw_X9_owes__X2_footIn : zCw mX9_owes mX2_footIn 1 := ⟨zg_384, zg_58, ⟨by decide, by decide, by decide +kernel⟩, by decide, by decide⟩
theorem zw_X9_owes__X8_movesAheadOf : zCw mX9_owes mX8_movesAheadOf 1 := ⟨zg_512, zg_56, ⟨by decide, by decide, by decide +kernel⟩, by decide, by decide⟩
theorem zw_X9_owes__X8_rowBehind : zCw mX9_owes mX8_rowBehind 3 := ⟨zg_504, zg_56, ⟨by decide, by decide, by decide +kernel⟩, by decide, by decide⟩
theorem zw_X9_owes__X9_isHouse : zCw mX9_owes mX9_isHouse 1 := ⟨zg_463, zg_52, ⟨by decide, by decide, by decide +kernel⟩, by decide, by decide⟩
theorem zw_X9_owes__X9_isWeek : zCw mX9_owes mX9_isWeek 1 := ⟨zg_355, zg_52, ⟨by decide, by decide, by decide +kernel⟩, by decide, by decide⟩
theorem zw_X9_put__X3_amissAt : zCw mX9_put mX3_amissAt 2 := ⟨zg_680, zg_62, ⟨by decide, by decide, by decide +kernel⟩, by decide, by decide⟩
theorem zw_X9_put__X3_keep : zCw mX9_put mX3_keep 2 := ⟨zg_684, zg_62, ⟨by decide, by decide, by decide +kernel⟩, by decide, by decide⟩
theorem zw_X9_put__X9_found : zCw mX9_put mX9_found 1 := ⟨zg_369, zg_52, ⟨by decide, by decide, by decide +kernel⟩, by decide, by decide⟩
theorem zw_X9_put__X9_isForm : zCw mX9_put mX9_isForm 1 := ⟨zg_661, zg_52, ⟨by decide, by decide, by decide +kernel⟩, by decide, by decide⟩
theorem zw_X9_put__X9_isSheet : zCw mX9_put mX9_isSheet 1 := ⟨zg_365, zg_52, ⟨by decide, by decide, by decide +kernel⟩, by decide, by decide⟩
theorem zw_X9_queue__X8_nextBehind : zCw mX9_queue mX8_nextBehind 1 := ⟨zg_499, zg_56, ⟨by decide, by decide, by decide +kernel⟩, by decide, by decide⟩
theorem zw_X9_queue__X8_rowBehind : zCw mX9_queue mX8_rowBehind 3 := ⟨zg_504, zg_56, ⟨by decide, by decide, by decide +kernel⟩, by decide, by decide⟩
theorem zw_X9_queue__X9_isHouse : zCw mX9_queue mX9_isHouse 1 := ⟨zg_463, zg_52, ⟨by decide, by decide, by decide +kernel⟩, by decide, by decide⟩
theorem zw_X9_queue__X9_isWithin : zCw mX9_queue mX9_isWithin 2 := ⟨zg_358, zg_52, ⟨by decide, by decide, by decide +kernel⟩, by decide, by decide⟩
theorem zw_X9_read__J9_min_7cf53 : zCw mX9_read mJ9_min_7cf53 2 := ⟨zg_372, zg_61, ⟨by decide, by decide, by decide +kernel⟩, by decide, by decide⟩
theorem zw_X9_read__X9_found : zCw mX9_read mX9_found 1 := ⟨zg_369, zg_52, ⟨by decide, by decide, by decide +kernel⟩, by decide, by decide⟩
theorem zw_X9_read__X9_isSheet : zCw mX9_read mX9_isSheet 1 := ⟨zg_365, zg_52, ⟨by decide, by decide, by decide +kernel⟩, by decide, by decide⟩
theorem zw_X9_read__X9_isWithin : zCw mX9_read mX9_isWithin 2 := ⟨zg_358, zg_52, ⟨by decide, by decide, by decide +kernel⟩, by decide, by decide⟩
theorem zw_X9_readAgain__X6_readFrom : zCw mX9_readAgain mX6_readFrom 2 := ⟨zg_436, zg_55, ⟨by decide, by decide, by decide +kernel⟩, by decide, by decide⟩
theorem zw_X9_readAgain__X7_readFrom : zCw mX9_readAgain mX7_readFrom 1 := ⟨zg_407, zg_54, ⟨by decide, by decide, by decide +kernel⟩, by decide, by decide⟩
theorem zw_X9_readAgain__X8_plan : zCw mX9_readAgain mX8_plan 1 := ⟨zg_281, zg_56, ⟨by decide, by decide, by decide +kernel⟩, by decide, by decide⟩
theorem zw_X9_roundedUp__J9_max_7cf53 : zCw mX9_roundedUp mJ9_max_7cf53 2 := ⟨zg_239, zg_61, ⟨by decide, by decide, by decide +kernel⟩, by decide, by decide⟩
theorem zw_X9_set__X9_isWithin : zCw mX9_set mX9_isWithin 2 := ⟨zg_358, zg_52, ⟨by decide, by decide, by decide +kernel⟩, by decide, by decide⟩
theorem zw_X9_sheet__X3_renew : zCw mX9_sheet mX3_renew 2 := ⟨zg_665, zg_62, ⟨by decide, by decide, by decide +kernel⟩, by decide, by decide⟩
theorem zw_X9_sheet__X9_found : zCw mX9_sheet mX9_found 1 := ⟨zg_369, zg_52, ⟨by decide, by decide, by decide +kernel⟩, by decide, by decide⟩
theorem zw_X9_sheet__X9_isForm : zCw mX9_sheet mX9_isForm 1 := ⟨zg_661, zg_52, ⟨by decide, by decide, by decide +kernel⟩, by decide, by decide⟩
theorem zw_X9_sheet__X9_isSheet : zCw mX9_sheet mX9_isSheet 1 := ⟨zg_365, zg_52, ⟨by decide, by decide, by decide +kernel⟩, by decide, by decide⟩
theorem zw_X9_sold__X7_swapOf : zCw mX9_sold mX7_swapOf 3 := ⟨zg_600, zg_54, ⟨by decide, by decide, by decide +kernel⟩, by decide, by decide⟩
theorem zw_X9_sold__X8_plan : zCw mX9_sold mX8_plan 1 := ⟨zg_281, zg_56, ⟨by decide, by decide, by decide +kernel⟩, by decide, by decide⟩
theorem zw_X9_sold__X9_fewestHands : zCw mX9_sold mX9_fewestHands 2 := ⟨zg_524, zg_52, ⟨by decide, by decide, by decide +kernel⟩, by decide, by decide⟩
theorem zw_X9_sold__X9_isHouse : zCw mX9_sold mX9_isHouse 1 := ⟨zg_463, zg_52, ⟨by decide, by decide, by decide +kernel⟩, by decide, by decide⟩
theorem zw_X9_sold__X9_isWeek : zCw mX9_sold mX9_isWeek 1 := ⟨zg_355, zg_52, ⟨by decide, by decide, by decide +kernel⟩, by decide, by decide⟩
theorem zw_X9_stone__X2_footIn : zCw mX9_stone mX2_footIn 1 := ⟨zg_384, zg_58, ⟨by decide, by decide, by decide +kernel⟩, by decide, by decide⟩
theorem zw_X9_stone__X9_isWeek : zCw mX9_stone mX9_isWeek 1 := ⟨zg_355, zg_52, ⟨by decide, by decide, by decide +kernel⟩, by decide, by decide⟩
theorem zw_X9_stone__X9_isWithin : zCw mX9_stone mX9_isWithin 2 := ⟨zg_358, zg_52, ⟨by decide, by decide, by decide +kernel⟩, by decide, by decide⟩
theorem zw_X9_stone__X9_roundedUp : zCw mX9_stone mX9_roundedUp 2 := ⟨zg_627, zg_52, ⟨by decide, by decide, by decide +kernel⟩, by decide, by decide⟩
theorem zw_X9_takes__X7_handsFor : zCw mX9_takes mX7_handsFor 2 := ⟨zg_302, zg_54, ⟨by decide, by decide, by decide +kernel⟩, by decide, by decide⟩
theorem zw_X9_takes__X9_isHouse : zCw mX9_takes mX9_isHouse 1 := ⟨zg_463, zg_52, ⟨by decide, by decide, by decide +kernel⟩, by decide, by decide⟩
theorem zw_X9_takes__X9_isWithin : zCw mX9_takes mX9_isWithin 2 := ⟨zg_358, zg_52, ⟨by decide, by decide, by decide +kernel⟩, by decide, by decide⟩
theorem zw_X9_turn__X2_footIn : zCw mX9_turn mX2_footIn 1 := ⟨zg_384, zg_58, ⟨by decide, by decide, by decide +kernel⟩, by decide, by decide⟩
theorem zw_X9_turn__X8_madeInWeek : zCw mX9_turn mX8_madeInWeek 3 := ⟨zg_536, zg_56, ⟨by decide, by decide, by decide +kernel⟩, by decide, by decide⟩
theorem zw_X9_turn__X8_movesAheadOf : zCw mX9_turn mX8_movesAheadOf 1 := ⟨zg_512, zg_56, ⟨by decide, by decide, by decide +kernel⟩, by decide, by decide⟩
theorem zw_X9_turn__X9_fewestHands : zCw mX9_turn mX9_fewestHands 2 := ⟨zg_524, zg_52, ⟨by decide, by decide, by decide +kernel⟩, by decide, by decide⟩
theorem zw_X9_turn__X9_isWeek : zCw mX9_turn mX9_isWeek 1 := ⟨zg_355, zg_52, ⟨by decide, by decide, by decide +kernel⟩, by decide, by decide⟩
theorem zw_X9_type__X5_append : zCw mX9_type mX5_append 1 := ⟨zg_399, zg_53, ⟨by decide, by decide, by decide +kernel⟩, by decide, by decide⟩
theorem zw_X9_type__X9_isText : zCw mX9_type mX9_isText 1 := ⟨zg_391, zg_52, ⟨by decide, by decide, by decide +kernel⟩, by decide, by decide⟩
theorem zw_X9_type__X9_isWithin : zCw mX9_type mX9_isWithin 2 := ⟨zg_358, zg_52, ⟨by decide, by decide, by decide +kernel⟩, by decide, by decide⟩
theorem zw_X9_type__X9_readAgain : zCw mX9_type mX9_readAgain 1 := ⟨zg_403, zg_52, ⟨by decide, by decide, by decide +kernel⟩, by decide, by decide⟩
theorem zw_X9_type__X9_textOf : zCw mX9_type mX9_textOf 1 := ⟨zg_395, zg_52, ⟨by decide, by decide, by decide +kernel⟩, by decide, by decide⟩
theorem zw_X9_well__X0_add : zCw mX9_well mX0_add 3 := ⟨zg_575, zg_60, ⟨by decide, by decide, by decide +kernel⟩, by decide, by decide⟩
theorem zw_X9_well__X9_isPlot : zCw mX9_well mX9_isPlot 2 := ⟨zg_571, zg_52, ⟨by decide, by decide, by decide +kernel⟩, by decide, by decide⟩
theorem zw_X9_wellsMet__X0_inRows : zCw mX9_wellsMet mX0_inRows 2 := ⟨zg_587, zg_60, ⟨by decide, by decide, by decide +kernel⟩, by decide, by decide⟩
theorem zw_X9_wellsMet__X8_movesAheadOf : zCw mX9_wellsMet mX8_movesAheadOf 1 := ⟨zg_512, zg_56, ⟨by decide, by decide, by decide +kernel⟩, by decide, by decide⟩
theorem zw_X9_whyWrong__X4_isCovered : zCw mX9_whyWrong mX4_isCovered 1 := ⟨zg_486, zg_57, ⟨by decide, by decide, by decide +kernel⟩, by decide, by decide⟩
theorem zw_X9_whyWrong__X4_move : zCw mX9_whyWrong mX4_move 2 := ⟨zg_298, zg_57, ⟨by decide, by decide, by decide +kernel⟩, by decide, by decide⟩
theorem zw_X9_wind__X9_isWeek : zCw mX9_wind mX9_isWeek 1 := ⟨zg_355, zg_52, ⟨by decide, by decide, by decide +kernel⟩, by decide, by decide⟩
theorem zw_X9_wind__X9_isWithin : zCw mX9_wind mX9_isWithin 2 := ⟨zg_358, zg_52, ⟨by decide, by decide, by decide +kernel⟩, by decide, by decide⟩
theorem zw_X9_wipe__X9_isText : zCw mX9_wipe mX9_isText 1 := ⟨zg_391, zg_52, ⟨by decide, by decide, by decide +kernel⟩, by decide, by decide⟩
theorem zw_X9_wipe__X9_readAgain : zCw mX9_wipe mX9_readAgain 1 := ⟨zg_403, zg_52, ⟨by decide, by decide, by decide +kernel⟩, by decide, by decide⟩
theorem zw_X9_wipe__X9_textOf : zCw mX9_wipe mX9_textOf 1 := ⟨zg_395, zg_52, ⟨by decide, by decide, by decide +kernel⟩, by decide, by decide⟩
theorem zw_X9_withHouse__X9_ends : zCw mX9_withHouse mX9_ends 1 := ⟨zg_491, zg_52, ⟨by decide, by decide, by decide +kernel⟩, by decide, by decide⟩
theorem zw_X9_withHouse__X9_house : zCw mX9_withHouse mX9_house 2 := ⟨zg_459, zg_52, ⟨by decide, by decide, by decide +kernel⟩, by decide, by decide⟩
theorem zw_X9_withHouse__X9_mixed : zCw mX9_withHouse mX9_mixed 2 := ⟨zg_717, zg_52, ⟨by decide, by decide, by decide +kernel⟩, by decide, by decide⟩
theorem zw_X9_withHouse__X9_owes : zCw mX9_withHouse mX9_owes 2 := ⟨zg_608, zg_52, ⟨by decide, by decide, by decide +kernel⟩, by decide, by decide⟩
theorem zw_X9_withHouse__X9_queue : zCw mX9_withHouse mX9_queue 2 := ⟨zg_495, zg_52, ⟨by decide, by decide, by decide +kernel⟩, by decide, by decide⟩
theorem zw_X9_withWeek__X9_dry : zCw mX9_withWeek mX9_dry 1 := ⟨zg_591, zg_52, ⟨by decide, by decide, by decide +kernel⟩, by decide, by decide⟩
theorem zw_X9_withWeek__X9_fewest : zCw mX9_withWeek mX9_fewest 1 := ⟨zg_520, zg_52, ⟨by decide, by decide, by decide +kernel⟩, by decide, by decide⟩
theorem zw_X9_withWeek__X9_foot : zCw mX9_withWeek mX9_foot 1 := ⟨zg_380, zg_52, ⟨by decide, by decide, by decide +kernel⟩, by decide, by decide⟩
theorem zw_X9_withWeek__X9_lost : zCw mX9_withWeek mX9_lost 1 := ⟨zg_616, zg_52, ⟨by decide, by decide, by decide +kernel⟩, by decide, by decide⟩
theorem zw_X9_withWeek__X9_met : zCw mX9_withWeek mX9_met 1 := ⟨zg_579, zg_52, ⟨by decide, by decide, by decide +kernel⟩, by decide, by decide⟩
theorem zw_X9_withWeek__X9_mixed : zCw mX9_withWeek mX9_mixed 2 := ⟨zg_717, zg_52, ⟨by decide, by decide, by decide +kernel⟩, by decide, by decide⟩
theorem zw_X9_withWeek__X9_needs : zCw mX9_withWeek mX9_needs 1 := ⟨zg_508, zg_52, ⟨by decide, by decide, by decide +kernel⟩, by decide, by decide⟩
theorem zw_X9_write__J9_min_7cf53 : zCw mX9_write mJ9_min_7cf53 2 := ⟨zg_372, zg_61, ⟨by decide, by decide, by decide +kernel⟩, by decide, by decide⟩
theorem zw_X9_write__X3_keep : zCw mX9_write mX3_keep 2 := ⟨zg_684, zg_62, ⟨by decide, by decide, by decide +kernel⟩, by decide, by decide⟩
theorem zw_X9_write__X8_rowBehind : zCw mX9_write mX8_rowBehind 3 := ⟨zg_504, zg_56, ⟨by decide, by decide, by decide +kernel⟩, by decide, by decide⟩
theorem zw_X9_write__X9_found : zCw mX9_write mX9_found 1 := ⟨zg_369, zg_52, ⟨by decide, by decide, by decide +kernel⟩, by decide, by decide⟩
theorem zw_X9_write__X9_isSheet : zCw mX9_write mX9_isSheet 1 := ⟨zg_365, zg_52, ⟨by decide, by decide, by decide +kernel⟩, by decide, by decide⟩
theorem zw_X9_write__X9_isWithin : zCw mX9_write mX9_isWithin 2 := ⟨zg_358, zg_52, ⟨by decide, by decide, by decide +kernel⟩, by decide, by decide⟩
theorem zW_nameI {Λ : List zSh} {M : zM} {pc : Nat} {L : List (Option zV)} {st : List zV} {σ : zS} {Q : Option zV → zS → Prop} {x : Int} (k : ∀ y, y = x → zW Λ M pc L (zI y :: st) σ Q) : zW Λ M pc L (zI x :: st) σ Q := k x rfl
theorem zW_nameL {Λ : List zSh} {M : zM} {pc : Nat} {L : List (Option zV)} {st : List zV} {σ : zS} {Q : Option zV → zS → Prop} {x : Int} (k : ∀ y, y = x → zW Λ M pc L (zL y :: st) σ Q) : zW Λ M pc L (zL x :: st) σ Q := k x rfl
theorem zW_nameS {Λ : List zSh} {M : zM} {pc : Nat} {L : List (Option zV)} {st : List zV} {σ : zS} {Q : Option zV → zS → Prop} (k : ∀ y, y = σ → zW Λ M pc L st y Q) : zW Λ M pc L st σ Q := k σ rfl
end
