-- ===== PART A: goes FIRST, ahead of the names: the tables' words, and 'selects' of the private methods out of them =====
/-- a private method of a class that the tables say can be made, by its rows of tables_1 -/
def lw_okq (q : MethodName × Nat) : Prop := (q.1.cls ≠ "java/lang/invoke/MethodHandle" ∧ q.1.cls ≠ "java/lang/invoke/VarHandle") ∧ Cond.instantiable q.1.cls q.2 ∈ tables_1 ∧ Cond.privateMethod q.1 ∈ tables_1 ∧ Cond.instanceMethod q.1 ∈ tables_1
theorem lw_p0 : lw_okq (⟨"MoorGuides", "feedNumber", "(I)V"⟩, 16) := ⟨⟨by decide +kernel, by decide +kernel⟩, List.mem_of_getElem? (i := 27) (by decide +kernel), List.mem_of_getElem? (i := 637) (by decide +kernel), List.mem_of_getElem? (i := 638) (by decide +kernel)⟩
theorem lw_p1 : lw_okq (⟨"MoorGuides$Tokens", "cut", "(I)I"⟩, 11) := ⟨⟨by decide +kernel, by decide +kernel⟩, List.mem_of_getElem? (i := 228) (by decide +kernel), List.mem_of_getElem? (i := 664) (by decide +kernel), List.mem_of_getElem? (i := 665) (by decide +kernel)⟩
theorem lw_p2 : lw_okq (⟨"MoorGuides$Tokens", "byteAt", "(I)I"⟩, 11) := ⟨⟨by decide +kernel, by decide +kernel⟩, List.mem_of_getElem? (i := 228) (by decide +kernel), List.mem_of_getElem? (i := 668) (by decide +kernel), List.mem_of_getElem? (i := 669) (by decide +kernel)⟩
theorem lw_p3 : lw_okq (⟨"MoorGuides$Tokens", "cutWord", "(I)I"⟩, 11) := ⟨⟨by decide +kernel, by decide +kernel⟩, List.mem_of_getElem? (i := 228) (by decide +kernel), List.mem_of_getElem? (i := 675) (by decide +kernel), List.mem_of_getElem? (i := 676) (by decide +kernel)⟩
theorem lw_p4 : lw_okq (⟨"MoorGuides$Tokens", "wordNumber", "(J)I"⟩, 11) := ⟨⟨by decide +kernel, by decide +kernel⟩, List.mem_of_getElem? (i := 228) (by decide +kernel), List.mem_of_getElem? (i := 679) (by decide +kernel), List.mem_of_getElem? (i := 680) (by decide +kernel)⟩
theorem lw_p5 : lw_okq (⟨"MoorGuides$Tokens", "add", "(III)V"⟩, 11) := ⟨⟨by decide +kernel, by decide +kernel⟩, List.mem_of_getElem? (i := 228) (by decide +kernel), List.mem_of_getElem? (i := 683) (by decide +kernel), List.mem_of_getElem? (i := 684) (by decide +kernel)⟩
theorem lw_p6 : lw_okq (⟨"MoorGuides$Tokens", "cutNumber", "(I)I"⟩, 11) := ⟨⟨by decide +kernel, by decide +kernel⟩, List.mem_of_getElem? (i := 228) (by decide +kernel), List.mem_of_getElem? (i := 690) (by decide +kernel), List.mem_of_getElem? (i := 691) (by decide +kernel)⟩
theorem lw_p7 : lw_okq (⟨"MoorGuides$Tokens", "cutSign", "(I)I"⟩, 11) := ⟨⟨by decide +kernel, by decide +kernel⟩, List.mem_of_getElem? (i := 228) (by decide +kernel), List.mem_of_getElem? (i := 695) (by decide +kernel), List.mem_of_getElem? (i := 696) (by decide +kernel)⟩
theorem lw_p8 : lw_okq (⟨"MoorGuides$Reader", "readLine", "()Z"⟩, 10) := ⟨⟨by decide +kernel, by decide +kernel⟩, List.mem_of_getElem? (i := 222) (by decide +kernel), List.mem_of_getElem? (i := 704) (by decide +kernel), List.mem_of_getElem? (i := 705) (by decide +kernel)⟩
theorem lw_p9 : lw_okq (⟨"MoorGuides$Reader", "passUnless", "(ZI)Z"⟩, 10) := ⟨⟨by decide +kernel, by decide +kernel⟩, List.mem_of_getElem? (i := 222) (by decide +kernel), List.mem_of_getElem? (i := 708) (by decide +kernel), List.mem_of_getElem? (i := 709) (by decide +kernel)⟩
theorem lw_p10 : lw_okq (⟨"MoorGuides$Reader", "fail", "(I)Z"⟩, 10) := ⟨⟨by decide +kernel, by decide +kernel⟩, List.mem_of_getElem? (i := 222) (by decide +kernel), List.mem_of_getElem? (i := 712) (by decide +kernel), List.mem_of_getElem? (i := 713) (by decide +kernel)⟩
theorem lw_p11 : lw_okq (⟨"MoorGuides$Reader", "readPart", "()Z"⟩, 10) := ⟨⟨by decide +kernel, by decide +kernel⟩, List.mem_of_getElem? (i := 222) (by decide +kernel), List.mem_of_getElem? (i := 717) (by decide +kernel), List.mem_of_getElem? (i := 718) (by decide +kernel)⟩
theorem lw_p12 : lw_okq (⟨"MoorGuides$Reader", "readNewName", "([II)Z"⟩, 10) := ⟨⟨by decide +kernel, by decide +kernel⟩, List.mem_of_getElem? (i := 222) (by decide +kernel), List.mem_of_getElem? (i := 721) (by decide +kernel), List.mem_of_getElem? (i := 722) (by decide +kernel)⟩
theorem lw_p13 : lw_okq (⟨"MoorGuides$Reader", "readNumber", "(II)I"⟩, 10) := ⟨⟨by decide +kernel, by decide +kernel⟩, List.mem_of_getElem? (i := 222) (by decide +kernel), List.mem_of_getElem? (i := 728) (by decide +kernel), List.mem_of_getElem? (i := 729) (by decide +kernel)⟩
theorem lw_p14 : lw_okq (⟨"MoorGuides$Reader", "readOtherPart", "(I)I"⟩, 10) := ⟨⟨by decide +kernel, by decide +kernel⟩, List.mem_of_getElem? (i := 222) (by decide +kernel), List.mem_of_getElem? (i := 732) (by decide +kernel), List.mem_of_getElem? (i := 733) (by decide +kernel)⟩
theorem lw_p15 : lw_okq (⟨"MoorGuides$Reader", "toldPart", "()I"⟩, 10) := ⟨⟨by decide +kernel, by decide +kernel⟩, List.mem_of_getElem? (i := 222) (by decide +kernel), List.mem_of_getElem? (i := 736) (by decide +kernel), List.mem_of_getElem? (i := 737) (by decide +kernel)⟩
def lw_privs_1 : List (MethodName × Nat) := [(⟨"MoorGuides", "feedNumber", "(I)V"⟩, 16), (⟨"MoorGuides$Tokens", "cut", "(I)I"⟩, 11), (⟨"MoorGuides$Tokens", "byteAt", "(I)I"⟩, 11), (⟨"MoorGuides$Tokens", "cutWord", "(I)I"⟩, 11), (⟨"MoorGuides$Tokens", "wordNumber", "(J)I"⟩, 11), (⟨"MoorGuides$Tokens", "add", "(III)V"⟩, 11), (⟨"MoorGuides$Tokens", "cutNumber", "(I)I"⟩, 11), (⟨"MoorGuides$Tokens", "cutSign", "(I)I"⟩, 11), (⟨"MoorGuides$Reader", "readLine", "()Z"⟩, 10), (⟨"MoorGuides$Reader", "passUnless", "(ZI)Z"⟩, 10), (⟨"MoorGuides$Reader", "fail", "(I)Z"⟩, 10), (⟨"MoorGuides$Reader", "readPart", "()Z"⟩, 10), (⟨"MoorGuides$Reader", "readNewName", "([II)Z"⟩, 10), (⟨"MoorGuides$Reader", "readNumber", "(II)I"⟩, 10), (⟨"MoorGuides$Reader", "readOtherPart", "(I)I"⟩, 10), (⟨"MoorGuides$Reader", "toldPart", "()I"⟩, 10)]
theorem lw_r1 : ∀ q ∈ lw_privs_1, lw_okq q := List.forall_mem_cons.mpr ⟨lw_p0, List.forall_mem_cons.mpr ⟨lw_p1, List.forall_mem_cons.mpr ⟨lw_p2, List.forall_mem_cons.mpr ⟨lw_p3, List.forall_mem_cons.mpr ⟨lw_p4, List.forall_mem_cons.mpr ⟨lw_p5, List.forall_mem_cons.mpr ⟨lw_p6, List.forall_mem_cons.mpr ⟨lw_p7, List.forall_mem_cons.mpr ⟨lw_p8, List.forall_mem_cons.mpr ⟨lw_p9, List.forall_mem_cons.mpr ⟨lw_p10, List.forall_mem_cons.mpr ⟨lw_p11, List.forall_mem_cons.mpr ⟨lw_p12, List.forall_mem_cons.mpr ⟨lw_p13, List.forall_mem_cons.mpr ⟨lw_p14, List.forall_mem_cons.mpr ⟨lw_p15, fun _ h => absurd h List.not_mem_nil⟩⟩⟩⟩⟩⟩⟩⟩⟩⟩⟩⟩⟩⟩⟩⟩
theorem lw_p16 : lw_okq (⟨"MoorGuides$Reader", "readPerson", "()Z"⟩, 10) := ⟨⟨by decide +kernel, by decide +kernel⟩, List.mem_of_getElem? (i := 222) (by decide +kernel), List.mem_of_getElem? (i := 744) (by decide +kernel), List.mem_of_getElem? (i := 745) (by decide +kernel)⟩
theorem lw_p17 : lw_okq (⟨"MoorGuides$Reader", "readOption", "(II)Z"⟩, 10) := ⟨⟨by decide +kernel, by decide +kernel⟩, List.mem_of_getElem? (i := 222) (by decide +kernel), List.mem_of_getElem? (i := 748) (by decide +kernel), List.mem_of_getElem? (i := 749) (by decide +kernel)⟩
theorem lw_p18 : lw_okq (⟨"MoorGuides$Reader", "readParty", "()Z"⟩, 10) := ⟨⟨by decide +kernel, by decide +kernel⟩, List.mem_of_getElem? (i := 222) (by decide +kernel), List.mem_of_getElem? (i := 752) (by decide +kernel), List.mem_of_getElem? (i := 753) (by decide +kernel)⟩
theorem lw_p19 : lw_okq (⟨"MoorGuides$Reader", "readToldPart", "()I"⟩, 10) := ⟨⟨by decide +kernel, by decide +kernel⟩, List.mem_of_getElem? (i := 222) (by decide +kernel), List.mem_of_getElem? (i := 756) (by decide +kernel), List.mem_of_getElem? (i := 757) (by decide +kernel)⟩
theorem lw_p20 : lw_okq (⟨"MoorGuides$Reader", "readWeather", "()Z"⟩, 10) := ⟨⟨by decide +kernel, by decide +kernel⟩, List.mem_of_getElem? (i := 222) (by decide +kernel), List.mem_of_getElem? (i := 764) (by decide +kernel), List.mem_of_getElem? (i := 765) (by decide +kernel)⟩
theorem lw_p21 : lw_okq (⟨"MoorGuides$Reader", "readSlide", "()Z"⟩, 10) := ⟨⟨by decide +kernel, by decide +kernel⟩, List.mem_of_getElem? (i := 222) (by decide +kernel), List.mem_of_getElem? (i := 768) (by decide +kernel), List.mem_of_getElem? (i := 769) (by decide +kernel)⟩
theorem lw_p22 : lw_okq (⟨"MoorGuides$Reader", "readNear", "()Z"⟩, 10) := ⟨⟨by decide +kernel, by decide +kernel⟩, List.mem_of_getElem? (i := 222) (by decide +kernel), List.mem_of_getElem? (i := 776) (by decide +kernel), List.mem_of_getElem? (i := 777) (by decide +kernel)⟩
theorem lw_p23 : lw_okq (⟨"MoorGuides$Reader", "readSeed", "()Z"⟩, 10) := ⟨⟨by decide +kernel, by decide +kernel⟩, List.mem_of_getElem? (i := 222) (by decide +kernel), List.mem_of_getElem? (i := 780) (by decide +kernel), List.mem_of_getElem? (i := 781) (by decide +kernel)⟩
theorem lw_p24 : lw_okq (⟨"MoorGuides$Reader", "pass", "(I)Z"⟩, 10) := ⟨⟨by decide +kernel, by decide +kernel⟩, List.mem_of_getElem? (i := 222) (by decide +kernel), List.mem_of_getElem? (i := 785) (by decide +kernel), List.mem_of_getElem? (i := 786) (by decide +kernel)⟩
theorem lw_p25 : lw_okq (⟨"MoorGuides$Reader", "readLaw", "()Z"⟩, 10) := ⟨⟨by decide +kernel, by decide +kernel⟩, List.mem_of_getElem? (i := 222) (by decide +kernel), List.mem_of_getElem? (i := 789) (by decide +kernel), List.mem_of_getElem? (i := 790) (by decide +kernel)⟩
theorem lw_p26 : lw_okq (⟨"MoorGuides$Reader", "readFormula", "(LMoorGuides$Law;)Z"⟩, 10) := ⟨⟨by decide +kernel, by decide +kernel⟩, List.mem_of_getElem? (i := 222) (by decide +kernel), List.mem_of_getElem? (i := 793) (by decide +kernel), List.mem_of_getElem? (i := 794) (by decide +kernel)⟩
theorem lw_p27 : lw_okq (⟨"MoorGuides$Reader", "release", "(LMoorGuides$Law;I)V"⟩, 10) := ⟨⟨by decide +kernel, by decide +kernel⟩, List.mem_of_getElem? (i := 222) (by decide +kernel), List.mem_of_getElem? (i := 797) (by decide +kernel), List.mem_of_getElem? (i := 798) (by decide +kernel)⟩
theorem lw_p28 : lw_okq (⟨"MoorGuides$Reader", "lastWaiting", "()I"⟩, 10) := ⟨⟨by decide +kernel, by decide +kernel⟩, List.mem_of_getElem? (i := 222) (by decide +kernel), List.mem_of_getElem? (i := 801) (by decide +kernel), List.mem_of_getElem? (i := 802) (by decide +kernel)⟩
theorem lw_p29 : lw_okq (⟨"MoorGuides$Reader", "readBeginning", "(LMoorGuides$Law;)Z"⟩, 10) := ⟨⟨by decide +kernel, by decide +kernel⟩, List.mem_of_getElem? (i := 222) (by decide +kernel), List.mem_of_getElem? (i := 818) (by decide +kernel), List.mem_of_getElem? (i := 819) (by decide +kernel)⟩
theorem lw_p30 : lw_okq (⟨"MoorGuides$Reader", "await", "(I)Z"⟩, 10) := ⟨⟨by decide +kernel, by decide +kernel⟩, List.mem_of_getElem? (i := 222) (by decide +kernel), List.mem_of_getElem? (i := 822) (by decide +kernel), List.mem_of_getElem? (i := 823) (by decide +kernel)⟩
theorem lw_p31 : lw_okq (⟨"MoorGuides$Reader", "countKnot", "()Z"⟩, 10) := ⟨⟨by decide +kernel, by decide +kernel⟩, List.mem_of_getElem? (i := 222) (by decide +kernel), List.mem_of_getElem? (i := 826) (by decide +kernel), List.mem_of_getElem? (i := 827) (by decide +kernel)⟩
def lw_privs_2 : List (MethodName × Nat) := [(⟨"MoorGuides$Reader", "readPerson", "()Z"⟩, 10), (⟨"MoorGuides$Reader", "readOption", "(II)Z"⟩, 10), (⟨"MoorGuides$Reader", "readParty", "()Z"⟩, 10), (⟨"MoorGuides$Reader", "readToldPart", "()I"⟩, 10), (⟨"MoorGuides$Reader", "readWeather", "()Z"⟩, 10), (⟨"MoorGuides$Reader", "readSlide", "()Z"⟩, 10), (⟨"MoorGuides$Reader", "readNear", "()Z"⟩, 10), (⟨"MoorGuides$Reader", "readSeed", "()Z"⟩, 10), (⟨"MoorGuides$Reader", "pass", "(I)Z"⟩, 10), (⟨"MoorGuides$Reader", "readLaw", "()Z"⟩, 10), (⟨"MoorGuides$Reader", "readFormula", "(LMoorGuides$Law;)Z"⟩, 10), (⟨"MoorGuides$Reader", "release", "(LMoorGuides$Law;I)V"⟩, 10), (⟨"MoorGuides$Reader", "lastWaiting", "()I"⟩, 10), (⟨"MoorGuides$Reader", "readBeginning", "(LMoorGuides$Law;)Z"⟩, 10), (⟨"MoorGuides$Reader", "await", "(I)Z"⟩, 10), (⟨"MoorGuides$Reader", "countKnot", "()Z"⟩, 10)]
theorem lw_r2 : ∀ q ∈ lw_privs_2, lw_okq q := List.forall_mem_cons.mpr ⟨lw_p16, List.forall_mem_cons.mpr ⟨lw_p17, List.forall_mem_cons.mpr ⟨lw_p18, List.forall_mem_cons.mpr ⟨lw_p19, List.forall_mem_cons.mpr ⟨lw_p20, List.forall_mem_cons.mpr ⟨lw_p21, List.forall_mem_cons.mpr ⟨lw_p22, List.forall_mem_cons.mpr ⟨lw_p23, List.forall_mem_cons.mpr ⟨lw_p24, List.forall_mem_cons.mpr ⟨lw_p25, List.forall_mem_cons.mpr ⟨lw_p26, List.forall_mem_cons.mpr ⟨lw_p27, List.forall_mem_cons.mpr ⟨lw_p28, List.forall_mem_cons.mpr ⟨lw_p29, List.forall_mem_cons.mpr ⟨lw_p30, List.forall_mem_cons.mpr ⟨lw_p31, fun _ h => absurd h List.not_mem_nil⟩⟩⟩⟩⟩⟩⟩⟩⟩⟩⟩⟩⟩⟩⟩⟩
theorem lw_p32 : lw_okq (⟨"MoorGuides$Reader", "readSign", "(LMoorGuides$Law;)Z"⟩, 10) := ⟨⟨by decide +kernel, by decide +kernel⟩, List.mem_of_getElem? (i := 222) (by decide +kernel), List.mem_of_getElem? (i := 834) (by decide +kernel), List.mem_of_getElem? (i := 835) (by decide +kernel)⟩
theorem lw_p33 : lw_okq (⟨"MoorGuides", "isPart", "(I)Z"⟩, 16) := ⟨⟨by decide +kernel, by decide +kernel⟩, List.mem_of_getElem? (i := 27) (by decide +kernel), List.mem_of_getElem? (i := 863) (by decide +kernel), List.mem_of_getElem? (i := 864) (by decide +kernel)⟩
theorem lw_p34 : lw_okq (⟨"MoorGuides", "isPerson", "(I)Z"⟩, 16) := ⟨⟨by decide +kernel, by decide +kernel⟩, List.mem_of_getElem? (i := 27) (by decide +kernel), List.mem_of_getElem? (i := 887) (by decide +kernel), List.mem_of_getElem? (i := 888) (by decide +kernel)⟩
theorem lw_p35 : lw_okq (⟨"MoorGuides", "isThereTonight", "(I)Z"⟩, 16) := ⟨⟨by decide +kernel, by decide +kernel⟩, List.mem_of_getElem? (i := 27) (by decide +kernel), List.mem_of_getElem? (i := 911) (by decide +kernel), List.mem_of_getElem? (i := 912) (by decide +kernel)⟩
theorem lw_p36 : lw_okq (⟨"MoorGuides$Stand", "aroundTonight", "(II)I"⟩, 11) := ⟨⟨by decide +kernel, by decide +kernel⟩, List.mem_of_getElem? (i := 354) (by decide +kernel), List.mem_of_getElem? (i := 920) (by decide +kernel), List.mem_of_getElem? (i := 921) (by decide +kernel)⟩
theorem lw_p37 : lw_okq (⟨"MoorGuides$Stand", "tellNames", "(IIIII)V"⟩, 11) := ⟨⟨by decide +kernel, by decide +kernel⟩, List.mem_of_getElem? (i := 354) (by decide +kernel), List.mem_of_getElem? (i := 934) (by decide +kernel), List.mem_of_getElem? (i := 935) (by decide +kernel)⟩
theorem lw_p38 : lw_okq (⟨"MoorGuides", "remember", "(II)V"⟩, 16) := ⟨⟨by decide +kernel, by decide +kernel⟩, List.mem_of_getElem? (i := 27) (by decide +kernel), List.mem_of_getElem? (i := 975) (by decide +kernel), List.mem_of_getElem? (i := 976) (by decide +kernel)⟩
theorem lw_p39 : lw_okq (⟨"MoorGuides$Stand", "spend", "(II)V"⟩, 11) := ⟨⟨by decide +kernel, by decide +kernel⟩, List.mem_of_getElem? (i := 354) (by decide +kernel), List.mem_of_getElem? (i := 990) (by decide +kernel), List.mem_of_getElem? (i := 991) (by decide +kernel)⟩
theorem lw_p40 : lw_okq (⟨"MoorGuides$Stand", "isSpoilt", "(II)Z"⟩, 11) := ⟨⟨by decide +kernel, by decide +kernel⟩, List.mem_of_getElem? (i := 354) (by decide +kernel), List.mem_of_getElem? (i := 998) (by decide +kernel), List.mem_of_getElem? (i := 999) (by decide +kernel)⟩
theorem lw_p41 : lw_okq (⟨"MoorGuides", "isParty", "(I)Z"⟩, 16) := ⟨⟨by decide +kernel, by decide +kernel⟩, List.mem_of_getElem? (i := 27) (by decide +kernel), List.mem_of_getElem? (i := 1016) (by decide +kernel), List.mem_of_getElem? (i := 1017) (by decide +kernel)⟩
theorem lw_p42 : lw_okq (⟨"MoorGuides$Leading", "measure", "(I)V"⟩, 9) := ⟨⟨by decide +kernel, by decide +kernel⟩, List.mem_of_getElem? (i := 420) (by decide +kernel), List.mem_of_getElem? (i := 1025) (by decide +kernel), List.mem_of_getElem? (i := 1026) (by decide +kernel)⟩
theorem lw_p43 : lw_okq (⟨"MoorGuides$Leading", "isKnown", "(II)Z"⟩, 9) := ⟨⟨by decide +kernel, by decide +kernel⟩, List.mem_of_getElem? (i := 420) (by decide +kernel), List.mem_of_getElem? (i := 1030) (by decide +kernel), List.mem_of_getElem? (i := 1031) (by decide +kernel)⟩
theorem lw_p44 : lw_okq (⟨"MoorGuides$Leading", "shorten", "(I)Z"⟩, 9) := ⟨⟨by decide +kernel, by decide +kernel⟩, List.mem_of_getElem? (i := 420) (by decide +kernel), List.mem_of_getElem? (i := 1034) (by decide +kernel), List.mem_of_getElem? (i := 1035) (by decide +kernel)⟩
theorem lw_p45 : lw_okq (⟨"MoorGuides$Leading", "leastBehind", "(II)I"⟩, 9) := ⟨⟨by decide +kernel, by decide +kernel⟩, List.mem_of_getElem? (i := 420) (by decide +kernel), List.mem_of_getElem? (i := 1038) (by decide +kernel), List.mem_of_getElem? (i := 1039) (by decide +kernel)⟩
theorem lw_p46 : lw_okq (⟨"MoorGuides$Leading", "followParts", "(II)V"⟩, 9) := ⟨⟨by decide +kernel, by decide +kernel⟩, List.mem_of_getElem? (i := 420) (by decide +kernel), List.mem_of_getElem? (i := 1043) (by decide +kernel), List.mem_of_getElem? (i := 1044) (by decide +kernel)⟩
theorem lw_p47 : lw_okq (⟨"MoorGuides$Leading", "chooseNext", "(I)V"⟩, 9) := ⟨⟨by decide +kernel, by decide +kernel⟩, List.mem_of_getElem? (i := 420) (by decide +kernel), List.mem_of_getElem? (i := 1047) (by decide +kernel), List.mem_of_getElem? (i := 1048) (by decide +kernel)⟩
def lw_privs_3 : List (MethodName × Nat) := [(⟨"MoorGuides$Reader", "readSign", "(LMoorGuides$Law;)Z"⟩, 10), (⟨"MoorGuides", "isPart", "(I)Z"⟩, 16), (⟨"MoorGuides", "isPerson", "(I)Z"⟩, 16), (⟨"MoorGuides", "isThereTonight", "(I)Z"⟩, 16), (⟨"MoorGuides$Stand", "aroundTonight", "(II)I"⟩, 11), (⟨"MoorGuides$Stand", "tellNames", "(IIIII)V"⟩, 11), (⟨"MoorGuides", "remember", "(II)V"⟩, 16), (⟨"MoorGuides$Stand", "spend", "(II)V"⟩, 11), (⟨"MoorGuides$Stand", "isSpoilt", "(II)Z"⟩, 11), (⟨"MoorGuides", "isParty", "(I)Z"⟩, 16), (⟨"MoorGuides$Leading", "measure", "(I)V"⟩, 9), (⟨"MoorGuides$Leading", "isKnown", "(II)Z"⟩, 9), (⟨"MoorGuides$Leading", "shorten", "(I)Z"⟩, 9), (⟨"MoorGuides$Leading", "leastBehind", "(II)I"⟩, 9), (⟨"MoorGuides$Leading", "followParts", "(II)V"⟩, 9), (⟨"MoorGuides$Leading", "chooseNext", "(I)V"⟩, 9)]
theorem lw_r3 : ∀ q ∈ lw_privs_3, lw_okq q := List.forall_mem_cons.mpr ⟨lw_p32, List.forall_mem_cons.mpr ⟨lw_p33, List.forall_mem_cons.mpr ⟨lw_p34, List.forall_mem_cons.mpr ⟨lw_p35, List.forall_mem_cons.mpr ⟨lw_p36, List.forall_mem_cons.mpr ⟨lw_p37, List.forall_mem_cons.mpr ⟨lw_p38, List.forall_mem_cons.mpr ⟨lw_p39, List.forall_mem_cons.mpr ⟨lw_p40, List.forall_mem_cons.mpr ⟨lw_p41, List.forall_mem_cons.mpr ⟨lw_p42, List.forall_mem_cons.mpr ⟨lw_p43, List.forall_mem_cons.mpr ⟨lw_p44, List.forall_mem_cons.mpr ⟨lw_p45, List.forall_mem_cons.mpr ⟨lw_p46, List.forall_mem_cons.mpr ⟨lw_p47, fun _ h => absurd h List.not_mem_nil⟩⟩⟩⟩⟩⟩⟩⟩⟩⟩⟩⟩⟩⟩⟩⟩
theorem lw_p48 : lw_okq (⟨"MoorGuides$Leading", "ableBehind", "(III)I"⟩, 9) := ⟨⟨by decide +kernel, by decide +kernel⟩, List.mem_of_getElem? (i := 420) (by decide +kernel), List.mem_of_getElem? (i := 1051) (by decide +kernel), List.mem_of_getElem? (i := 1052) (by decide +kernel)⟩
theorem lw_p49 : lw_okq (⟨"MoorGuides$Leading", "isBest", "(IIII)Z"⟩, 9) := ⟨⟨by decide +kernel, by decide +kernel⟩, List.mem_of_getElem? (i := 420) (by decide +kernel), List.mem_of_getElem? (i := 1055) (by decide +kernel), List.mem_of_getElem? (i := 1056) (by decide +kernel)⟩
theorem lw_p50 : lw_okq (⟨"MoorGuides$Leading", "nameGuides", "()V"⟩, 9) := ⟨⟨by decide +kernel, by decide +kernel⟩, List.mem_of_getElem? (i := 420) (by decide +kernel), List.mem_of_getElem? (i := 1059) (by decide +kernel), List.mem_of_getElem? (i := 1060) (by decide +kernel)⟩
theorem lw_p51 : lw_okq (⟨"MoorGuides$Leading", "leastGuide", "(III)I"⟩, 9) := ⟨⟨by decide +kernel, by decide +kernel⟩, List.mem_of_getElem? (i := 420) (by decide +kernel), List.mem_of_getElem? (i := 1063) (by decide +kernel), List.mem_of_getElem? (i := 1064) (by decide +kernel)⟩
theorem lw_p52 : lw_okq (⟨"MoorGuides$Sharing", "nameLeaders", "(II)V"⟩, 5) := ⟨⟨by decide +kernel, by decide +kernel⟩, List.mem_of_getElem? (i := 459) (by decide +kernel), List.mem_of_getElem? (i := 1087) (by decide +kernel), List.mem_of_getElem? (i := 1088) (by decide +kernel)⟩
theorem lw_p53 : lw_okq (⟨"MoorGuides$Sharing", "mostFrom", "(III)I"⟩, 5) := ⟨⟨by decide +kernel, by decide +kernel⟩, List.mem_of_getElem? (i := 459) (by decide +kernel), List.mem_of_getElem? (i := 1096) (by decide +kernel), List.mem_of_getElem? (i := 1097) (by decide +kernel)⟩
theorem lw_p54 : lw_okq (⟨"MoorGuides$Sharing", "nameGuides", "(LMoorGuides$Moor;)V"⟩, 5) := ⟨⟨by decide +kernel, by decide +kernel⟩, List.mem_of_getElem? (i := 459) (by decide +kernel), List.mem_of_getElem? (i := 1101) (by decide +kernel), List.mem_of_getElem? (i := 1102) (by decide +kernel)⟩
theorem lw_p55 : lw_okq (⟨"MoorGuides", "isPartSet", "(I)Z"⟩, 16) := ⟨⟨by decide +kernel, by decide +kernel⟩, List.mem_of_getElem? (i := 27) (by decide +kernel), List.mem_of_getElem? (i := 1117) (by decide +kernel), List.mem_of_getElem? (i := 1118) (by decide +kernel)⟩
theorem lw_p56 : lw_okq (⟨"MoorGuides$Sharing", "areLed", "(LMoorGuides$Moor;II)Z"⟩, 5) := ⟨⟨by decide +kernel, by decide +kernel⟩, List.mem_of_getElem? (i := 459) (by decide +kernel), List.mem_of_getElem? (i := 1141) (by decide +kernel), List.mem_of_getElem? (i := 1142) (by decide +kernel)⟩
theorem lw_p57 : lw_okq (⟨"MoorGuides", "isOrder", "(II)Z"⟩, 16) := ⟨⟨by decide +kernel, by decide +kernel⟩, List.mem_of_getElem? (i := 27) (by decide +kernel), List.mem_of_getElem? (i := 1150) (by decide +kernel), List.mem_of_getElem? (i := 1151) (by decide +kernel)⟩
theorem lw_p58 : lw_okq (⟨"MoorGuides$Ordering", "prepare", "(I)V"⟩, 13) := ⟨⟨by decide +kernel, by decide +kernel⟩, List.mem_of_getElem? (i := 483) (by decide +kernel), List.mem_of_getElem? (i := 1161) (by decide +kernel), List.mem_of_getElem? (i := 1162) (by decide +kernel)⟩
theorem lw_p59 : lw_okq (⟨"MoorGuides$Ordering", "fillChances", "(II)V"⟩, 13) := ⟨⟨by decide +kernel, by decide +kernel⟩, List.mem_of_getElem? (i := 483) (by decide +kernel), List.mem_of_getElem? (i := 1172) (by decide +kernel), List.mem_of_getElem? (i := 1173) (by decide +kernel)⟩
theorem lw_p60 : lw_okq (⟨"MoorGuides$Ordering", "mostFrom", "(I)J"⟩, 13) := ⟨⟨by decide +kernel, by decide +kernel⟩, List.mem_of_getElem? (i := 483) (by decide +kernel), List.mem_of_getElem? (i := 1180) (by decide +kernel), List.mem_of_getElem? (i := 1181) (by decide +kernel)⟩
theorem lw_p61 : lw_okq (⟨"MoorGuides$Ordering", "freshAt", "(I)I"⟩, 13) := ⟨⟨by decide +kernel, by decide +kernel⟩, List.mem_of_getElem? (i := 483) (by decide +kernel), List.mem_of_getElem? (i := 1184) (by decide +kernel), List.mem_of_getElem? (i := 1185) (by decide +kernel)⟩
theorem lw_p62 : lw_okq (⟨"MoorGuides$Ordering", "chanceAtMost", "(IIII)J"⟩, 13) := ⟨⟨by decide +kernel, by decide +kernel⟩, List.mem_of_getElem? (i := 483) (by decide +kernel), List.mem_of_getElem? (i := 1188) (by decide +kernel), List.mem_of_getElem? (i := 1189) (by decide +kernel)⟩
theorem lw_p63 : lw_okq (⟨"MoorGuides$Ordering", "goOn", "(IIJ)V"⟩, 13) := ⟨⟨by decide +kernel, by decide +kernel⟩, List.mem_of_getElem? (i := 483) (by decide +kernel), List.mem_of_getElem? (i := 1196) (by decide +kernel), List.mem_of_getElem? (i := 1197) (by decide +kernel)⟩
def lw_privs_4 : List (MethodName × Nat) := [(⟨"MoorGuides$Leading", "ableBehind", "(III)I"⟩, 9), (⟨"MoorGuides$Leading", "isBest", "(IIII)Z"⟩, 9), (⟨"MoorGuides$Leading", "nameGuides", "()V"⟩, 9), (⟨"MoorGuides$Leading", "leastGuide", "(III)I"⟩, 9), (⟨"MoorGuides$Sharing", "nameLeaders", "(II)V"⟩, 5), (⟨"MoorGuides$Sharing", "mostFrom", "(III)I"⟩, 5), (⟨"MoorGuides$Sharing", "nameGuides", "(LMoorGuides$Moor;)V"⟩, 5), (⟨"MoorGuides", "isPartSet", "(I)Z"⟩, 16), (⟨"MoorGuides$Sharing", "areLed", "(LMoorGuides$Moor;II)Z"⟩, 5), (⟨"MoorGuides", "isOrder", "(II)Z"⟩, 16), (⟨"MoorGuides$Ordering", "prepare", "(I)V"⟩, 13), (⟨"MoorGuides$Ordering", "fillChances", "(II)V"⟩, 13), (⟨"MoorGuides$Ordering", "mostFrom", "(I)J"⟩, 13), (⟨"MoorGuides$Ordering", "freshAt", "(I)I"⟩, 13), (⟨"MoorGuides$Ordering", "chanceAtMost", "(IIII)J"⟩, 13), (⟨"MoorGuides$Ordering", "goOn", "(IIJ)V"⟩, 13)]
theorem lw_r4 : ∀ q ∈ lw_privs_4, lw_okq q := List.forall_mem_cons.mpr ⟨lw_p48, List.forall_mem_cons.mpr ⟨lw_p49, List.forall_mem_cons.mpr ⟨lw_p50, List.forall_mem_cons.mpr ⟨lw_p51, List.forall_mem_cons.mpr ⟨lw_p52, List.forall_mem_cons.mpr ⟨lw_p53, List.forall_mem_cons.mpr ⟨lw_p54, List.forall_mem_cons.mpr ⟨lw_p55, List.forall_mem_cons.mpr ⟨lw_p56, List.forall_mem_cons.mpr ⟨lw_p57, List.forall_mem_cons.mpr ⟨lw_p58, List.forall_mem_cons.mpr ⟨lw_p59, List.forall_mem_cons.mpr ⟨lw_p60, List.forall_mem_cons.mpr ⟨lw_p61, List.forall_mem_cons.mpr ⟨lw_p62, List.forall_mem_cons.mpr ⟨lw_p63, fun _ h => absurd h List.not_mem_nil⟩⟩⟩⟩⟩⟩⟩⟩⟩⟩⟩⟩⟩⟩⟩⟩
theorem lw_p64 : lw_okq (⟨"MoorGuides$Ordering", "knownAt", "(II)I"⟩, 13) := ⟨⟨by decide +kernel, by decide +kernel⟩, List.mem_of_getElem? (i := 483) (by decide +kernel), List.mem_of_getElem? (i := 1201) (by decide +kernel), List.mem_of_getElem? (i := 1202) (by decide +kernel)⟩
theorem lw_p65 : lw_okq (⟨"MoorGuides$Ordering", "divisor", "()J"⟩, 13) := ⟨⟨by decide +kernel, by decide +kernel⟩, List.mem_of_getElem? (i := 483) (by decide +kernel), List.mem_of_getElem? (i := 1209) (by decide +kernel), List.mem_of_getElem? (i := 1210) (by decide +kernel)⟩
theorem lw_p66 : lw_okq (⟨"MoorGuides$Ordering", "hundreds", "()J"⟩, 13) := ⟨⟨by decide +kernel, by decide +kernel⟩, List.mem_of_getElem? (i := 483) (by decide +kernel), List.mem_of_getElem? (i := 1213) (by decide +kernel), List.mem_of_getElem? (i := 1214) (by decide +kernel)⟩
theorem lw_p67 : lw_okq (⟨"MoorGuides$Masters", "leadParties", "()V"⟩, 5) := ⟨⟨by decide +kernel, by decide +kernel⟩, List.mem_of_getElem? (i := 532) (by decide +kernel), List.mem_of_getElem? (i := 1263) (by decide +kernel), List.mem_of_getElem? (i := 1264) (by decide +kernel)⟩
theorem lw_p68 : lw_okq (⟨"MoorGuides$Claims", "clash", "(LMoorGuides$Moor;II)Z"⟩, 5) := ⟨⟨by decide +kernel, by decide +kernel⟩, List.mem_of_getElem? (i := 560) (by decide +kernel), List.mem_of_getElem? (i := 1283) (by decide +kernel), List.mem_of_getElem? (i := 1284) (by decide +kernel)⟩
theorem lw_p69 : lw_okq (⟨"MoorGuides$Claims", "othersCanBe", "(I)Z"⟩, 5) := ⟨⟨by decide +kernel, by decide +kernel⟩, List.mem_of_getElem? (i := 560) (by decide +kernel), List.mem_of_getElem? (i := 1297) (by decide +kernel), List.mem_of_getElem? (i := 1298) (by decide +kernel)⟩
theorem lw_p70 : lw_okq (⟨"java/lang/Throwable", "fillInStackTrace", "(I)Ljava/lang/Throwable;"⟩, 6) := ⟨⟨by decide +kernel, by decide +kernel⟩, List.mem_of_getElem? (i := 1377) (by decide +kernel), List.mem_of_getElem? (i := 1375) (by decide +kernel), List.mem_of_getElem? (i := 1376) (by decide +kernel)⟩
theorem lw_p71 : lw_okq (⟨"MoorGuidesModel", "plain", "()V"⟩, 108) := ⟨⟨by decide +kernel, by decide +kernel⟩, List.mem_of_getElem? (i := 1422) (by decide +kernel), List.mem_of_getElem? (i := 1428) (by decide +kernel), List.mem_of_getElem? (i := 1429) (by decide +kernel)⟩
theorem lw_p72 : lw_okq (⟨"MoorGuidesModel", "keepText", "()V"⟩, 108) := ⟨⟨by decide +kernel, by decide +kernel⟩, List.mem_of_getElem? (i := 1422) (by decide +kernel), List.mem_of_getElem? (i := 1432) (by decide +kernel), List.mem_of_getElem? (i := 1433) (by decide +kernel)⟩
theorem lw_p73 : lw_okq (⟨"MoorGuidesModel", "begin", "()V"⟩, 108) := ⟨⟨by decide +kernel, by decide +kernel⟩, List.mem_of_getElem? (i := 1422) (by decide +kernel), List.mem_of_getElem? (i := 1439) (by decide +kernel), List.mem_of_getElem? (i := 1440) (by decide +kernel)⟩
theorem lw_p74 : lw_okq (⟨"MoorGuidesModel", "laySteps", "()V"⟩, 108) := ⟨⟨by decide +kernel, by decide +kernel⟩, List.mem_of_getElem? (i := 1422) (by decide +kernel), List.mem_of_getElem? (i := 1446) (by decide +kernel), List.mem_of_getElem? (i := 1447) (by decide +kernel)⟩
theorem lw_p75 : lw_okq (⟨"MoorGuidesModel", "layWays", "([II)V"⟩, 108) := ⟨⟨by decide +kernel, by decide +kernel⟩, List.mem_of_getElem? (i := 1422) (by decide +kernel), List.mem_of_getElem? (i := 1450) (by decide +kernel), List.mem_of_getElem? (i := 1451) (by decide +kernel)⟩
theorem lw_p76 : lw_okq (⟨"MoorGuidesModel", "token", "()V"⟩, 108) := ⟨⟨by decide +kernel, by decide +kernel⟩, List.mem_of_getElem? (i := 1422) (by decide +kernel), List.mem_of_getElem? (i := 1792) (by decide +kernel), List.mem_of_getElem? (i := 1793) (by decide +kernel)⟩
theorem lw_p77 : lw_okq (⟨"MoorGuidesModel", "isSmall", "(I)Z"⟩, 108) := ⟨⟨by decide +kernel, by decide +kernel⟩, List.mem_of_getElem? (i := 1422) (by decide +kernel), List.mem_of_getElem? (i := 1796) (by decide +kernel), List.mem_of_getElem? (i := 1797) (by decide +kernel)⟩
theorem lw_p78 : lw_okq (⟨"MoorGuidesModel", "wordAt", "(II)I"⟩, 108) := ⟨⟨by decide +kernel, by decide +kernel⟩, List.mem_of_getElem? (i := 1422) (by decide +kernel), List.mem_of_getElem? (i := 1800) (by decide +kernel), List.mem_of_getElem? (i := 1801) (by decide +kernel)⟩
theorem lw_p79 : lw_okq (⟨"MoorGuidesModel", "packed", "(II)I"⟩, 108) := ⟨⟨by decide +kernel, by decide +kernel⟩, List.mem_of_getElem? (i := 1422) (by decide +kernel), List.mem_of_getElem? (i := 1804) (by decide +kernel), List.mem_of_getElem? (i := 1805) (by decide +kernel)⟩
def lw_privs_5 : List (MethodName × Nat) := [(⟨"MoorGuides$Ordering", "knownAt", "(II)I"⟩, 13), (⟨"MoorGuides$Ordering", "divisor", "()J"⟩, 13), (⟨"MoorGuides$Ordering", "hundreds", "()J"⟩, 13), (⟨"MoorGuides$Masters", "leadParties", "()V"⟩, 5), (⟨"MoorGuides$Claims", "clash", "(LMoorGuides$Moor;II)Z"⟩, 5), (⟨"MoorGuides$Claims", "othersCanBe", "(I)Z"⟩, 5), (⟨"java/lang/Throwable", "fillInStackTrace", "(I)Ljava/lang/Throwable;"⟩, 6), (⟨"MoorGuidesModel", "plain", "()V"⟩, 108), (⟨"MoorGuidesModel", "keepText", "()V"⟩, 108), (⟨"MoorGuidesModel", "begin", "()V"⟩, 108), (⟨"MoorGuidesModel", "laySteps", "()V"⟩, 108), (⟨"MoorGuidesModel", "layWays", "([II)V"⟩, 108), (⟨"MoorGuidesModel", "token", "()V"⟩, 108), (⟨"MoorGuidesModel", "isSmall", "(I)Z"⟩, 108), (⟨"MoorGuidesModel", "wordAt", "(II)I"⟩, 108), (⟨"MoorGuidesModel", "packed", "(II)I"⟩, 108)]
theorem lw_r5 : ∀ q ∈ lw_privs_5, lw_okq q := List.forall_mem_cons.mpr ⟨lw_p64, List.forall_mem_cons.mpr ⟨lw_p65, List.forall_mem_cons.mpr ⟨lw_p66, List.forall_mem_cons.mpr ⟨lw_p67, List.forall_mem_cons.mpr ⟨lw_p68, List.forall_mem_cons.mpr ⟨lw_p69, List.forall_mem_cons.mpr ⟨lw_p70, List.forall_mem_cons.mpr ⟨lw_p71, List.forall_mem_cons.mpr ⟨lw_p72, List.forall_mem_cons.mpr ⟨lw_p73, List.forall_mem_cons.mpr ⟨lw_p74, List.forall_mem_cons.mpr ⟨lw_p75, List.forall_mem_cons.mpr ⟨lw_p76, List.forall_mem_cons.mpr ⟨lw_p77, List.forall_mem_cons.mpr ⟨lw_p78, List.forall_mem_cons.mpr ⟨lw_p79, fun _ h => absurd h List.not_mem_nil⟩⟩⟩⟩⟩⟩⟩⟩⟩⟩⟩⟩⟩⟩⟩⟩
theorem lw_p80 : lw_okq (⟨"MoorGuidesModel", "isDigit", "(I)Z"⟩, 108) := ⟨⟨by decide +kernel, by decide +kernel⟩, List.mem_of_getElem? (i := 1422) (by decide +kernel), List.mem_of_getElem? (i := 1808) (by decide +kernel), List.mem_of_getElem? (i := 1809) (by decide +kernel)⟩
theorem lw_p81 : lw_okq (⟨"MoorGuidesModel", "signToken", "()V"⟩, 108) := ⟨⟨by decide +kernel, by decide +kernel⟩, List.mem_of_getElem? (i := 1422) (by decide +kernel), List.mem_of_getElem? (i := 1813) (by decide +kernel), List.mem_of_getElem? (i := 1814) (by decide +kernel)⟩
theorem lw_p82 : lw_okq (⟨"MoorGuidesModel", "lineRead", "()Z"⟩, 108) := ⟨⟨by decide +kernel, by decide +kernel⟩, List.mem_of_getElem? (i := 1422) (by decide +kernel), List.mem_of_getElem? (i := 1817) (by decide +kernel), List.mem_of_getElem? (i := 1818) (by decide +kernel)⟩
theorem lw_p83 : lw_okq (⟨"MoorGuidesModel", "wrong", "(I)Z"⟩, 108) := ⟨⟨by decide +kernel, by decide +kernel⟩, List.mem_of_getElem? (i := 1422) (by decide +kernel), List.mem_of_getElem? (i := 1821) (by decide +kernel), List.mem_of_getElem? (i := 1822) (by decide +kernel)⟩
theorem lw_p84 : lw_okq (⟨"MoorGuidesModel", "partLine", "()Z"⟩, 108) := ⟨⟨by decide +kernel, by decide +kernel⟩, List.mem_of_getElem? (i := 1422) (by decide +kernel), List.mem_of_getElem? (i := 1825) (by decide +kernel), List.mem_of_getElem? (i := 1826) (by decide +kernel)⟩
theorem lw_p85 : lw_okq (⟨"MoorGuidesModel", "newName", "([III)Z"⟩, 108) := ⟨⟨by decide +kernel, by decide +kernel⟩, List.mem_of_getElem? (i := 1422) (by decide +kernel), List.mem_of_getElem? (i := 1829) (by decide +kernel), List.mem_of_getElem? (i := 1830) (by decide +kernel)⟩
theorem lw_p86 : lw_okq (⟨"MoorGuidesModel", "number", "(II)Z"⟩, 108) := ⟨⟨by decide +kernel, by decide +kernel⟩, List.mem_of_getElem? (i := 1422) (by decide +kernel), List.mem_of_getElem? (i := 1836) (by decide +kernel), List.mem_of_getElem? (i := 1837) (by decide +kernel)⟩
theorem lw_p87 : lw_okq (⟨"MoorGuidesModel", "isKey", "(I)Z"⟩, 108) := ⟨⟨by decide +kernel, by decide +kernel⟩, List.mem_of_getElem? (i := 1422) (by decide +kernel), List.mem_of_getElem? (i := 1843) (by decide +kernel), List.mem_of_getElem? (i := 1844) (by decide +kernel)⟩
theorem lw_p88 : lw_okq (⟨"MoorGuidesModel", "partMet", "()Z"⟩, 108) := ⟨⟨by decide +kernel, by decide +kernel⟩, List.mem_of_getElem? (i := 1422) (by decide +kernel), List.mem_of_getElem? (i := 1847) (by decide +kernel), List.mem_of_getElem? (i := 1848) (by decide +kernel)⟩
theorem lw_p89 : lw_okq (⟨"MoorGuidesModel", "personLine", "()Z"⟩, 108) := ⟨⟨by decide +kernel, by decide +kernel⟩, List.mem_of_getElem? (i := 1422) (by decide +kernel), List.mem_of_getElem? (i := 1851) (by decide +kernel), List.mem_of_getElem? (i := 1852) (by decide +kernel)⟩
theorem lw_p90 : lw_okq (⟨"MoorGuidesModel", "knowsRead", "(I)Z"⟩, 108) := ⟨⟨by decide +kernel, by decide +kernel⟩, List.mem_of_getElem? (i := 1422) (by decide +kernel), List.mem_of_getElem? (i := 1855) (by decide +kernel), List.mem_of_getElem? (i := 1856) (by decide +kernel)⟩
theorem lw_p91 : lw_okq (⟨"MoorGuidesModel", "partyLine", "()Z"⟩, 108) := ⟨⟨by decide +kernel, by decide +kernel⟩, List.mem_of_getElem? (i := 1422) (by decide +kernel), List.mem_of_getElem? (i := 1859) (by decide +kernel), List.mem_of_getElem? (i := 1860) (by decide +kernel)⟩
theorem lw_p92 : lw_okq (⟨"MoorGuidesModel", "partRead1", "()Z"⟩, 108) := ⟨⟨by decide +kernel, by decide +kernel⟩, List.mem_of_getElem? (i := 1422) (by decide +kernel), List.mem_of_getElem? (i := 1863) (by decide +kernel), List.mem_of_getElem? (i := 1864) (by decide +kernel)⟩
theorem lw_p93 : lw_okq (⟨"MoorGuidesModel", "weatherLine", "()Z"⟩, 108) := ⟨⟨by decide +kernel, by decide +kernel⟩, List.mem_of_getElem? (i := 1422) (by decide +kernel), List.mem_of_getElem? (i := 1867) (by decide +kernel), List.mem_of_getElem? (i := 1868) (by decide +kernel)⟩
theorem lw_p94 : lw_okq (⟨"MoorGuidesModel", "slideLine", "()Z"⟩, 108) := ⟨⟨by decide +kernel, by decide +kernel⟩, List.mem_of_getElem? (i := 1422) (by decide +kernel), List.mem_of_getElem? (i := 1871) (by decide +kernel), List.mem_of_getElem? (i := 1872) (by decide +kernel)⟩
theorem lw_p95 : lw_okq (⟨"MoorGuidesModel", "lawLine", "()Z"⟩, 108) := ⟨⟨by decide +kernel, by decide +kernel⟩, List.mem_of_getElem? (i := 1422) (by decide +kernel), List.mem_of_getElem? (i := 1875) (by decide +kernel), List.mem_of_getElem? (i := 1876) (by decide +kernel)⟩
def lw_privs_6 : List (MethodName × Nat) := [(⟨"MoorGuidesModel", "isDigit", "(I)Z"⟩, 108), (⟨"MoorGuidesModel", "signToken", "()V"⟩, 108), (⟨"MoorGuidesModel", "lineRead", "()Z"⟩, 108), (⟨"MoorGuidesModel", "wrong", "(I)Z"⟩, 108), (⟨"MoorGuidesModel", "partLine", "()Z"⟩, 108), (⟨"MoorGuidesModel", "newName", "([III)Z"⟩, 108), (⟨"MoorGuidesModel", "number", "(II)Z"⟩, 108), (⟨"MoorGuidesModel", "isKey", "(I)Z"⟩, 108), (⟨"MoorGuidesModel", "partMet", "()Z"⟩, 108), (⟨"MoorGuidesModel", "personLine", "()Z"⟩, 108), (⟨"MoorGuidesModel", "knowsRead", "(I)Z"⟩, 108), (⟨"MoorGuidesModel", "partyLine", "()Z"⟩, 108), (⟨"MoorGuidesModel", "partRead1", "()Z"⟩, 108), (⟨"MoorGuidesModel", "weatherLine", "()Z"⟩, 108), (⟨"MoorGuidesModel", "slideLine", "()Z"⟩, 108), (⟨"MoorGuidesModel", "lawLine", "()Z"⟩, 108)]
theorem lw_r6 : ∀ q ∈ lw_privs_6, lw_okq q := List.forall_mem_cons.mpr ⟨lw_p80, List.forall_mem_cons.mpr ⟨lw_p81, List.forall_mem_cons.mpr ⟨lw_p82, List.forall_mem_cons.mpr ⟨lw_p83, List.forall_mem_cons.mpr ⟨lw_p84, List.forall_mem_cons.mpr ⟨lw_p85, List.forall_mem_cons.mpr ⟨lw_p86, List.forall_mem_cons.mpr ⟨lw_p87, List.forall_mem_cons.mpr ⟨lw_p88, List.forall_mem_cons.mpr ⟨lw_p89, List.forall_mem_cons.mpr ⟨lw_p90, List.forall_mem_cons.mpr ⟨lw_p91, List.forall_mem_cons.mpr ⟨lw_p92, List.forall_mem_cons.mpr ⟨lw_p93, List.forall_mem_cons.mpr ⟨lw_p94, List.forall_mem_cons.mpr ⟨lw_p95, fun _ h => absurd h List.not_mem_nil⟩⟩⟩⟩⟩⟩⟩⟩⟩⟩⟩⟩⟩⟩⟩⟩
theorem lw_p96 : lw_okq (⟨"MoorGuidesModel", "sumRead", "()Z"⟩, 108) := ⟨⟨by decide +kernel, by decide +kernel⟩, List.mem_of_getElem? (i := 1422) (by decide +kernel), List.mem_of_getElem? (i := 1879) (by decide +kernel), List.mem_of_getElem? (i := 1880) (by decide +kernel)⟩
theorem lw_p97 : lw_okq (⟨"MoorGuidesModel", "isSign", "(I)Z"⟩, 108) := ⟨⟨by decide +kernel, by decide +kernel⟩, List.mem_of_getElem? (i := 1422) (by decide +kernel), List.mem_of_getElem? (i := 1883) (by decide +kernel), List.mem_of_getElem? (i := 1884) (by decide +kernel)⟩
theorem lw_p98 : lw_okq (⟨"MoorGuidesModel", "leafRead", "()Z"⟩, 108) := ⟨⟨by decide +kernel, by decide +kernel⟩, List.mem_of_getElem? (i := 1422) (by decide +kernel), List.mem_of_getElem? (i := 1887) (by decide +kernel), List.mem_of_getElem? (i := 1888) (by decide +kernel)⟩
theorem lw_p99 : lw_okq (⟨"MoorGuidesModel", "waitsFor", "(I)V"⟩, 108) := ⟨⟨by decide +kernel, by decide +kernel⟩, List.mem_of_getElem? (i := 1422) (by decide +kernel), List.mem_of_getElem? (i := 1891) (by decide +kernel), List.mem_of_getElem? (i := 1892) (by decide +kernel)⟩
theorem lw_p100 : lw_okq (⟨"MoorGuidesModel", "isCounted", "()Z"⟩, 108) := ⟨⟨by decide +kernel, by decide +kernel⟩, List.mem_of_getElem? (i := 1422) (by decide +kernel), List.mem_of_getElem? (i := 1895) (by decide +kernel), List.mem_of_getElem? (i := 1896) (by decide +kernel)⟩
theorem lw_p101 : lw_okq (⟨"MoorGuidesModel", "nameMet", "()I"⟩, 108) := ⟨⟨by decide +kernel, by decide +kernel⟩, List.mem_of_getElem? (i := 1422) (by decide +kernel), List.mem_of_getElem? (i := 1899) (by decide +kernel), List.mem_of_getElem? (i := 1900) (by decide +kernel)⟩
theorem lw_p102 : lw_okq (⟨"MoorGuidesModel", "grown", "(III)V"⟩, 108) := ⟨⟨by decide +kernel, by decide +kernel⟩, List.mem_of_getElem? (i := 1422) (by decide +kernel), List.mem_of_getElem? (i := 1903) (by decide +kernel), List.mem_of_getElem? (i := 1904) (by decide +kernel)⟩
theorem lw_p103 : lw_okq (⟨"MoorGuidesModel", "signs", "()Z"⟩, 108) := ⟨⟨by decide +kernel, by decide +kernel⟩, List.mem_of_getElem? (i := 1422) (by decide +kernel), List.mem_of_getElem? (i := 1907) (by decide +kernel), List.mem_of_getElem? (i := 1908) (by decide +kernel)⟩
theorem lw_p104 : lw_okq (⟨"MoorGuidesModel", "bind", "(I)V"⟩, 108) := ⟨⟨by decide +kernel, by decide +kernel⟩, List.mem_of_getElem? (i := 1422) (by decide +kernel), List.mem_of_getElem? (i := 1911) (by decide +kernel), List.mem_of_getElem? (i := 1912) (by decide +kernel)⟩
theorem lw_p105 : lw_okq (⟨"MoorGuidesModel", "dropHeld", "()I"⟩, 108) := ⟨⟨by decide +kernel, by decide +kernel⟩, List.mem_of_getElem? (i := 1422) (by decide +kernel), List.mem_of_getElem? (i := 1918) (by decide +kernel), List.mem_of_getElem? (i := 1919) (by decide +kernel)⟩
theorem lw_p106 : lw_okq (⟨"MoorGuidesModel", "isPerson", "(I)Z"⟩, 108) := ⟨⟨by decide +kernel, by decide +kernel⟩, List.mem_of_getElem? (i := 1422) (by decide +kernel), List.mem_of_getElem? (i := 1934) (by decide +kernel), List.mem_of_getElem? (i := 1935) (by decide +kernel)⟩
theorem lw_p107 : lw_okq (⟨"MoorGuidesModel", "fails", "(I)I"⟩, 108) := ⟨⟨by decide +kernel, by decide +kernel⟩, List.mem_of_getElem? (i := 1422) (by decide +kernel), List.mem_of_getElem? (i := 1938) (by decide +kernel), List.mem_of_getElem? (i := 1939) (by decide +kernel)⟩
theorem lw_p108 : lw_okq (⟨"MoorGuidesModel", "isThere", "(III)Z"⟩, 108) := ⟨⟨by decide +kernel, by decide +kernel⟩, List.mem_of_getElem? (i := 1422) (by decide +kernel), List.mem_of_getElem? (i := 1942) (by decide +kernel), List.mem_of_getElem? (i := 1943) (by decide +kernel)⟩
theorem lw_p109 : lw_okq (⟨"MoorGuidesModel", "knownBy", "(III)I"⟩, 108) := ⟨⟨by decide +kernel, by decide +kernel⟩, List.mem_of_getElem? (i := 1422) (by decide +kernel), List.mem_of_getElem? (i := 1946) (by decide +kernel), List.mem_of_getElem? (i := 1947) (by decide +kernel)⟩
theorem lw_p110 : lw_okq (⟨"MoorGuidesModel", "hasKnown", "(IIII)Z"⟩, 108) := ⟨⟨by decide +kernel, by decide +kernel⟩, List.mem_of_getElem? (i := 1422) (by decide +kernel), List.mem_of_getElem? (i := 1950) (by decide +kernel), List.mem_of_getElem? (i := 1951) (by decide +kernel)⟩
theorem lw_p111 : lw_okq (⟨"MoorGuidesModel", "isPart", "(I)Z"⟩, 108) := ⟨⟨by decide +kernel, by decide +kernel⟩, List.mem_of_getElem? (i := 1422) (by decide +kernel), List.mem_of_getElem? (i := 1958) (by decide +kernel), List.mem_of_getElem? (i := 1959) (by decide +kernel)⟩
def lw_privs_7 : List (MethodName × Nat) := [(⟨"MoorGuidesModel", "sumRead", "()Z"⟩, 108), (⟨"MoorGuidesModel", "isSign", "(I)Z"⟩, 108), (⟨"MoorGuidesModel", "leafRead", "()Z"⟩, 108), (⟨"MoorGuidesModel", "waitsFor", "(I)V"⟩, 108), (⟨"MoorGuidesModel", "isCounted", "()Z"⟩, 108), (⟨"MoorGuidesModel", "nameMet", "()I"⟩, 108), (⟨"MoorGuidesModel", "grown", "(III)V"⟩, 108), (⟨"MoorGuidesModel", "signs", "()Z"⟩, 108), (⟨"MoorGuidesModel", "bind", "(I)V"⟩, 108), (⟨"MoorGuidesModel", "dropHeld", "()I"⟩, 108), (⟨"MoorGuidesModel", "isPerson", "(I)Z"⟩, 108), (⟨"MoorGuidesModel", "fails", "(I)I"⟩, 108), (⟨"MoorGuidesModel", "isThere", "(III)Z"⟩, 108), (⟨"MoorGuidesModel", "knownBy", "(III)I"⟩, 108), (⟨"MoorGuidesModel", "hasKnown", "(IIII)Z"⟩, 108), (⟨"MoorGuidesModel", "isPart", "(I)Z"⟩, 108)]
theorem lw_r7 : ∀ q ∈ lw_privs_7, lw_okq q := List.forall_mem_cons.mpr ⟨lw_p96, List.forall_mem_cons.mpr ⟨lw_p97, List.forall_mem_cons.mpr ⟨lw_p98, List.forall_mem_cons.mpr ⟨lw_p99, List.forall_mem_cons.mpr ⟨lw_p100, List.forall_mem_cons.mpr ⟨lw_p101, List.forall_mem_cons.mpr ⟨lw_p102, List.forall_mem_cons.mpr ⟨lw_p103, List.forall_mem_cons.mpr ⟨lw_p104, List.forall_mem_cons.mpr ⟨lw_p105, List.forall_mem_cons.mpr ⟨lw_p106, List.forall_mem_cons.mpr ⟨lw_p107, List.forall_mem_cons.mpr ⟨lw_p108, List.forall_mem_cons.mpr ⟨lw_p109, List.forall_mem_cons.mpr ⟨lw_p110, List.forall_mem_cons.mpr ⟨lw_p111, fun _ h => absurd h List.not_mem_nil⟩⟩⟩⟩⟩⟩⟩⟩⟩⟩⟩⟩⟩⟩⟩⟩
theorem lw_p112 : lw_okq (⟨"MoorGuidesModel", "wantedOf", "(II)I"⟩, 108) := ⟨⟨by decide +kernel, by decide +kernel⟩, List.mem_of_getElem? (i := 1422) (by decide +kernel), List.mem_of_getElem? (i := 1962) (by decide +kernel), List.mem_of_getElem? (i := 1963) (by decide +kernel)⟩
theorem lw_p113 : lw_okq (⟨"MoorGuidesModel", "chanceOf", "(IIII)I"⟩, 108) := ⟨⟨by decide +kernel, by decide +kernel⟩, List.mem_of_getElem? (i := 1422) (by decide +kernel), List.mem_of_getElem? (i := 1981) (by decide +kernel), List.mem_of_getElem? (i := 1982) (by decide +kernel)⟩
theorem lw_p114 : lw_okq (⟨"MoorGuidesModel", "lawOf", "(IIIII)J"⟩, 108) := ⟨⟨by decide +kernel, by decide +kernel⟩, List.mem_of_getElem? (i := 1422) (by decide +kernel), List.mem_of_getElem? (i := 1985) (by decide +kernel), List.mem_of_getElem? (i := 1986) (by decide +kernel)⟩
theorem lw_p115 : lw_okq (⟨"MoorGuidesModel", "valueOf", "(I)J"⟩, 108) := ⟨⟨by decide +kernel, by decide +kernel⟩, List.mem_of_getElem? (i := 1422) (by decide +kernel), List.mem_of_getElem? (i := 1992) (by decide +kernel), List.mem_of_getElem? (i := 1993) (by decide +kernel)⟩
theorem lw_p116 : lw_okq (⟨"MoorGuidesModel", "bounded", "(J)J"⟩, 108) := ⟨⟨by decide +kernel, by decide +kernel⟩, List.mem_of_getElem? (i := 1422) (by decide +kernel), List.mem_of_getElem? (i := 1996) (by decide +kernel), List.mem_of_getElem? (i := 1997) (by decide +kernel)⟩
theorem lw_p117 : lw_okq (⟨"MoorGuidesModel", "times", "(JJ)J"⟩, 108) := ⟨⟨by decide +kernel, by decide +kernel⟩, List.mem_of_getElem? (i := 1422) (by decide +kernel), List.mem_of_getElem? (i := 2002) (by decide +kernel), List.mem_of_getElem? (i := 2003) (by decide +kernel)⟩
theorem lw_p118 : lw_okq (⟨"MoorGuidesModel", "remember", "(III)V"⟩, 108) := ⟨⟨by decide +kernel, by decide +kernel⟩, List.mem_of_getElem? (i := 1422) (by decide +kernel), List.mem_of_getElem? (i := 2019) (by decide +kernel), List.mem_of_getElem? (i := 2020) (by decide +kernel)⟩
theorem lw_p119 : lw_okq (⟨"MoorGuidesModel", "goesBy", "(II)V"⟩, 108) := ⟨⟨by decide +kernel, by decide +kernel⟩, List.mem_of_getElem? (i := 1422) (by decide +kernel), List.mem_of_getElem? (i := 2027) (by decide +kernel), List.mem_of_getElem? (i := 2028) (by decide +kernel)⟩
theorem lw_p120 : lw_okq (⟨"MoorGuidesModel", "isSpoilt", "(II)Z"⟩, 108) := ⟨⟨by decide +kernel, by decide +kernel⟩, List.mem_of_getElem? (i := 1422) (by decide +kernel), List.mem_of_getElem? (i := 2035) (by decide +kernel), List.mem_of_getElem? (i := 2036) (by decide +kernel)⟩
theorem lw_p121 : lw_okq (⟨"MoorGuidesModel", "isParty", "(I)Z"⟩, 108) := ⟨⟨by decide +kernel, by decide +kernel⟩, List.mem_of_getElem? (i := 1422) (by decide +kernel), List.mem_of_getElem? (i := 2043) (by decide +kernel), List.mem_of_getElem? (i := 2044) (by decide +kernel)⟩
theorem lw_p122 : lw_okq (⟨"MoorGuidesModel", "layKnown", "(III)V"⟩, 108) := ⟨⟨by decide +kernel, by decide +kernel⟩, List.mem_of_getElem? (i := 1422) (by decide +kernel), List.mem_of_getElem? (i := 2047) (by decide +kernel), List.mem_of_getElem? (i := 2048) (by decide +kernel)⟩
theorem lw_p123 : lw_okq (⟨"MoorGuidesModel", "leastOf", "(I)I"⟩, 108) := ⟨⟨by decide +kernel, by decide +kernel⟩, List.mem_of_getElem? (i := 1422) (by decide +kernel), List.mem_of_getElem? (i := 2051) (by decide +kernel), List.mem_of_getElem? (i := 2052) (by decide +kernel)⟩
theorem lw_p124 : lw_okq (⟨"MoorGuidesModel", "layStill", "(I)V"⟩, 108) := ⟨⟨by decide +kernel, by decide +kernel⟩, List.mem_of_getElem? (i := 1422) (by decide +kernel), List.mem_of_getElem? (i := 2055) (by decide +kernel), List.mem_of_getElem? (i := 2056) (by decide +kernel)⟩
theorem lw_p125 : lw_okq (⟨"MoorGuidesModel", "bestOn", "(I)I"⟩, 108) := ⟨⟨by decide +kernel, by decide +kernel⟩, List.mem_of_getElem? (i := 1422) (by decide +kernel), List.mem_of_getElem? (i := 2059) (by decide +kernel), List.mem_of_getElem? (i := 2060) (by decide +kernel)⟩
theorem lw_p126 : lw_okq (⟨"MoorGuidesModel", "layWay", "(I)Z"⟩, 108) := ⟨⟨by decide +kernel, by decide +kernel⟩, List.mem_of_getElem? (i := 1422) (by decide +kernel), List.mem_of_getElem? (i := 2067) (by decide +kernel), List.mem_of_getElem? (i := 2068) (by decide +kernel)⟩
theorem lw_p127 : lw_okq (⟨"MoorGuidesModel", "goesOn", "(IIII)Z"⟩, 108) := ⟨⟨by decide +kernel, by decide +kernel⟩, List.mem_of_getElem? (i := 1422) (by decide +kernel), List.mem_of_getElem? (i := 2071) (by decide +kernel), List.mem_of_getElem? (i := 2072) (by decide +kernel)⟩
def lw_privs_8 : List (MethodName × Nat) := [(⟨"MoorGuidesModel", "wantedOf", "(II)I"⟩, 108), (⟨"MoorGuidesModel", "chanceOf", "(IIII)I"⟩, 108), (⟨"MoorGuidesModel", "lawOf", "(IIIII)J"⟩, 108), (⟨"MoorGuidesModel", "valueOf", "(I)J"⟩, 108), (⟨"MoorGuidesModel", "bounded", "(J)J"⟩, 108), (⟨"MoorGuidesModel", "times", "(JJ)J"⟩, 108), (⟨"MoorGuidesModel", "remember", "(III)V"⟩, 108), (⟨"MoorGuidesModel", "goesBy", "(II)V"⟩, 108), (⟨"MoorGuidesModel", "isSpoilt", "(II)Z"⟩, 108), (⟨"MoorGuidesModel", "isParty", "(I)Z"⟩, 108), (⟨"MoorGuidesModel", "layKnown", "(III)V"⟩, 108), (⟨"MoorGuidesModel", "leastOf", "(I)I"⟩, 108), (⟨"MoorGuidesModel", "layStill", "(I)V"⟩, 108), (⟨"MoorGuidesModel", "bestOn", "(I)I"⟩, 108), (⟨"MoorGuidesModel", "layWay", "(I)Z"⟩, 108), (⟨"MoorGuidesModel", "goesOn", "(IIII)Z"⟩, 108)]
theorem lw_r8 : ∀ q ∈ lw_privs_8, lw_okq q := List.forall_mem_cons.mpr ⟨lw_p112, List.forall_mem_cons.mpr ⟨lw_p113, List.forall_mem_cons.mpr ⟨lw_p114, List.forall_mem_cons.mpr ⟨lw_p115, List.forall_mem_cons.mpr ⟨lw_p116, List.forall_mem_cons.mpr ⟨lw_p117, List.forall_mem_cons.mpr ⟨lw_p118, List.forall_mem_cons.mpr ⟨lw_p119, List.forall_mem_cons.mpr ⟨lw_p120, List.forall_mem_cons.mpr ⟨lw_p121, List.forall_mem_cons.mpr ⟨lw_p122, List.forall_mem_cons.mpr ⟨lw_p123, List.forall_mem_cons.mpr ⟨lw_p124, List.forall_mem_cons.mpr ⟨lw_p125, List.forall_mem_cons.mpr ⟨lw_p126, List.forall_mem_cons.mpr ⟨lw_p127, fun _ h => absurd h List.not_mem_nil⟩⟩⟩⟩⟩⟩⟩⟩⟩⟩⟩⟩⟩⟩⟩⟩
theorem lw_p128 : lw_okq (⟨"MoorGuidesModel", "laySpent", "(I)V"⟩, 108) := ⟨⟨by decide +kernel, by decide +kernel⟩, List.mem_of_getElem? (i := 1422) (by decide +kernel), List.mem_of_getElem? (i := 2075) (by decide +kernel), List.mem_of_getElem? (i := 2076) (by decide +kernel)⟩
theorem lw_p129 : lw_okq (⟨"MoorGuidesModel", "layGuides", "()V"⟩, 108) := ⟨⟨by decide +kernel, by decide +kernel⟩, List.mem_of_getElem? (i := 1422) (by decide +kernel), List.mem_of_getElem? (i := 2079) (by decide +kernel), List.mem_of_getElem? (i := 2080) (by decide +kernel)⟩
theorem lw_p130 : lw_okq (⟨"MoorGuidesModel", "layShares", "(I)V"⟩, 108) := ⟨⟨by decide +kernel, by decide +kernel⟩, List.mem_of_getElem? (i := 1422) (by decide +kernel), List.mem_of_getElem? (i := 2091) (by decide +kernel), List.mem_of_getElem? (i := 2092) (by decide +kernel)⟩
theorem lw_p131 : lw_okq (⟨"MoorGuidesModel", "leads", "(II)Z"⟩, 108) := ⟨⟨by decide +kernel, by decide +kernel⟩, List.mem_of_getElem? (i := 1422) (by decide +kernel), List.mem_of_getElem? (i := 2095) (by decide +kernel), List.mem_of_getElem? (i := 2096) (by decide +kernel)⟩
theorem lw_p132 : lw_okq (⟨"MoorGuidesModel", "sharedBy", "(II)I"⟩, 108) := ⟨⟨by decide +kernel, by decide +kernel⟩, List.mem_of_getElem? (i := 1422) (by decide +kernel), List.mem_of_getElem? (i := 2099) (by decide +kernel), List.mem_of_getElem? (i := 2100) (by decide +kernel)⟩
theorem lw_p133 : lw_okq (⟨"MoorGuidesModel", "areParts", "(I)Z"⟩, 108) := ⟨⟨by decide +kernel, by decide +kernel⟩, List.mem_of_getElem? (i := 1422) (by decide +kernel), List.mem_of_getElem? (i := 2111) (by decide +kernel), List.mem_of_getElem? (i := 2112) (by decide +kernel)⟩
theorem lw_p134 : lw_okq (⟨"MoorGuidesModel", "priceLed", "(I)I"⟩, 108) := ⟨⟨by decide +kernel, by decide +kernel⟩, List.mem_of_getElem? (i := 1422) (by decide +kernel), List.mem_of_getElem? (i := 2115) (by decide +kernel), List.mem_of_getElem? (i := 2116) (by decide +kernel)⟩
theorem lw_p135 : lw_okq (⟨"MoorGuidesModel", "isLed", "(I)Z"⟩, 108) := ⟨⟨by decide +kernel, by decide +kernel⟩, List.mem_of_getElem? (i := 1422) (by decide +kernel), List.mem_of_getElem? (i := 2119) (by decide +kernel), List.mem_of_getElem? (i := 2120) (by decide +kernel)⟩
theorem lw_p136 : lw_okq (⟨"MoorGuidesModel", "allLed", "(II)Z"⟩, 108) := ⟨⟨by decide +kernel, by decide +kernel⟩, List.mem_of_getElem? (i := 1422) (by decide +kernel), List.mem_of_getElem? (i := 2127) (by decide +kernel), List.mem_of_getElem? (i := 2128) (by decide +kernel)⟩
theorem lw_p137 : lw_okq (⟨"MoorGuidesModel", "layOrder", "(II)Z"⟩, 108) := ⟨⟨by decide +kernel, by decide +kernel⟩, List.mem_of_getElem? (i := 1422) (by decide +kernel), List.mem_of_getElem? (i := 2135) (by decide +kernel), List.mem_of_getElem? (i := 2136) (by decide +kernel)⟩
theorem lw_p138 : lw_okq (⟨"MoorGuidesModel", "upOf", "(I)J"⟩, 108) := ⟨⟨by decide +kernel, by decide +kernel⟩, List.mem_of_getElem? (i := 1422) (by decide +kernel), List.mem_of_getElem? (i := 2140) (by decide +kernel), List.mem_of_getElem? (i := 2141) (by decide +kernel)⟩
theorem lw_p139 : lw_okq (⟨"MoorGuidesModel", "layTried", "()V"⟩, 108) := ⟨⟨by decide +kernel, by decide +kernel⟩, List.mem_of_getElem? (i := 1422) (by decide +kernel), List.mem_of_getElem? (i := 2144) (by decide +kernel), List.mem_of_getElem? (i := 2145) (by decide +kernel)⟩
theorem lw_p140 : lw_okq (⟨"MoorGuidesModel", "nextRow", "(I)Z"⟩, 108) := ⟨⟨by decide +kernel, by decide +kernel⟩, List.mem_of_getElem? (i := 1422) (by decide +kernel), List.mem_of_getElem? (i := 2148) (by decide +kernel), List.mem_of_getElem? (i := 2149) (by decide +kernel)⟩
theorem lw_p141 : lw_okq (⟨"MoorGuidesModel", "turn", "(II)V"⟩, 108) := ⟨⟨by decide +kernel, by decide +kernel⟩, List.mem_of_getElem? (i := 1422) (by decide +kernel), List.mem_of_getElem? (i := 2152) (by decide +kernel), List.mem_of_getElem? (i := 2153) (by decide +kernel)⟩
theorem lw_p142 : lw_okq (⟨"MoorGuidesModel", "pickOf", "(III)V"⟩, 108) := ⟨⟨by decide +kernel, by decide +kernel⟩, List.mem_of_getElem? (i := 1422) (by decide +kernel), List.mem_of_getElem? (i := 2167) (by decide +kernel), List.mem_of_getElem? (i := 2168) (by decide +kernel)⟩
theorem lw_p143 : lw_okq (⟨"MoorGuidesModel", "pullOf", "(IIIII)J"⟩, 108) := ⟨⟨by decide +kernel, by decide +kernel⟩, List.mem_of_getElem? (i := 1422) (by decide +kernel), List.mem_of_getElem? (i := 2171) (by decide +kernel), List.mem_of_getElem? (i := 2172) (by decide +kernel)⟩
def lw_privs_9 : List (MethodName × Nat) := [(⟨"MoorGuidesModel", "laySpent", "(I)V"⟩, 108), (⟨"MoorGuidesModel", "layGuides", "()V"⟩, 108), (⟨"MoorGuidesModel", "layShares", "(I)V"⟩, 108), (⟨"MoorGuidesModel", "leads", "(II)Z"⟩, 108), (⟨"MoorGuidesModel", "sharedBy", "(II)I"⟩, 108), (⟨"MoorGuidesModel", "areParts", "(I)Z"⟩, 108), (⟨"MoorGuidesModel", "priceLed", "(I)I"⟩, 108), (⟨"MoorGuidesModel", "isLed", "(I)Z"⟩, 108), (⟨"MoorGuidesModel", "allLed", "(II)Z"⟩, 108), (⟨"MoorGuidesModel", "layOrder", "(II)Z"⟩, 108), (⟨"MoorGuidesModel", "upOf", "(I)J"⟩, 108), (⟨"MoorGuidesModel", "layTried", "()V"⟩, 108), (⟨"MoorGuidesModel", "nextRow", "(I)Z"⟩, 108), (⟨"MoorGuidesModel", "turn", "(II)V"⟩, 108), (⟨"MoorGuidesModel", "pickOf", "(III)V"⟩, 108), (⟨"MoorGuidesModel", "pullOf", "(IIIII)J"⟩, 108)]
theorem lw_r9 : ∀ q ∈ lw_privs_9, lw_okq q := List.forall_mem_cons.mpr ⟨lw_p128, List.forall_mem_cons.mpr ⟨lw_p129, List.forall_mem_cons.mpr ⟨lw_p130, List.forall_mem_cons.mpr ⟨lw_p131, List.forall_mem_cons.mpr ⟨lw_p132, List.forall_mem_cons.mpr ⟨lw_p133, List.forall_mem_cons.mpr ⟨lw_p134, List.forall_mem_cons.mpr ⟨lw_p135, List.forall_mem_cons.mpr ⟨lw_p136, List.forall_mem_cons.mpr ⟨lw_p137, List.forall_mem_cons.mpr ⟨lw_p138, List.forall_mem_cons.mpr ⟨lw_p139, List.forall_mem_cons.mpr ⟨lw_p140, List.forall_mem_cons.mpr ⟨lw_p141, List.forall_mem_cons.mpr ⟨lw_p142, List.forall_mem_cons.mpr ⟨lw_p143, fun _ h => absurd h List.not_mem_nil⟩⟩⟩⟩⟩⟩⟩⟩⟩⟩⟩⟩⟩⟩⟩⟩
theorem lw_p144 : lw_okq (⟨"MoorGuidesModel", "canAll", "(I)Z"⟩, 108) := ⟨⟨by decide +kernel, by decide +kernel⟩, List.mem_of_getElem? (i := 1422) (by decide +kernel), List.mem_of_getElem? (i := 2188) (by decide +kernel), List.mem_of_getElem? (i := 2189) (by decide +kernel)⟩
theorem lw_p145 : lw_okq (⟨"MoorGuidesModel", "cannot", "(II)Z"⟩, 108) := ⟨⟨by decide +kernel, by decide +kernel⟩, List.mem_of_getElem? (i := 1422) (by decide +kernel), List.mem_of_getElem? (i := 2192) (by decide +kernel), List.mem_of_getElem? (i := 2193) (by decide +kernel)⟩
theorem lw_p146 : lw_okq (⟨"MoorGuidesModel", "manyGone", "()I"⟩, 108) := ⟨⟨by decide +kernel, by decide +kernel⟩, List.mem_of_getElem? (i := 1422) (by decide +kernel), List.mem_of_getElem? (i := 2220) (by decide +kernel), List.mem_of_getElem? (i := 2221) (by decide +kernel)⟩
def lw_privs_10 : List (MethodName × Nat) := [(⟨"MoorGuidesModel", "canAll", "(I)Z"⟩, 108), (⟨"MoorGuidesModel", "cannot", "(II)Z"⟩, 108), (⟨"MoorGuidesModel", "manyGone", "()I"⟩, 108)]
theorem lw_r10 : ∀ q ∈ lw_privs_10, lw_okq q := List.forall_mem_cons.mpr ⟨lw_p144, List.forall_mem_cons.mpr ⟨lw_p145, List.forall_mem_cons.mpr ⟨lw_p146, fun _ h => absurd h List.not_mem_nil⟩⟩⟩
def lw_privs : List (MethodName × Nat) := lw_privs_1 ++ (lw_privs_2 ++ (lw_privs_3 ++ (lw_privs_4 ++ (lw_privs_5 ++ (lw_privs_6 ++ (lw_privs_7 ++ (lw_privs_8 ++ (lw_privs_9 ++ (lw_privs_10)))))))))
def lw_tbl : List Cond := k2_sels lw_privs ++ tables_1
theorem lw_privs_ok : ∀ q ∈ lw_privs, lw_okq q := by
  show ∀ q ∈ lw_privs_1 ++ (lw_privs_2 ++ (lw_privs_3 ++ (lw_privs_4 ++ (lw_privs_5 ++ (lw_privs_6 ++ (lw_privs_7 ++ (lw_privs_8 ++ (lw_privs_9 ++ (lw_privs_10))))))))), lw_okq q
  exact List.forall_mem_append.mpr ⟨lw_r1, List.forall_mem_append.mpr ⟨lw_r2, List.forall_mem_append.mpr ⟨lw_r3, List.forall_mem_append.mpr ⟨lw_r4, List.forall_mem_append.mpr ⟨lw_r5, List.forall_mem_append.mpr ⟨lw_r6, List.forall_mem_append.mpr ⟨lw_r7, List.forall_mem_append.mpr ⟨lw_r8, List.forall_mem_append.mpr ⟨lw_r9, lw_r10⟩⟩⟩⟩⟩⟩⟩⟩⟩
/-! ===== BEGIN printed: names, fields, word lists, decode rows ===== -/
def RX0 : String := "MoorGuides$Claims"
def TX0 : u_T := fun k => match k with
  | 0 => ("MoorGuides$Claims", "size", "I", false)
  | 1 => ("MoorGuides$Claims", "people", "[I", true)
  | 2 => ("MoorGuides$Claims", "nightsOf", "[I", true)
  | 3 => ("MoorGuides$Claims", "parts", "[I", true)
  | _ => ("MoorGuides$Claims", "foes", "[I", true)
def tyX0 : Nat → FieldType := fun k => match k with
  | 0 => .int
  | 1 => .array .int
  | 2 => .array .int
  | 3 => .array .int
  | _ => .array .int
abbrev wsX00 : List Cond := u_ws RX0 TX0 5
theorem nmX0 : ∀ a, a < 5 → ∀ b, b < 5 → a ≠ b → (TX0 a).2.1 ≠ (TX0 b).2.1 := by decide +kernel
theorem tyX0_ok : ∀ k, k < 5 → parseFieldDescriptor (TX0 k).2.2.1 = some (tyX0 k) := by decide +kernel
abbrev cX0_init : ByteArray := prog_2_method_1_code
def yX0_init : MethodName := ⟨RX0, "<init>", "()V"⟩
abbrev cX0_clear : ByteArray := prog_2_method_2_code
def yX0_clear : MethodName := ⟨RX0, "clear", "()V"⟩
abbrev cX0_add : ByteArray := prog_2_method_3_code
def yX0_add : MethodName := ⟨RX0, "add", "(LMoorGuides$Moor;III)I"⟩
abbrev cX0_clash : ByteArray := prog_2_method_4_code
def yX0_clash : MethodName := ⟨RX0, "clash", "(LMoorGuides$Moor;II)Z"⟩
abbrev cX0_falseOnes : ByteArray := prog_2_method_5_code
def yX0_falseOnes : MethodName := ⟨RX0, "falseOnes", "()I"⟩
abbrev cX0_othersCanBe : ByteArray := prog_2_method_6_code
def yX0_othersCanBe : MethodName := ⟨RX0, "othersCanBe", "(I)Z"⟩
def RX1 : String := "MoorGuides$Law"
def TX1 : u_T := fun k => match k with
  | 0 => ("MoorGuides$Law", "code", "[I", true)
  | 1 => ("MoorGuides$Law", "values", "[J", true)
  | _ => ("MoorGuides$Law", "size", "I", false)
def tyX1 : Nat → FieldType := fun k => match k with
  | 0 => .array .int
  | 1 => .array .long
  | _ => .int
abbrev wsX10 : List Cond := u_ws RX1 TX1 3
theorem nmX1 : ∀ a, a < 3 → ∀ b, b < 3 → a ≠ b → (TX1 a).2.1 ≠ (TX1 b).2.1 := by decide +kernel
theorem tyX1_ok : ∀ k, k < 3 → parseFieldDescriptor (TX1 k).2.2.1 = some (tyX1 k) := by decide +kernel
abbrev cX1_init : ByteArray := prog_3_method_1_code
def yX1_init : MethodName := ⟨RX1, "<init>", "()V"⟩
abbrev cX1_add : ByteArray := prog_3_method_2_code
def yX1_add : MethodName := ⟨RX1, "add", "(I)Z"⟩
abbrev cX1_workOut : ByteArray := prog_3_method_3_code
def yX1_workOut : MethodName := ⟨RX1, "workOut", "([J)J"⟩
abbrev cX1_join : ByteArray := prog_3_method_4_code
def yX1_join : MethodName := ⟨RX1, "join", "(IJJ)J"⟩
def RX2 : String := "MoorGuides$Leading"
def TX2 : u_T := fun k => match k with
  | 0 => ("MoorGuides$Leading", "stand", "LMoorGuides$Stand;", true)
  | 1 => ("MoorGuides$Leading", "known", "[I", true)
  | 2 => ("MoorGuides$Leading", "left", "[[I", true)
  | 3 => ("MoorGuides$Leading", "leastLeft", "[I", true)
  | 4 => ("MoorGuides$Leading", "able", "[I", true)
  | 5 => ("MoorGuides$Leading", "parts", "[I", true)
  | 6 => ("MoorGuides$Leading", "guides", "[I", true)
  | 7 => ("MoorGuides$Leading", "length", "I", false)
  | _ => ("MoorGuides$Leading", "hands", "I", false)
def tyX2 : Nat → FieldType := fun k => match k with
  | 0 => .object "MoorGuides$Stand"
  | 1 => .array .int
  | 2 => .array (.array .int)
  | 3 => .array .int
  | 4 => .array .int
  | 5 => .array .int
  | 6 => .array .int
  | 7 => .int
  | _ => .int
abbrev wsX20 : List Cond := u_ws RX2 TX2 9
theorem nmX2 : ∀ a, a < 9 → ∀ b, b < 9 → a ≠ b → (TX2 a).2.1 ≠ (TX2 b).2.1 := by decide +kernel
theorem tyX2_ok : ∀ k, k < 9 → parseFieldDescriptor (TX2 k).2.2.1 = some (tyX2 k) := by decide +kernel
abbrev cX2_init : ByteArray := prog_4_method_1_code
def yX2_init : MethodName := ⟨RX2, "<init>", "(LMoorGuides$Stand;)V"⟩
abbrev cX2_find : ByteArray := prog_4_method_2_code
def yX2_find : MethodName := ⟨RX2, "find", "(I)Z"⟩
abbrev cX2_measure : ByteArray := prog_4_method_3_code
def yX2_measure : MethodName := ⟨RX2, "measure", "(I)V"⟩
abbrev cX2_isKnown : ByteArray := prog_4_method_4_code
def yX2_isKnown : MethodName := ⟨RX2, "isKnown", "(II)Z"⟩
abbrev cX2_shorten : ByteArray := prog_4_method_5_code
def yX2_shorten : MethodName := ⟨RX2, "shorten", "(I)Z"⟩
abbrev cX2_leastBehind : ByteArray := prog_4_method_6_code
def yX2_leastBehind : MethodName := ⟨RX2, "leastBehind", "(II)I"⟩
abbrev cX2_followParts : ByteArray := prog_4_method_7_code
def yX2_followParts : MethodName := ⟨RX2, "followParts", "(II)V"⟩
abbrev cX2_chooseNext : ByteArray := prog_4_method_8_code
def yX2_chooseNext : MethodName := ⟨RX2, "chooseNext", "(I)V"⟩
abbrev cX2_ableBehind : ByteArray := prog_4_method_9_code
def yX2_ableBehind : MethodName := ⟨RX2, "ableBehind", "(III)I"⟩
abbrev cX2_isBest : ByteArray := prog_4_method_10_code
def yX2_isBest : MethodName := ⟨RX2, "isBest", "(IIII)Z"⟩
abbrev cX2_nameGuides : ByteArray := prog_4_method_11_code
def yX2_nameGuides : MethodName := ⟨RX2, "nameGuides", "()V"⟩
abbrev cX2_leastGuide : ByteArray := prog_4_method_12_code
def yX2_leastGuide : MethodName := ⟨RX2, "leastGuide", "(III)I"⟩
def RX3 : String := "MoorGuides$Masters"
def TX3 : u_T := fun k => match k with
  | 0 => ("MoorGuides$Masters", "trial", "LMoorGuides$Stand;", true)
  | 1 => ("MoorGuides$Masters", "person", "I", false)
  | 2 => ("MoorGuides$Masters", "part", "I", false)
  | 3 => ("MoorGuides$Masters", "money", "I", false)
  | _ => ("MoorGuides$Masters", "partiesLed", "I", false)
def tyX3 : Nat → FieldType := fun k => match k with
  | 0 => .object "MoorGuides$Stand"
  | 1 => .int
  | 2 => .int
  | 3 => .int
  | _ => .int
abbrev wsX30 : List Cond := u_ws RX3 TX3 5
theorem nmX3 : ∀ a, a < 5 → ∀ b, b < 5 → a ≠ b → (TX3 a).2.1 ≠ (TX3 b).2.1 := by decide +kernel
theorem tyX3_ok : ∀ k, k < 5 → parseFieldDescriptor (TX3 k).2.2.1 = some (tyX3 k) := by decide +kernel
abbrev cX3_init : ByteArray := prog_5_method_1_code
def yX3_init : MethodName := ⟨RX3, "<init>", "(LMoorGuides$Moor;)V"⟩
abbrev cX3_choose : ByteArray := prog_5_method_2_code
def yX3_choose : MethodName := ⟨RX3, "choose", "(LMoorGuides$Stand;I)Z"⟩
abbrev cX3_rate : ByteArray := prog_5_method_3_code
def yX3_rate : MethodName := ⟨RX3, "rate", "(LMoorGuides$Stand;IIII)J"⟩
abbrev cX3_play : ByteArray := prog_5_method_4_code
def yX3_play : MethodName := ⟨RX3, "play", "(LMoorGuides$Stand;III)V"⟩
abbrev cX3_leadParties : ByteArray := prog_5_method_5_code
def yX3_leadParties : MethodName := ⟨RX3, "leadParties", "()V"⟩
abbrev cX3_newlyGone : ByteArray := prog_5_method_6_code
def yX3_newlyGone : MethodName := ⟨RX3, "newlyGone", "(LMoorGuides$Stand;)I"⟩
def RX4 : String := "MoorGuides$Moor"
def TX4 : u_T := fun k => match k with
  | 0 => ("MoorGuides$Moor", "parts", "I", false)
  | 1 => ("MoorGuides$Moor", "partNames", "[I", true)
  | 2 => ("MoorGuides$Moor", "odds", "[I", true)
  | 3 => ("MoorGuides$Moor", "beside", "[I", true)
  | 4 => ("MoorGuides$Moor", "people", "LMoorGuides$People;", true)
  | 5 => ("MoorGuides$Moor", "parties", "I", false)
  | 6 => ("MoorGuides$Moor", "start", "[I", true)
  | 7 => ("MoorGuides$Moor", "goal", "[I", true)
  | 8 => ("MoorGuides$Moor", "partyNight", "[I", true)
  | 9 => ("MoorGuides$Moor", "price", "[I", true)
  | 10 => ("MoorGuides$Moor", "weathers", "I", false)
  | 11 => ("MoorGuides$Moor", "weather", "[I", true)
  | 12 => ("MoorGuides$Moor", "slides", "I", false)
  | 13 => ("MoorGuides$Moor", "slidePart", "[I", true)
  | 14 => ("MoorGuides$Moor", "slideNight", "[I", true)
  | 15 => ("MoorGuides$Moor", "near", "I", false)
  | 16 => ("MoorGuides$Moor", "seed", "I", false)
  | 17 => ("MoorGuides$Moor", "knotCount", "I", false)
  | 18 => ("MoorGuides$Moor", "out", "LMoorGuides$Law;", true)
  | _ => ("MoorGuides$Moor", "pick", "LMoorGuides$Law;", true)
def tyX4 : Nat → FieldType := fun k => match k with
  | 0 => .int
  | 1 => .array .int
  | 2 => .array .int
  | 3 => .array .int
  | 4 => .object "MoorGuides$People"
  | 5 => .int
  | 6 => .array .int
  | 7 => .array .int
  | 8 => .array .int
  | 9 => .array .int
  | 10 => .int
  | 11 => .array .int
  | 12 => .int
  | 13 => .array .int
  | 14 => .array .int
  | 15 => .int
  | 16 => .int
  | 17 => .int
  | 18 => .object "MoorGuides$Law"
  | _ => .object "MoorGuides$Law"
abbrev wsX40 : List Cond := u_ws RX4 TX4 20
theorem nmX4 : ∀ a, a < 20 → ∀ b, b < 20 → a ≠ b → (TX4 a).2.1 ≠ (TX4 b).2.1 := by decide +kernel
theorem tyX4_ok : ∀ k, k < 20 → parseFieldDescriptor (TX4 k).2.2.1 = some (tyX4 k) := by decide +kernel
abbrev cX4_init : ByteArray := prog_6_method_1_code
def yX4_init : MethodName := ⟨RX4, "<init>", "()V"⟩
abbrev cX4_clear : ByteArray := prog_6_method_2_code
def yX4_clear : MethodName := ⟨RX4, "clear", "()V"⟩
abbrev cX4_addPart : ByteArray := prog_6_method_3_code
def yX4_addPart : MethodName := ⟨RX4, "addPart", "(II)V"⟩
abbrev cX4_addParty : ByteArray := prog_6_method_4_code
def yX4_addParty : MethodName := ⟨RX4, "addParty", "(IIII)V"⟩
abbrev cX4_addSlide : ByteArray := prog_6_method_5_code
def yX4_addSlide : MethodName := ⟨RX4, "addSlide", "(II)V"⟩
abbrev cX4_countKnot : ByteArray := prog_6_method_6_code
def yX4_countKnot : MethodName := ⟨RX4, "countKnot", "()Z"⟩
abbrev cX4_knots : ByteArray := prog_6_method_7_code
def yX4_knots : MethodName := ⟨RX4, "knots", "()I"⟩
abbrev cX4_allParts : ByteArray := prog_6_method_8_code
def yX4_allParts : MethodName := ⟨RX4, "allParts", "()I"⟩
abbrev cX4_weatherOn : ByteArray := prog_6_method_9_code
def yX4_weatherOn : MethodName := ⟨RX4, "weatherOn", "(I)I"⟩
abbrev cX4_wantedOn : ByteArray := prog_6_method_10_code
def yX4_wantedOn : MethodName := ⟨RX4, "wantedOn", "(II)I"⟩
abbrev cX4_distance : ByteArray := prog_6_method_11_code
def yX4_distance : MethodName := ⟨RX4, "distance", "(III)I"⟩
abbrev cX4_isNear : ByteArray := prog_6_method_12_code
def yX4_isNear : MethodName := ⟨RX4, "isNear", "(II)Z"⟩
abbrev cX4_isLed : ByteArray := prog_6_method_13_code
def yX4_isLed : MethodName := ⟨RX4, "isLed", "(II)Z"⟩
abbrev cX4_priceLed : ByteArray := prog_6_method_14_code
def yX4_priceLed : MethodName := ⟨RX4, "priceLed", "(II)I"⟩
def RX5 : String := "MoorGuides$Ordering"
def TX5 : u_T := fun k => match k with
  | 0 => ("MoorGuides$Ordering", "stand", "LMoorGuides$Stand;", true)
  | 1 => ("MoorGuides$Ordering", "person", "I", false)
  | 2 => ("MoorGuides$Ordering", "all", "I", false)
  | 3 => ("MoorGuides$Ordering", "chances", "[I", true)
  | 4 => ("MoorGuides$Ordering", "knownAnyway", "[I", true)
  | 5 => ("MoorGuides$Ordering", "until", "[[I", true)
  | 6 => ("MoorGuides$Ordering", "latest", "[I", true)
  | 7 => ("MoorGuides$Ordering", "lasting", "I", false)
  | 8 => ("MoorGuides$Ordering", "mostBehind", "[J", true)
  | 9 => ("MoorGuides$Ordering", "tried", "[I", true)
  | 10 => ("MoorGuides$Ordering", "bestProduct", "J", false)
  | 11 => ("MoorGuides$Ordering", "best", "[I", true)
  | _ => ("MoorGuides$Ordering", "length", "I", false)
def tyX5 : Nat → FieldType := fun k => match k with
  | 0 => .object "MoorGuides$Stand"
  | 1 => .int
  | 2 => .int
  | 3 => .array .int
  | 4 => .array .int
  | 5 => .array (.array .int)
  | 6 => .array .int
  | 7 => .int
  | 8 => .array .long
  | 9 => .array .int
  | 10 => .long
  | 11 => .array .int
  | _ => .int
abbrev wsX50 : List Cond := u_ws RX5 TX5 13
theorem nmX5 : ∀ a, a < 13 → ∀ b, b < 13 → a ≠ b → (TX5 a).2.1 ≠ (TX5 b).2.1 := by decide +kernel
theorem tyX5_ok : ∀ k, k < 13 → parseFieldDescriptor (TX5 k).2.2.1 = some (tyX5 k) := by decide +kernel
abbrev cX5_init : ByteArray := prog_7_method_1_code
def yX5_init : MethodName := ⟨RX5, "<init>", "(LMoorGuides$Stand;)V"⟩
abbrev cX5_drop : ByteArray := prog_7_method_2_code
def yX5_drop : MethodName := ⟨RX5, "drop", "()V"⟩
abbrev cX5_find : ByteArray := prog_7_method_3_code
def yX5_find : MethodName := ⟨RX5, "find", "(II)V"⟩
abbrev cX5_prepare : ByteArray := prog_7_method_4_code
def yX5_prepare : MethodName := ⟨RX5, "prepare", "(I)V"⟩
abbrev cX5_fillChances : ByteArray := prog_7_method_5_code
def yX5_fillChances : MethodName := ⟨RX5, "fillChances", "(II)V"⟩
abbrev cX5_mostFrom : ByteArray := prog_7_method_6_code
def yX5_mostFrom : MethodName := ⟨RX5, "mostFrom", "(I)J"⟩
abbrev cX5_freshAt : ByteArray := prog_7_method_7_code
def yX5_freshAt : MethodName := ⟨RX5, "freshAt", "(I)I"⟩
abbrev cX5_chanceAtMost : ByteArray := prog_7_method_8_code
def yX5_chanceAtMost : MethodName := ⟨RX5, "chanceAtMost", "(IIII)J"⟩
abbrev cX5_slot : ByteArray := prog_7_method_9_code
def yX5_slot : MethodName := ⟨RX5, "slot", "(III)I"⟩
abbrev cX5_goOn : ByteArray := prog_7_method_10_code
def yX5_goOn : MethodName := ⟨RX5, "goOn", "(IIJ)V"⟩
abbrev cX5_knownAt : ByteArray := prog_7_method_11_code
def yX5_knownAt : MethodName := ⟨RX5, "knownAt", "(II)I"⟩
abbrev cX5_above : ByteArray := prog_7_method_12_code
def yX5_above : MethodName := ⟨RX5, "above", "()J"⟩
abbrev cX5_below : ByteArray := prog_7_method_13_code
def yX5_below : MethodName := ⟨RX5, "below", "()J"⟩
abbrev cX5_hundreds : ByteArray := prog_7_method_14_code
def yX5_hundreds : MethodName := ⟨RX5, "hundreds", "()J"⟩
abbrev cX5_divisor : ByteArray := prog_7_method_15_code
def yX5_divisor : MethodName := ⟨RX5, "divisor", "()J"⟩
def RX6 : String := "MoorGuides$People"
def TX6 : u_T := fun k => match k with
  | 0 => ("MoorGuides$People", "size", "I", false)
  | 1 => ("MoorGuides$People", "names", "[I", true)
  | 2 => ("MoorGuides$People", "first", "[I", true)
  | 3 => ("MoorGuides$People", "cost", "[I", true)
  | 4 => ("MoorGuides$People", "from", "[I", true)
  | 5 => ("MoorGuides$People", "till", "[I", true)
  | _ => ("MoorGuides$People", "forget", "[I", true)
def tyX6 : Nat → FieldType := fun k => match k with
  | 0 => .int
  | 1 => .array .int
  | 2 => .array .int
  | 3 => .array .int
  | 4 => .array .int
  | 5 => .array .int
  | _ => .array .int
abbrev wsX60 : List Cond := u_ws RX6 TX6 7
theorem nmX6 : ∀ a, a < 7 → ∀ b, b < 7 → a ≠ b → (TX6 a).2.1 ≠ (TX6 b).2.1 := by decide +kernel
theorem tyX6_ok : ∀ k, k < 7 → parseFieldDescriptor (TX6 k).2.2.1 = some (tyX6 k) := by decide +kernel
abbrev cX6_init : ByteArray := prog_8_method_1_code
def yX6_init : MethodName := ⟨RX6, "<init>", "()V"⟩
abbrev cX6_clear : ByteArray := prog_8_method_2_code
def yX6_clear : MethodName := ⟨RX6, "clear", "()V"⟩
def RX7 : String := "MoorGuides$Reader"
def TX7 : u_T := fun k => match k with
  | 0 => ("MoorGuides$Reader", "tokens", "LMoorGuides$Tokens;", true)
  | 1 => ("MoorGuides$Reader", "moor", "LMoorGuides$Moor;", false)
  | 2 => ("MoorGuides$Reader", "nearTold", "Z", false)
  | 3 => ("MoorGuides$Reader", "seedTold", "Z", false)
  | 4 => ("MoorGuides$Reader", "waiting", "[I", true)
  | 5 => ("MoorGuides$Reader", "waitingSize", "I", false)
  | 6 => ("MoorGuides$Reader", "open", "I", false)
  | 7 => ("MoorGuides$Reader", "lines", "I", false)
  | 8 => ("MoorGuides$Reader", "fault", "I", false)
  | _ => ("MoorGuides$Reader", "place", "I", false)
def tyX7 : Nat → FieldType := fun k => match k with
  | 0 => .object "MoorGuides$Tokens"
  | 1 => .object "MoorGuides$Moor"
  | 2 => .boolean
  | 3 => .boolean
  | 4 => .array .int
  | 5 => .int
  | 6 => .int
  | 7 => .int
  | 8 => .int
  | _ => .int
abbrev wsX70 : List Cond := u_ws RX7 TX7 10
theorem nmX7 : ∀ a, a < 10 → ∀ b, b < 10 → a ≠ b → (TX7 a).2.1 ≠ (TX7 b).2.1 := by decide +kernel
theorem tyX7_ok : ∀ k, k < 10 → parseFieldDescriptor (TX7 k).2.2.1 = some (tyX7 k) := by decide +kernel
abbrev cX7_init : ByteArray := prog_9_method_1_code
def yX7_init : MethodName := ⟨RX7, "<init>", "(LMoorGuides$Moor;)V"⟩
abbrev cX7_readText : ByteArray := prog_9_method_2_code
def yX7_readText : MethodName := ⟨RX7, "readText", "([BILMoorGuides$Moor;)Z"⟩
abbrev cX7_fail : ByteArray := prog_9_method_3_code
def yX7_fail : MethodName := ⟨RX7, "fail", "(I)Z"⟩
abbrev cX7_pass : ByteArray := prog_9_method_4_code
def yX7_pass : MethodName := ⟨RX7, "pass", "(I)Z"⟩
abbrev cX7_passUnless : ByteArray := prog_9_method_5_code
def yX7_passUnless : MethodName := ⟨RX7, "passUnless", "(ZI)Z"⟩
abbrev cX7_readLine : ByteArray := prog_9_method_6_code
def yX7_readLine : MethodName := ⟨RX7, "readLine", "()Z"⟩
abbrev cX7_readPart : ByteArray := prog_9_method_7_code
def yX7_readPart : MethodName := ⟨RX7, "readPart", "()Z"⟩
abbrev cX7_readPerson : ByteArray := prog_9_method_8_code
def yX7_readPerson : MethodName := ⟨RX7, "readPerson", "()Z"⟩
abbrev cX7_readOption : ByteArray := prog_9_method_9_code
def yX7_readOption : MethodName := ⟨RX7, "readOption", "(II)Z"⟩
abbrev cX7_readParty : ByteArray := prog_9_method_10_code
def yX7_readParty : MethodName := ⟨RX7, "readParty", "()Z"⟩
abbrev cX7_readWeather : ByteArray := prog_9_method_11_code
def yX7_readWeather : MethodName := ⟨RX7, "readWeather", "()Z"⟩
abbrev cX7_readSlide : ByteArray := prog_9_method_12_code
def yX7_readSlide : MethodName := ⟨RX7, "readSlide", "()Z"⟩
abbrev cX7_readNear : ByteArray := prog_9_method_13_code
def yX7_readNear : MethodName := ⟨RX7, "readNear", "()Z"⟩
abbrev cX7_readSeed : ByteArray := prog_9_method_14_code
def yX7_readSeed : MethodName := ⟨RX7, "readSeed", "()Z"⟩
abbrev cX7_readLaw : ByteArray := prog_9_method_15_code
def yX7_readLaw : MethodName := ⟨RX7, "readLaw", "()Z"⟩
abbrev cX7_readNewName : ByteArray := prog_9_method_16_code
def yX7_readNewName : MethodName := ⟨RX7, "readNewName", "([II)Z"⟩
abbrev cX7_readNumber : ByteArray := prog_9_method_17_code
def yX7_readNumber : MethodName := ⟨RX7, "readNumber", "(II)I"⟩
abbrev cX7_readToldPart : ByteArray := prog_9_method_18_code
def yX7_readToldPart : MethodName := ⟨RX7, "readToldPart", "()I"⟩
abbrev cX7_readOtherPart : ByteArray := prog_9_method_19_code
def yX7_readOtherPart : MethodName := ⟨RX7, "readOtherPart", "(I)I"⟩
abbrev cX7_toldPart : ByteArray := prog_9_method_20_code
def yX7_toldPart : MethodName := ⟨RX7, "toldPart", "()I"⟩
abbrev cX7_readFormula : ByteArray := prog_9_method_21_code
def yX7_readFormula : MethodName := ⟨RX7, "readFormula", "(LMoorGuides$Law;)Z"⟩
abbrev cX7_readBeginning : ByteArray := prog_9_method_22_code
def yX7_readBeginning : MethodName := ⟨RX7, "readBeginning", "(LMoorGuides$Law;)Z"⟩
abbrev cX7_readSign : ByteArray := prog_9_method_23_code
def yX7_readSign : MethodName := ⟨RX7, "readSign", "(LMoorGuides$Law;)Z"⟩
abbrev cX7_release : ByteArray := prog_9_method_24_code
def yX7_release : MethodName := ⟨RX7, "release", "(LMoorGuides$Law;I)V"⟩
abbrev cX7_await : ByteArray := prog_9_method_25_code
def yX7_await : MethodName := ⟨RX7, "await", "(I)Z"⟩
abbrev cX7_lastWaiting : ByteArray := prog_9_method_26_code
def yX7_lastWaiting : MethodName := ⟨RX7, "lastWaiting", "()I"⟩
abbrev cX7_countKnot : ByteArray := prog_9_method_27_code
def yX7_countKnot : MethodName := ⟨RX7, "countKnot", "()Z"⟩
abbrev cX7_isValue : ByteArray := prog_9_method_28_code
def yX7_isValue : MethodName := ⟨RX7, "isValue", "(I)Z"⟩
abbrev cX7_level : ByteArray := prog_9_method_29_code
def yX7_level : MethodName := ⟨RX7, "level", "(I)I"⟩
def RX8 : String := "MoorGuides$Sharing"
def TX8 : u_T := fun k => match k with
  | 0 => ("MoorGuides$Sharing", "stand", "LMoorGuides$Stand;", true)
  | 1 => ("MoorGuides$Sharing", "most", "[[I", true)
  | 2 => ("MoorGuides$Sharing", "leaders", "[I", true)
  | 3 => ("MoorGuides$Sharing", "known", "[I", true)
  | _ => ("MoorGuides$Sharing", "guides", "[I", true)
def tyX8 : Nat → FieldType := fun k => match k with
  | 0 => .object "MoorGuides$Stand"
  | 1 => .array (.array .int)
  | 2 => .array .int
  | 3 => .array .int
  | _ => .array .int
abbrev wsX80 : List Cond := u_ws RX8 TX8 5
theorem nmX8 : ∀ a, a < 5 → ∀ b, b < 5 → a ≠ b → (TX8 a).2.1 ≠ (TX8 b).2.1 := by decide +kernel
theorem tyX8_ok : ∀ k, k < 5 → parseFieldDescriptor (TX8 k).2.2.1 = some (tyX8 k) := by decide +kernel
abbrev cX8_init : ByteArray := prog_10_method_1_code
def yX8_init : MethodName := ⟨RX8, "<init>", "(LMoorGuides$Stand;)V"⟩
abbrev cX8_sum : ByteArray := prog_10_method_2_code
def yX8_sum : MethodName := ⟨RX8, "sum", "()I"⟩
abbrev cX8_find : ByteArray := prog_10_method_3_code
def yX8_find : MethodName := ⟨RX8, "find", "(II)V"⟩
abbrev cX8_nameLeaders : ByteArray := prog_10_method_4_code
def yX8_nameLeaders : MethodName := ⟨RX8, "nameLeaders", "(II)V"⟩
abbrev cX8_mostFrom : ByteArray := prog_10_method_5_code
def yX8_mostFrom : MethodName := ⟨RX8, "mostFrom", "(III)I"⟩
abbrev cX8_nameGuides : ByteArray := prog_10_method_6_code
def yX8_nameGuides : MethodName := ⟨RX8, "nameGuides", "(LMoorGuides$Moor;)V"⟩
abbrev cX8_fewestParts : ByteArray := prog_10_method_7_code
def yX8_fewestParts : MethodName := ⟨RX8, "fewestParts", "(I)I"⟩
abbrev cX8_areLed : ByteArray := prog_10_method_8_code
def yX8_areLed : MethodName := ⟨RX8, "areLed", "(LMoorGuides$Moor;II)Z"⟩
def RX9 : String := "MoorGuides$Stand"
def TX9 : u_T := fun k => match k with
  | 0 => ("MoorGuides$Stand", "moor", "LMoorGuides$Moor;", false)
  | 1 => ("MoorGuides$Stand", "night", "I", false)
  | 2 => ("MoorGuides$Stand", "number", "J", false)
  | 3 => ("MoorGuides$Stand", "gone", "I", false)
  | 4 => ("MoorGuides$Stand", "times", "[I", true)
  | 5 => ("MoorGuides$Stand", "learned", "[[I", true)
  | 6 => ("MoorGuides$Stand", "lost", "[I", true)
  | 7 => ("MoorGuides$Stand", "slides", "I", false)
  | 8 => ("MoorGuides$Stand", "slidePart", "[I", true)
  | 9 => ("MoorGuides$Stand", "slideNight", "[I", true)
  | _ => ("MoorGuides$Stand", "names", "[J", true)
def tyX9 : Nat → FieldType := fun k => match k with
  | 0 => .object "MoorGuides$Moor"
  | 1 => .int
  | 2 => .long
  | 3 => .int
  | 4 => .array .int
  | 5 => .array (.array .int)
  | 6 => .array .int
  | 7 => .int
  | 8 => .array .int
  | 9 => .array .int
  | _ => .array .long
abbrev wsX90 : List Cond := u_ws RX9 TX9 11
theorem nmX9 : ∀ a, a < 11 → ∀ b, b < 11 → a ≠ b → (TX9 a).2.1 ≠ (TX9 b).2.1 := by decide +kernel
theorem tyX9_ok : ∀ k, k < 11 → parseFieldDescriptor (TX9 k).2.2.1 = some (tyX9 k) := by decide +kernel
abbrev cX9_init : ByteArray := prog_11_method_1_code
def yX9_init : MethodName := ⟨RX9, "<init>", "(LMoorGuides$Moor;)V"⟩
abbrev cX9_begin : ByteArray := prog_11_method_2_code
def yX9_begin : MethodName := ⟨RX9, "begin", "(LMoorGuides$Moor;)V"⟩
abbrev cX9_copyFrom : ByteArray := prog_11_method_3_code
def yX9_copyFrom : MethodName := ⟨RX9, "copyFrom", "(LMoorGuides$Stand;)V"⟩
abbrev cX9_addSlide : ByteArray := prog_11_method_4_code
def yX9_addSlide : MethodName := ⟨RX9, "addSlide", "(II)Z"⟩
abbrev cX9_isThere : ByteArray := prog_11_method_5_code
def yX9_isThere : MethodName := ⟨RX9, "isThere", "(II)Z"⟩
abbrev cX9_knownBits : ByteArray := prog_11_method_6_code
def yX9_knownBits : MethodName := ⟨RX9, "knownBits", "(II)I"⟩
abbrev cX9_knownByAny : ByteArray := prog_11_method_7_code
def yX9_knownByAny : MethodName := ⟨RX9, "knownByAny", "(I)I"⟩
abbrev cX9_knowers : ByteArray := prog_11_method_8_code
def yX9_knowers : MethodName := ⟨RX9, "knowers", "(I)I"⟩
abbrev cX9_knownUntil : ByteArray := prog_11_method_9_code
def yX9_knownUntil : MethodName := ⟨RX9, "knownUntil", "(III)I"⟩
abbrev cX9_chanceTonight : ByteArray := prog_11_method_10_code
def yX9_chanceTonight : MethodName := ⟨RX9, "chanceTonight", "(II)I"⟩
abbrev cX9_lawTonight : ByteArray := prog_11_method_11_code
def yX9_lawTonight : MethodName := ⟨RX9, "lawTonight", "(LMoorGuides$Law;II)J"⟩
abbrev cX9_aroundTonight : ByteArray := prog_11_method_12_code
def yX9_aroundTonight : MethodName := ⟨RX9, "aroundTonight", "(II)I"⟩
abbrev cX9_chanceOn : ByteArray := prog_11_method_13_code
def yX9_chanceOn : MethodName := ⟨RX9, "chanceOn", "(IIIII)I"⟩
abbrev cX9_tellNames : ByteArray := prog_11_method_14_code
def yX9_tellNames : MethodName := ⟨RX9, "tellNames", "(IIIII)V"⟩
abbrev cX9_loseNobody : ByteArray := prog_11_method_15_code
def yX9_loseNobody : MethodName := ⟨RX9, "loseNobody", "()V"⟩
abbrev cX9_goBy : ByteArray := prog_11_method_16_code
def yX9_goBy : MethodName := ⟨RX9, "goBy", "()V"⟩
abbrev cX9_spend : ByteArray := prog_11_method_17_code
def yX9_spend : MethodName := ⟨RX9, "spend", "(II)V"⟩
abbrev cX9_isSpoilt : ByteArray := prog_11_method_18_code
def yX9_isSpoilt : MethodName := ⟨RX9, "isSpoilt", "(II)Z"⟩
def RX10 : String := "MoorGuides$Tokens"
def TX10 : u_T := fun k => match k with
  | 0 => ("MoorGuides$Tokens", "words", "[J", true)
  | 1 => ("MoorGuides$Tokens", "kinds", "[I", true)
  | 2 => ("MoorGuides$Tokens", "places", "[I", true)
  | 3 => ("MoorGuides$Tokens", "values", "[I", true)
  | 4 => ("MoorGuides$Tokens", "size", "I", false)
  | 5 => ("MoorGuides$Tokens", "next", "I", false)
  | 6 => ("MoorGuides$Tokens", "bytes", "[B", false)
  | 7 => ("MoorGuides$Tokens", "length", "I", false)
  | 8 => ("MoorGuides$Tokens", "token", "I", false)
  | 9 => ("MoorGuides$Tokens", "place", "I", false)
  | _ => ("MoorGuides$Tokens", "value", "I", false)
def tyX10 : Nat → FieldType := fun k => match k with
  | 0 => .array .long
  | 1 => .array .int
  | 2 => .array .int
  | 3 => .array .int
  | 4 => .int
  | 5 => .int
  | 6 => .array .byte
  | 7 => .int
  | 8 => .int
  | 9 => .int
  | _ => .int
abbrev wsX100 : List Cond := u_ws RX10 TX10 11
theorem nmX10 : ∀ a, a < 11 → ∀ b, b < 11 → a ≠ b → (TX10 a).2.1 ≠ (TX10 b).2.1 := by decide +kernel
theorem tyX10_ok : ∀ k, k < 11 → parseFieldDescriptor (TX10 k).2.2.1 = some (tyX10 k) := by decide +kernel
abbrev cX10_init : ByteArray := prog_12_method_1_code
def yX10_init : MethodName := ⟨RX10, "<init>", "()V"⟩
abbrev cX10_begin : ByteArray := prog_12_method_2_code
def yX10_begin : MethodName := ⟨RX10, "begin", "([BI)V"⟩
abbrev cX10_advance : ByteArray := prog_12_method_3_code
def yX10_advance : MethodName := ⟨RX10, "advance", "()V"⟩
abbrev cX10_add : ByteArray := prog_12_method_4_code
def yX10_add : MethodName := ⟨RX10, "add", "(III)V"⟩
abbrev cX10_byteAt : ByteArray := prog_12_method_5_code
def yX10_byteAt : MethodName := ⟨RX10, "byteAt", "(I)I"⟩
abbrev cX10_cut : ByteArray := prog_12_method_6_code
def yX10_cut : MethodName := ⟨RX10, "cut", "(I)I"⟩
abbrev cX10_cutWord : ByteArray := prog_12_method_7_code
def yX10_cutWord : MethodName := ⟨RX10, "cutWord", "(I)I"⟩
abbrev cX10_wordNumber : ByteArray := prog_12_method_8_code
def yX10_wordNumber : MethodName := ⟨RX10, "wordNumber", "(J)I"⟩
abbrev cX10_cutNumber : ByteArray := prog_12_method_9_code
def yX10_cutNumber : MethodName := ⟨RX10, "cutNumber", "(I)I"⟩
abbrev cX10_cutSign : ByteArray := prog_12_method_10_code
def yX10_cutSign : MethodName := ⟨RX10, "cutSign", "(I)I"⟩
abbrev cX10_isName : ByteArray := prog_12_method_11_code
def yX10_isName : MethodName := ⟨RX10, "isName", "(I)Z"⟩
abbrev cX10_isLetter : ByteArray := prog_12_method_12_code
def yX10_isLetter : MethodName := ⟨RX10, "isLetter", "(I)Z"⟩
abbrev cX10_isDigit : ByteArray := prog_12_method_13_code
def yX10_isDigit : MethodName := ⟨RX10, "isDigit", "(I)Z"⟩
def RX11 : String := "MoorGuides"
def TX11 : u_T := fun k => match k with
  | 0 => ("MoorGuides", "tape", "[B", true)
  | 1 => ("MoorGuides", "tapeLength", "I", false)
  | 2 => ("MoorGuides", "moor", "LMoorGuides$Moor;", false)
  | 3 => ("MoorGuides", "draft", "LMoorGuides$Moor;", false)
  | 4 => ("MoorGuides", "reader", "LMoorGuides$Reader;", true)
  | 5 => ("MoorGuides", "stand", "LMoorGuides$Stand;", true)
  | 6 => ("MoorGuides", "image", "LMoorGuides$Stand;", true)
  | 7 => ("MoorGuides", "hasImage", "Z", false)
  | 8 => ("MoorGuides", "undoable", "I", false)
  | 9 => ("MoorGuides", "undoPerson", "[I", true)
  | 10 => ("MoorGuides", "undoPart", "[I", true)
  | 11 => ("MoorGuides", "leading", "LMoorGuides$Leading;", true)
  | 12 => ("MoorGuides", "sharing", "LMoorGuides$Sharing;", true)
  | 13 => ("MoorGuides", "ordering", "LMoorGuides$Ordering;", true)
  | 14 => ("MoorGuides", "masters", "LMoorGuides$Masters;", true)
  | _ => ("MoorGuides", "claims", "LMoorGuides$Claims;", true)
def tyX11 : Nat → FieldType := fun k => match k with
  | 0 => .array .byte
  | 1 => .int
  | 2 => .object "MoorGuides$Moor"
  | 3 => .object "MoorGuides$Moor"
  | 4 => .object "MoorGuides$Reader"
  | 5 => .object "MoorGuides$Stand"
  | 6 => .object "MoorGuides$Stand"
  | 7 => .boolean
  | 8 => .int
  | 9 => .array .int
  | 10 => .array .int
  | 11 => .object "MoorGuides$Leading"
  | 12 => .object "MoorGuides$Sharing"
  | 13 => .object "MoorGuides$Ordering"
  | 14 => .object "MoorGuides$Masters"
  | _ => .object "MoorGuides$Claims"
abbrev wsX110 : List Cond := u_ws RX11 TX11 16
theorem nmX11 : ∀ a, a < 16 → ∀ b, b < 16 → a ≠ b → (TX11 a).2.1 ≠ (TX11 b).2.1 := by decide +kernel
theorem tyX11_ok : ∀ k, k < 16 → parseFieldDescriptor (TX11 k).2.2.1 = some (tyX11 k) := by decide +kernel
abbrev cX11_init : ByteArray := prog_1_method_1_code
def yX11_init : MethodName := ⟨RX11, "<init>", "()V"⟩
abbrev cX11_feed : ByteArray := prog_1_method_2_code
def yX11_feed : MethodName := ⟨RX11, "feed", "(IIIII)I"⟩
abbrev cX11_feedNumber : ByteArray := prog_1_method_3_code
def yX11_feedNumber : MethodName := ⟨RX11, "feedNumber", "(I)V"⟩
abbrev cX11_text : ByteArray := prog_1_method_4_code
def yX11_text : MethodName := ⟨RX11, "text", "(I)I"⟩
abbrev cX11_fault : ByteArray := prog_1_method_5_code
def yX11_fault : MethodName := ⟨RX11, "fault", "(I)I"⟩
abbrev cX11_named : ByteArray := prog_1_method_6_code
def yX11_named : MethodName := ⟨RX11, "named", "(II)I"⟩
abbrev cX11_look : ByteArray := prog_1_method_7_code
def yX11_look : MethodName := ⟨RX11, "look", "(II)I"⟩
abbrev cX11_part : ByteArray := prog_1_method_8_code
def yX11_part : MethodName := ⟨RX11, "part", "(II)I"⟩
abbrev cX11_knows : ByteArray := prog_1_method_9_code
def yX11_knows : MethodName := ⟨RX11, "knows", "(III)I"⟩
abbrev cX11_steps : ByteArray := prog_1_method_10_code
def yX11_steps : MethodName := ⟨RX11, "steps", "(II)I"⟩
abbrev cX11_chance : ByteArray := prog_1_method_11_code
def yX11_chance : MethodName := ⟨RX11, "chance", "(II)I"⟩
abbrev cX11_law : ByteArray := prog_1_method_12_code
def yX11_law : MethodName := ⟨RX11, "law", "(III)J"⟩
abbrev cX11_lose : ByteArray := prog_1_method_13_code
def yX11_lose : MethodName := ⟨RX11, "lose", "(II)Z"⟩
abbrev cX11_nights : ByteArray := prog_1_method_14_code
def yX11_nights : MethodName := ⟨RX11, "nights", "(I)I"⟩
abbrev cX11_led : ByteArray := prog_1_method_15_code
def yX11_led : MethodName := ⟨RX11, "led", "(II)I"⟩
abbrev cX11_way : ByteArray := prog_1_method_16_code
def yX11_way : MethodName := ⟨RX11, "way", "(III)I"⟩
abbrev cX11_round : ByteArray := prog_1_method_17_code
def yX11_round : MethodName := ⟨RX11, "round", "(II)I"⟩
abbrev cX11_share : ByteArray := prog_1_method_18_code
def yX11_share : MethodName := ⟨RX11, "share", "(II)I"⟩
abbrev cX11_worth : ByteArray := prog_1_method_19_code
def yX11_worth : MethodName := ⟨RX11, "worth", "(II)I"⟩
abbrev cX11_stranger : ByteArray := prog_1_method_20_code
def yX11_stranger : MethodName := ⟨RX11, "stranger", "(II)I"⟩
abbrev cX11_fewest : ByteArray := prog_1_method_21_code
def yX11_fewest : MethodName := ⟨RX11, "fewest", "(II)I"⟩
abbrev cX11_order : ByteArray := prog_1_method_22_code
def yX11_order : MethodName := ⟨RX11, "order", "(III)J"⟩
abbrev cX11_ordered : ByteArray := prog_1_method_23_code
def yX11_ordered : MethodName := ⟨RX11, "ordered", "(III)I"⟩
abbrev cX11_pick : ByteArray := prog_1_method_24_code
def yX11_pick : MethodName := ⟨RX11, "pick", "(II)I"⟩
abbrev cX11_season : ByteArray := prog_1_method_25_code
def yX11_season : MethodName := ⟨RX11, "season", "(IIII)I"⟩
abbrev cX11_claim : ByteArray := prog_1_method_26_code
def yX11_claim : MethodName := ⟨RX11, "claim", "(III)I"⟩
abbrev cX11_wrongly : ByteArray := prog_1_method_27_code
def yX11_wrongly : MethodName := ⟨RX11, "wrongly", "()I"⟩
abbrev cX11_against : ByteArray := prog_1_method_28_code
def yX11_against : MethodName := ⟨RX11, "against", "(I)I"⟩
abbrev cX11_slide : ByteArray := prog_1_method_29_code
def yX11_slide : MethodName := ⟨RX11, "slide", "(I)I"⟩
abbrev cX11_undo : ByteArray := prog_1_method_30_code
def yX11_undo : MethodName := ⟨RX11, "undo", "()I"⟩
abbrev cX11_keep : ByteArray := prog_1_method_31_code
def yX11_keep : MethodName := ⟨RX11, "keep", "()I"⟩
abbrev cX11_back : ByteArray := prog_1_method_32_code
def yX11_back : MethodName := ⟨RX11, "back", "()I"⟩
abbrev cX11_count : ByteArray := prog_1_method_33_code
def yX11_count : MethodName := ⟨RX11, "count", "(I)I"⟩
abbrev cX11_remember : ByteArray := prog_1_method_34_code
def yX11_remember : MethodName := ⟨RX11, "remember", "(II)V"⟩
abbrev cX11_isPart : ByteArray := prog_1_method_35_code
def yX11_isPart : MethodName := ⟨RX11, "isPart", "(I)Z"⟩
abbrev cX11_isPartSet : ByteArray := prog_1_method_36_code
def yX11_isPartSet : MethodName := ⟨RX11, "isPartSet", "(I)Z"⟩
abbrev cX11_isPerson : ByteArray := prog_1_method_37_code
def yX11_isPerson : MethodName := ⟨RX11, "isPerson", "(I)Z"⟩
abbrev cX11_isParty : ByteArray := prog_1_method_38_code
def yX11_isParty : MethodName := ⟨RX11, "isParty", "(I)Z"⟩
abbrev cX11_isThereTonight : ByteArray := prog_1_method_39_code
def yX11_isThereTonight : MethodName := ⟨RX11, "isThereTonight", "(I)Z"⟩
abbrev cX11_isOrder : ByteArray := prog_1_method_40_code
def yX11_isOrder : MethodName := ⟨RX11, "isOrder", "(II)Z"⟩
abbrev cX11_isNight : ByteArray := prog_1_method_41_code
def yX11_isNight : MethodName := ⟨RX11, "isNight", "(I)Z"⟩
abbrev cX11_isMaster : ByteArray := prog_1_method_42_code
def yX11_isMaster : MethodName := ⟨RX11, "isMaster", "(I)Z"⟩
abbrev cX11_indexOf : ByteArray := prog_1_method_43_code
def yX11_indexOf : MethodName := ⟨RX11, "indexOf", "([III)I"⟩
def RX12 : String := "MoorGuidesModel"
def TX12 : u_T := fun k => match k with
  | 0 => ("MoorGuidesModel", "tape", "[I", true)
  | 1 => ("MoorGuidesModel", "tapeSize", "I", false)
  | 2 => ("MoorGuidesModel", "thrown", "I", false)
  | 3 => ("MoorGuidesModel", "words", "[I", true)
  | 4 => ("MoorGuidesModel", "fault", "I", false)
  | 5 => ("MoorGuidesModel", "faultPlace", "I", false)
  | 6 => ("MoorGuidesModel", "stop", "I", false)
  | 7 => ("MoorGuidesModel", "next", "I", false)
  | 8 => ("MoorGuidesModel", "kind", "I", false)
  | 9 => ("MoorGuidesModel", "which", "I", false)
  | 10 => ("MoorGuidesModel", "at", "I", false)
  | 11 => ("MoorGuidesModel", "got", "I", false)
  | 12 => ("MoorGuidesModel", "parts", "I", false)
  | 13 => ("MoorGuidesModel", "people", "I", false)
  | 14 => ("MoorGuidesModel", "parties", "I", false)
  | 15 => ("MoorGuidesModel", "weathers", "I", false)
  | 16 => ("MoorGuidesModel", "slidesTold", "I", false)
  | 17 => ("MoorGuidesModel", "near", "I", false)
  | 18 => ("MoorGuidesModel", "seedTold", "I", false)
  | 19 => ("MoorGuidesModel", "knots", "I", false)
  | 20 => ("MoorGuidesModel", "partsRead", "I", false)
  | 21 => ("MoorGuidesModel", "peopleRead", "I", false)
  | 22 => ("MoorGuidesModel", "partiesRead", "I", false)
  | 23 => ("MoorGuidesModel", "weathersRead", "I", false)
  | 24 => ("MoorGuidesModel", "slidesRead", "I", false)
  | 25 => ("MoorGuidesModel", "nearRead", "I", false)
  | 26 => ("MoorGuidesModel", "seedRead", "I", false)
  | 27 => ("MoorGuidesModel", "knotsRead", "I", false)
  | 28 => ("MoorGuidesModel", "weatherTold", "Z", false)
  | 29 => ("MoorGuidesModel", "nearTold", "Z", false)
  | 30 => ("MoorGuidesModel", "seedSaid", "Z", false)
  | 31 => ("MoorGuidesModel", "partName", "[I", true)
  | 32 => ("MoorGuidesModel", "odds", "[I", true)
  | 33 => ("MoorGuidesModel", "beside", "[I", true)
  | 34 => ("MoorGuidesModel", "personName", "[I", true)
  | 35 => ("MoorGuidesModel", "atFirst", "[I", true)
  | 36 => ("MoorGuidesModel", "cost", "[I", true)
  | 37 => ("MoorGuidesModel", "from", "[I", true)
  | 38 => ("MoorGuidesModel", "till", "[I", true)
  | 39 => ("MoorGuidesModel", "forget", "[I", true)
  | 40 => ("MoorGuidesModel", "partyFrom", "[I", true)
  | 41 => ("MoorGuidesModel", "partyTo", "[I", true)
  | 42 => ("MoorGuidesModel", "partyNight", "[I", true)
  | 43 => ("MoorGuidesModel", "price", "[I", true)
  | 44 => ("MoorGuidesModel", "weather", "[I", true)
  | 45 => ("MoorGuidesModel", "slidePart", "[I", true)
  | 46 => ("MoorGuidesModel", "slideNight", "[I", true)
  | 47 => ("MoorGuidesModel", "lawTold", "[Z", true)
  | 48 => ("MoorGuidesModel", "first", "[I", true)
  | 49 => ("MoorGuidesModel", "last", "[I", true)
  | 50 => ("MoorGuidesModel", "knot", "[I", true)
  | 51 => ("MoorGuidesModel", "part", "[I", true)
  | 52 => ("MoorGuidesModel", "other", "[I", true)
  | 53 => ("MoorGuidesModel", "wait", "[I", true)
  | 54 => ("MoorGuidesModel", "held", "[I", true)
  | 55 => ("MoorGuidesModel", "waits", "I", false)
  | 56 => ("MoorGuidesModel", "helds", "I", false)
  | 57 => ("MoorGuidesModel", "brackets", "I", false)
  | 58 => ("MoorGuidesModel", "counted", "I", false)
  | 59 => ("MoorGuidesModel", "wants", "Z", false)
  | 60 => ("MoorGuidesModel", "mayNot", "Z", false)
  | 61 => ("MoorGuidesModel", "names", "[J", true)
  | 62 => ("MoorGuidesModel", "value", "[J", true)
  | 63 => ("MoorGuidesModel", "isError", "Z", false)
  | 64 => ("MoorGuidesModel", "night", "I", false)
  | 65 => ("MoorGuidesModel", "slides", "I", false)
  | 66 => ("MoorGuidesModel", "learned", "[I", true)
  | 67 => ("MoorGuidesModel", "fresh", "[Z", true)
  | 68 => ("MoorGuidesModel", "gone", "[Z", true)
  | 69 => ("MoorGuidesModel", "times", "[I", true)
  | 70 => ("MoorGuidesModel", "lostIn", "[I", true)
  | 71 => ("MoorGuidesModel", "drawn", "[J", true)
  | 72 => ("MoorGuidesModel", "steps", "[I", true)
  | 73 => ("MoorGuidesModel", "around", "[I", true)
  | 74 => ("MoorGuidesModel", "undos", "I", false)
  | 75 => ("MoorGuidesModel", "undo", "[I", true)
  | 76 => ("MoorGuidesModel", "chances", "[I", true)
  | 77 => ("MoorGuidesModel", "known", "[I", true)
  | 78 => ("MoorGuidesModel", "still", "[I", true)
  | 79 => ("MoorGuidesModel", "way", "[I", true)
  | 80 => ("MoorGuidesModel", "guide", "[I", true)
  | 81 => ("MoorGuidesModel", "hands", "[I", true)
  | 82 => ("MoorGuidesModel", "wayLong", "I", false)
  | 83 => ("MoorGuidesModel", "wayHands", "I", false)
  | 84 => ("MoorGuidesModel", "spent", "[I", true)
  | 85 => ("MoorGuidesModel", "then", "[I", true)
  | 86 => ("MoorGuidesModel", "shares", "[I", true)
  | 87 => ("MoorGuidesModel", "ordered", "I", false)
  | 88 => ("MoorGuidesModel", "row", "[I", true)
  | 89 => ("MoorGuidesModel", "bestRow", "[I", true)
  | 90 => ("MoorGuidesModel", "bestUp", "J", false)
  | 91 => ("MoorGuidesModel", "pickedWho", "I", false)
  | 92 => ("MoorGuidesModel", "pickedPart", "I", false)
  | 93 => ("MoorGuidesModel", "claims", "I", false)
  | 94 => ("MoorGuidesModel", "claimWho", "[I", true)
  | 95 => ("MoorGuidesModel", "claimNight", "[I", true)
  | 96 => ("MoorGuidesModel", "claimPart", "[I", true)
  | 97 => ("MoorGuidesModel", "hasImage", "Z", false)
  | 98 => ("MoorGuidesModel", "imageNight", "I", false)
  | 99 => ("MoorGuidesModel", "imageSlides", "I", false)
  | 100 => ("MoorGuidesModel", "imageDrawn", "J", false)
  | 101 => ("MoorGuidesModel", "imageLearned", "[I", true)
  | 102 => ("MoorGuidesModel", "imageFresh", "[Z", true)
  | 103 => ("MoorGuidesModel", "imageGone", "[Z", true)
  | 104 => ("MoorGuidesModel", "imageTimes", "[I", true)
  | 105 => ("MoorGuidesModel", "imageLost", "[I", true)
  | 106 => ("MoorGuidesModel", "imagePart", "[I", true)
  | _ => ("MoorGuidesModel", "imageOn", "[I", true)
def tyX12 : Nat → FieldType := fun k => match k with
  | 0 => .array .int
  | 1 => .int
  | 2 => .int
  | 3 => .array .int
  | 4 => .int
  | 5 => .int
  | 6 => .int
  | 7 => .int
  | 8 => .int
  | 9 => .int
  | 10 => .int
  | 11 => .int
  | 12 => .int
  | 13 => .int
  | 14 => .int
  | 15 => .int
  | 16 => .int
  | 17 => .int
  | 18 => .int
  | 19 => .int
  | 20 => .int
  | 21 => .int
  | 22 => .int
  | 23 => .int
  | 24 => .int
  | 25 => .int
  | 26 => .int
  | 27 => .int
  | 28 => .boolean
  | 29 => .boolean
  | 30 => .boolean
  | 31 => .array .int
  | 32 => .array .int
  | 33 => .array .int
  | 34 => .array .int
  | 35 => .array .int
  | 36 => .array .int
  | 37 => .array .int
  | 38 => .array .int
  | 39 => .array .int
  | 40 => .array .int
  | 41 => .array .int
  | 42 => .array .int
  | 43 => .array .int
  | 44 => .array .int
  | 45 => .array .int
  | 46 => .array .int
  | 47 => .array .boolean
  | 48 => .array .int
  | 49 => .array .int
  | 50 => .array .int
  | 51 => .array .int
  | 52 => .array .int
  | 53 => .array .int
  | 54 => .array .int
  | 55 => .int
  | 56 => .int
  | 57 => .int
  | 58 => .int
  | 59 => .boolean
  | 60 => .boolean
  | 61 => .array .long
  | 62 => .array .long
  | 63 => .boolean
  | 64 => .int
  | 65 => .int
  | 66 => .array .int
  | 67 => .array .boolean
  | 68 => .array .boolean
  | 69 => .array .int
  | 70 => .array .int
  | 71 => .array .long
  | 72 => .array .int
  | 73 => .array .int
  | 74 => .int
  | 75 => .array .int
  | 76 => .array .int
  | 77 => .array .int
  | 78 => .array .int
  | 79 => .array .int
  | 80 => .array .int
  | 81 => .array .int
  | 82 => .int
  | 83 => .int
  | 84 => .array .int
  | 85 => .array .int
  | 86 => .array .int
  | 87 => .int
  | 88 => .array .int
  | 89 => .array .int
  | 90 => .long
  | 91 => .int
  | 92 => .int
  | 93 => .int
  | 94 => .array .int
  | 95 => .array .int
  | 96 => .array .int
  | 97 => .boolean
  | 98 => .int
  | 99 => .int
  | 100 => .long
  | 101 => .array .int
  | 102 => .array .boolean
  | 103 => .array .boolean
  | 104 => .array .int
  | 105 => .array .int
  | 106 => .array .int
  | _ => .array .int
abbrev wsX120 : List Cond := u_ws RX12 TX12 108
theorem nmX12 : ∀ a, a < 108 → ∀ b, b < 108 → a ≠ b → (TX12 a).2.1 ≠ (TX12 b).2.1 := by decide +kernel
theorem tyX12_ok : ∀ k, k < 108 → parseFieldDescriptor (TX12 k).2.2.1 = some (tyX12 k) := by decide +kernel
abbrev cX12_init : ByteArray := prog_14_method_1_code
def yX12_init : MethodName := ⟨RX12, "<init>", "()V"⟩
abbrev cX12_thrown : ByteArray := prog_14_method_2_code
def yX12_thrown : MethodName := ⟨RX12, "thrown", "()I"⟩
abbrev cX12_feed : ByteArray := prog_14_method_3_code
def yX12_feed : MethodName := ⟨RX12, "feed", "(IIIII)I"⟩
abbrev cX12_isIn : ByteArray := prog_14_method_4_code
def yX12_isIn : MethodName := ⟨RX12, "isIn", "(III)Z"⟩
abbrev cX12_isOf : ByteArray := prog_14_method_5_code
def yX12_isOf : MethodName := ⟨RX12, "isOf", "(II)Z"⟩
abbrev cX12_wrong : ByteArray := prog_14_method_6_code
def yX12_wrong : MethodName := ⟨RX12, "wrong", "(I)Z"⟩
abbrev cX12_wordAt : ByteArray := prog_14_method_7_code
def yX12_wordAt : MethodName := ⟨RX12, "wordAt", "(II)I"⟩
abbrev cX12_isSmall : ByteArray := prog_14_method_8_code
def yX12_isSmall : MethodName := ⟨RX12, "isSmall", "(I)Z"⟩
abbrev cX12_isDigit : ByteArray := prog_14_method_9_code
def yX12_isDigit : MethodName := ⟨RX12, "isDigit", "(I)Z"⟩
abbrev cX12_token : ByteArray := prog_14_method_10_code
def yX12_token : MethodName := ⟨RX12, "token", "()V"⟩
abbrev cX12_signToken : ByteArray := prog_14_method_11_code
def yX12_signToken : MethodName := ⟨RX12, "signToken", "()V"⟩
abbrev cX12_packed : ByteArray := prog_14_method_12_code
def yX12_packed : MethodName := ⟨RX12, "packed", "(II)I"⟩
abbrev cX12_isKey : ByteArray := prog_14_method_13_code
def yX12_isKey : MethodName := ⟨RX12, "isKey", "(I)Z"⟩
abbrev cX12_isSign : ByteArray := prog_14_method_14_code
def yX12_isSign : MethodName := ⟨RX12, "isSign", "(I)Z"⟩
abbrev cX12_number : ByteArray := prog_14_method_15_code
def yX12_number : MethodName := ⟨RX12, "number", "(II)Z"⟩
abbrev cX12_plain : ByteArray := prog_14_method_17_code
def yX12_plain : MethodName := ⟨RX12, "plain", "()V"⟩
abbrev cX12_copies : ByteArray := prog_14_method_18_code
def yX12_copies : MethodName := ⟨RX12, "copies", "([II)V"⟩
abbrev cX12_keepText : ByteArray := prog_14_method_19_code
def yX12_keepText : MethodName := ⟨RX12, "keepText", "()V"⟩
abbrev cX12_find : ByteArray := prog_14_method_20_code
def yX12_find : MethodName := ⟨RX12, "find", "([IIII)I"⟩
abbrev cX12_newName : ByteArray := prog_14_method_21_code
def yX12_newName : MethodName := ⟨RX12, "newName", "([III)Z"⟩
abbrev cX12_partMet : ByteArray := prog_14_method_22_code
def yX12_partMet : MethodName := ⟨RX12, "partMet", "()Z"⟩
abbrev cX12_partRead1 : ByteArray := prog_14_method_23_code
def yX12_partRead1 : MethodName := ⟨RX12, "partRead1", "()Z"⟩
abbrev cX12_partLine : ByteArray := prog_14_method_24_code
def yX12_partLine : MethodName := ⟨RX12, "partLine", "()Z"⟩
abbrev cX12_knowsRead : ByteArray := prog_14_method_25_code
def yX12_knowsRead : MethodName := ⟨RX12, "knowsRead", "(I)Z"⟩
abbrev cX12_personLine : ByteArray := prog_14_method_26_code
def yX12_personLine : MethodName := ⟨RX12, "personLine", "()Z"⟩
abbrev cX12_partyLine : ByteArray := prog_14_method_27_code
def yX12_partyLine : MethodName := ⟨RX12, "partyLine", "()Z"⟩
abbrev cX12_weatherLine : ByteArray := prog_14_method_28_code
def yX12_weatherLine : MethodName := ⟨RX12, "weatherLine", "()Z"⟩
abbrev cX12_slideLine : ByteArray := prog_14_method_29_code
def yX12_slideLine : MethodName := ⟨RX12, "slideLine", "()Z"⟩
abbrev cX12_lawLine : ByteArray := prog_14_method_30_code
def yX12_lawLine : MethodName := ⟨RX12, "lawLine", "()Z"⟩
abbrev cX12_lineRead : ByteArray := prog_14_method_31_code
def yX12_lineRead : MethodName := ⟨RX12, "lineRead", "()Z"⟩
abbrev cX12_text : ByteArray := prog_14_method_32_code
def yX12_text : MethodName := ⟨RX12, "text", "(I)I"⟩
abbrev cX12_fault : ByteArray := prog_14_method_33_code
def yX12_fault : MethodName := ⟨RX12, "fault", "(I)I"⟩
abbrev cX12_named : ByteArray := prog_14_method_34_code
def yX12_named : MethodName := ⟨RX12, "named", "(II)I"⟩
abbrev cX12_rank : ByteArray := prog_14_method_35_code
def yX12_rank : MethodName := ⟨RX12, "rank", "(I)I"⟩
abbrev cX12_grown : ByteArray := prog_14_method_36_code
def yX12_grown : MethodName := ⟨RX12, "grown", "(III)V"⟩
abbrev cX12_dropHeld : ByteArray := prog_14_method_37_code
def yX12_dropHeld : MethodName := ⟨RX12, "dropHeld", "()I"⟩
abbrev cX12_bind : ByteArray := prog_14_method_38_code
def yX12_bind : MethodName := ⟨RX12, "bind", "(I)V"⟩
abbrev cX12_isCounted : ByteArray := prog_14_method_39_code
def yX12_isCounted : MethodName := ⟨RX12, "isCounted", "()Z"⟩
abbrev cX12_waitsFor : ByteArray := prog_14_method_40_code
def yX12_waitsFor : MethodName := ⟨RX12, "waitsFor", "(I)V"⟩
abbrev cX12_nameMet : ByteArray := prog_14_method_41_code
def yX12_nameMet : MethodName := ⟨RX12, "nameMet", "()I"⟩
abbrev cX12_leafRead : ByteArray := prog_14_method_42_code
def yX12_leafRead : MethodName := ⟨RX12, "leafRead", "()Z"⟩
abbrev cX12_signs : ByteArray := prog_14_method_43_code
def yX12_signs : MethodName := ⟨RX12, "signs", "()Z"⟩
abbrev cX12_sumRead : ByteArray := prog_14_method_44_code
def yX12_sumRead : MethodName := ⟨RX12, "sumRead", "()Z"⟩
abbrev cX12_bounded : ByteArray := prog_14_method_45_code
def yX12_bounded : MethodName := ⟨RX12, "bounded", "(J)J"⟩
abbrev cX12_compares : ByteArray := prog_14_method_46_code
def yX12_compares : MethodName := ⟨RX12, "compares", "(IJJ)Z"⟩
abbrev cX12_times : ByteArray := prog_14_method_47_code
def yX12_times : MethodName := ⟨RX12, "times", "(JJ)J"⟩
abbrev cX12_valueOf : ByteArray := prog_14_method_48_code
def yX12_valueOf : MethodName := ⟨RX12, "valueOf", "(I)J"⟩
abbrev cX12_begin : ByteArray := prog_14_method_49_code
def yX12_begin : MethodName := ⟨RX12, "begin", "()V"⟩
abbrev cX12_layTried : ByteArray := prog_14_method_50_code
def yX12_layTried : MethodName := ⟨RX12, "layTried", "()V"⟩
abbrev cX12_isThere : ByteArray := prog_14_method_51_code
def yX12_isThere : MethodName := ⟨RX12, "isThere", "(III)Z"⟩
abbrev cX12_hasKnown : ByteArray := prog_14_method_52_code
def yX12_hasKnown : MethodName := ⟨RX12, "hasKnown", "(IIII)Z"⟩
abbrev cX12_knownBy : ByteArray := prog_14_method_53_code
def yX12_knownBy : MethodName := ⟨RX12, "knownBy", "(III)I"⟩
abbrev cX12_isPerson : ByteArray := prog_14_method_54_code
def yX12_isPerson : MethodName := ⟨RX12, "isPerson", "(I)Z"⟩
abbrev cX12_isPart : ByteArray := prog_14_method_55_code
def yX12_isPart : MethodName := ⟨RX12, "isPart", "(I)Z"⟩
abbrev cX12_isParty : ByteArray := prog_14_method_56_code
def yX12_isParty : MethodName := ⟨RX12, "isParty", "(I)Z"⟩
abbrev cX12_isNight : ByteArray := prog_14_method_57_code
def yX12_isNight : MethodName := ⟨RX12, "isNight", "(I)Z"⟩
abbrev cX12_fails : ByteArray := prog_14_method_58_code
def yX12_fails : MethodName := ⟨RX12, "fails", "(I)I"⟩
abbrev cX12_look : ByteArray := prog_14_method_59_code
def yX12_look : MethodName := ⟨RX12, "look", "(II)I"⟩
abbrev cX12_wantedOf : ByteArray := prog_14_method_60_code
def yX12_wantedOf : MethodName := ⟨RX12, "wantedOf", "(II)I"⟩
abbrev cX12_part : ByteArray := prog_14_method_61_code
def yX12_part : MethodName := ⟨RX12, "part", "(II)I"⟩
abbrev cX12_knows : ByteArray := prog_14_method_62_code
def yX12_knows : MethodName := ⟨RX12, "knows", "(III)I"⟩
abbrev cX12_layWays : ByteArray := prog_14_method_63_code
def yX12_layWays : MethodName := ⟨RX12, "layWays", "([II)V"⟩
abbrev cX12_laySteps : ByteArray := prog_14_method_64_code
def yX12_laySteps : MethodName := ⟨RX12, "laySteps", "()V"⟩
abbrev cX12_steps : ByteArray := prog_14_method_65_code
def yX12_steps : MethodName := ⟨RX12, "steps", "(II)I"⟩
abbrev cX12_manyOf : ByteArray := prog_14_method_66_code
def yX12_manyOf : MethodName := ⟨RX12, "manyOf", "(I)I"⟩
abbrev cX12_lawOf : ByteArray := prog_14_method_67_code
def yX12_lawOf : MethodName := ⟨RX12, "lawOf", "(IIIII)J"⟩
abbrev cX12_chanceOf : ByteArray := prog_14_method_68_code
def yX12_chanceOf : MethodName := ⟨RX12, "chanceOf", "(IIII)I"⟩
abbrev cX12_chance : ByteArray := prog_14_method_69_code
def yX12_chance : MethodName := ⟨RX12, "chance", "(II)I"⟩
abbrev cX12_law : ByteArray := prog_14_method_70_code
def yX12_law : MethodName := ⟨RX12, "law", "(III)J"⟩
abbrev cX12_remember : ByteArray := prog_14_method_71_code
def yX12_remember : MethodName := ⟨RX12, "remember", "(III)V"⟩
abbrev cX12_lose : ByteArray := prog_14_method_72_code
def yX12_lose : MethodName := ⟨RX12, "lose", "(II)Z"⟩
abbrev cX12_isSpoilt : ByteArray := prog_14_method_73_code
def yX12_isSpoilt : MethodName := ⟨RX12, "isSpoilt", "(II)Z"⟩
abbrev cX12_goesBy : ByteArray := prog_14_method_74_code
def yX12_goesBy : MethodName := ⟨RX12, "goesBy", "(II)V"⟩
abbrev cX12_nights : ByteArray := prog_14_method_75_code
def yX12_nights : MethodName := ⟨RX12, "nights", "(I)I"⟩
abbrev cX12_layKnown : ByteArray := prog_14_method_76_code
def yX12_layKnown : MethodName := ⟨RX12, "layKnown", "(III)V"⟩
abbrev cX12_layStill : ByteArray := prog_14_method_77_code
def yX12_layStill : MethodName := ⟨RX12, "layStill", "(I)V"⟩
abbrev cX12_bestOn : ByteArray := prog_14_method_78_code
def yX12_bestOn : MethodName := ⟨RX12, "bestOn", "(I)I"⟩
abbrev cX12_leastOf : ByteArray := prog_14_method_79_code
def yX12_leastOf : MethodName := ⟨RX12, "leastOf", "(I)I"⟩
abbrev cX12_isLed : ByteArray := prog_14_method_80_code
def yX12_isLed : MethodName := ⟨RX12, "isLed", "(I)Z"⟩
abbrev cX12_goesOn : ByteArray := prog_14_method_81_code
def yX12_goesOn : MethodName := ⟨RX12, "goesOn", "(IIII)Z"⟩
abbrev cX12_layWay : ByteArray := prog_14_method_82_code
def yX12_layWay : MethodName := ⟨RX12, "layWay", "(I)Z"⟩
abbrev cX12_laySpent : ByteArray := prog_14_method_83_code
def yX12_laySpent : MethodName := ⟨RX12, "laySpent", "(I)V"⟩
abbrev cX12_layGuides : ByteArray := prog_14_method_84_code
def yX12_layGuides : MethodName := ⟨RX12, "layGuides", "()V"⟩
abbrev cX12_led : ByteArray := prog_14_method_85_code
def yX12_led : MethodName := ⟨RX12, "led", "(II)I"⟩
abbrev cX12_way : ByteArray := prog_14_method_86_code
def yX12_way : MethodName := ⟨RX12, "way", "(III)I"⟩
abbrev cX12_round : ByteArray := prog_14_method_87_code
def yX12_round : MethodName := ⟨RX12, "round", "(II)I"⟩
abbrev cX12_leads : ByteArray := prog_14_method_88_code
def yX12_leads : MethodName := ⟨RX12, "leads", "(II)Z"⟩
abbrev cX12_layShares : ByteArray := prog_14_method_89_code
def yX12_layShares : MethodName := ⟨RX12, "layShares", "(I)V"⟩
abbrev cX12_sharedBy : ByteArray := prog_14_method_90_code
def yX12_sharedBy : MethodName := ⟨RX12, "sharedBy", "(II)I"⟩
abbrev cX12_share : ByteArray := prog_14_method_91_code
def yX12_share : MethodName := ⟨RX12, "share", "(II)I"⟩
abbrev cX12_worth : ByteArray := prog_14_method_92_code
def yX12_worth : MethodName := ⟨RX12, "worth", "(II)I"⟩
abbrev cX12_areParts : ByteArray := prog_14_method_93_code
def yX12_areParts : MethodName := ⟨RX12, "areParts", "(I)Z"⟩
abbrev cX12_priceLed : ByteArray := prog_14_method_94_code
def yX12_priceLed : MethodName := ⟨RX12, "priceLed", "(I)I"⟩
abbrev cX12_stranger : ByteArray := prog_14_method_95_code
def yX12_stranger : MethodName := ⟨RX12, "stranger", "(II)I"⟩
abbrev cX12_allLed : ByteArray := prog_14_method_96_code
def yX12_allLed : MethodName := ⟨RX12, "allLed", "(II)Z"⟩
abbrev cX12_fewest : ByteArray := prog_14_method_97_code
def yX12_fewest : MethodName := ⟨RX12, "fewest", "(II)I"⟩
abbrev cX12_turn : ByteArray := prog_14_method_98_code
def yX12_turn : MethodName := ⟨RX12, "turn", "(II)V"⟩
abbrev cX12_nextRow : ByteArray := prog_14_method_99_code
def yX12_nextRow : MethodName := ⟨RX12, "nextRow", "(I)Z"⟩
abbrev cX12_upOf : ByteArray := prog_14_method_100_code
def yX12_upOf : MethodName := ⟨RX12, "upOf", "(I)J"⟩
abbrev cX12_layOrder : ByteArray := prog_14_method_101_code
def yX12_layOrder : MethodName := ⟨RX12, "layOrder", "(II)Z"⟩
abbrev cX12_order : ByteArray := prog_14_method_102_code
def yX12_order : MethodName := ⟨RX12, "order", "(III)J"⟩
abbrev cX12_ordered : ByteArray := prog_14_method_103_code
def yX12_ordered : MethodName := ⟨RX12, "ordered", "(III)I"⟩
abbrev cX12_pullOf : ByteArray := prog_14_method_104_code
def yX12_pullOf : MethodName := ⟨RX12, "pullOf", "(IIIII)J"⟩
abbrev cX12_pickOf : ByteArray := prog_14_method_105_code
def yX12_pickOf : MethodName := ⟨RX12, "pickOf", "(III)V"⟩
abbrev cX12_isMaster : ByteArray := prog_14_method_106_code
def yX12_isMaster : MethodName := ⟨RX12, "isMaster", "(I)Z"⟩
abbrev cX12_pick : ByteArray := prog_14_method_107_code
def yX12_pick : MethodName := ⟨RX12, "pick", "(II)I"⟩
abbrev cX12_season : ByteArray := prog_14_method_108_code
def yX12_season : MethodName := ⟨RX12, "season", "(IIII)I"⟩
abbrev cX12_claim : ByteArray := prog_14_method_109_code
def yX12_claim : MethodName := ⟨RX12, "claim", "(III)I"⟩
abbrev cX12_cannot : ByteArray := prog_14_method_110_code
def yX12_cannot : MethodName := ⟨RX12, "cannot", "(II)Z"⟩
abbrev cX12_canAll : ByteArray := prog_14_method_111_code
def yX12_canAll : MethodName := ⟨RX12, "canAll", "(I)Z"⟩
abbrev cX12_wrongly : ByteArray := prog_14_method_112_code
def yX12_wrongly : MethodName := ⟨RX12, "wrongly", "()I"⟩
abbrev cX12_against : ByteArray := prog_14_method_113_code
def yX12_against : MethodName := ⟨RX12, "against", "(I)I"⟩
abbrev cX12_slide : ByteArray := prog_14_method_114_code
def yX12_slide : MethodName := ⟨RX12, "slide", "(I)I"⟩
abbrev cX12_undo : ByteArray := prog_14_method_115_code
def yX12_undo : MethodName := ⟨RX12, "undo", "()I"⟩
abbrev cX12_keep : ByteArray := prog_14_method_116_code
def yX12_keep : MethodName := ⟨RX12, "keep", "()I"⟩
abbrev cX12_back : ByteArray := prog_14_method_117_code
def yX12_back : MethodName := ⟨RX12, "back", "()I"⟩
abbrev cX12_manyGone : ByteArray := prog_14_method_118_code
def yX12_manyGone : MethodName := ⟨RX12, "manyGone", "()I"⟩
abbrev cX12_count : ByteArray := prog_14_method_119_code
def yX12_count : MethodName := ⟨RX12, "count", "(I)I"⟩
def RJx145de : String := "java/io/Serializable"
def TJx145de : u_T := fun k => match k with
  | _ => ("", "", "", false)
def tyJx145de : Nat → FieldType := fun k => match k with
  | _ => .int
abbrev wsJx145de0 : List Cond := u_ws RJx145de TJx145de 0
theorem nmJx145de : ∀ a, a < 0 → ∀ b, b < 0 → a ≠ b → (TJx145de a).2.1 ≠ (TJx145de b).2.1 := by decide +kernel
theorem tyJx145de_ok : ∀ k, k < 0 → parseFieldDescriptor (TJx145de k).2.2.1 = some (tyJx145de k) := by decide +kernel
def RJx9f9b0 : String := "java/lang/CharSequence"
def TJx9f9b0 : u_T := fun k => match k with
  | _ => ("", "", "", false)
def tyJx9f9b0 : Nat → FieldType := fun k => match k with
  | _ => .int
abbrev wsJx9f9b00 : List Cond := u_ws RJx9f9b0 TJx9f9b0 0
theorem nmJx9f9b0 : ∀ a, a < 0 → ∀ b, b < 0 → a ≠ b → (TJx9f9b0 a).2.1 ≠ (TJx9f9b0 b).2.1 := by decide +kernel
theorem tyJx9f9b0_ok : ∀ k, k < 0 → parseFieldDescriptor (TJx9f9b0 k).2.2.1 = some (tyJx9f9b0 k) := by decide +kernel
def RJxb160c : String := "java/lang/Comparable"
def TJxb160c : u_T := fun k => match k with
  | _ => ("", "", "", false)
def tyJxb160c : Nat → FieldType := fun k => match k with
  | _ => .int
abbrev wsJxb160c0 : List Cond := u_ws RJxb160c TJxb160c 0
theorem nmJxb160c : ∀ a, a < 0 → ∀ b, b < 0 → a ≠ b → (TJxb160c a).2.1 ≠ (TJxb160c b).2.1 := by decide +kernel
theorem tyJxb160c_ok : ∀ k, k < 0 → parseFieldDescriptor (TJxb160c k).2.2.1 = some (tyJxb160c k) := by decide +kernel
def RJ6 : String := "java/lang/Integer"
def TJ6 : u_T := fun k => match k with
  | _ => ("", "", "", false)
def tyJ6 : Nat → FieldType := fun k => match k with
  | _ => .int
abbrev wsJ60 : List Cond := u_ws RJ6 TJ6 0
theorem nmJ6 : ∀ a, a < 0 → ∀ b, b < 0 → a ≠ b → (TJ6 a).2.1 ≠ (TJ6 b).2.1 := by decide +kernel
theorem tyJ6_ok : ∀ k, k < 0 → parseFieldDescriptor (TJ6 k).2.2.1 = some (tyJ6 k) := by decide +kernel
abbrev cJ6_numberOfTrailingZeros_0f7a4 : ByteArray := prog_20_method_48_code
def yJ6_numberOfTrailingZeros_0f7a4 : MethodName := ⟨RJ6, "numberOfTrailingZeros", "(I)I"⟩
abbrev cJ6_bitCount_0f7a4 : ByteArray := prog_20_method_49_code
def yJ6_bitCount_0f7a4 : MethodName := ⟨RJ6, "bitCount", "(I)I"⟩
def RJ9 : String := "java/lang/Math"
def TJ9 : u_T := fun k => match k with
  | _ => ("", "", "", false)
def tyJ9 : Nat → FieldType := fun k => match k with
  | _ => .int
abbrev wsJ90 : List Cond := u_ws RJ9 TJ9 0
theorem nmJ9 : ∀ a, a < 0 → ∀ b, b < 0 → a ≠ b → (TJ9 a).2.1 ≠ (TJ9 b).2.1 := by decide +kernel
theorem tyJ9_ok : ∀ k, k < 0 → parseFieldDescriptor (TJ9 k).2.2.1 = some (tyJ9 k) := by decide +kernel
abbrev cJ9_floorMod_7cf53 : ByteArray := prog_21_method_50_code
def yJ9_floorMod_7cf53 : MethodName := ⟨RJ9, "floorMod", "(II)I"⟩
abbrev cJ9_abs_067f4 : ByteArray := prog_21_method_61_code
def yJ9_abs_067f4 : MethodName := ⟨RJ9, "abs", "(J)J"⟩
abbrev cJ9_max_7cf53 : ByteArray := prog_21_method_65_code
def yJ9_max_7cf53 : MethodName := ⟨RJ9, "max", "(II)I"⟩
abbrev cJ9_max_f86c9 : ByteArray := prog_21_method_66_code
def yJ9_max_f86c9 : MethodName := ⟨RJ9, "max", "(JJ)J"⟩
abbrev cJ9_min_7cf53 : ByteArray := prog_21_method_69_code
def yJ9_min_7cf53 : MethodName := ⟨RJ9, "min", "(II)I"⟩
def RJ0 : String := "java/lang/String"
def TJ0 : u_T := fun k => match k with
  | _ => ("", "", "", false)
def tyJ0 : Nat → FieldType := fun k => match k with
  | _ => .int
abbrev wsJ00 : List Cond := u_ws RJ0 TJ0 0
theorem nmJ0 : ∀ a, a < 0 → ∀ b, b < 0 → a ≠ b → (TJ0 a).2.1 ≠ (TJ0 b).2.1 := by decide +kernel
theorem tyJ0_ok : ∀ k, k < 0 → parseFieldDescriptor (TJ0 k).2.2.1 = some (tyJ0 k) := by decide +kernel
abbrev cJ0_length_8abf5 : ByteArray := prog_23_method_54_code
def yJ0_length_8abf5 : MethodName := ⟨RJ0, "length", "()I"⟩
abbrev cJ0_charAt_5068e : ByteArray := prog_23_method_56_code
def yJ0_charAt_5068e : MethodName := ⟨RJ0, "charAt", "(I)C"⟩
abbrev cJ0_coder_7d493 : ByteArray := prog_23_method_152_code
def yJ0_coder_7d493 : MethodName := ⟨RJ0, "coder", "()B"⟩
abbrev cJ0_isLatin1_aae02 : ByteArray := prog_23_method_154_code
def yJ0_isLatin1_aae02 : MethodName := ⟨RJ0, "isLatin1", "()Z"⟩
abbrev cJ0_checkIndex_df160 : ByteArray := prog_23_method_155_code
def yJ0_checkIndex_df160 : MethodName := ⟨RJ0, "checkIndex", "(II)V"⟩
def RJ1 : String := "java/lang/StringLatin1"
def TJ1 : u_T := fun k => match k with
  | _ => ("", "", "", false)
def tyJ1 : Nat → FieldType := fun k => match k with
  | _ => .int
abbrev wsJ10 : List Cond := u_ws RJ1 TJ1 0
theorem nmJ1 : ∀ a, a < 0 → ∀ b, b < 0 → a ≠ b → (TJ1 a).2.1 ≠ (TJ1 b).2.1 := by decide +kernel
theorem tyJ1_ok : ∀ k, k < 0 → parseFieldDescriptor (TJ1 k).2.2.1 = some (tyJ1 k) := by decide +kernel
abbrev cJ1_charAt_3b067 : ByteArray := prog_24_method_2_code
def yJ1_charAt_3b067 : MethodName := ⟨RJ1, "charAt", "([BI)C"⟩
def RJ2 : String := "java/lang/StringUTF16"
def TJ2 : u_T := fun k => match k with
  | _ => ("", "", "", false)
def tyJ2 : Nat → FieldType := fun k => match k with
  | _ => .int
abbrev wsJ20 : List Cond := u_ws RJ2 TJ2 0
theorem nmJ2 : ∀ a, a < 0 → ∀ b, b < 0 → a ≠ b → (TJ2 a).2.1 ≠ (TJ2 b).2.1 := by decide +kernel
theorem tyJ2_ok : ∀ k, k < 0 → parseFieldDescriptor (TJ2 k).2.2.1 = some (tyJ2 k) := by decide +kernel
abbrev cJ2_getChar_3b067 : ByteArray := prog_25_method_5_code
def yJ2_getChar_3b067 : MethodName := ⟨RJ2, "getChar", "([BI)C"⟩
abbrev cJ2_length_9d52b : ByteArray := prog_25_method_6_code
def yJ2_length_9d52b : MethodName := ⟨RJ2, "length", "([B)I"⟩
abbrev cJ2_charAt_3b067 : ByteArray := prog_25_method_83_code
def yJ2_charAt_3b067 : MethodName := ⟨RJ2, "charAt", "([BI)C"⟩
abbrev cJ2_checkIndex_2214a : ByteArray := prog_25_method_91_code
def yJ2_checkIndex_2214a : MethodName := ⟨RJ2, "checkIndex", "(I[B)V"⟩
def RJ10 : String := "java/lang/System"
def TJ10 : u_T := fun k => match k with
  | _ => ("", "", "", false)
def tyJ10 : Nat → FieldType := fun k => match k with
  | _ => .int
abbrev wsJ100 : List Cond := u_ws RJ10 TJ10 0
theorem nmJ10 : ∀ a, a < 0 → ∀ b, b < 0 → a ≠ b → (TJ10 a).2.1 ≠ (TJ10 b).2.1 := by decide +kernel
theorem tyJ10_ok : ∀ k, k < 0 → parseFieldDescriptor (TJ10 k).2.2.1 = some (tyJ10 k) := by decide +kernel
def RJxfd54e : String := "java/lang/constant/Constable"
def TJxfd54e : u_T := fun k => match k with
  | _ => ("", "", "", false)
def tyJxfd54e : Nat → FieldType := fun k => match k with
  | _ => .int
abbrev wsJxfd54e0 : List Cond := u_ws RJxfd54e TJxfd54e 0
theorem nmJxfd54e : ∀ a, a < 0 → ∀ b, b < 0 → a ≠ b → (TJxfd54e a).2.1 ≠ (TJxfd54e b).2.1 := by decide +kernel
theorem tyJxfd54e_ok : ∀ k, k < 0 → parseFieldDescriptor (TJxfd54e k).2.2.1 = some (tyJxfd54e k) := by decide +kernel
def RJx3cf43 : String := "java/lang/constant/ConstantDesc"
def TJx3cf43 : u_T := fun k => match k with
  | _ => ("", "", "", false)
def tyJx3cf43 : Nat → FieldType := fun k => match k with
  | _ => .int
abbrev wsJx3cf430 : List Cond := u_ws RJx3cf43 TJx3cf43 0
theorem nmJx3cf43 : ∀ a, a < 0 → ∀ b, b < 0 → a ≠ b → (TJx3cf43 a).2.1 ≠ (TJx3cf43 b).2.1 := by decide +kernel
theorem tyJx3cf43_ok : ∀ k, k < 0 → parseFieldDescriptor (TJx3cf43 k).2.2.1 = some (tyJx3cf43 k) := by decide +kernel
def RJ3 : String := "jdk/internal/util/Preconditions"
def TJ3 : u_T := fun k => match k with
  | _ => ("", "", "", false)
def tyJ3 : Nat → FieldType := fun k => match k with
  | _ => .int
abbrev wsJ30 : List Cond := u_ws RJ3 TJ3 0
theorem nmJ3 : ∀ a, a < 0 → ∀ b, b < 0 → a ≠ b → (TJ3 a).2.1 ≠ (TJ3 b).2.1 := by decide +kernel
theorem tyJ3_ok : ∀ k, k < 0 → parseFieldDescriptor (TJ3 k).2.2.1 = some (tyJ3 k) := by decide +kernel
abbrev cJ3_checkIndex_8e157 : ByteArray := prog_31_method_11_code
def yJ3_checkIndex_8e157 : MethodName := ⟨RJ3, "checkIndex", "(IILjava/util/function/BiFunction;)I"⟩
def RL : String := "MoorGuidesLaw"
abbrev cL_look : ByteArray := method_3_code
def yL_look : MethodName := ⟨RL, "look", "(LMoorGuides;II[J)I"⟩
abbrev cL_law : ByteArray := code
def yL_law : MethodName := ⟨RL, "law", "([I)Z"⟩
